/-! what holds of hands, and stays so -/
def ltE (a b : En) : Prop := a 0 < b 0 ∨ (a 0 = b 0 ∧ a 1 < b 1)
/-- a hand, where cf t v statements work by version v of table t -/
def HIw (b : Nat) (g : Nat → Int32) (cf : Nat → Int32 → Nat) (l : List En) : Prop :=
  (∀ e ∈ l, ∃ t v u, t < 6 ∧ e 0 = nI t ∧ e 1 = nI v ∧ g (5 + t) = nI u ∧ u ≤ 100 ∧ v ≤ u ∧ (e 5 = 0 ∨ (e 5 = 1 ∧ v < u)) ∧ e 3 = nI (cf t (e 1)) ∧ (e 5 = 1 → ¬ e 3 = 0)) ∧ l.Pairwise ltE ∧ (∀ t, t < 6 → uniqF (nI t) l) ∧ (∀ t v, t < 6 → 0 < cf t v → ∃ e ∈ l, e 0 = nI t ∧ e 1 = v) ∧ l.length ≤ 8 ∧ (∀ t v, t < 6 → cf t v ≤ b) ∧ b ≤ 1000
def fits (rm : Nat) (l : List En) : Prop := l.length ≤ rm ∨ ∀ e ∈ l, ¬ e 3 = 0
def HI (b : Nat) (g : Nat → Int32) (rm : Nat) (cf : Nat → Int32 → Nat) (l : List En) : Prop := HIw b g cf l ∧ fits rm l
theorem nI_zero {n : Nat} (h : n < 2 ^ 31) : nI n = 0 ↔ n = 0 := nI_eq (b := 0) h (by omega)
theorem nI_inj {a b : Nat} (ha : a < 2 ^ 31) (hb : b < 2 ^ 31) (e : nI a = nI b) : a = b := (nI_eq ha hb).mp e
theorem nI_lt' {a b : Nat} (ha : a < 2 ^ 31) (hb : b < 2 ^ 31) (h : a < b) : nI a < nI b := (nI_ltI ha hb).mpr h
theorem lt_nI {a b : Nat} (ha : a < 2 ^ 31) (hb : b < 2 ^ 31) (h : nI a < nI b) : a < b := (nI_ltI ha hb).mp h
section HH
variable {b : Nat} {g : Nat → Int32} {rm : Nat} {cf : Nat → Int32 → Nat} {l : List En}
/-- two entries of one table and one version are at one place -/
theorem HIw_uniq (h : HIw b g cf l) {i j : Nat} (hi : i < l.length) (hj : j < l.length) (e0 : hd l i 0 = hd l j 0) (e1 : hd l i 1 = hd l j 1) : i = j := by
  have hp := h.2.1
  rw [List.pairwise_iff_getElem] at hp
  rcases Nat.lt_trichotomy i j with z | z | z
  · have := hp i j hi hj z
    rw [← hd_lt hi, ← hd_lt hj] at this
    rcases this with q | ⟨-, q⟩
    · rw [e0] at q; exact absurd q ilt_irr
    · rw [e1] at q; exact absurd q ilt_irr
  · exact z
  · have := hp j i hj hi z
    rw [← hd_lt hi, ← hd_lt hj] at this
    rcases this with q | ⟨-, q⟩
    · rw [e0] at q; exact absurd q ilt_irr
    · rw [e1] at q; exact absurd q ilt_irr
theorem HIw_lq (h : HIw b g cf l) {t : Nat} (ht : t < 6) : HIw b g cf (l.filterMap (lq (nI t) (g (5 + t)))) := by
  obtain ⟨h1, h2, h3, h4, h5, h6, h7⟩ := h
  refine ⟨fun e he => ?_, ?_, fun u hu => ?_, fun u v hu hc => ?_, Nat.le_trans (List.length_filterMap_le _ _) h5, h6, h7⟩
  · obtain ⟨a, ha, hq⟩ := List.mem_filterMap.mp he
    obtain ⟨u, v, w, u1, u2, u3, u4, u5, u6, u7, u8, u9⟩ := h1 a ha
    unfold lq at hq
    split at hq
    · next hc =>
      split at hq
      · cases hq
      · next h3 =>
        cases hq
        rw [va_up_off (by decide), va_up_off (by decide), va_up_self, va_up_off (by decide)]
        refine ⟨u, v, w, u1, u2, u3, u4, u5, u6, Or.inr ⟨rfl, ?_⟩, u8, fun _ => h3⟩
        have e : u = t := nI_inj (by omega) (by omega) (u2.symm.trans hc.1)
        subst e
        have := hc.2
        rw [u3, u4] at this
        exact lt_nI (by omega) (by omega) this
    · cases hq
      exact ⟨u, v, w, u1, u2, u3, u4, u5, u6, u7, u8, u9⟩
  · rw [List.pairwise_filterMap]
    refine h2.imp (fun {x y} hxy x' hx y' hy => ?_)
    have kx := lq_keep hx
    have ky := lq_keep hy
    unfold ltE
    rw [kx.1, kx.2.1, ky.1, ky.2.1]
    exact hxy
  · refine uq_of_pw ?_
    rw [List.pairwise_filterMap]
    refine (pw_of_uq (h3 u hu)).imp (fun {a b} hab a' ha b' hb z => ?_)
    have ka := lq_keep ha
    have kb := lq_keep hb
    exact hab ⟨ka.1 ▸ z.1, ka.2.2.2.2.2 z.2.1, kb.1 ▸ z.2.2.1, kb.2.2.2.2.2 z.2.2.2⟩
  · obtain ⟨e, e1, e2, e3⟩ := h4 u v hu hc
    obtain ⟨u', v', w, u1, u2, u3, u4, u5, u6, u7, u8, u9⟩ := h1 e e1
    have eu : u' = u := nI_inj (by omega) (by omega) (u2.symm.trans e2)
    subst eu
    have hne : ¬ e 3 = 0 := fun z => by
      rw [u8, e3, nI_zero (by have := h6 u' v hu; omega)] at z
      omega
    by_cases c : e 0 = nI t ∧ e 1 < g (5 + t)
    · refine ⟨va_up e 5 1, List.mem_filterMap.mpr ⟨e, e1, ?_⟩, by rw [va_up_off (by decide)]; exact e2, by rw [va_up_off (by decide)]; exact e3⟩
      unfold lq
      rw [if_pos c, if_neg hne]
    · refine ⟨e, List.mem_filterMap.mpr ⟨e, e1, ?_⟩, e2, e3⟩
      unfold lq
      rw [if_neg c]
theorem fits_lq (h : fits rm l) {t v : Int32} : fits rm (l.filterMap (lq t v)) := by
  rcases h with h | h
  · exact Or.inl (Nat.le_trans (List.length_filterMap_le _ _) h)
  · refine Or.inr (fun e he => ?_)
    obtain ⟨a, ha, hq⟩ := List.mem_filterMap.mp he
    rw [(lq_keep hq).2.2.2.1]
    exact h a ha
theorem HI_lrn {tl : Nat → Nat} : ∀ (d k : Nat) (l : List En), (∀ q, k ≤ q → q < k + d → tl q < 6) → HI b g rm cf l → HI b g rm cf (lrn tl (verg g) d k l) := by
  intro d
  induction d with
  | zero => intro k l _ h; exact h
  | succ d ih => intro k l hq h; exact ih (k + 1) _ (fun q q1 q2 => hq q (by omega) (by omega)) ⟨HIw_lq h.1 (hq k (Nat.le_refl _) (by omega)), fits_lq h.2⟩
theorem HIw_sub (h : HIw b g cf l) {l' : List En} (hs : l'.Sublist l) (hk : ∀ e ∈ l, ¬ e 3 = 0 → e ∈ l') : HIw b g cf l' := by
  obtain ⟨h1, h2, h3, h4, h5, h6, h7⟩ := h
  refine ⟨fun e he => h1 e (hs.subset he), h2.sublist hs, fun t ht => uq_of_pw ((pw_of_uq (h3 t ht)).sublist hs), fun t v ht hc => ?_, Nat.le_trans hs.length_le h5, h6, h7⟩
  obtain ⟨e, e1, e2, e3⟩ := h4 t v ht hc
  obtain ⟨u', v', w, u1, u2, u3, u4, u5, u6, u7, u8, u9⟩ := h1 e e1
  have eu : u' = t := nI_inj (by omega) (by omega) (u2.symm.trans e2)
  subst eu
  refine ⟨e, hk e e1 (fun z => ?_), e2, e3⟩
  rw [u8, e3, nI_zero (by have := h6 u' v ht; omega)] at z
  omega
theorem shr_keep {most : Int32} : ∀ (k : Nat) (l : List En), l.length ≤ 8 → ∀ e ∈ l, ¬ e 3 = 0 → e ∈ (shr most k l).1 := by
  intro k
  induction k with
  | zero => intro l _ e he _; exact he
  | succ k ih =>
    intro l hl e he h3
    unfold shr
    split
    · next hc =>
      rcases oldN_lt l l.length hl with z | ⟨j, j1, j2, j3⟩
      · exact absurd (by show oldN l l.length < 0; rw [z]; decide) hc.2
      · have hj : (oldI l).toNatClampNeg = j := by show (oldN l l.length).toNatClampNeg = j; rw [j2, nI_clamp (by omega)]
        rw [hj]
        refine ih _ (by rw [len_erase j1]; omega) e ?_ h3
        obtain ⟨i, i1, rfl⟩ := mem_hd he
        have hij : i ≠ j := fun z => h3 (z ▸ j3)
        by_cases c : i < j
        · have : hd (l.eraseIdx j) i = hd l i := by rw [hd_erase, if_pos c]
          rw [← this]
          exact hd_mem (by rw [len_erase j1]; omega)
        · have : hd (l.eraseIdx j) (i - 1) = hd l i := by rw [hd_erase, if_neg (by omega)]; congr 1; omega
          rw [← this]
          exact hd_mem (by rw [len_erase j1]; omega)
    · exact he
theorem old_neg {l : List En} : ∀ n, n ≤ l.length → n ≤ 8 → oldN l n < 0 → ∀ i, i < n → ¬ hd l i 3 = 0 := by
  intro n
  induction n with
  | zero => intro _ _ _ i hi; omega
  | succ n ih =>
    intro h1 h8 h2 i hi h3
    unfold oldN at h2
    by_cases e : hd l n 3 = 0
    · rw [if_pos e] at h2
      by_cases c : oldN l n < 0
      · rw [if_pos c] at h2
        exact nI_pos (by omega) h2
      · rw [if_neg c] at h2
        split at h2
        · exact c h2
        · exact nI_pos (by omega) h2
    · rw [if_neg e] at h2
      by_cases c : i = n
      · subst c; exact e h3
      · exact ih (by omega) (by omega) h2 i (by omega) h3
theorem shr_fits {rm : Nat} (hrm : rm < 2 ^ 31) : ∀ (k : Nat) (l : List En), l.length ≤ k → l.length ≤ 8 → fits rm (shr (nI rm) k l).1 := by
  intro k
  induction k with
  | zero =>
    intro l h1 _
    exact Or.inl (by show l.length ≤ rm; omega)
  | succ k ih =>
    intro l h1 h8
    unfold shr
    split
    · next hc =>
      rcases oldN_lt l l.length h8 with z | ⟨j, j1, j2, j3⟩
      · exact absurd (by show oldN l l.length < 0; rw [z]; decide) hc.2
      · have hj : (oldI l).toNatClampNeg = j := by show (oldN l l.length).toNatClampNeg = j; rw [j2, nI_clamp (by omega)]
        rw [hj]
        exact ih _ (by rw [len_erase j1]; omega) (by rw [len_erase j1]; omega)
    · next hc =>
      by_cases c : l.length ≤ rm
      · exact Or.inl c
      · refine Or.inr (fun e he => ?_)
        have ho : oldI l < 0 := by
          apply Classical.byContradiction
          intro z
          exact hc ⟨nI_lt' (by omega) (by omega) (by omega), z⟩
        obtain ⟨i, i1, rfl⟩ := mem_hd he
        exact old_neg l.length (Nat.le_refl _) h8 ho i i1
theorem HI_shr (h : HIw b g cf l) {rm' : Nat} (hrm : rm' < 2 ^ 31) : HI b g rm' cf (shr (nI rm') l.length l).1 :=
  ⟨HIw_sub h (shr_sub _ _) (shr_keep _ _ h.2.2.2.2.1), shr_fits hrm _ _ (Nat.le_refl _) h.2.2.2.2.1⟩
theorem all_old {l : List En} (h8 : l.length ≤ 8) (h : ∀ e ∈ l, ¬ e 3 = 0) : oldI l < 0 := by
  rcases oldN_lt l l.length h8 with z | ⟨j, j1, j2, j3⟩
  · show oldN l l.length < 0
    rw [z]; decide
  · exact absurd j3 (h _ (hd_mem j1))
/-- where all fits nothing goes -/
theorem shr_id {rm : Nat} (h : fits rm l) (h8 : l.length ≤ 8) (hrm : rm < 2 ^ 31) : ∀ k, shr (nI rm) k l = (l, 0) := by
  intro k
  cases k with
  | zero => rfl
  | succ k =>
    unfold shr
    rw [if_neg]
    rintro ⟨z1, z2⟩
    rcases h with h | h
    · have := lt_nI (by omega) (by omega) z1
      omega
    · exact z2 (all_old h8 h)
def bump (cf : Nat → Int32 → Nat) (k : Nat) (v : Int32) : Nat → Int32 → Nat := fun t x => if t = k ∧ x = v then cf t x + 1 else cf t x
theorem HIw_set (h : HIw b g cf l) (hb : b < 1000) {i k : Nat} (hi : i < l.length) (hk : k < 6) (h0 : hd l i 0 = nI k) (h5 : hd l i 5 = 0) {num : Int32} : HIw (b + 1) g (bump cf k (hd l i 1)) (l.set i (va_up (va_up (hd l i) 3 (hd l i 3 + 1)) 4 num)) := by
  have hu := @HIw_uniq b g cf l h
  obtain ⟨h1, h2, h3, h4, h5', h6, h7⟩ := h
  have f0 : ∀ q, q ≠ 3 → q ≠ 4 → (va_up (va_up (hd l i) 3 (hd l i 3 + 1)) 4 num) q = hd l i q := fun q q1 q2 => by rw [va_up_off q2, va_up_off q1]
  have g0 : ∀ c q, q ≠ 3 → q ≠ 4 → hd (l.set i (va_up (va_up (hd l i) 3 (hd l i 3 + 1)) 4 num)) c q = hd l c q := fun c q q1 q2 => by
    rw [hd_set hi]
    split
    · next e => rw [f0 q q1 q2, e]
    · rfl
  refine ⟨fun e he => ?_, ?_, fun t ht => ?_, fun t v ht hc => ?_, by rw [List.length_set]; exact h5', fun t v ht => ?_, by omega⟩
  · obtain ⟨c, c1, rfl⟩ := mem_hd he
    rw [List.length_set] at c1
    obtain ⟨t, v, u, u1, u2, u3, u4, u5, u6, u7, u8, u9⟩ := h1 _ (hd_mem c1)
    rw [g0 c 0 (by decide) (by decide), g0 c 1 (by decide) (by decide), g0 c 5 (by decide) (by decide)]
    refine ⟨t, v, u, u1, u2, u3, u4, u5, u6, u7, ?_, ?_⟩
    · rw [hd_set hi]
      by_cases e : c = i
      · subst e
        have et : t = k := nI_inj (by omega) (by omega) (u2.symm.trans h0)
        subst et
        rw [if_pos rfl, va_up_off (by decide), va_up_self, u8]
        unfold bump
        rw [if_pos ⟨rfl, rfl⟩, show (1 : Int32) = nI 1 from rfl, nI_add]
      · rw [if_neg e, u8]
        unfold bump
        rw [if_neg (fun z => e (hu c1 hi (by rw [u2, h0, z.1]) z.2))]
    · rw [hd_set hi]
      by_cases e : c = i
      · subst e
        intro z
        rw [h5] at z
        exact absurd z (by decide)
      · rw [if_neg e]
        exact u9
  · rw [List.pairwise_iff_getElem] at h2 ⊢
    intro x y hx hy hxy
    rw [List.length_set] at hx hy
    have := h2 x y hx hy hxy
    rw [← hd_lt hx, ← hd_lt hy] at this
    rw [← hd_lt, ← hd_lt]
    unfold ltE
    rw [g0 x 0 (by decide) (by decide), g0 x 1 (by decide) (by decide), g0 y 0 (by decide) (by decide), g0 y 1 (by decide) (by decide)]
    exact this
  · intro x y hx hy a1 a2 b1 b2
    rw [List.length_set] at hx hy
    rw [g0 x 0 (by decide) (by decide)] at a1
    rw [g0 x 5 (by decide) (by decide)] at a2
    rw [g0 y 0 (by decide) (by decide)] at b1
    rw [g0 y 5 (by decide) (by decide)] at b2
    exact h3 t ht x y hx hy a1 a2 b1 b2
  · have ex : ∃ c, c < l.length ∧ hd l c 0 = nI t ∧ hd l c 1 = v := by
      unfold bump at hc
      by_cases z : t = k ∧ v = hd l i 1
      · exact ⟨i, hi, by rw [z.1]; exact h0, z.2.symm⟩
      · rw [if_neg z] at hc
        obtain ⟨e, e1, e2, e3⟩ := h4 t v ht hc
        obtain ⟨c, c1, rfl⟩ := mem_hd e1
        exact ⟨c, c1, e2, e3⟩
    obtain ⟨c, c1, c2, c3⟩ := ex
    exact ⟨hd (l.set i (va_up (va_up (hd l i) 3 (hd l i 3 + 1)) 4 num)) c, hd_mem (by rw [List.length_set]; exact c1), by rw [g0 c 0 (by decide) (by decide)]; exact c2, by rw [g0 c 1 (by decide) (by decide)]; exact c3⟩
  · unfold bump
    have := h6 t v ht
    split <;> omega
theorem insN_lt {t : Int32} {l : List En} : ∀ k, ∀ i, insN t l k ≤ i → i < k → ¬ hd l i 0 ≤ t := by
  intro k
  induction k with
  | zero => intro i _ h; omega
  | succ k ih =>
    intro i h1 h2
    have gd : insN t l (k + 1) = if hd l k 0 ≤ t then k + 1 else insN t l k := rfl
    rw [gd] at h1
    by_cases c : hd l k 0 ≤ t
    · rw [if_pos c] at h1; omega
    · rw [if_neg c] at h1
      by_cases e : i = k
      · subst e; exact c
      · exact ih i h1 (by omega)
theorem insN_ge {t : Int32} {l : List En} : ∀ k, 0 < insN t l k → hd l (insN t l k - 1) 0 ≤ t := by
  intro k
  induction k with
  | zero => intro h; exact absurd h (Nat.lt_irrefl 0)
  | succ k ih =>
    have gd : insN t l (k + 1) = if hd l k 0 ≤ t then k + 1 else insN t l k := rfl
    rw [gd]
    by_cases c : hd l k 0 ≤ t
    · rw [if_pos c]; intro _; exact c
    · rw [if_neg c]; exact ih
theorem HIw_ins (h : HIw b g cf l) (hb : b < 1000) (hl : l.length < 8) {k u : Nat} (hk : k < 6) (hu : g (5 + k) = nI u) (hu1 : u ≤ 100) (hno : ∀ e ∈ l, ¬ (e 0 = nI k ∧ e 5 = 0)) {sp num : Int32} : HIw (b + 1) g (bump cf k (g (5 + k))) (l.insertIdx (insN (nI k) l l.length) (newE (nI k) (g (5 + k)) sp num)) := by
  have hins := insN_le (nI k) l l.length
  obtain ⟨h1, h2, h3, h4, h5', h6, h7⟩ := h
  have hno2 : ∀ e ∈ l, e 0 = nI k → ∃ v, e 1 = nI v ∧ v < u := fun e he e0 => by
    obtain ⟨t, v, u', u1, u2, u3, u4, u5, u6, u7, u8, u9⟩ := h1 e he
    have et : t = k := nI_inj (by omega) (by omega) (u2.symm.trans e0)
    subst et
    have eu : u' = u := nI_inj (by omega) (by omega) (u4.symm.trans hu)
    subst eu
    rcases u7 with z | z
    · exact absurd ⟨e0, z⟩ (hno e he)
    · exact ⟨v, u3, z.2⟩
  have hcf : cf k (g (5 + k)) = 0 := by
    rcases Nat.eq_zero_or_pos (cf k (g (5 + k))) with z | z
    · exact z
    · obtain ⟨e, e1, e2, e3⟩ := h4 k _ hk z
      obtain ⟨v, v1, v2⟩ := hno2 e e1 e2
      rw [v1, hu] at e3
      have := nI_inj (by omega) (by omega) e3
      omega
  have hne : ∀ c, c < l.length → ¬ (hd l c 0 = nI k ∧ hd l c 1 = g (5 + k)) := fun c c1 ⟨z1, z2⟩ => by
    obtain ⟨v, v1, v2⟩ := hno2 _ (hd_mem c1) z1
    rw [v1, hu] at z2
    have := nI_inj (by omega) (by omega) z2
    omega
  refine ⟨fun e he => ?_, ?_, fun t ht => ?_, fun t v ht hc => ?_, by rw [len_ins hins]; omega, fun t v ht => ?_, by omega⟩
  · rcases mem_ins hins he with z | z
    · subst z
      refine ⟨k, u, u, hk, newE_0, newE_1.trans hu, hu, hu1, Nat.le_refl _, Or.inl newE_5, ?_, fun z => absurd z (by rw [newE_5]; decide)⟩
      rw [newE_3, newE_1]
      unfold bump
      rw [if_pos ⟨rfl, rfl⟩, hcf]
      rfl
    · obtain ⟨t, v, u', u1, u2, u3, u4, u5, u6, u7, u8, u9⟩ := h1 e z
      refine ⟨t, v, u', u1, u2, u3, u4, u5, u6, u7, ?_, u9⟩
      rw [u8]
      unfold bump
      obtain ⟨c, c1, rfl⟩ := mem_hd z
      rw [if_neg (fun q => hne c c1 ⟨by rw [u2, q.1], q.2⟩)]
  · rw [List.pairwise_iff_getElem] at h2 ⊢
    intro x y hx hy hxy
    have h2' : ∀ x y, x < l.length → y < l.length → x < y → ltE (hd l x) (hd l y) := fun x y hx hy hxy => by
      rw [hd_lt hx, hd_lt hy]; exact h2 x y hx hy hxy
    rw [← hd_lt, ← hd_lt, hd_ins hins, hd_ins hins]
    rw [len_ins hins] at hx hy
    by_cases q1 : x < insN (nI k) l l.length
    · rw [if_pos q1]
      by_cases q2 : y < insN (nI k) l l.length
      · rw [if_pos q2]; exact h2' x y (by omega) (by omega) hxy
      · rw [if_neg q2]
        by_cases q3 : y = insN (nI k) l l.length
        · rw [if_pos q3]
          have hle : hd l x 0 ≤ nI k := by
            have z := insN_ge (t := nI k) (l := l) l.length (by omega)
            by_cases q : x = insN (nI k) l l.length - 1
            · rw [q]; exact z
            · have := h2' x (insN (nI k) l l.length - 1) (by omega) (by omega) (by omega)
              rcases this with w | ⟨w, -⟩
              · exact Int32.le_trans (Int32.le_of_lt w) z
              · rw [w]; exact z
          unfold ltE
          rw [newE_0, newE_1]
          by_cases q : hd l x 0 = nI k
          · obtain ⟨v, v1, v2⟩ := hno2 _ (hd_mem (by omega)) q
            exact Or.inr ⟨q, by rw [v1, hu]; exact nI_lt' (by omega) (by omega) v2⟩
          · refine Or.inl ?_
            rw [Int32.lt_iff_toInt_lt]
            rw [Int32.le_iff_toInt_le] at hle
            have : (hd l x 0).toInt ≠ (nI k).toInt := fun z => q (Int32.toInt_inj.mp z)
            omega
        · rw [if_neg q3]
          exact h2' x (y - 1) (by omega) (by omega) (by omega)
    · rw [if_neg q1]
      by_cases q3 : x = insN (nI k) l l.length
      · rw [if_pos q3, if_neg (by omega), if_neg (by omega)]
        have z := insN_lt (t := nI k) (l := l) l.length (y - 1) (by omega) (by omega)
        exact Or.inl (by rw [newE_0]; exact nle_lt.mp z)
      · rw [if_neg q3, if_neg (by omega), if_neg (by omega)]
        exact h2' (x - 1) (y - 1) (by omega) (by omega) (by omega)
  · have hH : HU g l := fun t ht => ⟨h3 t ht, fun e he e0 => by
      obtain ⟨t', v, u', u1, u2, u3, u4, u5, u6, -⟩ := h1 e he
      have et : t' = t := nI_inj (by omega) (by omega) (u2.symm.trans e0)
      subst et
      rw [u3, u4]
      exact fun z => by have := lt_nI (by omega) (by omega) z; omega⟩
    exact (HU_ins hH hk hins hno t ht).1
  · have mid : newE (nI k) (g (5 + k)) sp num ∈ l.insertIdx (insN (nI k) l l.length) (newE (nI k) (g (5 + k)) sp num) := by
      have := hd_mem (l := l.insertIdx (insN (nI k) l l.length) (newE (nI k) (g (5 + k)) sp num)) (i := insN (nI k) l l.length) (by rw [len_ins hins]; omega)
      rw [hd_ins hins, if_neg (by omega), if_pos rfl] at this
      exact this
    unfold bump at hc
    by_cases z : t = k ∧ v = g (5 + k)
    · exact ⟨_, mid, by rw [newE_0, z.1], by rw [newE_1, z.2]⟩
    · rw [if_neg z] at hc
      obtain ⟨e, e1, e2, e3⟩ := h4 t v ht hc
      obtain ⟨c, c1, rfl⟩ := mem_hd e1
      by_cases q1 : c < insN (nI k) l l.length
      · have := hd_mem (l := l.insertIdx (insN (nI k) l l.length) (newE (nI k) (g (5 + k)) sp num)) (i := c) (by rw [len_ins hins]; omega)
        rw [hd_ins hins, if_pos q1] at this
        exact ⟨_, this, e2, e3⟩
      · have := hd_mem (l := l.insertIdx (insN (nI k) l l.length) (newE (nI k) (g (5 + k)) sp num)) (i := c + 1) (by rw [len_ins hins]; omega)
        rw [hd_ins hins, if_neg (by omega), if_neg (by omega), Nat.add_sub_cancel] at this
        exact ⟨_, this, e2, e3⟩
  · unfold bump
    have := h6 t v ht
    split <;> omega
end HH

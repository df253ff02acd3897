/-! hands: uses and ends keep what holds of them -/
section HJ
variable {b : Nat} {g : Nat → Int32} {rm : Nat} {cf cf' : Nat → Int32 → Nat} {l : List En}
theorem HIw_cf (h : HIw b g cf l) (he : ∀ t v, t < 6 → cf' t v = cf t v) : HIw b g cf' l := by
  obtain ⟨h1, h2, h3, h4, h5, h6, h7⟩ := h
  refine ⟨fun e hm => ?_, h2, h3, fun t v ht hc => h4 t v ht (by rw [← he t v ht]; exact hc), h5, fun t v ht => by rw [he t v ht]; exact h6 t v ht, h7⟩
  obtain ⟨t, v, u, u1, u2, u3, u4, u5, u6, u7, u8, u9⟩ := h1 e hm
  exact ⟨t, v, u, u1, u2, u3, u4, u5, u6, u7, by rw [he t _ u1]; exact u8, u9⟩
theorem HIw_b {b' : Nat} (h : HIw b g cf l) (hb : b' ≤ 1000) (he : ∀ t v, t < 6 → cf t v ≤ b') : HIw b' g cf l := by
  obtain ⟨h1, h2, h3, h4, h5, h6, h7⟩ := h
  exact ⟨h1, h2, h3, h4, h5, he, hb⟩
theorem HIw_HU (h : HIw b g cf l) : HU g l := fun t ht => ⟨h.2.2.1 t ht, fun e he e0 => by
  obtain ⟨t', v, u', u1, u2, u3, u4, u5, u6, -⟩ := h.1 e he
  have et : t' = t := nI_inj (by omega) (by omega) (u2.symm.trans e0)
  subst et
  rw [u3, u4]
  exact fun z => by have := lt_nI (by omega) (by omega) z; omega⟩
theorem HI_u1 (h : HI b g rm cf l) (hb : b < 1000) (hrm : 1 ≤ rm ∧ rm ≤ 8) {k u : Nat} (hk : k < 6) (hu : g (5 + k) = nI u) (hu1 : u ≤ 100) {num sp : Int32} {c : Nat → Int32} {r : (Nat → Int32) × List En × Int32} (he : u1 (nI rm) num (nI k) (g (5 + k)) sp c l = some r) : HI (b + 1) g rm (bump cf k r.2.2) r.2.1 ∧ r.1 0 = c 0 := by
  obtain ⟨hw, hf⟩ := h
  have h8 := hw.2.2.2.2.1
  unfold u1 at he
  rcases lastN_lt (fun e => e 0 = nI k ∧ e 5 = 0) l l.length with e | ⟨i, i1, i2, i3⟩
  · have hlast : lastI (fun e => e 0 = nI k ∧ e 5 = 0) l = -1 := e
    rw [hlast, if_neg (by decide)] at he
    have hr1 : nI rm - 1 = nI (rm - 1) := by rw [show (1 : Int32) = nI 1 from rfl, nI_sub hrm.1]
    rw [hr1] at he
    have hsh := HI_shr hw (rm' := rm - 1) (by omega)
    by_cases hc : nI (shr (nI (rm - 1)) l.length l).1.length < nI rm
    · rw [if_pos hc] at he
      cases he
      have hsub := shr_sub (most := nI (rm - 1)) l.length l
      have hlen : (shr (nI (rm - 1)) l.length l).1.length < rm := lt_nI (by have := hsub.length_le; omega) (by omega) hc
      refine ⟨⟨HIw_ins hsh.1 hb (by omega) hk hu hu1 (fun e he => lastI_none (by omega) hlast e (hsub.subset he)), Or.inl ?_⟩, ?_⟩
      · show (List.insertIdx _ _ _).length ≤ rm
        rw [len_ins (insN_le _ _ _)]; omega
      · rfl
    · rw [if_neg hc] at he
      cases he
  · have hlast : lastI (fun e => e 0 = nI k ∧ e 5 = 0) l = nI i := i2
    rw [hlast, nI_clamp (by omega), if_pos (nI_pos' (by omega))] at he
    cases he
    refine ⟨⟨HIw_set hw hb i1 hk i3.1 i3.2, ?_⟩, ?_⟩
    · rcases hf with z | z
      · exact Or.inl (by show (List.set _ _ _).length ≤ rm; rw [List.length_set]; exact z)
      · refine Or.inr (fun e hm => ?_)
        rcases List.mem_or_eq_of_mem_set hm with q | q
        · exact z e q
        · subst q
          obtain ⟨t, v, u', u1, u2, u3, u4, u5, u6, u7, u8, u9⟩ := hw.1 _ (hd_mem i1)
          rw [va_up_off (by decide), va_up_self, u8, show (1 : Int32) = nI 1 from rfl, nI_add, nI_zero (by have := hw.2.2.2.2.2.1 t (hd l i 1) u1; omega)]
          omega
    · rfl
/-- the counts when a row's tables from k on, d of them, are worked by, too -/
def addc (cf : Nat → Int32 → Nat) (set : Int32) (ver : Nat → Int32) (k d : Nat) : Nat → Int32 → Nat := fun t v => cf t v + if k ≤ t ∧ t < k + d ∧ ((set >>> (nI t &&& 31)) &&& 1) = 1 ∧ v = ver t then 1 else 0
theorem HI_uAll (hg4 : g 4 = nI rm) (hrm : 1 ≤ rm ∧ rm ≤ 8) (hver : ∀ t, t < 6 → ∃ u, g (5 + t) = nI u ∧ u ≤ 100) {num set : Int32} : ∀ (d k b : Nat) (cf : Nat → Int32 → Nat) (c : Nat → Int32) (l : List En) (r : (Nat → Int32) × List En × (Nat → Int32)), k + d ≤ 6 → b + d ≤ 1000 → HI b g rm cf l → uAll g num set d k c l = some r → HI (b + d) g rm (addc cf set r.2.2 k d) r.2.1 ∧ r.1 0 = c 0 := by
  intro d
  induction d with
  | zero =>
    intro k b cf c l r _ _ h he
    unfold uAll at he
    cases he
    refine ⟨⟨HIw_cf h.1 (fun t v ht => ?_), h.2⟩, rfl⟩
    unfold addc
    rw [if_neg (fun z => by omega)]
    rfl
  | succ d ih =>
    intro k b cf c l r hk hb h he
    unfold uAll at he
    by_cases hbit : ((set >>> (nI k &&& 31)) &&& 1) = 1
    · rw [if_pos hbit] at he
      obtain ⟨u, u1', u2⟩ := hver k (by omega)
      split at he
      · cases he
      · next r1 e1 =>
        split at he
        · cases he
        · next q e2 =>
          cases he
          rw [hg4] at e1
          have h1 := HI_u1 h (by omega) hrm (by omega) u1' u2 e1
          have h2 := ih (k + 1) (b + 1) _ _ _ q (by omega) (by omega) h1.1 e2
          rw [show b + 1 + d = b + (d + 1) by omega] at h2
          refine ⟨⟨HIw_cf h2.1.1 (fun t v ht => ?_), h2.1.2⟩, h2.2.trans h1.2⟩
          unfold addc bump
          dsimp only
          by_cases et : t = k
          · subst et
            have nR : ¬ (t + 1 ≤ t ∧ t < t + 1 + d ∧ ((set >>> (nI t &&& 31)) &&& 1) = 1 ∧ v = q.2.2 t) := fun z => by omega
            by_cases ev : v = r1.2.2
            · have pP : t ≤ t ∧ t < t + (d + 1) ∧ ((set >>> (nI t &&& 31)) &&& 1) = 1 ∧ v = va_up q.2.2 t r1.2.2 t := ⟨Nat.le_refl _, by omega, hbit, by rw [va_up_self]; exact ev⟩
              have pQ : t = t ∧ v = r1.2.2 := ⟨rfl, ev⟩
              rw [if_pos pP, if_pos pQ, if_neg nR]
            · have nP : ¬ (t ≤ t ∧ t < t + (d + 1) ∧ ((set >>> (nI t &&& 31)) &&& 1) = 1 ∧ v = va_up q.2.2 t r1.2.2 t) := fun z => ev (z.2.2.2.trans (va_up_self _ _ _))
              have nQ : ¬ (t = t ∧ v = r1.2.2) := fun z => ev z.2
              rw [if_neg nP, if_neg nQ, if_neg nR]
          · have nQ : ¬ (t = k ∧ v = r1.2.2) := fun z => et z.1
            rw [if_neg nQ]
            congr 1
            by_cases c1 : k ≤ t ∧ t < k + (d + 1) ∧ ((set >>> (nI t &&& 31)) &&& 1) = 1 ∧ v = q.2.2 t
            · have pP : k ≤ t ∧ t < k + (d + 1) ∧ ((set >>> (nI t &&& 31)) &&& 1) = 1 ∧ v = va_up q.2.2 k r1.2.2 t := ⟨c1.1, c1.2.1, c1.2.2.1, by rw [va_up_off et]; exact c1.2.2.2⟩
              rw [if_pos pP, if_pos ⟨by omega, by omega, c1.2.2⟩]
            · have nP : ¬ (k ≤ t ∧ t < k + (d + 1) ∧ ((set >>> (nI t &&& 31)) &&& 1) = 1 ∧ v = va_up q.2.2 k r1.2.2 t) := fun z => c1 ⟨z.1, z.2.1, z.2.2.1, z.2.2.2.trans (va_up_off et)⟩
              rw [if_neg nP, if_neg (fun z => c1 ⟨by omega, by omega, z.2.2⟩)]
    · rw [if_neg hbit] at he
      have h2 := ih (k + 1) b cf c l r (by omega) (by omega) h he
      refine ⟨⟨HIw_cf (HIw_b h2.1.1 (by omega) (fun t v ht => Nat.le_trans (h2.1.1.2.2.2.2.2.1 t v ht) (by omega))) (fun t v ht => ?_), h2.1.2⟩, h2.2⟩
      unfold addc
      congr 1
      by_cases c1 : k ≤ t ∧ t < k + (d + 1) ∧ ((set >>> (nI t &&& 31)) &&& 1) = 1 ∧ v = r.2.2 t
      · have : t ≠ k := fun z => hbit (z ▸ c1.2.2.1)
        rw [if_pos c1, if_pos ⟨by omega, by omega, c1.2.2⟩]
      · rw [if_neg c1, if_neg (fun z => c1 ⟨by omega, by omega, z.2.2⟩)]
end HJ
/-- by how many open statements of session n version v of table t is worked -/
def pc (os : List En) (n t : Nat) (v : Int32) : Nat := os.countP (fun o => decide (o 1 = nI n ∧ ((o 2 >>> (nI t &&& 31)) &&& 1) = 1 ∧ o (4 + t) = v))
theorem pc_push {os : List En} {row : En} {n t : Nat} {v : Int32} : pc (os ++ [row]) n t v = pc os n t v + if row 1 = nI n ∧ ((row 2 >>> (nI t &&& 31)) &&& 1) = 1 ∧ row (4 + t) = v then 1 else 0 := by
  unfold pc
  rw [List.countP_append, List.countP_singleton]
  congr 1
  by_cases c : row 1 = nI n ∧ ((row 2 >>> (nI t &&& 31)) &&& 1) = 1 ∧ row (4 + t) = v
  · rw [if_pos c, if_pos (decide_eq_true c)]
  · rw [if_neg c, if_neg (by rw [decide_eq_false c]; decide)]
theorem split_at {os : List En} {p : Nat} (hp : p < os.length) : os = os.take p ++ hd os p :: os.drop (p + 1) := by
  rw [hd_lt hp, ← List.drop_eq_getElem_cons hp, List.take_append_drop]
theorem pc_erase {os : List En} {p n t : Nat} {v : Int32} (hp : p < os.length) : pc os n t v = pc (os.eraseIdx p) n t v + if hd os p 1 = nI n ∧ ((hd os p 2 >>> (nI t &&& 31)) &&& 1) = 1 ∧ hd os p (4 + t) = v then 1 else 0 := by
  unfold pc
  conv => lhs; rw [split_at hp]
  rw [List.eraseIdx_eq_take_drop_succ, List.countP_append, List.countP_append, List.countP_cons, Nat.add_assoc]
  congr 2
  by_cases c : hd os p 1 = nI n ∧ ((hd os p 2 >>> (nI t &&& 31)) &&& 1) = 1 ∧ hd os p (4 + t) = v
  · rw [if_pos c, if_pos (decide_eq_true c)]
  · rw [if_neg c, if_neg (by rw [decide_eq_false c]; decide)]
theorem pc_le {os : List En} {n t : Nat} {v : Int32} : pc os n t v ≤ os.length := List.countP_le_length
theorem pc_pos {os : List En} {n t : Nat} {v : Int32} : 0 < pc os n t v ↔ ∃ o ∈ os, o 1 = nI n ∧ ((o 2 >>> (nI t &&& 31)) &&& 1) = 1 ∧ o (4 + t) = v := by
  unfold pc
  rw [List.countP_pos_iff]
  constructor
  · rintro ⟨o, o1, o2⟩
    exact ⟨o, o1, of_decide_eq_true o2⟩
  · rintro ⟨o, o1, o2⟩
    exact ⟨o, o1, decide_eq_true o2⟩
/-! a statement ends -/
def dec1 (o : En) (k : Nat) (e : En) : En := if ((o 2 >>> (nI k &&& 31)) &&& 1) = 1 ∧ e 0 = nI k ∧ e 1 = o (4 + k) then va_up e 3 (e 3 - 1) else e
def decA (o : En) : Nat → Nat → En → En
  | 0, _, e => e
  | d + 1, k, e => decA o d (k + 1) (dec1 o k e)
theorem dec1_0 {o e : En} {k q : Nat} (hq : q ≠ 3) : dec1 o k e q = e q := by
  unfold dec1; split
  · rw [va_up_off hq]
  · rfl
theorem decA_one {o : En} : ∀ (d k : Nat) (e : En) (t : Nat), t < 6 → k + d ≤ 6 → e 0 = nI t → decA o d k e = if k ≤ t ∧ t < k + d then dec1 o t e else e := by
  intro d
  induction d with
  | zero => intro k e t _ _ _; rw [if_neg (fun z => by omega)]; rfl
  | succ d ih =>
    intro k e t ht hk he
    unfold decA
    rw [ih (k + 1) (dec1 o k e) t ht (by omega) (by rw [dec1_0 (by decide)]; exact he)]
    by_cases et : t = k
    · subst et
      rw [if_neg (fun z => by omega), if_pos ⟨Nat.le_refl _, by omega⟩]
    · have e1 : dec1 o k e = e := by
        unfold dec1
        rw [if_neg (fun z => et (nI_inj (by omega) (by omega) (he.symm.trans z.2.1)))]
      rw [e1]
      by_cases c : k ≤ t ∧ t < k + (d + 1)
      · rw [if_pos c, if_pos ⟨by omega, by omega⟩]
      · rw [if_neg c, if_neg (fun z => c ⟨by omega, by omega⟩)]
/-- entries are told apart by their tables and versions -/
def UQ (l : List En) : Prop := ∀ i j, i < l.length → j < l.length → hd l i 0 = hd l j 0 → hd l i 1 = hd l j 1 → i = j
theorem hd_map {f : En → En} {l : List En} {i : Nat} (h : i < l.length) : hd (l.map f) i = f (hd l i) := by
  rw [hd_lt (by rw [List.length_map]; exact h), List.getElem_map, hd_lt h]
theorem set_map {f : En → En} {l : List En} {i : Nat} (hi : i < l.length) (hf : ∀ j, j < l.length → j ≠ i → f (hd l j) = hd l j) {e : En} (he : e = f (hd l i)) : l.set i e = l.map f := by
  apply List.ext_getElem (by rw [List.length_set, List.length_map])
  intro j h1 h2
  rw [List.length_set] at h1
  rw [← hd_lt, ← hd_lt, hd_set hi, hd_map h1]
  by_cases c : j = i
  · rw [if_pos c, c, he]
  · rw [if_neg c, hf j h1 c]
theorem relA_map {o : En} : ∀ (d k : Nat) (l : List En), k + d ≤ 6 → l.length ≤ 8 → UQ l → (∀ t, t < 6 → ((o 2 >>> (nI t &&& 31)) &&& 1) = 1 → ∃ i, i < l.length ∧ hd l i 0 = nI t ∧ hd l i 1 = o (4 + t)) → relA o d k l = l.map (decA o d k) := by
  intro d
  induction d with
  | zero =>
    intro k l _ _ _ _
    show l = l.map (fun e => e)
    rw [List.map_id']
  | succ d ih =>
    intro k l hk h8 hu hp
    unfold relA
    have step : (if ((o 2 >>> (nI k &&& 31)) &&& 1) = 1 then l.set (lastI (fun e => e 0 = nI k ∧ e 1 = o (4 + k)) l).toNatClampNeg (va_up (hd l (lastI (fun e => e 0 = nI k ∧ e 1 = o (4 + k)) l).toNatClampNeg) 3 (hd l (lastI (fun e => e 0 = nI k ∧ e 1 = o (4 + k)) l).toNatClampNeg 3 - 1)) else l) = l.map (dec1 o k) := by
      by_cases hb : ((o 2 >>> (nI k &&& 31)) &&& 1) = 1
      · rw [if_pos hb]
        obtain ⟨i, i1, i2, i3⟩ := hp k (by omega) hb
        obtain ⟨j, j1, j2, j3⟩ := lastN_has (p := fun e => e 0 = nI k ∧ e 1 = o (4 + k)) (i := i) l.length i1 (by omega) ⟨i2, i3⟩
        have hj : (lastI (fun e => e 0 = nI k ∧ e 1 = o (4 + k)) l).toNatClampNeg = j := by
          show (lastN (fun e => e 0 = nI k ∧ e 1 = o (4 + k)) l l.length).toNatClampNeg = j
          rw [j2, nI_clamp (by omega)]
        rw [hj]
        refine set_map j1 (fun q q1 q2 => ?_) ?_
        · unfold dec1
          rw [if_neg (fun z => q2 (hu q j q1 j1 (z.2.1.trans j3.1.symm) (z.2.2.trans j3.2.symm)))]
        · unfold dec1
          rw [if_pos ⟨hb, j3.1, j3.2⟩]
      · rw [if_neg hb]
        have : l.map (dec1 o k) = l.map (fun e => e) := List.map_congr_left (fun e _ => by unfold dec1; rw [if_neg (fun z => hb z.1)])
        rw [this, List.map_id']
    rw [step, ih (k + 1) (l.map (dec1 o k)) (by omega) (by rw [List.length_map]; exact h8) (fun i j hi hj e0 e1 => ?_) (fun t ht hb => ?_), List.map_map]
    · rfl
    · rw [List.length_map] at hi hj
      rw [hd_map hi, hd_map hj, dec1_0 (by decide), dec1_0 (by decide)] at e0 e1
      exact hu i j hi hj e0 e1
    · obtain ⟨i, i1, i2, i3⟩ := hp t ht hb
      exact ⟨i, by rw [List.length_map]; exact i1, by rw [hd_map i1, dec1_0 (by decide)]; exact i2, by rw [hd_map i1, dec1_0 (by decide)]; exact i3⟩
/-- a place holds what a row tells -/
def sm (o w : En) : Prop := w 0 = o 0 ∧ w 1 = o 2 ∧ w 2 = o 3 ∧ ∀ t, t < 6 → bitp (o 2) t → w (3 + t) = o (4 + t)
section HK
variable {b : Nat} {g : Nat → Int32} {rm : Nat} {cf cf' : Nat → Int32 → Nat} {l : List En} {o w : En}
theorem HIw_UQ (h : HIw b g cf l) : UQ l := fun _ _ hi hj e0 e1 => HIw_uniq h hi hj e0 e1
theorem rel_eq (h : HIw b g cf l) (hs : sm o w) (hp : ∀ t, t < 6 → bitp (o 2) t → 0 < cf t (o (4 + t))) : (relA o 6 0 l).filterMap liveE = l.filterMap (rq w) ∧ (relA o 6 0 l).length = l.length := by
  have hm := relA_map (o := o) 6 0 l (by omega) h.2.2.2.2.1 (HIw_UQ h) (fun t ht hb => by
    obtain ⟨e, e1, e2, e3⟩ := h.2.2.2.1 t _ ht (hp t ht hb)
    obtain ⟨i, i1, rfl⟩ := mem_hd e1
    exact ⟨i, i1, e2, e3⟩)
  refine ⟨?_, by rw [hm, List.length_map]⟩
  rw [hm, List.filterMap_map]
  refine fm_congr (fun e he => ?_)
  obtain ⟨t, v, u, u1, u2, u3, u4, u5, u6, u7, u8, u9⟩ := h.1 e he
  show liveE (decA o 6 0 e) = rq w e
  rw [decA_one 6 0 e t u1 (by omega) u2, if_pos ⟨by omega, by omega⟩]
  have htb : tb e = t := by unfold tb; rw [u2, nI_clamp (by omega)]
  unfold rq liveE
  rw [htb, hs.2.1]
  by_cases hb : ((o 2 >>> (nI t &&& 31)) &&& 1) = 1 ∧ e 1 = o (4 + t)
  · have hd1 : dec1 o t e = va_up e 3 (e 3 - 1) := by unfold dec1; rw [if_pos ⟨hb.1, u2, hb.2⟩]
    have hr1 : ((o 2 >>> (nI t &&& 31)) &&& 1) = 1 ∧ w (3 + t) = e 1 := ⟨hb.1, (hs.2.2.2 t u1 hb.1).trans hb.2.symm⟩
    rw [hd1, if_pos hr1, va_up_off (by decide), va_up_self]
    rcases u7 with z | z
    · rw [if_pos z, if_neg (fun q => by rw [z] at q; exact absurd q.1 (by decide))]
    · rw [if_neg (fun q : e 5 = 0 => by rw [z.1] at q; exact absurd q (by decide))]
      by_cases c : e 3 - 1 = 0
      · rw [if_pos ⟨z.1, c⟩, if_pos c]
      · rw [if_neg (fun q => c q.2), if_neg c]
  · have hd1 : dec1 o t e = e := by unfold dec1; rw [if_neg (fun z => hb ⟨z.1, z.2.2⟩)]
    have hr1 : ¬ (((o 2 >>> (nI t &&& 31)) &&& 1) = 1 ∧ w (3 + t) = e 1) := fun z => hb ⟨z.1, z.2.symm.trans (hs.2.2.2 t u1 z.1)⟩
    rw [hd1, if_neg hr1, if_neg (fun z => u9 z.1 z.2)]
theorem rq_keep {a e : En} (h : rq w a = some e) : e 0 = a 0 ∧ e 1 = a 1 ∧ e 5 = a 5 := by
  unfold rq at h
  split at h
  · split at h
    · cases h; exact ⟨va_up_off (by decide), va_up_off (by decide), va_up_off (by decide)⟩
    · split at h
      · cases h
      · cases h; exact ⟨va_up_off (by decide), va_up_off (by decide), va_up_off (by decide)⟩
  · cases h; exact ⟨rfl, rfl, rfl⟩
theorem HIw_rel (h : HIw b g cf l) (hs : sm o w) (hc : ∀ t v, t < 6 → cf t v = cf' t v + if ((o 2 >>> (nI t &&& 31)) &&& 1) = 1 ∧ o (4 + t) = v then 1 else 0) : HIw b g cf' (l.filterMap (rq w)) := by
  obtain ⟨h1, h2, h3, h4, h5, h6, h7⟩ := h
  have fate : ∀ a ∈ l, ∃ t v u, t < 6 ∧ a 0 = nI t ∧ a 1 = nI v ∧ g (5 + t) = nI u ∧ u ≤ 100 ∧ v ≤ u ∧ (a 5 = 0 ∨ (a 5 = 1 ∧ v < u)) ∧ ((0 < cf' t (a 1) ∨ a 5 = 0) → ∃ e, rq w a = some e) ∧ (∀ e, rq w a = some e → e 3 = nI (cf' t (a 1)) ∧ (a 5 = 1 → ¬ e 3 = 0)) := by
    intro a ha
    obtain ⟨t, v, u, u1, u2, u3, u4, u5, u6, u7, u8, u9⟩ := h1 a ha
    have hb2 := h6 t (a 1) u1
    refine ⟨t, v, u, u1, u2, u3, u4, u5, u6, u7, ?_⟩
    have htb : tb a = t := by unfold tb; rw [u2, nI_clamp (by omega)]
    have hct := hc t (a 1) u1
    unfold rq
    rw [htb, hs.2.1]
    by_cases m : ((o 2 >>> (nI t &&& 31)) &&& 1) = 1 ∧ o (4 + t) = a 1
    · rw [if_pos m] at hct
      have m' : ((o 2 >>> (nI t &&& 31)) &&& 1) = 1 ∧ w (3 + t) = a 1 := ⟨m.1, (hs.2.2.2 t u1 m.1).trans m.2⟩
      have e3 : a 3 - 1 = nI (cf' t (a 1)) := by
        rw [u8, hct, show (1 : Int32) = nI 1 from rfl, nI_sub (by omega), Nat.add_sub_cancel]
      rw [if_pos m']
      by_cases c5 : a 5 = 0
      · rw [if_pos c5]
        refine ⟨fun _ => ⟨_, rfl⟩, fun e he => ?_⟩
        cases he
        rw [va_up_self]
        exact ⟨e3, fun z => by rw [c5] at z; exact absurd z (by decide)⟩
      · rw [if_neg c5]
        by_cases c3 : a 3 - 1 = 0
        · rw [if_pos c3]
          refine ⟨fun z => ?_, fun e he => by cases he⟩
          rw [e3, nI_zero (by omega)] at c3
          rcases z with z | z
          · omega
          · exact absurd z c5
        · rw [if_neg c3]
          refine ⟨fun _ => ⟨_, rfl⟩, fun e he => ?_⟩
          cases he
          rw [va_up_self]
          exact ⟨e3, fun _ => c3⟩
    · rw [if_neg m] at hct
      have m' : ¬ (((o 2 >>> (nI t &&& 31)) &&& 1) = 1 ∧ w (3 + t) = a 1) := fun z => m ⟨z.1, (hs.2.2.2 t u1 z.1).symm.trans z.2⟩
      rw [if_neg m']
      refine ⟨fun _ => ⟨_, rfl⟩, fun e he => ?_⟩
      cases he
      exact ⟨by rw [u8, hct]; rfl, u9⟩
  refine ⟨fun e he => ?_, ?_, fun u hu => ?_, fun t v ht hpos => ?_, Nat.le_trans (List.length_filterMap_le _ _) h5, fun t v ht => by have := h6 t v ht; have := hc t v ht; omega, h7⟩
  · obtain ⟨a, ha, hq⟩ := List.mem_filterMap.mp he
    obtain ⟨t, v, u, u1, u2, u3, u4, u5, u6, u7, u8, u9⟩ := fate a ha
    have k := rq_keep hq
    rw [k.1, k.2.1, k.2.2]
    exact ⟨t, v, u, u1, u2, u3, u4, u5, u6, u7, (u9 e hq).1, (u9 e hq).2⟩
  · rw [List.pairwise_filterMap]
    refine h2.imp (fun {x y} hxy x' hx y' hy => ?_)
    have kx := rq_keep hx
    have ky := rq_keep hy
    unfold ltE
    rw [kx.1, kx.2.1, ky.1, ky.2.1]
    exact hxy
  · refine uq_of_pw ?_
    rw [List.pairwise_filterMap]
    refine (pw_of_uq (h3 u hu)).imp (fun {a b} hab a' ha b' hb z => ?_)
    have ka := rq_keep ha
    have kb := rq_keep hb
    exact hab ⟨ka.1 ▸ z.1, ka.2.2 ▸ z.2.1, kb.1 ▸ z.2.2.1, kb.2.2 ▸ z.2.2.2⟩
  · obtain ⟨a, a1, a2, a3⟩ := h4 t v ht (by have := hc t v ht; omega)
    obtain ⟨t', v', u, u1, u2, u3, u4, u5, u6, u7, u8, u9⟩ := fate a a1
    have et : t' = t := nI_inj (by omega) (by omega) (u2.symm.trans a2)
    subst et
    obtain ⟨e, he⟩ := u8 (Or.inl (by rw [a3]; exact hpos))
    have k := rq_keep he
    exact ⟨e, List.mem_filterMap.mpr ⟨a, a1, he⟩, k.1.trans a2, k.2.1.trans a3⟩
end HK

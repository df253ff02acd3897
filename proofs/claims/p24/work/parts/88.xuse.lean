/-! the best room: a hand that is used, and the reference's row of it -/
def gz (g : Nat → Int32) : Prop := ∀ t, t < 6 → g (5 + t) = 0
/-- a hand while statement k uses the tables, those below tt already -/
def BL (g : Nat → Int32) (rm k tt : Nat) (l : List En) : Prop := (∃ b cf, b ≤ 16 + tt ∧ HI b g rm cf l) ∧ (∀ e ∈ l, ∃ q, q ≤ k ∧ e 4 = nI q ∧ (e 3 = 0 ↔ q < k) ∧ (q = k → e 0 < nI tt)) ∧ l.length ≤ rm
def RH (fh fu : Nat → Int32) (l : List En) : Prop := (∀ i, i < l.length → ∃ e ∈ l, fh i = e 0 ∧ fu i = e 4) ∧ (∀ e ∈ l, ∃ i, i < l.length ∧ fh i = e 0 ∧ fu i = e 4) ∧ ∀ i j, i < l.length → j < l.length → fh i = fh j → i = j
theorem i32_lt {a b : Int32} : a < b ↔ a.toInt < b.toInt := Int32.lt_iff_toInt_lt
theorem i32_le {a b : Int32} : a ≤ b ↔ a.toInt ≤ b.toInt := Int32.le_iff_toInt_le
theorem i32_eq {a b : Int32} : a = b ↔ a.toInt = b.toInt := Int32.toInt_inj.symm
section XU
variable {g : Nat → Int32} {rm k tt : Nat} {l l' : List En}
theorem BL_e (hz : gz g) (h : BL g rm k tt l) : ∀ e ∈ l, (∃ t, t < 6 ∧ e 0 = nI t) ∧ e 1 = 0 ∧ e 5 = 0 := by
  intro e he
  obtain ⟨⟨b, cf, -, ⟨⟨h1, -⟩, -⟩⟩, -⟩ := h
  obtain ⟨t, v, u, u1, u2, u3, u4, u5, u6, u7, -⟩ := h1 e he
  have u0 : u = 0 := by
    have := hz t u1
    rw [u4] at this
    exact (nI_zero (by omega)).mp this
  have v0 : v = 0 := by omega
  refine ⟨⟨t, u1, u2⟩, by rw [u3, v0]; rfl, ?_⟩
  rcases u7 with z | ⟨-, z⟩
  · exact z
  · omega
theorem BL_pw (hz : gz g) (h : BL g rm k tt l) : l.Pairwise (fun a b => a 0 < b 0) := by
  have he := BL_e hz h
  obtain ⟨⟨b, cf, -, ⟨⟨-, h2, -⟩, -⟩⟩, -⟩ := h
  refine h2.imp_of_mem (fun {x y} hx hy hxy => ?_)
  rcases hxy with z | ⟨-, z⟩
  · exact z
  · rw [(he x hx).2.1, (he y hy).2.1] at z
    exact absurd z ilt_irr
theorem BL_lt (hz : gz g) (h : BL g rm k tt l) {i j : Nat} (hij : i < j) (hj : j < l.length) : hd l i 0 < hd l j 0 := by
  have hp := BL_pw hz h
  rw [List.pairwise_iff_getElem] at hp
  have := hp i j (by omega) hj hij
  rw [← hd_lt (by omega), ← hd_lt hj] at this
  exact this
theorem BL_uq (hz : gz g) (h : BL g rm k tt l) {i j : Nat} (hi : i < l.length) (hj : j < l.length) (e : hd l i 0 = hd l j 0) : i = j := by
  rcases Nat.lt_trichotomy i j with z | z | z
  · have := BL_lt hz h z hj; rw [e] at this; exact absurd this ilt_irr
  · exact z
  · have := BL_lt hz h z hi; rw [e] at this; exact absurd this ilt_irr
theorem BL_eu (hz : gz g) (h : BL g rm k tt l) {a c : En} (ha : a ∈ l) (hc : c ∈ l) (e : a 0 = c 0) : a = c := by
  obtain ⟨i, i1, rfl⟩ := mem_hd ha
  obtain ⟨j, j1, rfl⟩ := mem_hd hc
  rw [BL_uq hz h i1 j1 e]
theorem BL_ge (hz : gz g) (h : BL g rm k tt l) : ∀ i, i < l.length → ∃ t, t < 6 ∧ hd l i 0 = nI t ∧ i ≤ t := by
  intro i
  induction i with
  | zero =>
    intro hi
    obtain ⟨⟨t, t1, t2⟩, -⟩ := BL_e hz h _ (hd_mem hi)
    exact ⟨t, t1, t2, Nat.zero_le _⟩
  | succ i ih =>
    intro hi
    obtain ⟨t, t1, t2, t3⟩ := ih (by omega)
    obtain ⟨⟨u, u1, u2⟩, -⟩ := BL_e hz h _ (hd_mem hi)
    have := BL_lt hz h (show i < i + 1 by omega) hi
    rw [t2, u2, nI_ltI (by omega) (by omega)] at this
    exact ⟨u, u1, u2, by omega⟩
theorem BL_6 (hz : gz g) (h : BL g rm k tt l) : l.length ≤ 6 := by
  rcases Nat.lt_or_ge 6 l.length with z | z
  · obtain ⟨t, t1, -, t3⟩ := BL_ge hz h 6 z
    omega
  · exact z
theorem BL_skip (h : BL g rm k tt l) (htt : tt < 6) : BL g rm k (tt + 1) l := by
  obtain ⟨⟨b, cf, h1, h2⟩, h3, h4⟩ := h
  refine ⟨⟨b, cf, by omega, h2⟩, fun e he => ?_, h4⟩
  obtain ⟨q, q1, q2, q3, q4⟩ := h3 e he
  refine ⟨q, q1, q2, q3, fun z => ?_⟩
  have := q4 z
  have h5 : nI tt < nI (tt + 1) := (nI_ltI (by omega) (by omega)).mpr (by omega)
  rw [i32_lt] at this h5 ⊢
  omega
theorem old_min {l : List En} : ∀ n, n ≤ l.length → n ≤ 8 → ∀ j, j < 8 → oldN l n = nI j → ∀ i, i < n → hd l i 3 = 0 → hd l j 4 ≤ hd l i 4 ∧ (i < j → ¬ hd l i 4 ≤ hd l j 4) := by
  intro n
  induction n with
  | zero => intro _ _ _ _ _ i hi; omega
  | succ n ih =>
    intro h1 h8 j hj h2 i hi h3
    unfold oldN at h2
    by_cases e : hd l n 3 = 0
    · rw [if_pos e] at h2
      by_cases c : oldN l n < 0
      · rw [if_pos c] at h2
        have : n = j := nI_inj (by omega) (by omega) h2
        subst this
        by_cases z : i = n
        · subst z; exact ⟨by rw [i32_le]; omega, fun q => by omega⟩
        · exact absurd h3 (old_neg n (by omega) (by omega) c i (by omega))
      · rw [if_neg c] at h2
        rcases oldN_lt l n (by omega) with z | ⟨p, p1, p2, p3⟩
        · exact absurd (by rw [z]; decide) c
        · have ihp := ih (by omega) (by omega) p (by omega) p2
          rw [p2, nI_clamp (by omega)] at h2
          by_cases d : hd l p 4 ≤ hd l n 4
          · rw [if_pos d] at h2
            have : p = j := nI_inj (by omega) (by omega) h2
            subst this
            by_cases z : i = n
            · subst z; exact ⟨d, fun q => by omega⟩
            · exact ihp i (by omega) h3
          · rw [if_neg d] at h2
            have : n = j := nI_inj (by omega) (by omega) h2
            subst this
            by_cases z : i = n
            · subst z; exact ⟨by rw [i32_le]; omega, fun q => by omega⟩
            · have := (ihp i (by omega) h3).1
              rw [i32_le] at d this
              refine ⟨by rw [i32_le]; omega, fun _ => by rw [i32_le]; omega⟩
    · rw [if_neg e] at h2
      by_cases z : i = n
      · subst z; exact absurd h3 e
      · exact ih (by omega) (by omega) j hj h2 i (by omega) h3
/-- the four ways to use a table -/
theorem BL_u1 (hz : gz g) (hB : BL g rm k tt l) (hrm : 1 ≤ rm ∧ rm ≤ 8) (htt : tt < 6) {c : Nat → Int32} {sp : Int32} :
    (∃ j, j < l.length ∧ hd l j 0 = nI tt ∧ u1 (nI rm) (nI k) (nI tt) (g (5 + tt)) sp c l = some (va_up c 1 (c 1 + 1), l.set j (va_up (va_up (hd l j) 3 (hd l j 3 + 1)) 4 (nI k)), hd l j 1)) ∨
    ((∀ e ∈ l, e 0 ≠ nI tt) ∧ l.length = rm ∧ (∀ i, i < l.length → ¬ hd l i 3 = 0) ∧ u1 (nI rm) (nI k) (nI tt) (g (5 + tt)) sp c l = none) ∨
    ((∀ e ∈ l, e 0 ≠ nI tt) ∧ l.length = rm ∧ ∃ j, j < l.length ∧ hd l j 3 = 0 ∧ (∀ i, i < l.length → hd l i 3 = 0 → hd l j 4 ≤ hd l i 4 ∧ (i < j → ¬ hd l i 4 ≤ hd l j 4)) ∧ ∃ x i, i ≤ (l.eraseIdx j).length ∧ u1 (nI rm) (nI k) (nI tt) (g (5 + tt)) sp c l = some (va_up (va_up c 3 x) 2 (c 2 + 1), (l.eraseIdx j).insertIdx i (newE (nI tt) (g (5 + tt)) sp (nI k)), g (5 + tt))) ∨
    ((∀ e ∈ l, e 0 ≠ nI tt) ∧ l.length < rm ∧ ∃ x i, i ≤ l.length ∧ u1 (nI rm) (nI k) (nI tt) (g (5 + tt)) sp c l = some (va_up (va_up c 3 x) 2 (c 2 + 1), l.insertIdx i (newE (nI tt) (g (5 + tt)) sp (nI k)), g (5 + tt))) := by
  have he := BL_e hz hB
  have h8 := hB.2.2
  have hr1 : nI rm - 1 = nI (rm - 1) := by rw [show (1 : Int32) = nI 1 from rfl, nI_sub hrm.1]
  rcases lastN_lt (fun e => e 0 = nI tt ∧ e 5 = 0) l l.length with z | ⟨j, j1, j2, j3, -⟩
  · have hno : ∀ e ∈ l, e 0 ≠ nI tt := fun e hm hc => lastI_none (p := fun e => e 0 = nI tt ∧ e 5 = 0) (by omega) z e hm ⟨hc, (he e hm).2.2⟩
    have hl : ¬ 0 ≤ lastI (fun e => e 0 = nI tt ∧ e 5 = 0) l := by rw [show lastI (fun e => e 0 = nI tt ∧ e 5 = 0) l = -1 from z]; decide
    unfold u1
    rw [if_neg hl, hr1]
    by_cases hf : l.length < rm
    · have hs : shr (nI (rm - 1)) l.length l = (l, 0) := by
        cases hll : l.length with
        | zero => rfl
        | succ n =>
          unfold shr
          rw [if_neg]
          rw [hll, nI_ltI (by omega) (by omega)]
          omega
      rw [hs]
      dsimp only
      rw [if_pos ((nI_ltI (by omega) (by omega)).mpr hf)]
      exact Or.inr (Or.inr (Or.inr ⟨hno, hf, _, _, insN_le _ _ _, rfl⟩))
    · have hfe : l.length = rm := by omega
      rcases oldN_lt l l.length (by omega) with y | ⟨j, j1, j2, j3⟩
      · have hneg : oldI l < 0 := by show oldN l l.length < 0; rw [y]; decide
        have hs : shr (nI (rm - 1)) l.length l = (l, 0) := by
          cases hll : l.length with
          | zero => rfl
          | succ n =>
            unfold shr
            rw [if_neg (fun q => q.2 hneg)]
        rw [hs]
        dsimp only
        rw [if_neg (fun q => hf ((nI_ltI (by omega) (by omega)).mp q))]
        exact Or.inr (Or.inl ⟨hno, hfe, old_neg l.length (Nat.le_refl _) (by omega) hneg, rfl⟩)
      · have hj : (oldI l).toNatClampNeg = j := by show (oldN l l.length).toNatClampNeg = j; rw [j2, nI_clamp (by omega)]
        have hpos : ¬ oldI l < 0 := by show ¬ oldN l l.length < 0; rw [j2]; exact nI_pos (by omega)
        have hle : (l.eraseIdx j).length = rm - 1 := by rw [len_erase j1]; omega
        have hs : shr (nI (rm - 1)) l.length l = (l.eraseIdx j, 1) := by
          have hne : l.length = (rm - 1) + 1 := by omega
          rw [hne]
          unfold shr
          rw [hj, if_pos ⟨(nI_ltI (by omega) (by omega)).mpr (by omega), hpos⟩]
          have : shr (nI (rm - 1)) (rm - 1) (l.eraseIdx j) = (l.eraseIdx j, 0) := by
            cases hll : rm - 1 with
            | zero => rfl
            | succ n =>
              unfold shr
              rw [if_neg]
              rw [hle, nI_ltI (by omega) (by omega)]
              omega
          rw [this]
        rw [hs]
        dsimp only
        rw [if_pos ((nI_ltI (by omega) (by omega)).mpr (by omega))]
        refine Or.inr (Or.inr (Or.inl ⟨hno, hfe, j, j1, j3, old_min l.length (Nat.le_refl _) (by omega) j (by omega) j2, _, _, insN_le _ _ _, rfl⟩))
  · have hl : lastI (fun e => e 0 = nI tt ∧ e 5 = 0) l = nI j := j2
    unfold u1
    rw [hl, nI_clamp (by omega), if_pos (nI_pos' (by omega))]
    exact Or.inl ⟨j, j1, j3, rfl⟩
theorem mem_set {j : Nat} {a e : En} (hj : j < l.length) (h : e ∈ l.set j a) : e = a ∨ ∃ i, i < l.length ∧ i ≠ j ∧ e = hd l i := by
  obtain ⟨i, i1, i2⟩ := mem_hd h
  rw [List.length_set] at i1
  rw [hd_set hj] at i2
  by_cases c : i = j
  · rw [if_pos c] at i2; exact Or.inl i2.symm
  · rw [if_neg c] at i2; exact Or.inr ⟨i, i1, c, i2.symm⟩
theorem mem_erase {j : Nat} {e : En} (hj : j < l.length) (h : e ∈ l.eraseIdx j) : ∃ i, i < l.length ∧ i ≠ j ∧ e = hd l i := by
  obtain ⟨i, i1, i2⟩ := mem_hd h
  rw [len_erase hj] at i1
  rw [hd_erase] at i2
  by_cases c : i < j
  · rw [if_pos c] at i2; exact ⟨i, by omega, by omega, i2.symm⟩
  · rw [if_neg c] at i2; exact ⟨i + 1, by omega, by omega, i2.symm⟩
theorem mem_erase' {j i : Nat} (hj : j < l.length) (hi : i < l.length) (hij : i ≠ j) : hd l i ∈ l.eraseIdx j := by
  by_cases c : i < j
  · have : hd (l.eraseIdx j) i = hd l i := by rw [hd_erase, if_pos c]
    rw [← this]; exact hd_mem (by rw [len_erase hj]; omega)
  · have : hd (l.eraseIdx j) (i - 1) = hd l i := by rw [hd_erase, if_neg (by omega)]; congr 1; omega
    rw [← this]; exact hd_mem (by rw [len_erase hj]; omega)
theorem mem_set' {j i : Nat} {a : En} (hj : j < l.length) (hi : i < l.length) (hij : i ≠ j) : hd l i ∈ l.set j a := by
  have : hd (l.set j a) i = hd l i := by rw [hd_set hj, if_neg hij]
  rw [← this]; exact hd_mem (by rw [List.length_set]; exact hi)
theorem mem_set0 {j : Nat} {a : En} (hj : j < l.length) : a ∈ l.set j a := by
  have : hd (l.set j a) j = a := by rw [hd_set hj, if_pos rfl]
  have h0 := hd_mem (l := l.set j a) (i := j) (by rw [List.length_set]; exact hj)
  rw [this] at h0
  exact h0
theorem mem_ins0 {i : Nat} {a : En} (hi : i ≤ l.length) : a ∈ l.insertIdx i a := by
  have : hd (l.insertIdx i a) i = a := by rw [hd_ins hi, if_neg (by omega), if_pos rfl]
  have h0 := hd_mem (l := l.insertIdx i a) (i := i) (by rw [len_ins hi]; omega)
  rw [this] at h0
  exact h0
theorem mem_ins' {i : Nat} {a e : En} (hi : i ≤ l.length) (h : e ∈ l) : e ∈ l.insertIdx i a := by
  obtain ⟨p, p1, rfl⟩ := mem_hd h
  by_cases c : p < i
  · have : hd (l.insertIdx i a) p = hd l p := by rw [hd_ins hi, if_pos c]
    rw [← this]; exact hd_mem (by rw [len_ins hi]; omega)
  · have : hd (l.insertIdx i a) (p + 1) = hd l p := by rw [hd_ins hi, if_neg (by omega), if_neg (by omega), Nat.add_sub_cancel]
    rw [← this]; exact hd_mem (by rw [len_ins hi]; omega)
theorem RH_put {fh fu fh' fu' : Nat → Int32} {x t kk : Int32} {e' : En} {to : Nat} (hR : RH fh fu l) (hE : e' 0 = t ∧ e' 4 = kk) (m1 : ∀ e ∈ l', e = e' ∨ (e ∈ l ∧ e 0 ≠ x)) (m2 : e' ∈ l') (m3 : ∀ e ∈ l, e 0 ≠ x → e ∈ l') (nt : ∀ e ∈ l, e 0 ≠ x → e 0 ≠ t) (hto : (to < l.length ∧ fh to = x ∧ l'.length = l.length) ∨ (to = l.length ∧ (∀ e ∈ l, e 0 ≠ x) ∧ l'.length = l.length + 1)) (h1 : ∀ i, fh' i = if i = to then t else fh i) (h2 : ∀ i, fu' i = if i = to then kk else fu i) : RH fh' fu' l' := by
  obtain ⟨r1, r2, r3⟩ := hR
  have old : ∀ i, i < l'.length → i ≠ to → i < l.length ∧ ∃ e, e ∈ l ∧ e 0 ≠ x ∧ fh i = e 0 ∧ fu i = e 4 := fun i hi hne => by
    rcases hto with ⟨a1, a2, a3⟩ | ⟨a1, a2, a3⟩
    · obtain ⟨e, e1, e2, e3⟩ := r1 i (by omega)
      exact ⟨by omega, e, e1, fun z => hne (r3 i to (by omega) a1 (by rw [e2, a2, z])), e2, e3⟩
    · obtain ⟨e, e1, e2, e3⟩ := r1 i (by omega)
      exact ⟨by omega, e, e1, a2 e e1, e2, e3⟩
  have tol : to < l'.length := by rcases hto with ⟨a1, a2, a3⟩ | ⟨a1, a2, a3⟩ <;> omega
  refine ⟨fun i hi => ?_, fun e he => ?_, fun i j hi hj e => ?_⟩
  · rw [h1, h2]
    by_cases c : i = to
    · rw [if_pos c, if_pos c]; exact ⟨e', m2, hE.1.symm, hE.2.symm⟩
    · rw [if_neg c, if_neg c]
      obtain ⟨-, e, e1, e2, e3, e4⟩ := old i hi c
      exact ⟨e, m3 e e1 e2, e3, e4⟩
  · rcases m1 e he with z | ⟨z1, z2⟩
    · refine ⟨to, tol, ?_, ?_⟩
      · rw [h1, if_pos rfl, z, hE.1]
      · rw [h2, if_pos rfl, z, hE.2]
    · obtain ⟨i, i1, i2, i3⟩ := r2 e z1
      have c : i ≠ to := fun q => by
        rcases hto with ⟨a1, a2, a3⟩ | ⟨a1, a2, a3⟩
        · rw [q, a2] at i2; exact z2 i2.symm
        · omega
      refine ⟨i, by rcases hto with ⟨a1, a2, a3⟩ | ⟨a1, a2, a3⟩ <;> omega, ?_, ?_⟩
      · rw [h1, if_neg c, i2]
      · rw [h2, if_neg c, i3]
  · rw [h1, h1] at e
    by_cases c : i = to
    · by_cases d : j = to
      · omega
      · rw [if_pos c, if_neg d] at e
        obtain ⟨-, q, q1, q2, q3, q4⟩ := old j hj d
        exact absurd (q3.symm.trans e.symm) (nt q q1 q2)
    · by_cases d : j = to
      · rw [if_neg c, if_pos d] at e
        obtain ⟨-, q, q1, q2, q3, q4⟩ := old i hi c
        exact absurd (q3.symm.trans e) (nt q q1 q2)
      · rw [if_neg c, if_neg d] at e
        exact r3 i j (old i hi c).1 (old j hj d).1 e
theorem BL_next (hz : gz g) (hB : BL g rm k tt l) (hrm : 1 ≤ rm ∧ rm ≤ 8) (htt : tt < 6) (hk : k < 1000) {c : Nat → Int32} {sp : Int32} {r : (Nat → Int32) × List En × Int32} (e : u1 (nI rm) (nI k) (nI tt) (g (5 + tt)) sp c l = some r) : BL g rm k (tt + 1) r.2.1 ∧ (r.1 2 = c 2 ∨ r.1 2 = c 2 + 1) := by
  obtain ⟨⟨b, cf, hb, hI⟩, hq, hl⟩ := hB
  have hB : BL g rm k tt l := ⟨⟨b, cf, hb, hI⟩, hq, hl⟩
  have hI' := HI_u1 hI (by omega) hrm htt (u := 0) (hz tt htt) (by omega) e
  have up : ∀ x : En, (∃ q, q ≤ k ∧ x 4 = nI q ∧ (x 3 = 0 ↔ q < k) ∧ (q = k → x 0 < nI tt)) → ∃ q, q ≤ k ∧ x 4 = nI q ∧ (x 3 = 0 ↔ q < k) ∧ (q = k → x 0 < nI (tt + 1)) := fun x ⟨q, q1, q2, q3, q4⟩ => ⟨q, q1, q2, q3, fun z => by
    have := q4 z
    have h5 : nI tt < nI (tt + 1) := (nI_ltI (by omega) (by omega)).mpr (by omega)
    rw [i32_lt] at this h5 ⊢
    omega⟩
  have new : ∀ x : En, x 4 = nI k → ¬ x 3 = 0 → x 0 = nI tt → ∃ q, q ≤ k ∧ x 4 = nI q ∧ (x 3 = 0 ↔ q < k) ∧ (q = k → x 0 < nI (tt + 1)) := fun x x4 x3 x0 => ⟨k, Nat.le_refl _, x4, ⟨fun z => absurd z x3, fun z => by omega⟩, fun _ => by rw [x0, nI_ltI (by omega) (by omega)]; omega⟩
  have one : ¬ ((1 : Int32) = 0) := by decide
  rcases BL_u1 hz hB hrm htt (c := c) (sp := sp) with ⟨j, j1, j2, j3⟩ | ⟨-, -, -, j3⟩ | ⟨n1, n2, j, j1, j2, j3, x, i, i1, j4⟩ | ⟨n1, n2, x, i, i1, j4⟩
  · rw [j3] at e
    cases e
    refine ⟨⟨⟨b + 1, _, by omega, hI'.1⟩, fun y hy => ?_, by rw [List.length_set]; exact hl⟩, Or.inl (show va_up c 1 (c 1 + 1) 2 = c 2 from va_up_off (by decide))⟩
    rcases mem_set j1 hy with z | ⟨i, i1, i2, i3⟩
    · have h3 : hd l j 3 = 0 := by
        obtain ⟨q, q1, q2, q3, q4⟩ := hq _ (hd_mem j1)
        refine q3.mpr ?_
        rcases Nat.lt_or_ge q k with w | w
        · exact w
        · have := q4 (by omega)
          rw [j2] at this
          exact absurd this ilt_irr
      subst z
      refine new _ (va_up_self _ _ _) ?_ ?_
      · rw [va_up_off (by decide), va_up_self, h3]; decide
      · rw [va_up_off (by decide), va_up_off (by decide)]; exact j2
    · rw [i3]; exact up _ (hq _ (hd_mem i1))
  · rw [j3] at e; cases e
  · rw [j4] at e
    cases e
    refine ⟨⟨⟨b + 1, _, by omega, hI'.1⟩, fun y hy => ?_, by rw [len_ins i1, len_erase j1]; omega⟩, Or.inr (show va_up (va_up c 3 x) 2 (c 2 + 1) 2 = c 2 + 1 from va_up_self _ _ _)⟩
    rcases mem_ins i1 hy with z | z
    · subst z; exact new _ rfl one rfl
    · obtain ⟨p, p1, -, p2⟩ := mem_erase j1 z
      rw [p2]; exact up _ (hq _ (hd_mem p1))
  · rw [j4] at e
    cases e
    refine ⟨⟨⟨b + 1, _, by omega, hI'.1⟩, fun y hy => ?_, by rw [len_ins i1]; omega⟩, Or.inr (show va_up (va_up c 3 x) 2 (c 2 + 1) 2 = c 2 + 1 from va_up_self _ _ _)⟩
    rcases mem_ins i1 hy with z | z
    · subst z; exact new _ rfl one rfl
    · exact up _ (hq _ z)
end XU

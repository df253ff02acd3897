/-! the best room: the reference uses a table -/
def HM (ma : Nat → Nat) (h h' : Hp) : Prop := h'.2 = h.2 ∧ ∀ a, a ≠ ma 6 → a ≠ ma 7 → a ≠ ma 8 → h'.1 a = h.1 a
def HO (ma : Nat → Nat) (n : Nat) (h h' : Hp) : Prop := ∀ m, m ≠ n → gi h' (ma 8) m = gi h (ma 8) m ∧ ∀ i, i < 8 → gi h' (ma 6) (8 * m + i) = gi h (ma 6) (8 * m + i) ∧ gi h' (ma 7) (8 * m + i) = gi h (ma 7) (8 * m + i)
def RS (h : Hp) (ma : Nat → Nat) (n : Nat) (l : List En) : Prop := gi h (ma 8) n = nI l.length ∧ RH (fun i => gi h (ma 6) (8 * n + i)) (fun i => gi h (ma 7) (8 * n + i)) l
def PLc (fh : Nat → Int32) (n : Nat) (t : Int32) (i : Nat) (p : Int32) : Prop := (p = -1 ∧ ∀ j, j < i → fh j ≠ t) ∨ ∃ j, j < i ∧ p = nI (8 * n + j) ∧ fh j = t
def OD (fh fu : Nat → Int32) (n : Nat) (kk : Int32) (i : Nat) (o : Int32) : Prop := (o = -1 ∧ ∀ j, j < i → ¬ fu j < kk) ∨ ∃ j, j < i ∧ o = nI (8 * n + j) ∧ fu j < kk ∧ ∀ j', j' < i → fu j' < kk → fu j < fu j' ∨ (fu j = fu j' ∧ fh j ≤ fh j')
theorem RH_ext {fh fu fh' fu' : Nat → Int32} {l : List En} (h : RH fh fu l) (e : ∀ i, i < l.length → fh' i = fh i ∧ fu' i = fu i) : RH fh' fu' l := by
  obtain ⟨h1, h2, h3⟩ := h
  refine ⟨fun i hi => ?_, fun x hx => ?_, fun i j hi hj z => ?_⟩
  · rw [(e i hi).1, (e i hi).2]; exact h1 i hi
  · obtain ⟨i, i1, i2, i3⟩ := h2 x hx
    exact ⟨i, i1, by rw [(e i i1).1]; exact i2, by rw [(e i i1).2]; exact i3⟩
  · rw [(e i hi).1, (e j hj).1] at z; exact h3 i j hi hj z
theorem RH_list {fh fu : Nat → Int32} {l l' : List En} (h : RH fh fu l) (hl : l'.length = l.length) (e : ∀ i, i < l.length → hd l' i 0 = hd l i 0 ∧ hd l' i 4 = hd l i 4) : RH fh fu l' := by
  obtain ⟨h1, h2, h3⟩ := h
  refine ⟨fun i hi => ?_, fun x hx => ?_, fun i j hi hj z => h3 i j (by omega) (by omega) z⟩
  · obtain ⟨x, x1, x2, x3⟩ := h1 i (by omega)
    obtain ⟨p, p1, rfl⟩ := mem_hd x1
    exact ⟨hd l' p, hd_mem (by omega), by rw [x2, (e p p1).1], by rw [x3, (e p p1).2]⟩
  · obtain ⟨p, p1, rfl⟩ := mem_hd hx
    obtain ⟨i, i1, i2, i3⟩ := h2 (hd l p) (hd_mem (by omega))
    exact ⟨i, by omega, by rw [i2, (e p (by omega)).1], by rw [i3, (e p (by omega)).2]⟩
section XV
variable {sh : Sh} {ma : Nat → Nat} {h h' h'' : Hp} {n k tt rm : Nat} {l : List En} {g : Nat → Int32} {fh fu : Nat → Int32} {i : Nat} {kk o : Int32}
theorem HM.rf : HM ma h h := ⟨rfl, fun _ _ _ _ => rfl⟩
theorem HM.tr (a : HM ma h h') (b : HM ma h' h'') : HM ma h h'' := ⟨b.1.trans a.1, fun q q1 q2 q3 => (b.2 q q1 q2 q3).trans (a.2 q q1 q2 q3)⟩
theorem HO.rf : HO ma n h h := fun _ _ => ⟨rfl, fun _ _ => ⟨rfl, rfl⟩⟩
theorem HO.tr (a : HO ma n h h') (b : HO ma n h' h'') : HO ma n h h'' := fun m hm => ⟨((b m hm).1).trans (a m hm).1, fun i hi => ⟨(((b m hm).2 i hi).1).trans ((a m hm).2 i hi).1, (((b m hm).2 i hi).2).trans ((a m hm).2 i hi).2⟩⟩
theorem RS_HO {m : Nat} (a : RS h ma m l) (hl : l.length ≤ 8) (hm : m ≠ n) (b : HO ma n h h') : RS h' ma m l := ⟨((b m hm).1).trans a.1, RH_ext a.2 (fun i hi => (b m hm).2 i (by omega))⟩
theorem HM_MX (X : MX sh ma h) (a : HM ma h h') : MX sh ma h' := by
  obtain ⟨x1, x2, x3, x4, x5, x6, x7, x8, x9, x10, y⟩ := X
  refine ⟨x1, x2, x3, x4, x5, x6, x7, x8, x9, x10, ?_⟩
  have g : ∀ a k, gr h' a k = gr h a k := fun q k => by show h'.2 _ _ = h.2 _ _; rw [a.1]
  simp only [g]
  exact y
theorem mx_l6 (X : MX sh ma h) {k : Nat} {h' : Hp} {K : Int32 → Prop} (hk : k < 32) : lI sh h' (ma 6) (nI k) K = K (gi h' (ma 6) k) := lI_t (by rw [X.2.2.2.2.2.2.2.1]; exact hk) (by rw [X.2.2.2.2.2.2.2.1]; decide)
theorem mx_l7 (X : MX sh ma h) {k : Nat} {h' : Hp} {K : Int32 → Prop} (hk : k < 32) : lI sh h' (ma 7) (nI k) K = K (gi h' (ma 7) k) := lI_t (by rw [X.2.2.2.2.2.2.2.2.1]; exact hk) (by rw [X.2.2.2.2.2.2.2.2.1]; decide)
theorem mx_l8 (X : MX sh ma h) {k : Nat} {h' : Hp} {K : Int32 → Prop} (hk : k < 4) : lI sh h' (ma 8) (nI k) K = K (gi h' (ma 8) k) := lI_t (by rw [X.2.2.2.2.2.2.2.2.2.1]; exact hk) (by rw [X.2.2.2.2.2.2.2.2.2.1]; decide)
theorem mx_s6 (X : MX sh ma h) {k : Nat} {h' : Hp} {v : Int32} {K : Hp → Prop} (hk : k < 32) : sI sh h' (ma 6) (nI k) v K = K (si h' (ma 6) k v) := sI_t (by rw [X.2.2.2.2.2.2.2.1]; exact hk) (by rw [X.2.2.2.2.2.2.2.1]; decide)
theorem mx_s7 (X : MX sh ma h) {k : Nat} {h' : Hp} {v : Int32} {K : Hp → Prop} (hk : k < 32) : sI sh h' (ma 7) (nI k) v K = K (si h' (ma 7) k v) := sI_t (by rw [X.2.2.2.2.2.2.2.2.1]; exact hk) (by rw [X.2.2.2.2.2.2.2.2.1]; decide)
theorem mx_s8 (X : MX sh ma h) {k : Nat} {h' : Hp} {v : Int32} {K : Hp → Prop} (hk : k < 4) : sI sh h' (ma 8) (nI k) v K = K (si h' (ma 8) k v) := sI_t (by rw [X.2.2.2.2.2.2.2.2.2.1]; exact hk) (by rw [X.2.2.2.2.2.2.2.2.2.1]; decide)
theorem OD_keep (h : OD fh fu n kk i o) (c : ¬ fu i < kk) : OD fh fu n kk (i + 1) o := by
  rcases h with ⟨h1, h2⟩ | ⟨j, j1, j2, j3, j4⟩
  · refine Or.inl ⟨h1, fun j hj => ?_⟩
    by_cases z : j = i
    · subst z; exact c
    · exact h2 j (by omega)
  · refine Or.inr ⟨j, by omega, j2, j3, fun j' hj' hlt => ?_⟩
    by_cases z : j' = i
    · subst z; exact absurd hlt c
    · exact j4 j' (by omega) hlt
theorem OD_first (c : fu i < kk) (hno : ∀ j, j < i → ¬ fu j < kk) : OD fh fu n kk (i + 1) (nI (8 * n + i)) := by
  refine Or.inr ⟨i, by omega, rfl, c, fun j' hj' hlt => ?_⟩
  by_cases z : j' = i
  · subst z; exact Or.inr ⟨rfl, by rw [i32_le]; omega⟩
  · exact absurd hlt (hno j' (by omega))
theorem OD_new {j : Nat} (c : fu i < kk) (j2 : fu j < kk) (jm : ∀ j', j' < i → fu j' < kk → fu j < fu j' ∨ (fu j = fu j' ∧ fh j ≤ fh j')) (d : fu i < fu j ∨ (fu i = fu j ∧ ¬ fh j ≤ fh i)) : OD fh fu n kk (i + 1) (nI (8 * n + i)) := by
  refine Or.inr ⟨i, by omega, rfl, c, fun j' hj' hlt => ?_⟩
  by_cases z : j' = i
  · subst z; exact Or.inr ⟨rfl, by rw [i32_le]; omega⟩
  · have := jm j' (by omega) hlt
    simp only [i32_lt, i32_le, i32_eq] at this d ⊢
    omega
theorem OD_old {j : Nat} (j1 : j < i) (j2 : fu j < kk) (jm : ∀ j', j' < i → fu j' < kk → fu j < fu j' ∨ (fu j = fu j' ∧ fh j ≤ fh j')) (d : ¬ fu i < fu j) (e : fu i = fu j → fh j ≤ fh i) : OD fh fu n kk (i + 1) (nI (8 * n + j)) := by
  refine Or.inr ⟨j, by omega, rfl, j2, fun j' hj' hlt => ?_⟩
  by_cases z : j' = i
  · subst z
    simp only [i32_lt, i32_le, i32_eq] at d e ⊢
    omega
  · exact jm j' (by omega) hlt
/-- a place written on both rows, and how many -/
theorem up_all (X : MX sh ma h) {to : Nat} (hto : to < 8) {m' t v : Int32} : gi (si (si (si h (ma 8) n m') (ma 6) (8 * n + to) t) (ma 7) (8 * n + to) v) (ma 8) n = m' ∧ (∀ i, gi (si (si (si h (ma 8) n m') (ma 6) (8 * n + to) t) (ma 7) (8 * n + to) v) (ma 6) (8 * n + i) = if i = to then t else gi h (ma 6) (8 * n + i)) ∧ (∀ i, gi (si (si (si h (ma 8) n m') (ma 6) (8 * n + to) t) (ma 7) (8 * n + to) v) (ma 7) (8 * n + i) = if i = to then v else gi h (ma 7) (8 * n + i)) ∧ HM ma h (si (si (si h (ma 8) n m') (ma 6) (8 * n + to) t) (ma 7) (8 * n + to) v) ∧ HO ma n h (si (si (si h (ma 8) n m') (ma 6) (8 * n + to) t) (ma 7) (8 * n + to) v) := by
  have n67 : ma 6 ≠ ma 7 := mx_ne X (by omega)
  have n68 : ma 6 ≠ ma 8 := mx_ne X (by omega)
  have n78 : ma 7 ≠ ma 8 := mx_ne X (by omega)
  refine ⟨?_, fun i => ?_, fun i => ?_, ⟨rfl, fun a a6 a7 a8 => ?_⟩, fun m hm => ⟨?_, fun i hi => ⟨?_, ?_⟩⟩⟩
  · rw [gi_si_ne (Ne.symm n78), gi_si_ne (Ne.symm n68), gi_si]
  · rw [gi_si_ne n67]
    by_cases e : i = to
    · rw [if_pos e, e, gi_si]
    · rw [if_neg e, gi_si_k (by omega), gi_si_ne n68]
  · by_cases e : i = to
    · rw [if_pos e, e, gi_si]
    · rw [if_neg e, gi_si_k (by omega), gi_si_ne (Ne.symm n67), gi_si_ne n78]
  · show va_up (va_up (va_up h.1 _ _) _ _) _ _ a = h.1 a
    rw [va_up_off a7, va_up_off a6, va_up_off a8]
  · rw [gi_si_ne (Ne.symm n78), gi_si_ne (Ne.symm n68), gi_si_k hm]
  · rw [gi_si_ne n67, gi_si_k (by omega), gi_si_ne n68]
  · rw [gi_si_k (by omega), gi_si_ne (Ne.symm n67), gi_si_ne n78]
theorem r_use (X : MX sh ma h) (hn : n < 4) (hk : k < 1000) (htt : tt < 6) (hrm : 1 ≤ rm ∧ rm ≤ 8) (hz : gz g) (hB : BL g rm k tt l) (hR : RS h ma n l) {c : Nat → Int32} {sp : Int32} {K : Int32 → Hp → Prop}
    (k0 : u1 (nI rm) (nI k) (nI tt) (g (5 + tt)) sp c l = none → K (-1) h)
    (k1 : ∀ r v h', u1 (nI rm) (nI k) (nI tt) (g (5 + tt)) sp c l = some r → HM ma h h' → HO ma n h h' → RS h' ma n r.2.1 → r.1 2 = c 2 + v → (v = 0 ∨ v = 1) → K v h') :
    f_X6_use sh (ma 0) (nI n) (nI tt) (nI k) (nI rm) h K := by
  obtain ⟨hmn, hRH⟩ := hR
  have hl8 : l.length ≤ 8 := by have := hB.2.2; omega
  have ways := BL_u1 hz hB hrm htt (c := c) (sp := sp)
  obtain ⟨r1, r2, r3⟩ := hRH
  have hRH : RH (fun i => gi h (ma 6) (8 * n + i)) (fun i => gi h (ma 7) (8 * n + i)) l := ⟨r1, r2, r3⟩
  have free : ∀ e ∈ l, (e 3 = 0 ↔ e 4 < nI k) := fun e he => by
    obtain ⟨q, q1, q2, q3, -⟩ := hB.2.1 e he
    rw [q2, nI_ltI (by omega) (by omega)]
    exact q3
  unfold f_X6_use
  rw [i8, nI_mul]
  refine lo_ind (fun d s h' => ∃ i p o, i + d = l.length + 1 ∧ i ≤ l.length ∧ s = (p, o, nI (8 * n + i)) ∧ h = h' ∧ PLc (fun i => gi h (ma 6) (8 * n + i)) n (nI tt) i p ∧ OD (fun i => gi h (ma 6) (8 * n + i)) (fun i => gi h (ma 7) (8 * n + i)) n (nI k) i o) ?_ ?_ (d := l.length + 1) ⟨0, -1, -1, by omega, by omega, rfl, rfl, Or.inl ⟨rfl, fun j hj => by omega⟩, Or.inl ⟨rfl, fun j hj => by omega⟩⟩
  · rintro s h' ⟨i, p, o, h1, h2, -⟩
    omega
  · rintro d rec hrec s h' ⟨i, p, o, h1, h2, rfl, rfl, hPL, hOD⟩
    have nx : ∀ p' o', i ≠ l.length → PLc (fun i => gi h (ma 6) (8 * n + i)) n (nI tt) (i + 1) p' → OD (fun i => gi h (ma 6) (8 * n + i)) (fun i => gi h (ma 7) (8 * n + i)) n (nI k) (i + 1) o' → rec (p', o', nI (8 * n + i) + 1) h := fun p' o' hne a1 a2 => by
      rw [nI_1]
      exact hrec _ _ ⟨i + 1, p', o', by omega, by omega, rfl, rfl, a1, a2⟩
    unfold b_X6_use_12
    dsimp only
    rw [mx_m X, mx_q10 X, mx_t8 X, mx_l8 X hn, hmn, i8, nI_mul, nI_add]
    by_cases hzz : i = l.length
    · subst hzz
      rw [if_pos (nI_le (by omega) (by omega))]
      rcases hPL with ⟨rfl, hno⟩ | ⟨j, j1, rfl, j2⟩
      · have nott : ∀ e ∈ l, e 0 ≠ nI tt := fun e he z => by
          obtain ⟨i, i1, i2, i3⟩ := r2 e he
          exact hno i i1 (i2.trans z)
        rw [if_pos (by decide), mx_m X, mx_q10 X, mx_t8 X, mx_l8 X hn, hmn]
        by_cases hf : l.length = rm
        · rw [if_pos (by rw [hf])]
          rcases hOD with ⟨rfl, hno'⟩ | ⟨j, j1, rfl, j2, jm⟩
          · rw [if_neg (by decide)]
            rcases ways with ⟨jj, y1, y2, y3⟩ | ⟨-, -, -, y3⟩ | ⟨-, -, jj, y1, y2, -⟩ | ⟨-, y2, -⟩
            · exact absurd y2 (nott _ (hd_mem y1))
            · exact k0 y3
            · obtain ⟨i, i1, i2, i3⟩ := r2 _ (hd_mem y1)
              have := (free _ (hd_mem y1)).mp y2
              exact absurd (by rw [i3]; exact this) (hno' i i1)
            · omega
          · rw [if_pos (nI_pos' (by omega)), mx_q10 X, mx_t8 X, mx_l8 X hn, hmn, mx_s8 X hn, mx_q8 (mx_s X), mx_t6 X, mx_s6 X (by omega), mx_q9 (mx_s (mx_s X)), mx_t7 X, mx_s7 X (by omega), Int32.add_zero]
            obtain ⟨e, e1, e2, e3⟩ := r1 j j1
            obtain ⟨i, i1, rfl⟩ := mem_hd e1
            have e30 : hd l i 3 = 0 := (free _ e1).mpr (by rw [← e3]; exact j2)
            rcases ways with ⟨jj, y1, y2, y3⟩ | ⟨-, -, y2, y3⟩ | ⟨-, -, jj, y1, y2, ymin, x, ii, ii1, y3⟩ | ⟨-, y2, -⟩
            · exact absurd y2 (nott _ (hd_mem y1))
            · exact absurd e30 (y2 i i1)
            · obtain ⟨j', z1, z2, z3⟩ := r2 _ (hd_mem y1)
              have hlt := (free _ (hd_mem y1)).mp y2
              have hj' := jm j' z1 (by rw [z3]; exact hlt)
              rw [z3, z2, e3, e2] at hj'
              have hmin := ymin i i1 e30
              have eij : i = jj := by
                rcases Nat.lt_trichotomy i jj with w | w | w
                · have q1 := hmin.2 w
                  have q2 := hmin.1
                  simp only [i32_lt, i32_le, i32_eq] at hj' q1 q2
                  omega
                · exact w
                · have q1 := BL_lt hz hB w i1
                  have q2 := hmin.1
                  simp only [i32_lt, i32_le, i32_eq] at hj' q1 q2
                  omega
              subst eij
              obtain ⟨u1', u2, u3, u4, u5⟩ := up_all X (n := n) (to := j) (by omega) (m' := nI l.length) (t := nI tt) (v := nI k)
              have hlen : (List.insertIdx (l.eraseIdx i) ii (newE (nI tt) (g (5 + tt)) sp (nI k))).length = l.length := by rw [len_ins ii1, len_erase y1]; omega
              refine k1 _ 1 _ y3 u4 u5 ⟨by dsimp only; rw [hlen]; exact u1', ?_⟩ (show va_up (va_up c 3 x) 2 (c 2 + 1) 2 = c 2 + 1 from va_up_self _ _ _) (Or.inr rfl)
              refine RH_put (x := hd l i 0) (t := nI tt) (kk := nI k) (e' := newE (nI tt) (g (5 + tt)) sp (nI k)) (to := j) hRH ⟨rfl, rfl⟩ (fun e he => ?_) (mem_ins0 ii1) (fun e he hne => ?_) (fun e he _ => nott e he) (Or.inl ⟨j1, e2, hlen⟩) u2 u3
              · rcases mem_ins ii1 he with z | z
                · exact Or.inl z
                · obtain ⟨p, p1, p2, rfl⟩ := mem_erase y1 z
                  exact Or.inr ⟨hd_mem p1, fun z => p2 (BL_uq hz hB p1 y1 z)⟩
              · obtain ⟨p, p1, rfl⟩ := mem_hd he
                exact mem_ins' ii1 (mem_erase' y1 p1 (fun z => hne (by rw [z])))
            · omega
        · rw [if_neg (fun z => hf (nI_inj (by omega) (by omega) z)), mx_q10 X, mx_t8 X, mx_l8 X hn, hmn, mx_q10 X, mx_t8 X, mx_l8 X hn, hmn, mx_s8 X hn, mx_q8 (mx_s X), mx_t6 X, nI_add, mx_s6 X (by have := hB.2.2; omega), mx_q9 (mx_s (mx_s X)), mx_t7 X, mx_s7 X (by have := hB.2.2; omega), nI_1]
          have hl7 : l.length < 8 := by have := hB.2.2; omega
          rcases ways with ⟨jj, y1, y2, y3⟩ | ⟨-, y2, -⟩ | ⟨-, y2, -⟩ | ⟨-, y2, x, ii, ii1, y3⟩
          · exact absurd y2 (nott _ (hd_mem y1))
          · exact absurd y2 hf
          · exact absurd y2 hf
          · obtain ⟨u1', u2, u3, u4, u5⟩ := up_all X (n := n) (to := l.length) hl7 (m' := nI (l.length + 1)) (t := nI tt) (v := nI k)
            have hlen : (List.insertIdx l ii (newE (nI tt) (g (5 + tt)) sp (nI k))).length = l.length + 1 := len_ins ii1
            refine k1 _ 1 _ y3 u4 u5 ⟨by dsimp only; rw [hlen]; exact u1', ?_⟩ (show va_up (va_up c 3 x) 2 (c 2 + 1) 2 = c 2 + 1 from va_up_self _ _ _) (Or.inr rfl)
            refine RH_put (x := nI tt) (t := nI tt) (kk := nI k) (e' := newE (nI tt) (g (5 + tt)) sp (nI k)) (to := l.length) hRH ⟨rfl, rfl⟩ (fun e he => ?_) (mem_ins0 ii1) (fun e he _ => mem_ins' ii1 he) (fun e he _ => nott e he) (Or.inr ⟨rfl, nott, hlen⟩) u2 u3
            rcases mem_ins ii1 he with z | z
            · exact Or.inl z
            · exact Or.inr ⟨z, nott e z⟩
      · have hit : ∀ h9, h9 = si (si (si h (ma 8) n (nI l.length)) (ma 6) (8 * n + j) (nI tt)) (ma 7) (8 * n + j) (nI k) → K 0 h9 := fun h9 e9 => by
          obtain ⟨e, e1, e2, e3⟩ := r1 j j1
          have et : e 0 = nI tt := e2.symm.trans j2
          rcases ways with ⟨jj, y1, y2, y3⟩ | ⟨y1, -⟩ | ⟨y1, -⟩ | ⟨y1, -⟩
          · obtain ⟨u1', u2, u3, u4, u5⟩ := up_all X (n := n) (to := j) (by omega) (m' := nI l.length) (t := nI tt) (v := nI k)
            rw [← e9] at u1' u2 u3 u4 u5
            have hlen : (l.set jj (va_up (va_up (hd l jj) 3 (hd l jj 3 + 1)) 4 (nI k))).length = l.length := List.length_set
            refine k1 _ 0 _ y3 u4 u5 ⟨by dsimp only; rw [hlen]; exact u1', ?_⟩ (by rw [Int32.add_zero]; exact show va_up c 1 (c 1 + 1) 2 = c 2 from va_up_off (by decide)) (Or.inl rfl)
            refine RH_put (x := nI tt) (t := nI tt) (kk := nI k) (e' := va_up (va_up (hd l jj) 3 (hd l jj 3 + 1)) 4 (nI k)) (to := j) hRH ⟨by rw [va_up_off (by decide), va_up_off (by decide)]; exact y2, va_up_self _ _ _⟩ (fun e he => ?_) (mem_set0 y1) (fun e he hne => ?_) (fun e he hne => hne) (Or.inl ⟨j1, j2, hlen⟩) u2 u3
            · rcases mem_set y1 he with z | ⟨p, p1, p2, rfl⟩
              · exact Or.inl z
              · exact Or.inr ⟨hd_mem p1, fun z => p2 (BL_uq hz hB p1 y1 (z.trans y2.symm))⟩
            · obtain ⟨p, p1, rfl⟩ := mem_hd he
              exact mem_set' y1 p1 (fun z => hne (by rw [z]; exact y2))
          · exact absurd et (y1 e e1)
          · exact absurd et (y1 e e1)
          · exact absurd et (y1 e e1)
        rw [if_neg (nI_pos (by omega)), mx_m X, mx_q10 X, mx_t8 X, mx_l8 X hn, hmn]
        by_cases hf : l.length = rm
        · rw [if_pos (by rw [hf]), mx_q10 X, mx_t8 X, mx_l8 X hn, hmn, mx_s8 X hn, mx_q8 (mx_s X), mx_t6 X, mx_s6 X (by omega), mx_q9 (mx_s (mx_s X)), mx_t7 X, mx_s7 X (by omega), Int32.add_zero]
          exact hit _ rfl
        · rw [if_neg (fun z => hf (nI_inj (by omega) (by omega) z)), mx_q10 X, mx_t8 X, mx_l8 X hn, hmn, mx_s8 X hn, mx_q8 (mx_s X), mx_t6 X, mx_s6 X (by omega), mx_q9 (mx_s (mx_s X)), mx_t7 X, mx_s7 X (by omega), Int32.add_zero]
          exact hit _ rfl
    · have hil : i < l.length := by omega
      have nx := fun p' o' => nx p' o' hzz
      rw [if_neg (nI_ge (by omega) (by omega)), mx_q8 X, mx_t6 X, mx_l6 X (by omega)]
      by_cases ht : gi h (ma 6) (8 * n + i) = nI tt
      · rw [if_pos ht]
        have PL1 : PLc (fun i => gi h (ma 6) (8 * n + i)) n (nI tt) (i + 1) (nI (8 * n + i)) := Or.inr ⟨i, by omega, rfl, ht⟩
        rw [mx_q9 X, mx_t7 X, mx_l7 X (by omega)]
        by_cases c : gi h (ma 7) (8 * n + i) < nI k
        · rw [if_neg (nle_lt.mpr c)]
          rcases hOD with ⟨rfl, hno⟩ | ⟨j, j1, rfl, j2, jm⟩
          · rw [if_pos (by decide)]; exact nx _ _ PL1 (OD_first c hno)
          · rw [if_neg (nI_pos (by omega)), mx_q9 X, mx_t7 X, mx_l7 X (by omega), mx_q9 X, mx_t7 X, mx_l7 X (by omega)]
            by_cases d : gi h (ma 7) (8 * n + i) < gi h (ma 7) (8 * n + j)
            · rw [if_pos d]; exact nx _ _ PL1 (OD_new c j2 jm (Or.inl d))
            · rw [if_neg d, mx_q9 X, mx_t7 X, mx_l7 X (by omega), mx_q9 X, mx_t7 X, mx_l7 X (by omega)]
              by_cases e : gi h (ma 7) (8 * n + i) = gi h (ma 7) (8 * n + j)
              · rw [if_pos e, mx_q8 X, mx_t6 X, mx_l6 X (by omega), mx_q8 X, mx_t6 X, mx_l6 X (by omega)]
                by_cases f : gi h (ma 6) (8 * n + j) ≤ gi h (ma 6) (8 * n + i)
                · rw [if_pos f]; exact nx _ _ PL1 (OD_old j1 j2 jm d (fun _ => f))
                · rw [if_neg f]; exact nx _ _ PL1 (OD_new c j2 jm (Or.inr ⟨e, f⟩))
              · rw [if_neg e]; exact nx _ _ PL1 (OD_old j1 j2 jm d (fun z => absurd z e))
        · rw [if_pos (nlt_le.mp c)]; exact nx _ _ PL1 (OD_keep hOD c)
      · rw [if_neg ht]
        have PL1 : PLc (fun i => gi h (ma 6) (8 * n + i)) n (nI tt) (i + 1) p := by
          rcases hPL with ⟨a1, a2⟩ | ⟨j, j1, j2, j3⟩
          · refine Or.inl ⟨a1, fun j hj => ?_⟩
            by_cases z : j = i
            · subst z; exact ht
            · exact a2 j (by omega)
          · exact Or.inr ⟨j, by omega, j2, j3⟩
        rw [mx_q9 X, mx_t7 X, mx_l7 X (by omega)]
        by_cases c : gi h (ma 7) (8 * n + i) < nI k
        · rw [if_neg (nle_lt.mpr c)]
          rcases hOD with ⟨rfl, hno⟩ | ⟨j, j1, rfl, j2, jm⟩
          · rw [if_pos (by decide)]; exact nx _ _ PL1 (OD_first c hno)
          · rw [if_neg (nI_pos (by omega)), mx_q9 X, mx_t7 X, mx_l7 X (by omega), mx_q9 X, mx_t7 X, mx_l7 X (by omega)]
            by_cases d : gi h (ma 7) (8 * n + i) < gi h (ma 7) (8 * n + j)
            · rw [if_pos d]; exact nx _ _ PL1 (OD_new c j2 jm (Or.inl d))
            · rw [if_neg d, mx_q9 X, mx_t7 X, mx_l7 X (by omega), mx_q9 X, mx_t7 X, mx_l7 X (by omega)]
              by_cases e : gi h (ma 7) (8 * n + i) = gi h (ma 7) (8 * n + j)
              · rw [if_pos e, mx_q8 X, mx_t6 X, mx_l6 X (by omega), mx_q8 X, mx_t6 X, mx_l6 X (by omega)]
                by_cases f : gi h (ma 6) (8 * n + j) ≤ gi h (ma 6) (8 * n + i)
                · rw [if_pos f]; exact nx _ _ PL1 (OD_old j1 j2 jm d (fun _ => f))
                · rw [if_neg f]; exact nx _ _ PL1 (OD_new c j2 jm (Or.inr ⟨e, f⟩))
              · rw [if_neg e]; exact nx _ _ PL1 (OD_old j1 j2 jm d (fun z => absurd z e))
        · rw [if_pos (nlt_le.mp c)]; exact nx _ _ PL1 (OD_keep hOD c)
end XV

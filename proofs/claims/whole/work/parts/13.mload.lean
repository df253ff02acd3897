/-! the reference: a new entry; what a session learns -/
/-- the place of a new entry of a table: ahead of those of higher tables at the end -/
def insN (t : Int32) (l : List En) : Nat → Nat
  | 0 => 0
  | k + 1 => if hd l k 0 ≤ t then k + 1 else insN t l k
theorem insN_le (t : Int32) (l : List En) : ∀ k, insN t l k ≤ k := by
  intro k
  induction k with
  | zero => exact Nat.le_refl _
  | succ k ih => unfold insN; split <;> omega
theorem hd_ins {l : List En} {i j : Nat} {e : En} (h : i ≤ l.length) : hd (l.insertIdx i e) j = if j < i then hd l j else if j = i then e else hd l (j - 1) := by
  unfold hd
  rw [List.getD_eq_getElem?_getD, List.getElem?_insertIdx]
  split
  · rw [List.getD_eq_getElem?_getD]
  · split
    · rw [if_pos (by omega)]; rfl
    · rw [List.getD_eq_getElem?_getD]
theorem len_ins {l : List En} {i : Nat} {e : En} (h : i ≤ l.length) : (l.insertIdx i e).length = l.length + 1 := List.length_insertIdx_of_le_length h _
section M4
variable {sh : Sh} {ma : Nat → Nat} {h : Hp} {f : Nat → Int32} {n : Nat} {c : Nat → Int32} {l : List En}
/-- a row of six moved one place up -/
theorem m_load36 (X : MX sh ma h) (hn : n < 4) {j : Nat} (hj : j + 1 < 8) {x2 : Int32} {K : Hp → Prop} (hk : ∀ g, (∀ k, k < 6 → g (224 + 55 * n + 6 * (j + 1) + k) = f (224 + 55 * n + 6 * j + k)) → (∀ p, (p < 224 + 55 * n + 6 * (j + 1) ∨ 230 + 55 * n + 6 * (j + 1) ≤ p) → g p = f p) → K (hset h (ma 1) g)) : lo (b_X6_load_36 sh (ma 0) (nI n) x2 (nI (j + 1)) (fun h => K h)) (0 : Int32) (hset h (ma 1) f) := by
  refine lo_ind (fun d s h' => ∃ k g, d = 7 - k ∧ k ≤ 6 ∧ s = nI k ∧ h' = hset h (ma 1) g ∧ (∀ q, q < k → g (224 + 55 * n + 6 * (j + 1) + q) = f (224 + 55 * n + 6 * j + q)) ∧ (∀ p, (p < 224 + 55 * n + 6 * (j + 1) ∨ 224 + 55 * n + 6 * (j + 1) + k ≤ p) → g p = f p)) ?_ ?_ (d := 7) ⟨0, f, rfl, by omega, rfl, rfl, fun q hq => by omega, fun _ _ => rfl⟩
  · rintro s h' ⟨k, g, h1, h2, -⟩
    omega
  · rintro d rec hrec s h' ⟨k, g, h1, h2, rfl, rfl, g1, g2⟩
    have nx := fun z : k < 6 => hrec _ _ ⟨k + 1, va_up g (224 + 55 * n + 6 * (j + 1) + k) (f (224 + 55 * n + 6 * j + k)), by omega, by omega, rfl, rfl, fun q hq => by
      by_cases e : q = k
      · subst e; rw [va_up_self]
      · rw [va_up_off (by omega)]; exact g1 q (by omega), fun p hp => by rw [va_up_off (by omega)]; exact g2 p (by omega)⟩
    unfold b_X6_load_36
    simp (disch := omega) only [i1, i2, i3, i4, i5, i6, i7, i8, i9, i10, i11, i12, i17, i20, i21, i22, i23, i26, i32, i44, i48, i55, i57, i59, i60, i63, i99, i100, i101, i115, i116, i117, i126, i217, i437, i438, i598, i599, i623, i999, i1869, mx_m X, mx_r0 X, mx_t1 X, of_t, ofE_t, ofO_t, mx_ld X, mx_st X, gI_t, pI_t, ev_t, nI_add, nI_leI, nI_ltI, nI_sub, Nat.add_sub_cancel]
    by_cases hz : 6 ≤ k
    · rw [if_pos hz]
      have : k = 6 := by omega
      subst this
      exact hk g g1 (fun p hp => g2 p (by omega))
    · rw [if_neg hz]
      have e := g2 (224 + 55 * n + 6 * j + k) (by omega)
      simp (disch := omega) only [i1, i2, i3, i4, i5, i6, i7, i8, i9, i10, i11, i12, i17, i20, i21, i22, i23, i26, i32, i44, i48, i55, i57, i59, i60, i63, i99, i100, i101, i115, i116, i117, i126, i217, i437, i438, i598, i599, i623, i999, i1869, mx_m X, mx_r0 X, mx_t1 X, of_t, ofE_t, ofO_t, mx_ld X, mx_st X, gI_t, pI_t, ev_t, nI_add, nI_leI, nI_ltI, e]
      exact nx (by omega)
/-- the new entry: all fields but its last use are told -/
theorem m_load (X : MX sh ma h) (hn : n < 4) (hm : MS f n c l) (hl : l.length < 8) {t : Nat} (ht : t < 6) {K : Int32 → Hp → Prop} (hk : ∀ g e, e 0 = nI t → e 1 = f (5 + t) → e 2 = f (11 + t) → e 3 = 0 → e 5 = 0 → MS g n c (l.insertIdx (insN (nI t) l l.length) e) → Out f g n → K (nI (insN (nI t) l l.length)) (hset h (ma 1) g)) : f_X6_load sh (ma 0) (nI n) (nI t) (hset h (ma 1) f) K := by
  obtain ⟨m1, m2, m3, m4⟩ := hm
  have e0 : (0 : Int32) = nI 0 := rfl
  unfold f_X6_load
  simp (disch := omega) only [i1, i2, i3, i4, i5, i6, i7, i8, i9, i10, i11, i12, i17, i20, i21, i22, i23, i26, i32, i44, i48, i55, i57, i59, i60, i63, i99, i100, i101, i115, i116, i117, i126, i217, i437, i438, i598, i599, i623, i999, i1869, mx_m X, mx_r0 X, mx_t1 X, of_t, ofE_t, ofO_t, mx_ld X, mx_st X, gI_t, pI_t, ev_t, nI_add, nI_leI, nI_ltI, m2]
  refine lo_ind (fun d s h' => ∃ k g, d = k + 1 ∧ k ≤ l.length ∧ s = nI k ∧ h' = hset h (ma 1) g ∧ insN (nI t) l k = insN (nI t) l l.length ∧ (∀ j q, k ≤ j → j < l.length → q < 6 → g (224 + 55 * n + 6 * (j + 1) + q) = hd l j q) ∧ (∀ p, (p < 224 + 55 * n + 6 * (k + 1) ∨ 230 + 55 * n + 6 * l.length ≤ p) → p < 224 + 55 * n + 6 * (k + 1) → g p = f p) ∧ (∀ p, 230 + 55 * n + 6 * l.length ≤ p → g p = f p)) ?_ ?_ (d := l.length + 1) ⟨l.length, f, rfl, Nat.le_refl _, rfl, rfl, rfl, fun j q h1 h2 => by omega, fun _ _ _ => rfl, fun _ _ => rfl⟩
  · rintro s h' ⟨k, g, h1, -⟩
    omega
  · rintro d rec hrec s h' ⟨k, g, h1, h2, rfl, rfl, g0, g1, g2, g3⟩
    unfold b_X6_load_12
    have fin : insN (nI t) l l.length = k → g (224 + 55 * n + 6 * k) = g (224 + 55 * n + 6 * k) → K (nI k) (hset h (ma 1) (va_up (va_up (va_up (va_up (va_up (va_up g (217 + 55 * n + 6) (nI (l.length + 1))) (224 + 55 * n + 6 * k + 0) (nI t)) (224 + 55 * n + 6 * k + 1) (f (5 + t))) (224 + 55 * n + 6 * k + 2) (f (11 + t))) (224 + 55 * n + 6 * k + 3) 0) (224 + 55 * n + 6 * k + 5) 0)) := by
      intro ek _
      have := hk (va_up (va_up (va_up (va_up (va_up (va_up g (217 + 55 * n + 6) (nI (l.length + 1))) (224 + 55 * n + 6 * k + 0) (nI t)) (224 + 55 * n + 6 * k + 1) (f (5 + t))) (224 + 55 * n + 6 * k + 2) (f (11 + t))) (224 + 55 * n + 6 * k + 3) 0) (224 + 55 * n + 6 * k + 5) 0) (fun q => match q with | 0 => nI t | 1 => f (5 + t) | 2 => f (11 + t) | 3 => 0 | 4 => g (224 + 55 * n + 6 * k + 4) | _ => 0) rfl rfl rfl rfl rfl ?_ ?_
      · rw [ek] at this; exact this
      · rw [ek]
        refine ⟨fun q hq => ?_, ?_, by rw [len_ins h2]; omega, fun j hj q hq => ?_⟩
        · rw [va_up_off (by omega), va_up_off (by omega), va_up_off (by omega), va_up_off (by omega), va_up_off (by omega), va_up_off (by omega), g2 _ (by omega) (by omega)]
          exact m1 q hq
        · rw [va_up_off (by omega), va_up_off (by omega), va_up_off (by omega), va_up_off (by omega), va_up_off (by omega), va_up_self, len_ins h2]
        · rw [len_ins h2] at hj
          rw [hd_ins h2]
          by_cases hjk : j < k
          · rw [if_pos hjk, va_up_off (by omega), va_up_off (by omega), va_up_off (by omega), va_up_off (by omega), va_up_off (by omega), va_up_off (by omega), g2 _ (by omega) (by omega)]
            exact m4 j (by omega) q hq
          · rw [if_neg hjk]
            by_cases ej : j = k
            · subst ej
              rw [if_pos rfl]
              match q, hq with
              | 0, _ => rw [va_up_off (by omega), va_up_off (by omega), va_up_off (by omega), va_up_off (by omega), va_up_self]; rfl
              | 1, _ => rw [va_up_off (by omega), va_up_off (by omega), va_up_off (by omega), va_up_self]; rfl
              | 2, _ => rw [va_up_off (by omega), va_up_off (by omega), va_up_self]; rfl
              | 3, _ => rw [va_up_off (by omega), va_up_self]; rfl
              | 4, _ => rw [va_up_off (by omega), va_up_off (by omega), va_up_off (by omega), va_up_off (by omega), va_up_off (by omega), va_up_off (by omega)]; rfl
              | 5, _ => rw [va_up_self]; rfl
            · rw [if_neg ej, va_up_off (by omega), va_up_off (by omega), va_up_off (by omega), va_up_off (by omega), va_up_off (by omega), va_up_off (by omega)]
              have := g1 (j - 1) q (by omega) (by omega) hq
              rw [show j - 1 + 1 = j by omega] at this
              exact this
      · intro p hp
        rw [va_up_off (by omega), va_up_off (by omega), va_up_off (by omega), va_up_off (by omega), va_up_off (by omega), va_up_off (by omega)]
        by_cases hp2 : p < 224 + 55 * n + 6 * (k + 1)
        · exact g2 p (by omega) hp2
        · exact g3 p (by omega)
    have g6 : g (217 + 55 * n + 6) = nI l.length := by rw [g2 _ (by omega) (by omega)]; exact m2
    have gv : g (5 + t) = f (5 + t) := g2 _ (by omega) (by omega)
    have gs : g (11 + t) = f (11 + t) := g2 _ (by omega) (by omega)
    by_cases hz : k = 0
    · subst hz
      rw [if_pos (show nI 0 ≤ 0 by decide), e0]
      simp (disch := omega) only [i1, i2, i3, i4, i5, i6, i7, i8, i9, i10, i11, i12, i17, i20, i21, i22, i23, i26, i32, i44, i48, i55, i57, i59, i60, i63, i99, i100, i101, i115, i116, i117, i126, i217, i437, i438, i598, i599, i623, i999, i1869, mx_m X, mx_r0 X, mx_t1 X, of_t, ofE_t, ofO_t, mx_ld X, mx_st X, gI_t, pI_t, ev_t, nI_add, nI_leI, nI_ltI, g6]
      rw [va_up_off (by omega), va_up_off (by omega), gv, va_up_off (by omega), va_up_off (by omega), va_up_off (by omega), gs]
      exact fin g0.symm rfl
    · rw [if_neg (nI_nle (by omega) (by omega))]
      obtain ⟨j, rfl⟩ : ∃ j, k = j + 1 := ⟨k - 1, by omega⟩
      have ge : g (224 + 55 * n + 6 * j + 0) = hd l j 0 := by rw [g2 _ (by omega) (by omega)]; exact m4 j (by omega) 0 (by omega)
      rw [e0]
      simp (disch := omega) only [i1, mx_m X, mx_r0 X, mx_t1 X, ofE_t, mx_ld X, nI_sub, Nat.add_sub_cancel, ge]
      have gd : insN (nI t) l (j + 1) = if hd l j 0 ≤ nI t then j + 1 else insN (nI t) l j := rfl
      rw [gd] at g0
      by_cases hc : hd l j 0 ≤ nI t
      · rw [if_pos hc] at g0 ⊢
        simp (disch := omega) only [i1, i2, i3, i4, i5, i6, i7, i8, i9, i10, i11, i12, i17, i20, i21, i22, i23, i26, i32, i44, i48, i55, i57, i59, i60, i63, i99, i100, i101, i115, i116, i117, i126, i217, i437, i438, i598, i599, i623, i999, i1869, mx_m X, mx_r0 X, mx_t1 X, of_t, ofE_t, ofO_t, mx_ld X, mx_st X, gI_t, pI_t, ev_t, nI_add, nI_leI, nI_ltI, g6]
        rw [va_up_off (by omega), va_up_off (by omega), gv, va_up_off (by omega), va_up_off (by omega), va_up_off (by omega), gs]
        exact fin g0.symm rfl
      · rw [if_neg hc] at g0 ⊢
        refine m_load36 X hn (by omega) (fun g' k1 k2 => ?_)
        rw [show nI (j + 1) + -nI 1 = nI j from by rw [nI_dec (by omega), Nat.add_sub_cancel]]
        refine hrec _ _ ⟨j, g', by omega, by omega, rfl, rfl, g0, fun i q i1 i2 i3 => ?_, fun p p1 p2 => ?_, fun p p1 => ?_⟩
        · by_cases e : i = j
          · subst e
            rw [k1 q i3, g2 _ (by omega) (by omega)]
            exact m4 i (by omega) q i3
          · rw [k2 _ (by omega)]
            exact g1 i q (by omega) i2 i3
        · rw [k2 p (by omega)]
          exact g2 p (by omega) (by omega)
        · rw [k2 p (by omega)]
          exact g3 p p1
end M4

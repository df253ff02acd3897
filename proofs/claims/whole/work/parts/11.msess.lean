/-! the reference's methods on one session -/
theorem hd_lt {l : List En} {i : Nat} (h : i < l.length) : hd l i = l[i] := by simp [hd, h]
theorem hd_set {l : List En} {i j : Nat} {e : En} (h : i < l.length) : hd (l.set i e) j = if j = i then e else hd l j := by
  unfold hd
  by_cases hj : j = i
  · subst hj
    simp [h]
  · rw [if_neg hj, List.getD_eq_getElem?_getD, List.getElem?_set_ne (Ne.symm hj), List.getD_eq_getElem?_getD]
theorem hd_erase {l : List En} {i j : Nat} : hd (l.eraseIdx i) j = if j < i then hd l j else hd l (j + 1) := by
  unfold hd
  rw [List.getD_eq_getElem?_getD, List.getElem?_eraseIdx]
  split <;> rw [List.getD_eq_getElem?_getD]
theorem len_erase {l : List En} {i : Nat} (h : i < l.length) : (l.eraseIdx i).length = l.length - 1 := by
  rw [List.length_eraseIdx, if_pos h]
theorem MS.lenle {f : Nat → Int32} {n : Nat} {c : Nat → Int32} {l : List En} (h : MS f n c l) : l.length ≤ 8 := h.2.2.1
theorem MS_set {f : Nat → Int32} {n i k : Nat} {c : Nat → Int32} {l : List En} {v : Int32} (h : MS f n c l) (hi : i < l.length) (hk : k < 6) : MS (va_up f (224 + 55 * n + 6 * i + k) v) n c (l.set i (va_up (hd l i) k v)) := by
  obtain ⟨m1, m2, m3, m4⟩ := h
  refine ⟨fun j hj => ?_, ?_, by rw [List.length_set]; exact m3, fun j hj q hq => ?_⟩
  · rw [va_up_off (by omega)]; exact m1 j hj
  · rw [va_up_off (by omega), List.length_set]; exact m2
  · rw [List.length_set] at hj
    rw [hd_set hi]
    by_cases hji : j = i
    · subst hji
      rw [if_pos rfl]
      by_cases hqk : q = k
      · subst hqk; rw [va_up_self, va_up_self]
      · rw [va_up_off (by omega), va_up_off hqk]; exact m4 j hj q hq
    · rw [if_neg hji, va_up_off (by omega)]; exact m4 j hj q hq
theorem MS_c {f : Nat → Int32} {n k : Nat} {c : Nat → Int32} {l : List En} {v : Int32} (h : MS f n c l) (hk : k < 6) : MS (va_up f (217 + 55 * n + k) v) n (va_up c k v) l := by
  obtain ⟨m1, m2, m3, m4⟩ := h
  refine ⟨fun j hj => ?_, ?_, m3, fun j hj q hq => ?_⟩
  · by_cases e : j = k
    · subst e; rw [va_up_self, va_up_self]
    · rw [va_up_off (by omega), va_up_off e]; exact m1 j hj
  · rw [va_up_off (by omega)]; exact m2
  · rw [va_up_off (by omega)]; exact m4 j hj q hq
theorem Out_set {f : Nat → Int32} {n k : Nat} {v : Int32} (h1 : 217 + 55 * n ≤ k) (h2 : k < 272 + 55 * n) : Out f (va_up f k v) n := fun j hj => va_up_off (by omega)
section M2
variable {sh : Sh} {ma : Nat → Nat} {h : Hp} {f : Nat → Int32} {n : Nat} {c : Nat → Int32} {l : List En}
theorem m_remove (X : MX sh ma h) (hn : n < 4) (hm : MS f n c l) {i : Nat} (hi : i < l.length) {K : Hp → Prop} (hk : ∀ g, MS g n c (l.eraseIdx i) → Out f g n → K (hset h (ma 1) g)) : f_X6_remove sh (ma 0) (nI n) (nI i) (hset h (ma 1) f) K := by
  obtain ⟨m1, m2, m3, m4⟩ := hm
  unfold f_X6_remove
  have e0 : (0 : Int32) = nI 0 := rfl
  simp (disch := omega) only [i1, i2, i3, i4, i5, i6, i7, i8, i9, i10, i11, i12, i17, i20, i21, i22, i23, i26, i32, i44, i48, i55, i57, i59, i60, i63, i99, i100, i101, i115, i116, i117, i126, i217, i437, i438, i598, i599, i623, i999, i1869, mx_m X, mx_r0 X, mx_t1 X, of_t, ofE_t, ofO_t, mx_ld X, mx_st X, gI_t, pI_t, ev_t, nI_add, nI_leI, nI_ltI, m2, nI_sub, e0]
  refine lo_ind (fun d s h' => ∃ k g, k + d = 224 + 55 * n + 6 * (l.length - 1) + 1 ∧ 224 + 55 * n + 6 * i ≤ k ∧ k ≤ 224 + 55 * n + 6 * (l.length - 1) ∧ s = nI k ∧ h' = hset h (ma 1) g ∧ g (217 + 55 * n + 6) = nI (l.length - 1) ∧ (∀ p, 224 + 55 * n + 6 * i ≤ p → p < k → g p = f (p + 6)) ∧ (∀ p, p ≠ 217 + 55 * n + 6 → (p < 224 + 55 * n + 6 * i ∨ k ≤ p) → g p = f p)) ?_ ?_ (d := 6 * (l.length - 1 - i) + 1) ⟨224 + 55 * n + 6 * i, va_up f (217 + 55 * n + 6) (nI (l.length - 1)), by omega, by omega, by omega, rfl, rfl, va_up_self _ _ _, fun p h1 h2 => by omega, fun p h1 _ => va_up_off h1⟩
  · rintro s h' ⟨k, g, h1, h2, h3, -⟩
    omega
  · rintro d rec hrec s h' ⟨k, g, h1, h2, h3, rfl, rfl, g1, g2, g3⟩
    have nx := fun z : k < 224 + 55 * n + 6 * (l.length - 1) => hrec _ _ ⟨k + 1, va_up g k (f (k + 6)), by omega, by omega, by omega, rfl, rfl, by rw [va_up_off (by omega)]; exact g1, fun p p1 p2 => by
      by_cases e : p = k
      · subst e; rw [va_up_self]
      · rw [va_up_off e]; exact g2 p p1 (by omega), fun p p1 p2 => by rw [va_up_off (by omega)]; exact g3 p p1 (by omega)⟩
    unfold b_X6_remove_22
    simp (disch := omega) only [i1, i2, i3, i4, i5, i6, i7, i8, i9, i10, i11, i12, i17, i20, i21, i22, i23, i26, i32, i44, i48, i55, i57, i59, i60, i63, i99, i100, i101, i115, i116, i117, i126, i217, i437, i438, i598, i599, i623, i999, i1869, mx_m X, mx_r0 X, mx_t1 X, of_t, ofE_t, ofO_t, mx_ld X, mx_st X, gI_t, pI_t, ev_t, nI_add, nI_leI, nI_ltI, g1, e0]
    by_cases hz : k = 224 + 55 * n + 6 * (l.length - 1)
    · rw [if_pos (by omega)]
      refine hk g ⟨fun q hq => ?_, ?_, ?_, fun j hj q hq => ?_⟩ (fun q hq => ?_)
      · rw [g3 _ (by omega) (by omega)]; exact m1 q hq
      · rw [len_erase hi]; exact g1
      · rw [len_erase hi]; omega
      · rw [len_erase hi] at hj
        rw [hd_erase]
        by_cases hji : j < i
        · rw [if_pos hji, g3 _ (by omega) (by omega)]; exact m4 j (by omega) q hq
        · rw [if_neg hji, g2 _ (by omega) (by omega), ← m4 (j + 1) (by omega) q hq]
          congr 1
          omega
      · exact g3 _ (by omega) (by omega)
    · rw [if_neg (by omega)]
      have e : g (k + 6) = f (k + 6) := g3 _ (by omega) (by omega)
      simp (disch := omega) only [e]
      exact nx (by omega)
/-- what a hand keeps, by a rule for each entry, from the last one down -/
theorem set_mid {a b : List En} {x e : En} {j : Nat} (h : a.length = j) : (a ++ x :: b).set j e = a ++ e :: b := by subst h; simp
theorem erase_mid {a b : List En} {x : En} {j : Nat} (h : a.length = j) : (a ++ x :: b).eraseIdx j = a ++ b := by
  subst h
  rw [List.eraseIdx_append_of_length_le (Nat.le_refl _), Nat.sub_self]
  rfl
theorem take_mid {l b : List En} {j : Nat} (hj : j < l.length) : l.take (j + 1) ++ b = l.take j ++ l[j] :: b := by
  rw [List.take_succ_eq_append_getElem hj, List.append_assoc]
  rfl
theorem cur_some {q : En → Option En} {l : List En} {j : Nat} {e : En} (hj : j < l.length) (hq : q (hd l j) = some e) : (l.take (j + 1) ++ (l.drop (j + 1)).filterMap q).set j e = l.take j ++ (l.drop j).filterMap q := by
  rw [hd_lt hj] at hq
  have h1 : l.drop j = l[j] :: l.drop (j + 1) := List.drop_eq_getElem_cons hj
  rw [take_mid hj, set_mid (by rw [List.length_take]; omega), h1, List.filterMap_cons, hq]
theorem cur_none {q : En → Option En} {l : List En} {j : Nat} (hj : j < l.length) (hq : q (hd l j) = none) : (l.take (j + 1) ++ (l.drop (j + 1)).filterMap q).eraseIdx j = l.take j ++ (l.drop j).filterMap q := by
  rw [hd_lt hj] at hq
  have h1 : l.drop j = l[j] :: l.drop (j + 1) := List.drop_eq_getElem_cons hj
  rw [take_mid hj, erase_mid (by rw [List.length_take]; omega), h1, List.filterMap_cons, hq]
theorem cur_hd {q : En → Option En} {l : List En} {j : Nat} (hj : j < l.length) : hd (l.take (j + 1) ++ (l.drop (j + 1)).filterMap q) j = hd l j := by
  unfold hd
  rw [List.getD_eq_getElem?_getD, List.getD_eq_getElem?_getD, List.getElem?_append_left (by rw [List.length_take]; omega), List.getElem?_take_of_lt (by omega)]
theorem cur_len {q : En → Option En} {l : List En} {j : Nat} (hj : j < l.length) : j < (l.take (j + 1) ++ (l.drop (j + 1)).filterMap q).length := by
  rw [List.length_append, List.length_take]; omega
theorem cur_le {q : En → Option En} {l : List En} {j : Nat} : (l.take j ++ (l.drop j).filterMap q).length ≤ l.length := by
  have := List.length_filterMap_le q (l.drop j)
  rw [List.length_append, List.length_take]
  rw [List.length_drop] at this
  omega
def liveE (e : En) : Option En := if e 5 = 1 ∧ e 3 = 0 then none else some e
theorem m_clean (X : MX sh ma h) (hn : n < 4) (hm : MS f n c l) {K : Int32 → Hp → Prop} (hk : ∀ g, MS g n c (l.filterMap liveE) → Out f g n → K (nI (l.length - (l.filterMap liveE).length)) (hset h (ma 1) g)) : f_X6_clean sh (ma 0) (nI n) (hset h (ma 1) f) K := by
  unfold f_X6_clean
  simp (disch := omega) only [i1, i2, i3, i4, i5, i6, i7, i8, i9, i10, i11, i12, i17, i20, i21, i22, i23, i26, i32, i44, i48, i55, i57, i59, i60, i63, i99, i100, i101, i115, i116, i117, i126, i217, i437, i438, i598, i599, i623, i999, i1869, mx_m X, mx_r0 X, mx_t1 X, of_t, ofE_t, ofO_t, mx_ld X, mx_st X, gI_t, pI_t, ev_t, nI_add, nI_leI, nI_ltI, hm.2.1]
  refine lo_ind (fun d s h' => ∃ j g, d = j + 1 ∧ j ≤ l.length ∧ s = (nI (l.length - (l.take j ++ (l.drop j).filterMap liveE).length), nI j - nI 1) ∧ h' = hset h (ma 1) g ∧ MS g n c (l.take j ++ (l.drop j).filterMap liveE) ∧ Out f g n) ?_ ?_ (d := l.length + 1) ⟨l.length, f, rfl, Nat.le_refl _, by simp; rfl, rfl, by simpa using hm, Out.rf⟩
  · rintro s h' ⟨j, g, h1, -⟩
    omega
  · rintro d rec hrec s h' ⟨j, g, h1, h2, rfl, rfl, h3, h4⟩
    unfold b_X6_clean_16
    cases j with
    | zero =>
      rw [if_pos (show nI 0 - nI 1 < 0 by decide)]
      simpa using hk g (by simpa using h3) h4
    | succ j =>
      have hjl : j < l.length := by omega
      obtain ⟨m1, m2, m3, m4⟩ := h3
      have h3 : MS g n c _ := ⟨m1, m2, m3, m4⟩
      have hcl := cur_len (q := liveE) hjl
      have e5 := m4 j hcl 5 (by omega)
      have e3 := m4 j hcl 3 (by omega)
      rw [cur_hd hjl] at e5 e3
      rw [nI_sub (by omega), Nat.add_sub_cancel, if_neg (nI_pos (by omega))]
      simp (disch := omega) only [i1, i2, i3, i4, i5, i6, i7, i8, i9, i10, i11, i12, i17, i20, i21, i22, i23, i26, i32, i44, i48, i55, i57, i59, i60, i63, i99, i100, i101, i115, i116, i117, i126, i217, i437, i438, i598, i599, i623, i999, i1869, mx_m X, mx_r0 X, mx_t1 X, of_t, ofE_t, ofO_t, mx_ld X, mx_st X, gI_t, pI_t, ev_t, nI_add, nI_leI, nI_ltI, e5, e3]
      have ej : nI j + -nI 1 = nI j - nI 1 := by rw [Int32.sub_eq_add_neg]
      rw [ej]
      by_cases c5 : hd l j 5 = nI 1
      · rw [if_pos c5]
        by_cases c3 : hd l j 3 = 0
        · rw [if_pos c3]
          have hq : liveE (hd l j) = none := if_pos ⟨c5, c3⟩
          refine m_remove X hn h3 hcl (fun g2 g3 g4 => ?_)
          rw [cur_none hjl hq] at g3
          have hle := cur_le (q := liveE) (l := l) (j := j + 1)
          have hlen := len_erase hcl
          rw [cur_none hjl hq] at hlen
          rw [show l.length - (l.take (j + 1) ++ (l.drop (j + 1)).filterMap liveE).length + 1 = l.length - (l.take j ++ (l.drop j).filterMap liveE).length by omega]
          exact hrec _ _ ⟨j, g2, by omega, by omega, rfl, rfl, g3, h4.tr g4⟩
        · rw [if_neg c3]
          have hq : liveE (hd l j) = some (hd l j) := if_neg (fun z => c3 z.2)
          have hcs := cur_some hjl hq
          have hset : (l.take (j + 1) ++ (l.drop (j + 1)).filterMap liveE).set j (hd l j) = l.take (j + 1) ++ (l.drop (j + 1)).filterMap liveE := by
            rw [← cur_hd (q := liveE) hjl, hd_lt hcl]; exact List.set_getElem_self hcl
          rw [hset] at hcs
          rw [hcs] at h3 ⊢
          exact hrec _ _ ⟨j, g, by omega, by omega, rfl, rfl, h3, h4⟩
      · rw [if_neg c5]
        have hq : liveE (hd l j) = some (hd l j) := if_neg (fun z => c5 z.1)
        have hcs := cur_some hjl hq
        have hset : (l.take (j + 1) ++ (l.drop (j + 1)).filterMap liveE).set j (hd l j) = l.take (j + 1) ++ (l.drop (j + 1)).filterMap liveE := by
          rw [← cur_hd (q := liveE) hjl, hd_lt hcl]; exact List.set_getElem_self hcl
        rw [hset] at hcs
        rw [hcs] at h3 ⊢
        exact hrec _ _ ⟨j, g, by omega, by omega, rfl, rfl, h3, h4⟩
end M2

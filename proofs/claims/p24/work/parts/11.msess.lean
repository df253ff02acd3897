/-! the reference's methods on one session -/
theorem hd_lt {l : List En} {i : Nat} (h : i < l.length) : hd l i = l[i] := by simp [hd, h]
theorem hd_set {l : List En} {i j : Nat} {e : En} (h : i < l.length) : hd (l.set i e) j = if j = i then e else hd l j := by
  unfold hd
  by_cases hj : j = i
  · subst hj
    simp [h]
  · rw [if_neg hj, List.getD_eq_getElem?_getD, List.getElem?_set_ne (Ne.symm hj), List.getD_eq_getElem?_getD]
theorem hd_erase {l : List En} {i j : Nat} : hd (l.eraseIdx i) j = if j < i then hd l j else hd l (j + 1) := by
  unfold hd
  rw [List.getD_eq_getElem?_getD, List.getElem?_eraseIdx]
  split <;> rw [List.getD_eq_getElem?_getD]
theorem len_erase {l : List En} {i : Nat} (h : i < l.length) : (l.eraseIdx i).length = l.length - 1 := by
  rw [List.length_eraseIdx, if_pos h]
theorem MS.lenle {f : Nat → Int32} {n : Nat} {c : Nat → Int32} {l : List En} (h : MS f n c l) : l.length ≤ 8 := h.2.2.1
theorem MS_set {f : Nat → Int32} {n i k : Nat} {c : Nat → Int32} {l : List En} {v : Int32} (h : MS f n c l) (hi : i < l.length) (hk : k < 6) : MS (va_up f (224 + 55 * n + 6 * i + k) v) n c (l.set i (va_up (hd l i) k v)) := by
  obtain ⟨m1, m2, m3, m4⟩ := h
  refine ⟨fun j hj => ?_, ?_, by rw [List.length_set]; exact m3, fun j hj q hq => ?_⟩
  · rw [va_up_off (by omega)]; exact m1 j hj
  · rw [va_up_off (by omega), List.length_set]; exact m2
  · rw [List.length_set] at hj
    rw [hd_set hi]
    by_cases hji : j = i
    · subst hji
      rw [if_pos rfl]
      by_cases hqk : q = k
      · subst hqk; rw [va_up_self, va_up_self]
      · rw [va_up_off (by omega), va_up_off hqk]; exact m4 j hj q hq
    · rw [if_neg hji, va_up_off (by omega)]; exact m4 j hj q hq
theorem MS_c {f : Nat → Int32} {n k : Nat} {c : Nat → Int32} {l : List En} {v : Int32} (h : MS f n c l) (hk : k < 6) : MS (va_up f (217 + 55 * n + k) v) n (va_up c k v) l := by
  obtain ⟨m1, m2, m3, m4⟩ := h
  refine ⟨fun j hj => ?_, ?_, m3, fun j hj q hq => ?_⟩
  · by_cases e : j = k
    · subst e; rw [va_up_self, va_up_self]
    · rw [va_up_off (by omega), va_up_off e]; exact m1 j hj
  · rw [va_up_off (by omega)]; exact m2
  · rw [va_up_off (by omega)]; exact m4 j hj q hq
theorem Out_set {f : Nat → Int32} {n k : Nat} {v : Int32} (h1 : 217 + 55 * n ≤ k) (h2 : k < 272 + 55 * n) : Out f (va_up f k v) n := fun j hj => va_up_off (by omega)
section M2
variable {sh : Sh} {ma : Nat → Nat} {h : Hp} {f : Nat → Int32} {n : Nat} {c : Nat → Int32} {l : List En}
/-- what a hand keeps, by a rule for each entry, from the last one down -/
theorem set_mid {a b : List En} {x e : En} {j : Nat} (h : a.length = j) : (a ++ x :: b).set j e = a ++ e :: b := by subst h; simp
theorem erase_mid {a b : List En} {x : En} {j : Nat} (h : a.length = j) : (a ++ x :: b).eraseIdx j = a ++ b := by
  subst h
  rw [List.eraseIdx_append_of_length_le (Nat.le_refl _), Nat.sub_self]
  rfl
theorem take_mid {l b : List En} {j : Nat} (hj : j < l.length) : l.take (j + 1) ++ b = l.take j ++ l[j] :: b := by
  rw [List.take_succ_eq_append_getElem hj, List.append_assoc]
  rfl
theorem cur_some {q : En → Option En} {l : List En} {j : Nat} {e : En} (hj : j < l.length) (hq : q (hd l j) = some e) : (l.take (j + 1) ++ (l.drop (j + 1)).filterMap q).set j e = l.take j ++ (l.drop j).filterMap q := by
  rw [hd_lt hj] at hq
  have h1 : l.drop j = l[j] :: l.drop (j + 1) := List.drop_eq_getElem_cons hj
  rw [take_mid hj, set_mid (by rw [List.length_take]; omega), h1, List.filterMap_cons, hq]
theorem cur_none {q : En → Option En} {l : List En} {j : Nat} (hj : j < l.length) (hq : q (hd l j) = none) : (l.take (j + 1) ++ (l.drop (j + 1)).filterMap q).eraseIdx j = l.take j ++ (l.drop j).filterMap q := by
  rw [hd_lt hj] at hq
  have h1 : l.drop j = l[j] :: l.drop (j + 1) := List.drop_eq_getElem_cons hj
  rw [take_mid hj, erase_mid (by rw [List.length_take]; omega), h1, List.filterMap_cons, hq]
theorem cur_hd {q : En → Option En} {l : List En} {j : Nat} (hj : j < l.length) : hd (l.take (j + 1) ++ (l.drop (j + 1)).filterMap q) j = hd l j := by
  unfold hd
  rw [List.getD_eq_getElem?_getD, List.getD_eq_getElem?_getD, List.getElem?_append_left (by rw [List.length_take]; omega), List.getElem?_take_of_lt (by omega)]
theorem cur_len {q : En → Option En} {l : List En} {j : Nat} (hj : j < l.length) : j < (l.take (j + 1) ++ (l.drop (j + 1)).filterMap q).length := by
  rw [List.length_append, List.length_take]; omega
theorem cur_le {q : En → Option En} {l : List En} {j : Nat} : (l.take j ++ (l.drop j).filterMap q).length ≤ l.length := by
  have := List.length_filterMap_le q (l.drop j)
  rw [List.length_append, List.length_take]
  rw [List.length_drop] at this
  omega
def liveE (e : En) : Option En := if e 5 = 1 ∧ e 3 = 0 then none else some e
end M2

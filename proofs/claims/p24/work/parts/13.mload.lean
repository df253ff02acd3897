/-! the reference: a new entry; what a session learns -/
/-- the place of a new entry of a table: ahead of those of higher tables at the end -/
def insN (t : Int32) (l : List En) : Nat → Nat
  | 0 => 0
  | k + 1 => if hd l k 0 ≤ t then k + 1 else insN t l k
theorem insN_le (t : Int32) (l : List En) : ∀ k, insN t l k ≤ k := by
  intro k
  induction k with
  | zero => exact Nat.le_refl _
  | succ k ih => unfold insN; split <;> omega
theorem hd_ins {l : List En} {i j : Nat} {e : En} (h : i ≤ l.length) : hd (l.insertIdx i e) j = if j < i then hd l j else if j = i then e else hd l (j - 1) := by
  unfold hd
  rw [List.getD_eq_getElem?_getD, List.getElem?_insertIdx]
  split
  · rw [List.getD_eq_getElem?_getD]
  · split
    · rw [if_pos (by omega)]; rfl
    · rw [List.getD_eq_getElem?_getD]
theorem len_ins {l : List En} {i : Nat} {e : En} (h : i ≤ l.length) : (l.insertIdx i e).length = l.length + 1 := List.length_insertIdx_of_le_length h _
section M4
variable {sh : Sh} {ma : Nat → Nat} {h : Hp} {f : Nat → Int32} {n : Nat} {c : Nat → Int32} {l : List En}
end M4

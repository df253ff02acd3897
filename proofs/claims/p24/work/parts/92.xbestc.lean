/-! a call on both sides: the best room -/
theorem ev12 {st : Nat} (h : st < 1000) : (if (0 : Int32) < nI st - 12 then nI st - 12 else (0 : Int32)) = nI (st - 12) := by
  by_cases c : 12 ≤ st
  · rw [show (12 : Int32) = nI 12 from rfl, nI_sub c]
    by_cases d : st = 12
    · subst d; rfl
    · rw [if_pos (by rw [show (0 : Int32) = nI 0 from rfl, nI_ltI (by omega) (by omega)]; omega)]
  · have : ∀ st, st < 12 → ¬ (0 : Int32) < nI st - 12 := by decide
    rw [if_neg (this st (by omega)), show st - 12 = 0 by omega]
    rfl
def bstv (v : Nat → Int32) : Nat → Nat → Int32 × Int32 → Int32 × Int32
  | 0, _, s => s
  | d + 1, r, s => bstv v d (r + 1) (if v r < 0 then s else if s.2 < 0 then (nI r, v r) else if s.2 ≤ v r then s else (nI r, v r))
theorem bstv_eq {v : Nat → Int32} : ∀ (d r : Nat) (x y f : Int32), f < 0 → (∃ q, r ≤ q ∧ q < r + d ∧ ¬ v q < 0) → bstv v d r (x, f) = bstv v d r (y, f) := by
  intro d
  induction d with
  | zero => rintro r x y f _ ⟨q, q1, q2, -⟩; omega
  | succ d ih =>
    rintro r x y f hf ⟨q, q1, q2, q3⟩
    unfold bstv
    dsimp only
    by_cases c : v r < 0
    · rw [if_pos c, if_pos c]
      have : q ≠ r := fun z => q3 (by rw [z]; exact c)
      exact ih (r + 1) x y f hf ⟨q, by omega, by omega, q3⟩
    · rw [if_neg c, if_neg c, if_pos hf, if_pos hf]
section XZ
variable {sh : Sh} {ad ma : Nat → Nat} {h h' h'' : Hp} {b : Nat → Nat} {m len T : Nat} {A : Nat → AS} {kp : Option AS} {tx : Nat → Int32} {n k rm st : Nat} {g : Nat → Int32} {rc : List (Int32 × Int32)}
end XZ

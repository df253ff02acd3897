/-! the best room: the reference's loops -/
section XY
variable {sh : Sh} {ad ma : Nat → Nat} {h h' h'' : Hp} {b : Nat → Nat} {m len T : Nat} {A : Nat → AS} {kp : Option AS} {tx : Nat → Int32} {n k rm : Nat} {g : Nat → Int32} {rc : List (Int32 × Int32)}
theorem drop_rcd {k : Nat} (hk : k < rc.length) : rc.drop k = rcd rc k :: rc.drop (k + 1) := by
  rw [List.drop_eq_getElem_cons hk]
  congr 1
  unfold rcd
  rw [List.getD_eq_getElem?_getD, List.getElem?_eq_getElem hk]; rfl
theorem HM_EQa (X : WK sh ad ma) (f : HM ma h h') : EQa ad h h' := fun q => ⟨f.2 _ (X.2.1 q 6) (X.2.1 q 7) (X.2.1 q 8), by rw [f.1]⟩
end XY

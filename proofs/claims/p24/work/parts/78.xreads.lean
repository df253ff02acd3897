/-! a call on both sides: what there is -/
section XJ
variable {sh : Sh} {ad ma : Nat → Nat} {h h' : Hp} {f g : Nat → Int32} {S : Nat → Ses} {os : List En} {rc : List (Int32 × Int32)}
theorem tcS_congr {P Q : Nat → Prop} : ∀ k, (∀ t, t < k → (P t ↔ Q t)) → tcS P k = tcS Q k := by
  intro k
  induction k with
  | zero => intro _; rfl
  | succ k ih =>
    intro h
    by_cases c : P k
    · rw [tcS_y c, tcS_y ((h k (by omega)).mp c), ih (fun t ht => h t (by omega))]
    · rw [tcS_n c, tcS_n (fun z => c ((h k (by omega)).mpr z)), ih (fun t ht => h t (by omega))]
theorem olN_congr {set : Int32} {v v' g : Nat → Int32} : ∀ k, (∀ t, t < k → ((set >>> (nI t &&& 31)) &&& 1) = 1 → v t = v' t) → olN set v g k = olN set v' g k := by
  intro k
  induction k with
  | zero => intro _; rfl
  | succ k ih =>
    intro h
    rw [olN_s, olN_s, ih (fun t ht => h t (by omega))]
    by_cases hb : ((set >>> (nI k &&& 31)) &&& 1) = 1
    · rw [h k (by omega) hb]
    · rw [if_neg (fun z => hb z.1), if_neg (fun z => hb z.1)]
variable {b : Nat → Nat} {m len T : Nat} {A : Nat → AS} {kp : Option AS} {tx : Nat → Int32}
end XJ

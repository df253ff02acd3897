/-! the reference: ticks, changes -/
theorem come1_g0 {g : Nat → Int32} {i : Nat} {s : Ses} {v : Int32} : come1 (va_up g 0 v) i s = come1 g i s := by
  unfold come1
  have e1 : tlg (va_up g 0 v) = tlg g := by funext k; unfold tlg; rw [va_up_off (by omega)]
  have e2 : verg (va_up g 0 v) = verg g := by funext k; unfold verg; rw [va_up_off (by omega)]
  rw [e1, e2]
theorem comeN_g0 {g : Nat → Int32} {i k : Nat} {S : Nat → Ses} {v : Int32} : comeN (va_up g 0 v) i S k = comeN g i S k := by
  unfold comeN
  funext n
  rw [come1_g0]
theorem atS_g0 {g : Nat → Int32} {a v : Int32} : ∀ (d k : Nat) (S : Nat → Ses), atS (va_up g 0 v) a d k S = atS g a d k S := by
  intro d
  induction d with
  | zero => intro k S; rfl
  | succ d ih =>
    intro k S
    unfold atS
    rw [va_up_off (by omega), comeN_g0, ih, ih]
/-- so many ticks from tick tk on -/
def tkS (g : Nat → Int32) (N : Nat) : Nat → Nat → (Nat → Ses) → (Nat → Ses) × Nat
  | 0, _, S => (S, 0)
  | d + 1, tk, S => ((tkS g N d (tk + 1) (atS g (nI (tk + 1)) N 0 S).1).1, (atS g (nI (tk + 1)) N 0 S).2 + (tkS g N d (tk + 1) (atS g (nI (tk + 1)) N 0 S).1).2)
theorem tkS_good {g : Nat → Int32} {N : Nat} (hN : N ≤ 100) : ∀ (d tk : Nat) (S : Nat → Ses), sgood N S → sgood N (tkS g N d tk S).1 := by
  intro d
  induction d with
  | zero => intro _ _ h; exact h
  | succ d ih => intro tk S h; exact ih _ _ (atS_good hN _ N 0 S (by omega) h)
section M8
variable {sh : Sh} {ma : Nat → Nat} {h : Hp} {f g : Nat → Int32} {S : Nat → Ses} {os : List En} {rc : List (Int32 × Int32)}
/-- the globals behind a change -/
def altG (g : Nat → Int32) (t j N : Nat) : Nat → Int32 :=
  va_up (va_up (va_up (va_up (va_up g (11 + t) (g (11 + t) ^^^ ((1 : Int32) <<< (nI j &&& 31)))) (5 + t) (g (5 + t) + 1)) (17 + N) (nI t)) (117 + N) (g 0 + g 3)) 1 (nI (N + 1))
end M8

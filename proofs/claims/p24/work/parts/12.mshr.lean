/-! the reference: what goes, what is there, what comes in, what is learned -/
section M3
variable {sh : Sh} {ma : Nat → Nat} {h : Hp} {f : Nat → Int32} {n : Nat} {c : Nat → Int32} {l : List En}
theorem shr_len (most : Int32) : ∀ (k : Nat) (l : List En), l.length ≤ 8 → (shr most k l).1.length + (shr most k l).2 = l.length := by
  intro k
  induction k with
  | zero => intro l _; rfl
  | succ k ih =>
    intro l hl
    unfold shr
    split
    · next hc =>
      rcases oldN_lt l l.length hl with e | ⟨j, j1, j2, -⟩
      · exact absurd (by show oldN l l.length < 0; rw [e]; decide) hc.2
      · have hj : (oldI l).toNatClampNeg = j := by
          show (oldN l l.length).toNatClampNeg = j
          rw [j2, nI_clamp (by omega)]
        rw [hj]
        have h1 := len_erase j1
        have := ih (l.eraseIdx j) (by omega)
        dsimp only
        omega
    · rfl
/-- the place of the last entry of which p holds, among the first n -/
def lastN (p : En → Prop) [DecidablePred p] (l : List En) : Nat → Int32
  | 0 => -1
  | n + 1 => if p (hd l n) then nI n else lastN p l n
def lastI (p : En → Prop) [DecidablePred p] (l : List En) : Int32 := lastN p l l.length
end M3

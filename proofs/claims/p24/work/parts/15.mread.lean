/-! the reference's whole state, and what it tells of it -/
def rcd (rc : List (Int32 × Int32)) (p : Nat) : Int32 × Int32 := rc.getD p (0, 0)
/-- the row of numbers f holds: globals g, the sessions S, the open statements os, the latest ones rc -/
def MA (f g : Nat → Int32) (S : Nat → (Nat → Int32) × List En) (os : List En) (rc : List (Int32 × Int32)) : Prop :=
  (∀ k, k < 217 → f k = g k) ∧ (∀ n, n < 4 → MS f n (S n).1 (S n).2) ∧ (f 437 = nI os.length ∧ os.length ≤ 16 ∧ ∀ p, p < os.length → ∀ k, k < 10 → f (438 + 10 * p + k) = hd os p k) ∧
  f 598 = nI rc.length ∧ rc.length ≤ 12 ∧ ∀ p, p < rc.length → f (599 + 2 * p) = (rcd rc p).1 ∧ f (600 + 2 * p) = (rcd rc p).2
/-- does a set have a table -/
def bitp (x : Int32) (t : Nat) : Prop := ((x >>> (nI t &&& 31)) &&& 1) = 1
/-- r is the least value of those with P, or d where there is none -/
def isMin (P : En → Prop) (val : En → Int32) (d : Int32) (l : List En) (r : Int32) : Prop := (r = d ∧ ∀ o ∈ l, ¬ P o) ∨ ((∃ o ∈ l, P o ∧ val o = r) ∧ ∀ o ∈ l, P o → r ≤ val o)
theorem isMin_nil {P : En → Prop} {val : En → Int32} {d : Int32} : isMin P val d [] d := Or.inl ⟨rfl, fun _ h => absurd h List.not_mem_nil⟩
theorem isMin_skip {P : En → Prop} {val : En → Int32} {d r : Int32} {l : List En} {o : En} (h : isMin P val d l r) (ho : ¬ P o) : isMin P val d (l ++ [o]) r := by
  rcases h with ⟨h1, h2⟩ | ⟨⟨o1, a1, a2, a3⟩, h2⟩
  · refine Or.inl ⟨h1, fun q hq => ?_⟩
    rcases List.mem_append.mp hq with z | z
    · exact h2 q z
    · rw [List.mem_singleton.mp z]; exact ho
  · refine Or.inr ⟨⟨o1, List.mem_append_left _ a1, a2, a3⟩, fun q hq hP => ?_⟩
    rcases List.mem_append.mp hq with z | z
    · exact h2 q z hP
    · rw [List.mem_singleton.mp z] at hP; exact absurd hP ho
theorem isMin_first {P : En → Prop} {val : En → Int32} {d r : Int32} {l : List En} {o : En} (h : isMin P val d l r) (hr : r = d) (hd : ∀ q ∈ l, P q → val q ≠ d) (ho : P o) : isMin P val d (l ++ [o]) (val o) := by
  rcases h with ⟨h1, h2⟩ | ⟨⟨o1, a1, a2, a3⟩, h2⟩
  · refine Or.inr ⟨⟨o, List.mem_append_right _ (List.mem_singleton.mpr rfl), ho, rfl⟩, fun q hq hP => ?_⟩
    rcases List.mem_append.mp hq with z | z
    · exact absurd hP (h2 q z)
    · rw [List.mem_singleton.mp z]; exact Int32.le_refl _
  · exact absurd (a3.trans hr) (hd o1 a1 a2)
theorem isMin_more {P : En → Prop} {val : En → Int32} {d r : Int32} {l : List En} {o : En} (h : isMin P val d l r) (hr : r ≠ d) (ho : P o) (hle : r ≤ val o) : isMin P val d (l ++ [o]) r := by
  rcases h with ⟨h1, h2⟩ | ⟨⟨o1, a1, a2, a3⟩, h2⟩
  · exact absurd h1 hr
  · refine Or.inr ⟨⟨o1, List.mem_append_left _ a1, a2, a3⟩, fun q hq hP => ?_⟩
    rcases List.mem_append.mp hq with z | z
    · exact h2 q z hP
    · rw [List.mem_singleton.mp z]; exact hle
theorem isMin_less {P : En → Prop} {val : En → Int32} {d r : Int32} {l : List En} {o : En} (h : isMin P val d l r) (hr : r ≠ d) (ho : P o) (hle : ¬ r ≤ val o) : isMin P val d (l ++ [o]) (val o) := by
  rcases h with ⟨h1, h2⟩ | ⟨⟨o1, a1, a2, a3⟩, h2⟩
  · exact absurd h1 hr
  · refine Or.inr ⟨⟨o, List.mem_append_right _ (List.mem_singleton.mpr rfl), ho, rfl⟩, fun q hq hP => ?_⟩
    rcases List.mem_append.mp hq with z | z
    · have := h2 q z hP
      rw [Int32.le_iff_toInt_le] at this hle ⊢
      omega
    · rw [List.mem_singleton.mp z]; exact Int32.le_refl _
theorem isMin_uniq {P : En → Prop} {val : En → Int32} {d r r' : Int32} {l : List En} (h : isMin P val d l r) (h' : isMin P val d l r') : r = r' := by
  rcases h with ⟨h1, h2⟩ | ⟨⟨o1, a1, a2, a3⟩, h2⟩ <;> rcases h' with ⟨k1, k2⟩ | ⟨⟨o2, b1, b2, b3⟩, k2⟩
  · rw [h1, k1]
  · exact absurd b2 (h2 o2 b1)
  · exact absurd a2 (k2 o1 a1)
  · have z1 := h2 o2 b1 b2
    have z2 := k2 o1 a1 a2
    rw [b3] at z1
    rw [a3] at z2
    exact Int32.le_antisymm z1 z2
theorem take_hd {l : List En} {k : Nat} (h : k < l.length) : l.take (k + 1) = l.take k ++ [hd l k] := by
  rw [List.take_succ_eq_append_getElem h, hd_lt h]
def cntN (l : List En) (p : En → Prop) [DecidablePred p] : Nat → Nat
  | 0 => 0
  | k + 1 => if p (hd l k) then cntN l p k + 1 else cntN l p k
def sum5 (l : List En) : Nat → Int32
  | 0 => 0
  | k + 1 => sum5 l k + hd l k 5
section M6
variable {sh : Sh} {ma : Nat → Nat} {h : Hp} {f g : Nat → Int32} {S : Nat → (Nat → Int32) × List En} {os : List En} {rc : List (Int32 × Int32)}
end M6

/-! the reference: a statement ends -/
/-- one statement less works by the entries of a row, from table k on -/
noncomputable def relA (o : En) : Nat → Nat → List En → List En
  | 0, _, l => l
  | d + 1, k, l => relA o d (k + 1) (if ((o 2 >>> (nI k &&& 31)) &&& 1) = 1 then l.set (lastI (fun e => e 0 = nI k ∧ e 1 = o (4 + k)) l).toNatClampNeg (va_up (hd l (lastI (fun e => e 0 = nI k ∧ e 1 = o (4 + k)) l).toNatClampNeg) 3 (hd l (lastI (fun e => e 0 = nI k ∧ e 1 = o (4 + k)) l).toNatClampNeg 3 - 1)) else l)
/-- the row's entries are there -/
def pins (o : En) (l : List En) : Prop := ∀ t, t < 6 → bitp (o 2) t → 0 ≤ o (4 + t) ∧ ∃ i, i < l.length ∧ hd l i 0 = nI t ∧ hd l i 1 = o (4 + t)
theorem lastN_has {p : En → Prop} [DecidablePred p] {l : List En} {i : Nat} : ∀ n, i < n → n < 2 ^ 31 → p (hd l i) → ∃ j, j < n ∧ lastN p l n = nI j ∧ p (hd l j) := by
  intro n hi hn hp
  induction n with
  | zero => omega
  | succ n ih =>
    unfold lastN
    by_cases e : p (hd l n)
    · rw [if_pos e]; exact ⟨n, by omega, rfl, e⟩
    · rw [if_neg e]
      have : i ≠ n := fun z => e (z ▸ hp)
      obtain ⟨j, j1, j2⟩ := ih (by omega) (by omega)
      exact ⟨j, by omega, j2⟩
theorem pins_set {o : En} {l : List En} {j : Nat} {v : Int32} (h : pins o l) (hj : j < l.length) : pins o (l.set j (va_up (hd l j) 3 v)) := by
  intro t ht hb
  obtain ⟨h0, i, i1, i2, i3⟩ := h t ht hb
  refine ⟨h0, i, by rw [List.length_set]; exact i1, ?_, ?_⟩
  · rw [hd_set hj]
    by_cases e : i = j
    · subst e; rw [if_pos rfl, va_up_off (by decide)]; exact i2
    · rw [if_neg e]; exact i2
  · rw [hd_set hj]
    by_cases e : i = j
    · subst e; rw [if_pos rfl, va_up_off (by decide)]; exact i3
    · rw [if_neg e]; exact i3
section ME
variable {sh : Sh} {ma : Nat → Nat} {h : Hp} {f g : Nat → Int32} {S : Nat → Ses} {os : List En} {rc : List (Int32 × Int32)}
end ME

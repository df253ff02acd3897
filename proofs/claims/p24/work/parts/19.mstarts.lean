/-! the reference: a statement starts, whole; it ends -/
def rem12 (rc : List (Int32 × Int32)) (x : Int32 × Int32) : List (Int32 × Int32) := (if rc.length = 12 then rc.drop 1 else rc) ++ [x]
theorem rcd_app {rc : List (Int32 × Int32)} {x : Int32 × Int32} {p : Nat} : rcd (rc ++ [x]) p = if p < rc.length then rcd rc p else if p = rc.length then x else (0, 0) := by
  unfold rcd
  rw [List.getD_eq_getElem?_getD]
  split
  · next h => rw [List.getElem?_append_left h, List.getD_eq_getElem?_getD]
  · next h =>
    rw [List.getElem?_append_right (by omega)]
    split
    · next e => subst e; rw [Nat.sub_self]; rfl
    · next e =>
      rw [List.getElem?_eq_none (by simp; omega)]
      rfl
theorem rcd_drop {rc : List (Int32 × Int32)} {p : Nat} : rcd (rc.drop 1) p = rcd rc (p + 1) := by
  unfold rcd
  rw [List.getD_eq_getElem?_getD, List.getElem?_drop, List.getD_eq_getElem?_getD, Nat.add_comm 1]
section MA1
variable {sh : Sh} {ma : Nat → Nat} {h : Hp} {f g : Nat → Int32} {S : Nat → Ses} {os : List En} {rc : List (Int32 × Int32)}
theorem MA_rc {f' : Nat → Int32} {rc' : List (Int32 × Int32)} (hm : MA f g S os rc) (ho : ∀ k, k < 598 → f' k = f k) (h1 : f' 598 = nI rc'.length) (h2 : rc'.length ≤ 12) (h3 : ∀ p, p < rc'.length → f' (599 + 2 * p) = (rcd rc' p).1 ∧ f' (600 + 2 * p) = (rcd rc' p).2) : MA f' g S os rc' := by
  obtain ⟨a1, a2, ⟨a3, a4, a5⟩, a6, a7, a8⟩ := hm
  refine ⟨fun j hj => by rw [ho _ (by omega)]; exact a1 j hj, fun m hm => ?_, ⟨by rw [ho _ (by omega)]; exact a3, a4, fun p hp q hq => by rw [ho _ (by omega)]; exact a5 p hp q hq⟩, h1, h2, h3⟩
  obtain ⟨m1, m2, m3, m4⟩ := a2 m hm
  exact ⟨fun q hq => by rw [ho _ (by omega)]; exact m1 q hq, by rw [ho _ (by omega)]; exact m2, m3, fun i hi q hq => by rw [ho _ (by omega)]; exact m4 i hi q hq⟩
/-- the counts of a session that asks, and its hand -/
def askC (N kn : Nat) (c : Nat → Int32) : Nat → Int32 := va_up (if N ≤ kn then c else va_up c 4 (c 4 + 1)) 0 (nI N)
def askL (g : Nat → Int32) (N kn : Nat) (l : List En) : List En := lrn (tlg g) (verg g) (N - kn) kn l
theorem MA_push {row : En} (hm : MA f g S os rc) (hl : os.length < 16) (h1 : ∀ k, k < 10 → f (438 + 10 * os.length + k) = row k) : MA (va_up f 437 (nI (os.length + 1))) g S (os ++ [row]) rc := by
  obtain ⟨a1, a2, ⟨a3, a4, a5⟩, a6, a7, a8⟩ := hm
  refine ⟨fun j hj => by rw [va_up_off (by omega)]; exact a1 j hj, fun m hm => ?_, ⟨by rw [va_up_self, List.length_append]; rfl, by rw [List.length_append]; exact hl, fun p hp k hk => ?_⟩, by rw [va_up_off (by omega)]; exact a6, a7, fun p hp => ⟨by rw [va_up_off (by omega)]; exact (a8 p hp).1, by rw [va_up_off (by omega)]; exact (a8 p hp).2⟩⟩
  · obtain ⟨m1, m2, m3, m4⟩ := a2 m hm
    exact ⟨fun q hq => by rw [va_up_off (by omega)]; exact m1 q hq, by rw [va_up_off (by omega)]; exact m2, m3, fun i hi q hq => by rw [va_up_off (by omega)]; exact m4 i hi q hq⟩
  · rw [va_up_off (by omega)]
    unfold hd
    rw [List.getD_eq_getElem?_getD]
    by_cases e : p < os.length
    · rw [List.getElem?_append_left e, ← List.getD_eq_getElem?_getD]
      exact a5 p e k hk
    · have hp2 : p = os.length := by
        have : p < os.length + 1 := by rw [List.length_append] at hp; exact hp
        omega
      subst hp2
      rw [List.getElem?_append_right (Nat.le_refl _), Nat.sub_self]
      exact h1 k hk
theorem lrn_ver {N : Nat} (t3 : ∀ k, k < N → tlg g k < 6 ∧ g (17 + k) = nI (tlg g k)) {v : Nat → Int32} (hv : ∀ t, t < 6 → v t = verg g t) : ∀ (d q : Nat) (l : List En), q + d ≤ N → lrn (tlg g) v d q l = lrn (tlg g) (verg g) d q l := by
  intro d
  induction d with
  | zero => intro q l _; rfl
  | succ d ih =>
    intro q l hq
    unfold lrn
    rw [hv _ (t3 q (by omega)).1]
    exact ih (q + 1) _ (by omega)
end MA1

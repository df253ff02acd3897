/-! the reference: notices that come, ticks, changes of tables -/
abbrev Ses : Type := (Nat → Int32) × List En
def tlg (g : Nat → Int32) (k : Nat) : Nat := (g (17 + k)).toNatClampNeg
def verg (g : Nat → Int32) (t : Nat) : Int32 := g (5 + t)
/-- a notice comes to a session -/
def come1 (g : Nat → Int32) (i : Nat) (s : Ses) : Ses :=
  if s.1 0 ≤ nI i then (va_up s.1 0 (nI (i + 1)), lrn (tlg g) (verg g) (i + 1 - (s.1 0).toNatClampNeg) (s.1 0).toNatClampNeg s.2) else (va_up s.1 5 (s.1 5 + 1), s.2)
/-- what is told of the notices is a table -/
def tgood (g : Nat → Int32) (N : Nat) : Prop := N ≤ 100 ∧ g 1 = nI N ∧ ∀ k, k < N → tlg g k < 6 ∧ g (17 + k) = nI (tlg g k)
def sgood (N : Nat) (S : Nat → Ses) : Prop := ∀ n, n < 4 → alive (S n).2 ∧ ∃ kn, kn ≤ N ∧ (S n).1 0 = nI kn
theorem alive_lrn {tl : Nat → Nat} {ver : Nat → Int32} : ∀ (d k : Nat) (l : List En), alive l → alive (lrn tl ver d k l) := by
  intro d
  induction d with
  | zero => intro k l h; exact h
  | succ d ih => intro k l h; exact ih (k + 1) _ (alive_lq h)
theorem come1_good {g : Nat → Int32} {N i : Nat} {s : Ses} (hN : N ≤ 100) (hi : i < N) (h : alive s.2 ∧ ∃ kn, kn ≤ N ∧ s.1 0 = nI kn) : alive (come1 g i s).2 ∧ ∃ kn, kn ≤ N ∧ (come1 g i s).1 0 = nI kn := by
  obtain ⟨h1, kn, h2, h3⟩ := h
  unfold come1
  split
  · exact ⟨alive_lrn _ _ _ h1, i + 1, hi, va_up_self (s.1) 0 (nI (i + 1))⟩
  · exact ⟨h1, kn, h2, (va_up_off (f := s.1) (k := 5) (j := 0) (v := s.1 5 + 1) (by decide)).trans h3⟩
theorem va_up_id {α : Type} {f : Nat → α} {k : Nat} {v : α} (e : f k = v) : va_up f k v = f := by
  funext j
  simp only [va_up]
  split
  · subst_vars; rfl
  · rfl
theorem MA_sess {f f' g : Nat → Int32} {S : Nat → Ses} {os : List En} {rc : List (Int32 × Int32)} {n : Nat} {c : Nat → Int32} {l : List En} (hm : MA f g S os rc) (hn : n < 4) (h1 : MS f' n c l) (h2 : Out f f' n) : MA f' g (va_up S n (c, l)) os rc := by
  obtain ⟨a1, a2, ⟨a3, a4, a5⟩, a6, a7, a8⟩ := hm
  refine ⟨fun k hk => by rw [h2 _ (by omega)]; exact a1 k hk, fun m hm => ?_, ⟨by rw [h2 _ (by omega)]; exact a3, a4, fun p hp k hk => by rw [h2 _ (by omega)]; exact a5 p hp k hk⟩, by rw [h2 _ (by omega)]; exact a6, a7, fun p hp => ⟨by rw [h2 _ (by omega)]; exact (a8 p hp).1, by rw [h2 _ (by omega)]; exact (a8 p hp).2⟩⟩
  by_cases e : m = n
  · subst e; rw [va_up_self]; exact h1
  · rw [va_up_off e]
    obtain ⟨m1, m2, m3, m4⟩ := a2 m hm
    exact ⟨fun k hk => by rw [h2 _ (by omega)]; exact m1 k hk, by rw [h2 _ (by omega)]; exact m2, m3, fun i hi k hk => by rw [h2 _ (by omega)]; exact m4 i hi k hk⟩
/-- a number among the globals -/
theorem MA_g {f g : Nat → Int32} {S : Nat → Ses} {os : List En} {rc : List (Int32 × Int32)} {k : Nat} {v : Int32} (hm : MA f g S os rc) (hk : k < 217) : MA (va_up f k v) (va_up g k v) S os rc := by
  obtain ⟨a1, a2, ⟨a3, a4, a5⟩, a6, a7, a8⟩ := hm
  refine ⟨fun j hj => ?_, fun m hm => ?_, ⟨by rw [va_up_off (by omega)]; exact a3, a4, fun p hp q hq => by rw [va_up_off (by omega)]; exact a5 p hp q hq⟩, by rw [va_up_off (by omega)]; exact a6, a7, fun p hp => ⟨by rw [va_up_off (by omega)]; exact (a8 p hp).1, by rw [va_up_off (by omega)]; exact (a8 p hp).2⟩⟩
  · by_cases e : j = k
    · subst e; rw [va_up_self, va_up_self]
    · rw [va_up_off e, va_up_off e]; exact a1 j hj
  · obtain ⟨m1, m2, m3, m4⟩ := a2 m hm
    exact ⟨fun q hq => by rw [va_up_off (by omega)]; exact m1 q hq, by rw [va_up_off (by omega)]; exact m2, m3, fun i hi q hq => by rw [va_up_off (by omega)]; exact m4 i hi q hq⟩
section M7
variable {sh : Sh} {ma : Nat → Nat} {h : Hp} {f g : Nat → Int32} {S : Nat → Ses} {os : List En} {rc : List (Int32 × Int32)}
def comeN (g : Nat → Int32) (i : Nat) (S : Nat → Ses) (k : Nat) : Nat → Ses := fun n => if n < k then come1 g i (S n) else S n
theorem comeN_good {N i : Nat} (hN : N ≤ 100) (hi : i < N) (hs : sgood N S) (k : Nat) : sgood N (comeN g i S k) := by
  intro n hn
  unfold comeN
  split
  · exact come1_good hN hi (hs n hn)
  · exact hs n hn
theorem comeN_succ {i k : Nat} : va_up (comeN g i S k) k (come1 g i (S k)) = comeN g i S (k + 1) := by
  funext n
  unfold comeN va_up
  by_cases e : n = k
  · subst e; rw [if_pos rfl, if_pos (by omega)]
  · rw [if_neg e]
    dsimp only
    by_cases e2 : n < k
    · rw [if_pos e2, if_pos (by omega)]
    · rw [if_neg e2, if_neg (by omega)]
/-- the notices that are due at a tick come: so many of them still to be looked at, from k on; and how many came -/
def atS (g : Nat → Int32) (at_ : Int32) : Nat → Nat → (Nat → Ses) → (Nat → Ses) × Nat
  | 0, _, S => (S, 0)
  | d + 1, k, S => if g (117 + k) = at_ then ((atS g at_ d (k + 1) (comeN g k S 4)).1, (atS g at_ d (k + 1) (comeN g k S 4)).2 + 1) else atS g at_ d (k + 1) S
theorem atS_good {N : Nat} (hN : N ≤ 100) (at_ : Int32) : ∀ (d k : Nat) (S : Nat → Ses), k + d = N → sgood N S → sgood N (atS g at_ d k S).1 := by
  intro d
  induction d with
  | zero => intro k S _ h; exact h
  | succ d ih =>
    intro k S hk h
    unfold atS
    split
    · exact ih (k + 1) _ (by omega) (comeN_good hN (by omega) h 4)
    · exact ih (k + 1) _ (by omega) h
end M7

/-! the reference's heap: its row of 623 numbers set apart; steps by simp -/
theorem i0 : (0 : Int32) = nI 0 := rfl
theorem i1 : (1 : Int32) = nI 1 := rfl
theorem i2 : (2 : Int32) = nI 2 := rfl
theorem i3 : (3 : Int32) = nI 3 := rfl
theorem i4 : (4 : Int32) = nI 4 := rfl
theorem i5 : (5 : Int32) = nI 5 := rfl
theorem i6 : (6 : Int32) = nI 6 := rfl
theorem i7 : (7 : Int32) = nI 7 := rfl
theorem i8 : (8 : Int32) = nI 8 := rfl
theorem i9 : (9 : Int32) = nI 9 := rfl
theorem i10 : (10 : Int32) = nI 10 := rfl
theorem i11 : (11 : Int32) = nI 11 := rfl
theorem i12 : (12 : Int32) = nI 12 := rfl
theorem i17 : (17 : Int32) = nI 17 := rfl
theorem i20 : (20 : Int32) = nI 20 := rfl
theorem i21 : (21 : Int32) = nI 21 := rfl
theorem i22 : (22 : Int32) = nI 22 := rfl
theorem i23 : (23 : Int32) = nI 23 := rfl
theorem i26 : (26 : Int32) = nI 26 := rfl
theorem i32 : (32 : Int32) = nI 32 := rfl
theorem i44 : (44 : Int32) = nI 44 := rfl
theorem i48 : (48 : Int32) = nI 48 := rfl
theorem i55 : (55 : Int32) = nI 55 := rfl
theorem i57 : (57 : Int32) = nI 57 := rfl
theorem i59 : (59 : Int32) = nI 59 := rfl
theorem i60 : (60 : Int32) = nI 60 := rfl
theorem i63 : (63 : Int32) = nI 63 := rfl
theorem i99 : (99 : Int32) = nI 99 := rfl
theorem i100 : (100 : Int32) = nI 100 := rfl
theorem i101 : (101 : Int32) = nI 101 := rfl
theorem i115 : (115 : Int32) = nI 115 := rfl
theorem i116 : (116 : Int32) = nI 116 := rfl
theorem i117 : (117 : Int32) = nI 117 := rfl
theorem i126 : (126 : Int32) = nI 126 := rfl
theorem i217 : (217 : Int32) = nI 217 := rfl
theorem i437 : (437 : Int32) = nI 437 := rfl
theorem i438 : (438 : Int32) = nI 438 := rfl
theorem i598 : (598 : Int32) = nI 598 := rfl
theorem i599 : (599 : Int32) = nI 599 := rfl
theorem i623 : (623 : Int32) = nI 623 := rfl
theorem i999 : (999 : Int32) = nI 999 := rfl
theorem i1869 : (1869 : Int32) = nI 1869 := rfl
theorem nI_mul (a b : Nat) : nI a * nI b = nI (a * b) := (Int32.ofNat_mul a b).symm
theorem nI_sub {a b : Nat} (h : b ≤ a) : nI a - nI b = nI (a - b) := by
  obtain ⟨c, rfl⟩ := Nat.exists_eq_add_of_le h
  rw [Nat.add_sub_cancel_left, ← nI_add, Int32.add_comm, Int32.add_sub_cancel]
theorem nI_dec {a : Nat} (h : 1 ≤ a) : nI a + -nI 1 = nI (a - 1) := by
  rw [← Int32.sub_eq_add_neg, nI_sub h]
theorem vp_nI {k n : Nat} (h : k < n) (hn : n < 2 ^ 31) : vp_in (nI k) n := nI_in h hn
theorem if_y {P : Prop} [Decidable P] {A B : Prop} (c : P) (h : A) : (if P then A else B) := by rw [if_pos c]; exact h
theorem if_n {P : Prop} [Decidable P] {A B : Prop} (c : ¬ P) (h : B) : (if P then A else B) := by rw [if_neg c]; exact h
def hset (h : Hp) (a : Nat) (f : Nat → Int32) : Hp := (va_up h.1 a f, h.2)
theorem gr_hset {h : Hp} {a b k : Nat} {f : Nat → Int32} : gr (hset h a f) b k = gr h b k := rfl
theorem gi_hset {h : Hp} {a k : Nat} {f : Nat → Int32} : gi (hset h a f) a k = f k := by simp [gi, hset, va_up]
theorem gi_hset_ne {h : Hp} {a b k : Nat} {f : Nat → Int32} (e : b ≠ a) : gi (hset h a f) b k = gi h b k := by simp [gi, hset, va_up, e]
theorem si_hset {h : Hp} {a k : Nat} {f : Nat → Int32} {v : Int32} : si (hset h a f) a k v = hset h a (va_up f k v) := by
  simp only [si, hset, va_up_self]
  congr 1
  funext j
  simp only [va_up]
  split <;> rfl
theorem hset_self {h : Hp} {a : Nat} : hset h a (gi h a) = h := by
  obtain ⟨f, g⟩ := h
  simp only [hset, gi]
  congr 1
  funext j
  simp only [va_up]
  split
  · subst_vars; rfl
  · rfl
theorem hset_hset {h : Hp} {a : Nat} {f g : Nat → Int32} : hset (hset h a f) a g = hset h a g := by
  simp only [hset]
  congr 1
  funext j
  simp only [va_up]
  split <;> rfl
theorem si_hset_ne {h : Hp} {a b k : Nat} {f : Nat → Int32} {v : Int32} (e : b ≠ a) : si (hset h a f) b k v = hset (si h b k v) a f := by
  simp only [si, hset]
  congr 1
  funext j
  by_cases h1 : j = b
  · subst h1; simp [va_up, e]
  · by_cases h2 : j = a
    · subst h2; simp [va_up, h1]
    · simp [va_up, h1, h2]
theorem ty_t {sh : Sh} {a k : Nat} {P : Prop} (h : (sh a).1 = k) : ty sh a k P = P := by simp [ty, h]
theorem gR_t {h : Hp} {a k q : Nat} {K : Nat → Prop} (e : gr h a k = some q) : gR h a k K = K q := by simp [gR, e]
theorem gI_t {h : Hp} {a k : Nat} {K : Int32 → Prop} : gI h a k K = K (gi h a k) := by simp [gI]
theorem pI_t {h : Hp} {a k : Nat} {v : Int32} {K : Hp → Prop} : pI h a k v K = K (si h a k v) := by simp [pI]
theorem pR_t {h : Hp} {a k q : Nat} {K : Hp → Prop} : pR h a k q K = K (sr h a k (some q)) := by simp [pR]
theorem ev_t {x : Int32} {K : Int32 → Prop} : ev x K = K x := by simp [ev]
theorem lI_t {sh : Sh} {h : Hp} {a k : Nat} {K : Int32 → Prop} (hk : k < (sh a).2) (hn : (sh a).2 < 2 ^ 31) : lI sh h a (nI k) K = K (gi h a k) := by
  simp [lI, vp_nI hk hn, nI_clamp (Nat.lt_trans hk hn)]
theorem sI_t {sh : Sh} {h : Hp} {a k : Nat} {v : Int32} {K : Hp → Prop} (hk : k < (sh a).2) (hn : (sh a).2 < 2 ^ 31) : sI sh h a (nI k) v K = K (si h a k v) := by
  simp [sI, vp_nI hk hn, nI_clamp (Nat.lt_trans hk hn)]
theorem lR_t {sh : Sh} {h : Hp} {a k q : Nat} {K : Nat → Prop} (hk : k < (sh a).2) (hn : (sh a).2 < 2 ^ 31) (e : gr h a k = some q) : lR sh h a (nI k) K = K q := by
  simp [lR, vp_nI hk hn, nI_clamp (Nat.lt_trans hk hn), e]
theorem sR_t {sh : Sh} {h : Hp} {a k q : Nat} {K : Hp → Prop} (hk : k < (sh a).2) (hn : (sh a).2 < 2 ^ 31) : sR sh h a (nI k) q K = K (sr h a k (some q)) := by
  simp [sR, vp_nI hk hn, nI_clamp (Nat.lt_trans hk hn)]
section MS
variable {sh : Sh} {ma : Nat → Nat} {h : Hp} {f : Nat → Int32}
theorem va_up_at {α : Type} {f : Nat → α} {k j : Nat} {v : α} (e : j = k) : va_up f k v j = v := by rw [e, va_up_self]
theorem va_up_off {α : Type} {f : Nat → α} {k j : Nat} {v : α} (e : j ≠ k) : va_up f k v j = f j := va_up_ne f v e
end MS
/-- a loop: with a measure -/
theorem lo_by {S : Type} {body : (S → Hp → Prop) → S → Hp → Prop} {s : S} {h : Hp} {n : Nat} (hf : lp body n s h) : lo body s h := ⟨n, hf⟩
theorem lo_ind {S : Type} {body : (S → Hp → Prop) → S → Hp → Prop} (P : Nat → S → Hp → Prop) (zero : ∀ s h, ¬ P 0 s h) (step : ∀ (d : Nat) (rec : S → Hp → Prop), (∀ s h, P d s h → rec s h) → ∀ s h, P (d + 1) s h → body rec s h) {d : Nat} {s : S} {h : Hp} (start : P d s h) : lo body s h := by
  have key : ∀ d s h, P d s h → lp body d s h := by
    intro d
    induction d with
    | zero => intro s h hp; exact absurd hp (zero s h)
    | succ d ih => intro s h hp; exact step d _ ih s h hp
  exact ⟨d, key d s h start⟩
/-! hands -/
abbrev En : Type := Nat → Int32
def hd (l : List En) (i : Nat) : En := l.getD i (fun _ => 0)
/-- the entry that goes first, among the first n -/
def oldN (l : List En) : Nat → Int32
  | 0 => -1
  | n + 1 => if hd l n 3 = 0 then (if oldN l n < 0 then nI n else if hd l (oldN l n).toNatClampNeg 4 ≤ hd l n 4 then oldN l n else nI n) else oldN l n
def oldI (l : List En) : Int32 := oldN l l.length
theorem oldN_lt (l : List En) : ∀ n, n ≤ 8 → oldN l n = -1 ∨ ∃ j, j < n ∧ oldN l n = nI j ∧ hd l j 3 = 0 := by
  intro n
  induction n with
  | zero => intro _; exact Or.inl rfl
  | succ n ih =>
    intro hn
    have keep : oldN l n = -1 ∨ ∃ j, j < n + 1 ∧ oldN l n = nI j ∧ hd l j 3 = 0 := by
      rcases ih (by omega) with h | ⟨j, h1, h2⟩
      · exact Or.inl h
      · exact Or.inr ⟨j, by omega, h2⟩
    unfold oldN
    split
    · next hz =>
      split
      · exact Or.inr ⟨n, by omega, rfl, hz⟩
      · split
        · exact keep
        · exact Or.inr ⟨n, by omega, rfl, hz⟩
    · exact keep
/-- what goes until no more than so many are left -/
def shr (most : Int32) : Nat → List En → List En × Nat
  | 0, l => (l, 0)
  | n + 1, l => if most < nI l.length ∧ ¬ oldI l < 0 then ((shr most n (l.eraseIdx (oldI l).toNatClampNeg)).1, (shr most n (l.eraseIdx (oldI l).toNatClampNeg)).2 + 1) else (l, 0)
/-- the reference's part of a session -/
def MS (f : Nat → Int32) (n : Nat) (c : Nat → Int32) (l : List En) : Prop := (∀ k, k < 6 → f (217 + 55 * n + k) = c k) ∧ f (217 + 55 * n + 6) = nI l.length ∧ l.length ≤ 8 ∧ ∀ i, i < l.length → ∀ k, k < 6 → f (224 + 55 * n + 6 * i + k) = hd l i k
def Out (f g : Nat → Int32) (n : Nat) : Prop := ∀ k, (k < 217 + 55 * n ∨ 272 + 55 * n ≤ k) → g k = f k
theorem Out.rf {f : Nat → Int32} {n : Nat} : Out f f n := fun _ _ => rfl
theorem Out.tr {f g e : Nat → Int32} {n : Nat} (h1 : Out f g n) (h2 : Out g e n) : Out f e n := fun k hk => (h2 k hk).trans (h1 k hk)
section M1
variable {sh : Sh} {ma : Nat → Nat} {h : Hp} {f : Nat → Int32} {n : Nat} {c : Nat → Int32} {l : List En}
end M1

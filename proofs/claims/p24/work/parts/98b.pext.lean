/-! more that holds of a state, and stays so: last uses, shapes, entries that aren't stale yet; the versions at work -/
def XS (g : Nat → Int32) (N st : Nat) (s : Ses) : Prop := ∀ e ∈ s.2, (∃ q, q < st ∧ e 4 = nI q) ∧ ∀ t, t < 6 → e 0 = nI t → (e 1 = g (5 + t) → e 2 = g (11 + t)) ∧ (e 5 = 0 → e 1 = g (5 + t) ∨ ∃ k, (s.1 0).toNatClampNeg ≤ k ∧ k < N ∧ tlg g k = t)
def XO (g : Nat → Int32) (os : List En) : Prop := ∀ o ∈ os, ∀ t, t < 6 → bitp (o 2) t → ∀ u v, g (5 + t) = nI u → o (4 + t) = nI v → u ≤ 100 → v ≤ 100 → u ≤ v + 1
def EX (g : Nat → Int32) (N st : Nat) (S : Nat → Ses) (os : List En) : Prop := (∀ n, n < 4 → XS g N st (S n)) ∧ XO g os
theorem XS_keep {g : Nat → Int32} {N st : Nat} {s s' : Ses} (h : XS g N st s) (h0 : s'.1 0 = s.1 0) (hk : ∀ b ∈ s'.2, ∃ a ∈ s.2, b 0 = a 0 ∧ b 1 = a 1 ∧ b 2 = a 2 ∧ b 4 = a 4 ∧ (b 5 = 0 → a 5 = 0)) : XS g N st s' := fun b hb => by
  obtain ⟨a, a1, a2, a3, a4, a5, a6⟩ := hk b hb
  obtain ⟨p1, p2⟩ := h a a1
  refine ⟨by rw [a5]; exact p1, fun t ht e0 => ?_⟩
  obtain ⟨q1, q2⟩ := p2 t ht (a2.symm.trans e0)
  refine ⟨fun z => by rw [a4]; exact q1 (a3.symm.trans z), fun z => ?_⟩
  rw [a3, h0]
  exact q2 (a6 z)
theorem lrn_from {tl : Nat → Nat} {ver : Nat → Int32} : ∀ (d k : Nat) (l : List En), ∀ b ∈ lrn tl ver d k l, ∃ a ∈ l, b 0 = a 0 ∧ b 1 = a 1 ∧ b 2 = a 2 ∧ b 4 = a 4 ∧ (b 5 = 0 → a 5 = 0 ∧ ∀ q, k ≤ q → q < k + d → ¬ (a 0 = nI (tl q) ∧ a 1 < ver (tl q))) := by
  intro d
  induction d with
  | zero => intro k l b hb; exact ⟨b, hb, rfl, rfl, rfl, rfl, fun z => ⟨z, fun q q1 q2 => by omega⟩⟩
  | succ d ih =>
    intro k l b hb
    obtain ⟨a', h1, h2, h3, h4, h5, h6⟩ := ih (k + 1) _ b hb
    obtain ⟨a, ha, hq⟩ := List.mem_filterMap.mp h1
    have kp := lq_keep hq
    refine ⟨a, ha, h2.trans kp.1, h3.trans kp.2.1, h4.trans kp.2.2.1, h5.trans kp.2.2.2.2.1, fun z => ?_⟩
    obtain ⟨w1, w2⟩ := h6 z
    refine ⟨kp.2.2.2.2.2 w1, fun q q1 q2 q3 => ?_⟩
    by_cases e : q = k
    · subst e
      unfold lq at hq
      rw [if_pos q3] at hq
      split at hq
      · cases hq
      · cases hq
        rw [va_up_self] at w1
        exact absurd w1 (by decide)
    · exact w2 q (by omega) (by omega) (by rw [kp.1, kp.2.1]; exact q3)
theorem not_lt_eq {a b : Int32} (h1 : ¬ a < b) (h2 : ¬ b < a) : a = b := by
  rw [Int32.lt_iff_toInt_lt] at h1 h2
  apply Int32.toInt_inj.mp
  omega
section PE
variable {N rm st T tk : Nat} {g g' : Nat → Int32} {S : Nat → Ses} {os : List En} {rc : List (Int32 × Int32)}
/-- what a session learns up to notice i -/
theorem XS_lrn {s s' : Ses} {kn i : Nat} (h : XS g N st s) (hu : HU g s.2) (h0 : s.1 0 = nI kn) (hk : kn < 2 ^ 31) (hi : i < 2 ^ 31) (h1 : s'.1 0 = nI i) (h2 : s'.2 = lrn (tlg g) (verg g) (i - kn) kn s.2) : XS g N st s' := fun b hb => by
  rw [h2] at hb
  obtain ⟨a, a1, a2, a3, a4, a5, a6⟩ := lrn_from _ _ _ b hb
  obtain ⟨p1, p2⟩ := h a a1
  refine ⟨by rw [a5]; exact p1, fun t ht e0 => ?_⟩
  have ea := a2.symm.trans e0
  obtain ⟨q1, q2⟩ := p2 t ht ea
  refine ⟨fun z => by rw [a4]; exact q1 (a3.symm.trans z), fun z => ?_⟩
  obtain ⟨z1, z2⟩ := a6 z
  rcases q2 z1 with w | ⟨k, k1, k2, k3⟩
  · exact Or.inl (a3.trans w)
  · rw [h0, nI_clamp hk] at k1
    rw [h1, nI_clamp hi]
    by_cases c : i ≤ k
    · exact Or.inr ⟨k, c, k2, k3⟩
    · left
      have := z2 k k1 (by omega)
      rw [k3] at this
      rw [a3]
      exact not_lt_eq (fun y => this ⟨ea, y⟩) ((hu t ht).2 a a1 ea)
theorem XS_come {s : Ses} {i : Nat} (h : XS g N st s) (hu : HU g s.2) (hN : N ≤ 100) (hi : i < N) (h0 : ∃ kn, kn ≤ N ∧ s.1 0 = nI kn) : XS g N st (come1 g i s) := by
  obtain ⟨kn, k1, k2⟩ := h0
  unfold come1
  split
  · refine XS_lrn h hu k2 (by omega) (i := i + 1) (by omega) (va_up_self s.1 0 (nI (i + 1))) ?_
    rw [k2, nI_clamp (by omega)]
  · exact XS_keep h (va_up_off (f := s.1) (k := 5) (j := 0) (v := s.1 5 + 1) (by decide)) (fun b hb => ⟨b, hb, rfl, rfl, rfl, rfl, id⟩)
def SX (g : Nat → Int32) (N rm : Nat) (os : List En) (st : Nat) (S : Nat → Ses) : Prop := SI g N rm os S ∧ ∀ n, n < 4 → XS g N st (S n)
theorem SX_come (h : SX g N rm os st S) (ht : tgood g N) {i : Nat} (hi : i < N) : SX g N rm os st (comeN g i S 4) := by
  refine ⟨SI_come h.1 ht hi, fun n hn => ?_⟩
  unfold comeN
  rw [if_pos hn]
  exact XS_come (h.2 n hn) (SI_HU h.1 n hn) ht.1 hi (h.1 n hn).2
theorem SX_atS (ht : tgood g N) {a : Int32} : ∀ (d k : Nat) (S : Nat → Ses), k + d ≤ N → SX g N rm os st S → SX g N rm os st (atS g a d k S).1 := by
  intro d
  induction d with
  | zero => intro k S _ h; exact h
  | succ d ih =>
    intro k S hk h
    unfold atS
    split
    · exact ih (k + 1) _ (by omega) (SX_come h ht (by omega))
    · exact ih (k + 1) _ (by omega) h
theorem SX_tkS (ht : tgood g N) : ∀ (d tk : Nat) (S : Nat → Ses), SX g N rm os st S → SX g N rm os st (tkS g N d tk S).1 := by
  intro d
  induction d with
  | zero => intro tk S h; exact h
  | succ d ih =>
    intro tk S h
    unfold tkS
    exact ih _ _ (SX_atS ht N 0 S (by omega) h)
theorem XS_g {s : Ses} (h : XS g N st s) (hg : ∀ k, 5 ≤ k → k < 17 + N → g' k = g k) : XS g' N st s := fun e he => by
  obtain ⟨p1, p2⟩ := h e he
  refine ⟨p1, fun t ht e0 => ?_⟩
  obtain ⟨q1, q2⟩ := p2 t ht e0
  rw [hg (5 + t) (by omega) (by omega), hg (11 + t) (by omega) (by omega)]
  refine ⟨q1, fun z => (q2 z).elim Or.inl (fun ⟨k, k1, k2, k3⟩ => Or.inr ⟨k, k1, k2, ?_⟩)⟩
  unfold tlg
  rw [hg (17 + k) (by omega) (by omega)]
  exact k3
theorem XS_st {s : Ses} {st' : Nat} (h : XS g N st s) (hst : st ≤ st') : XS g N st' s := fun e he => by
  obtain ⟨⟨q, q1, q2⟩, p2⟩ := h e he
  exact ⟨⟨q, by omega, q2⟩, p2⟩
theorem XO_g (h : XO g os) (hg : ∀ t, t < 6 → g' (5 + t) = g (5 + t)) : XO g' os := fun o ho t ht hb u v hu => h o ho t ht hb u v (by rw [← hg t ht]; exact hu)
theorem EX_tick (h : EX g N st S os) (hS : SI g N rm os S) (ht : tgood g N) {w : Nat} {v : Int32} : EX (va_up g 0 v) N st (tkS g N w tk S).1 os := by
  have := SX_tkS ht w tk S ⟨hS, h.1⟩
  exact ⟨fun n hn => XS_g (this.2 n hn) (fun k k1 k2 => va_up_off (by omega)), XO_g h.2 (fun t ht => va_up_off (by omega))⟩
theorem EX_delay (h : EX g N st S os) {v : Int32} : EX (va_up g 3 v) N st S os := ⟨fun n hn => XS_g (h.1 n hn) (fun k k1 k2 => va_up_off (by omega)), XO_g h.2 (fun t ht => va_up_off (by omega))⟩
theorem EX_room (h : EX g N st S os) {v : Int32} : EX (va_up g 4 v) N st (shSN v S 4) os := by
  refine ⟨fun n hn => XS_g (XS_keep (h.1 n hn) ?_ (fun b hb => ?_)) (fun k k1 k2 => va_up_off (by omega)), XO_g h.2 (fun t ht => va_up_off (by omega))⟩
  · unfold shSN
    rw [if_pos hn]
    exact va_up_off (f := (S n).1) (k := 3) (j := 0) (v := (S n).1 3 + nI (shr v (S n).2.length (S n).2).2) (by decide)
  · unfold shSN at hb
    rw [if_pos hn] at hb
    exact ⟨b, shr_mem _ _ b hb, rfl, rfl, rfl, rfl, id⟩
theorem EX_alt (h : EX g N st S os) (hI : INV T N tk rm st g S os rc) (hN : N < 100) {t j : Nat} (ht : t < 6) (hok : ∀ o ∈ os, bitp (o 2) t → g (5 + t) ≤ o (4 + t)) : EX (altG g t j N) (N + 1) st (if g 3 = 0 then comeN (altG g t j N) N S 4 else S) os := by
  obtain ⟨⟨g1, ⟨g2, g3, g4⟩, ⟨dl, g5, g6⟩, ⟨g7, g8⟩, ⟨g9, g10⟩, g11⟩, h2, h3, h4⟩ := hI
  have o : ∀ k, k ≠ 11 + t → k ≠ 5 + t → k ≠ 17 + N → k ≠ 117 + N → k ≠ 1 → altG g t j N k = g k := fun k k1 k2 k3 k4 k5 => by
    unfold altG
    rw [va_up_off k5, va_up_off k4, va_up_off k3, va_up_off k2, va_up_off k1]
  have gt : altG g t j N (5 + t) = g (5 + t) + 1 := by unfold altG; rw [va_up_off (by omega), va_up_off (by omega), va_up_off (by omega), va_up_self]
  have g17 : altG g t j N (17 + N) = nI t := by unfold altG; rw [va_up_off (by omega), va_up_off (by omega), va_up_self]
  have xs : ∀ n, n < 4 → XS (altG g t j N) (N + 1) st (S n) := fun n hn e he => by
    obtain ⟨p1, p2⟩ := h.1 n hn e he
    obtain ⟨⟨hH, -⟩, kn, kn1, kn2⟩ := h2 n hn
    refine ⟨p1, fun s hs e0 => ?_⟩
    by_cases es : s = t
    · subst es
      obtain ⟨s', v, u, u1, u2, u3, u4, u5, u6, u7, -⟩ := hH.1 e he
      have e2 : s' = s := nI_inj (by omega) (by omega) (u2.symm.trans e0)
      subst e2
      refine ⟨fun z => ?_, fun _ => Or.inr ⟨N, by rw [kn2, nI_clamp (by omega)]; exact kn1, by omega, by unfold tlg; rw [g17, nI_clamp (by omega)]⟩⟩
      exfalso
      rw [gt, u3, u4, nI_1] at z
      have := nI_inj (by omega) (by omega) z
      omega
    · obtain ⟨q1, q2⟩ := p2 s hs e0
      rw [o (5 + s) (by omega) (by omega) (by omega) (by omega) (by omega), o (11 + s) (by omega) (by omega) (by omega) (by omega) (by omega)]
      refine ⟨q1, fun z => (q2 z).elim Or.inl (fun ⟨k, k1, k2, k3⟩ => Or.inr ⟨k, k1, by omega, ?_⟩)⟩
      unfold tlg
      rw [o (17 + k) (by omega) (by omega) (by omega) (by omega) (by omega)]
      exact k3
  refine ⟨?_, fun q hq s hs hb u v hu hv hu1 hv1 => ?_⟩
  · have ht2 := tgood_alt (j := j) g1 hN ht
    split
    · next c =>
      have hsi : SI (altG g t j N) (N + 1) rm os S := fun n hn => by
        obtain ⟨q1, kn, q2, q3⟩ := h2 n hn
        refine ⟨⟨HIw_g q1.1 (fun s hs u hu hu1 => ?_), q1.2⟩, kn, by omega, q3⟩
        by_cases e : s = t
        · subst e
          obtain ⟨u', w1, w2⟩ := g11 s hs
          have : u = u' := nI_inj (by omega) (by omega) (hu.symm.trans w1)
          subst this
          exact ⟨u + 1, by rw [gt, hu, nI_1], by omega, by omega⟩
        · exact ⟨u, by rw [o (5 + s) (by omega) (by omega) (by omega) (by omega) (by omega)]; exact hu, Nat.le_refl _, hu1⟩
      exact (SX_come (rm := rm) (os := os) ⟨hsi, xs⟩ ht2 (by omega)).2
    · exact xs
  · by_cases e : s = t
    · subst e
      obtain ⟨u', w1, w2⟩ := g11 s hs
      have hle := hok q hq hb
      rw [gt, w1, nI_1] at hu
      have := nI_inj (by omega) (by omega) hu
      rw [w1, hv, nI_leI (by omega) (by omega)] at hle
      omega
    · rw [o (5 + s) (by omega) (by omega) (by omega) (by omega) (by omega)] at hu
      exact h.2 q hq s hs hb u v hu hv hu1 hv1
theorem rq_from {w a b : En} (h : rq w a = some b) : b 0 = a 0 ∧ b 1 = a 1 ∧ b 2 = a 2 ∧ b 4 = a 4 ∧ (b 5 = 0 → a 5 = 0) := by
  unfold rq at h
  split at h
  · split at h
    · cases h; exact ⟨va_up_off (by decide), va_up_off (by decide), va_up_off (by decide), va_up_off (by decide), fun z => by rw [va_up_off (by decide)] at z; exact z⟩
    · split at h
      · cases h
      · cases h; exact ⟨va_up_off (by decide), va_up_off (by decide), va_up_off (by decide), va_up_off (by decide), fun z => by rw [va_up_off (by decide)] at z; exact z⟩
  · cases h; exact ⟨rfl, rfl, rfl, rfl, id⟩
theorem EX_end (h : EX g N st S os) {n p : Nat} (hn : n < 4) {w : En} {x : Int32} {rm' : Int32} : EX g N st (va_up S n (va_up (S n).1 3 x, (shr rm' ((S n).2.filterMap (rq w)).length ((S n).2.filterMap (rq w))).1)) (os.eraseIdx p) := by
  refine ⟨fun n' hn' => ?_, fun o ho => h.2 o (List.mem_of_mem_eraseIdx ho)⟩
  by_cases e : n' = n
  · subst e
    rw [va_up_self]
    refine XS_keep (h.1 n' hn') (va_up_off (f := (S n').1) (k := 3) (j := 0) (v := x) (by decide)) (fun b hb => ?_)
    obtain ⟨a, ha, hq⟩ := List.mem_filterMap.mp (shr_mem _ _ b hb)
    exact ⟨a, ha, rq_from hq⟩
  · rw [va_up_off e]
    exact h.1 n' hn'
end PE

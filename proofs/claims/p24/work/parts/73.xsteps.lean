/-! a call on both sides: the changes -/
theorem MA_ext {f f' g : Nat → Int32} {S : Nat → Ses} {os : List En} {rc : List (Int32 × Int32)} (hm : MA f g S os rc) (he : ∀ k, k < 623 → f' k = f k) : MA f' g S os rc := by
  obtain ⟨a1, a2, ⟨a3, a4, a5⟩, a6, a7, a8⟩ := hm
  refine ⟨fun k hk => by rw [he _ (by omega)]; exact a1 k hk, fun n hn => ?_, ⟨by rw [he _ (by omega)]; exact a3, a4, fun p hp k hk => by rw [he _ (by omega)]; exact a5 p hp k hk⟩, by rw [he _ (by omega)]; exact a6, a7, fun p hp => ⟨by rw [he _ (by omega)]; exact (a8 p hp).1, by rw [he _ (by omega)]; exact (a8 p hp).2⟩⟩
  obtain ⟨m1, m2, m3, m4⟩ := a2 n hn
  exact ⟨fun k hk => by rw [he _ (by omega)]; exact m1 k hk, by rw [he _ (by omega)]; exact m2, m3, fun i hi k hk => by rw [he _ (by omega)]; exact m4 i hi k hk⟩
section XE
variable {sh : Sh} {ad ma : Nat → Nat} {h h' h'' : Hp} {b : Nat → Nat} {m len T : Nat} {A : Nat → AS} {kp : Option AS} {tx : Nat → Int32}
theorem hset_fn {a : Nat} {f : Nat → Int32} : gi (hset h a f) a = f := by funext k; exact gi_hset
theorem PI_push {T' : Nat} (p : PI T m A kp len tx) {a' : AS} (ha : PA T' a') (hT : T ≤ T') : PI T' (min (m + 1) 4) (pushA m A a') kp len tx := by
  obtain ⟨p1, p2, p3, p4⟩ := p
  refine ⟨by omega, fun i hi => ?_, fun a ha => PA_T (p3 a ha) hT, p4⟩
  unfold pushA
  repeat' split
  all_goals first | exact ha | exact PA_T (p2 _ (by omega)) hT
theorem PA_nN {a : AS} (h : PA T a) : ∃ tk rm st, INV T (nN a) tk rm st a.1 a.2.1 a.2.2.1.1 a.2.2.1.2 ∧ RW a.2.2.1.1 a.2.2.2.1 ∧ RLt a.2.2.1.2 a.2.2.2.2 st := h
theorem nN_of {g : Nat → Int32} {N : Nat} (hg : g 1 = nI N) (hN : N ≤ 100) {S : Nat → Ses} {o : List En × List (Int32 × Int32)} {w : Slots × Ring} : nN (g, S, o, w) = N := by
  show (g 1).toNatClampNeg = N
  rw [hg, nI_clamp (by omega)]
theorem atS_cnt {g : Nat → Int32} {a : Int32} : ∀ (d k : Nat) (S : Nat → Ses), (atS g a d k S).2 ≤ d := by
  intro d
  induction d with
  | zero => intro k S; exact Nat.le_refl _
  | succ d ih =>
    intro k S
    unfold atS
    split
    · have := ih (k + 1) (comeN g k S 4)
      dsimp only
      omega
    · have := ih (k + 1) S
      omega
theorem tkS_cnt {g : Nat → Int32} {N : Nat} : ∀ (d tk : Nat) (S : Nat → Ses), (tkS g N d tk S).2 ≤ N * d := by
  intro d
  induction d with
  | zero => intro tk S; exact Nat.le_refl _
  | succ d ih =>
    intro tk S
    unfold tkS
    have h1 := atS_cnt (g := g) (a := nI (tk + 1)) N 0 S
    have h2 := ih (tk + 1) (atS g (nI (tk + 1)) N 0 S).1
    dsimp only
    rw [Nat.mul_succ]
    omega
end XE

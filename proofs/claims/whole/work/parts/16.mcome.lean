/-! the reference: notices that come, ticks, changes of tables -/
abbrev Ses : Type := (Nat → Int32) × List En
def tlg (g : Nat → Int32) (k : Nat) : Nat := (g (17 + k)).toNatClampNeg
def verg (g : Nat → Int32) (t : Nat) : Int32 := g (5 + t)
/-- a notice comes to a session -/
def come1 (g : Nat → Int32) (i : Nat) (s : Ses) : Ses :=
  if s.1 0 ≤ nI i then (va_up s.1 0 (nI (i + 1)), lrn (tlg g) (verg g) (i + 1 - (s.1 0).toNatClampNeg) (s.1 0).toNatClampNeg s.2) else (va_up s.1 5 (s.1 5 + 1), s.2)
/-- what is told of the notices is a table -/
def tgood (g : Nat → Int32) (N : Nat) : Prop := N ≤ 100 ∧ g 1 = nI N ∧ ∀ k, k < N → tlg g k < 6 ∧ g (17 + k) = nI (tlg g k)
def sgood (N : Nat) (S : Nat → Ses) : Prop := ∀ n, n < 4 → alive (S n).2 ∧ ∃ kn, kn ≤ N ∧ (S n).1 0 = nI kn
theorem alive_lrn {tl : Nat → Nat} {ver : Nat → Int32} : ∀ (d k : Nat) (l : List En), alive l → alive (lrn tl ver d k l) := by
  intro d
  induction d with
  | zero => intro k l h; exact h
  | succ d ih => intro k l h; exact ih (k + 1) _ (alive_lq h)
theorem come1_good {g : Nat → Int32} {N i : Nat} {s : Ses} (hN : N ≤ 100) (hi : i < N) (h : alive s.2 ∧ ∃ kn, kn ≤ N ∧ s.1 0 = nI kn) : alive (come1 g i s).2 ∧ ∃ kn, kn ≤ N ∧ (come1 g i s).1 0 = nI kn := by
  obtain ⟨h1, kn, h2, h3⟩ := h
  unfold come1
  split
  · exact ⟨alive_lrn _ _ _ h1, i + 1, hi, va_up_self (s.1) 0 (nI (i + 1))⟩
  · exact ⟨h1, kn, h2, (va_up_off (f := s.1) (k := 5) (j := 0) (v := s.1 5 + 1) (by decide)).trans h3⟩
theorem va_up_id {α : Type} {f : Nat → α} {k : Nat} {v : α} (e : f k = v) : va_up f k v = f := by
  funext j
  simp only [va_up]
  split
  · subst_vars; rfl
  · rfl
theorem MA_sess {f f' g : Nat → Int32} {S : Nat → Ses} {os : List En} {rc : List (Int32 × Int32)} {n : Nat} {c : Nat → Int32} {l : List En} (hm : MA f g S os rc) (hn : n < 4) (h1 : MS f' n c l) (h2 : Out f f' n) : MA f' g (va_up S n (c, l)) os rc := by
  obtain ⟨a1, a2, ⟨a3, a4, a5⟩, a6, a7, a8⟩ := hm
  refine ⟨fun k hk => by rw [h2 _ (by omega)]; exact a1 k hk, fun m hm => ?_, ⟨by rw [h2 _ (by omega)]; exact a3, a4, fun p hp k hk => by rw [h2 _ (by omega)]; exact a5 p hp k hk⟩, by rw [h2 _ (by omega)]; exact a6, a7, fun p hp => ⟨by rw [h2 _ (by omega)]; exact (a8 p hp).1, by rw [h2 _ (by omega)]; exact (a8 p hp).2⟩⟩
  by_cases e : m = n
  · subst e; rw [va_up_self]; exact h1
  · rw [va_up_off e]
    obtain ⟨m1, m2, m3, m4⟩ := a2 m hm
    exact ⟨fun k hk => by rw [h2 _ (by omega)]; exact m1 k hk, by rw [h2 _ (by omega)]; exact m2, m3, fun i hi k hk => by rw [h2 _ (by omega)]; exact m4 i hi k hk⟩
/-- a number among the globals -/
theorem MA_g {f g : Nat → Int32} {S : Nat → Ses} {os : List En} {rc : List (Int32 × Int32)} {k : Nat} {v : Int32} (hm : MA f g S os rc) (hk : k < 217) : MA (va_up f k v) (va_up g k v) S os rc := by
  obtain ⟨a1, a2, ⟨a3, a4, a5⟩, a6, a7, a8⟩ := hm
  refine ⟨fun j hj => ?_, fun m hm => ?_, ⟨by rw [va_up_off (by omega)]; exact a3, a4, fun p hp q hq => by rw [va_up_off (by omega)]; exact a5 p hp q hq⟩, by rw [va_up_off (by omega)]; exact a6, a7, fun p hp => ⟨by rw [va_up_off (by omega)]; exact (a8 p hp).1, by rw [va_up_off (by omega)]; exact (a8 p hp).2⟩⟩
  · by_cases e : j = k
    · subst e; rw [va_up_self, va_up_self]
    · rw [va_up_off e, va_up_off e]; exact a1 j hj
  · obtain ⟨m1, m2, m3, m4⟩ := a2 m hm
    exact ⟨fun q hq => by rw [va_up_off (by omega)]; exact m1 q hq, by rw [va_up_off (by omega)]; exact m2, m3, fun i hi q hq => by rw [va_up_off (by omega)]; exact m4 i hi q hq⟩
section M7
variable {sh : Sh} {ma : Nat → Nat} {h : Hp} {f g : Nat → Int32} {S : Nat → Ses} {os : List En} {rc : List (Int32 × Int32)}
def comeN (g : Nat → Int32) (i : Nat) (S : Nat → Ses) (k : Nat) : Nat → Ses := fun n => if n < k then come1 g i (S n) else S n
theorem comeN_good {N i : Nat} (hN : N ≤ 100) (hi : i < N) (hs : sgood N S) (k : Nat) : sgood N (comeN g i S k) := by
  intro n hn
  unfold comeN
  split
  · exact come1_good hN hi (hs n hn)
  · exact hs n hn
theorem comeN_succ {i k : Nat} : va_up (comeN g i S k) k (come1 g i (S k)) = comeN g i S (k + 1) := by
  funext n
  unfold comeN va_up
  by_cases e : n = k
  · subst e; rw [if_pos rfl, if_pos (by omega)]
  · rw [if_neg e]
    dsimp only
    by_cases e2 : n < k
    · rw [if_pos e2, if_pos (by omega)]
    · rw [if_neg e2, if_neg (by omega)]
theorem m_come (X : MX sh ma h) (hm : MA f g S os rc) {N i : Nat} (ht : tgood g N) (hs : sgood N S) (hi : i < N) {K : Hp → Prop} (hk : ∀ f', MA f' g (comeN g i S 4) os rc → K (hset h (ma 1) f')) : f_X6_come sh (ma 0) (nI i) (hset h (ma 1) f) K := by
  obtain ⟨t1, t2, t3⟩ := ht
  unfold f_X6_come
  refine lo_ind (fun d s h' => ∃ k f', k + d = 5 ∧ k ≤ 4 ∧ s = nI k ∧ h' = hset h (ma 1) f' ∧ MA f' g (comeN g i S k) os rc) ?_ ?_ (d := 5) ⟨0, f, by omega, by omega, rfl, rfl, hm⟩
  · rintro s h' ⟨k, f', h1, h2, -⟩
    omega
  · rintro d rec hrec s h' ⟨k, f', h1, h2, rfl, rfl, h3⟩
    have e0 : (0 : Int32) = nI 0 := rfl
    unfold b_X6_come_2
    by_cases hz : k = 4
    · rw [if_pos (by subst hz; decide)]
      subst hz
      exact hk f' h3
    · have hk4 : k < 4 := by omega
      rw [if_neg (fun z => by rw [show (4 : Int32) = nI 4 from rfl, nI_leI (by omega) (by omega)] at z; omega)]
      have hms := h3.2.1 k hk4
      have hg := (hs k hk4)
      have hck : comeN g i S k k = S k := if_neg (by omega)
      rw [hck] at hms
      obtain ⟨hal, kn, hkn, hc0⟩ := hg
      have b0 := hms.1 0 (by omega)
      rw [hc0] at b0
      rw [e0]
      simp (disch := omega) only [i1, mx_m X, mx_r0 X, mx_t1 X, of_t, mx_ld X, b0, nI_leI, nI_add]
      by_cases hle : kn ≤ i
      · rw [if_pos hle]
        have hgk : ∀ q, q < 100 → f' (17 + q) = g (17 + q) := fun q hq => h3.1 _ (by omega)
        refine m_learn X hk4 hms hal hc0 (by omega) (by omega) (tl := tlg g) (fun q hq => ⟨(t3 q (by omega)).1, by rw [hgk q (by omega)]; exact (t3 q (by omega)).2⟩) (fun f2 f3 f4 => ?_)
        have hv : lrn (tlg g) (fun t => f' (5 + t)) (i + 1 - kn) kn (S k).2 = lrn (tlg g) (verg g) (i + 1 - kn) kn (S k).2 := by
          have gen : ∀ (d q : Nat) (l : List En), q + d ≤ N → lrn (tlg g) (fun t => f' (5 + t)) d q l = lrn (tlg g) (verg g) d q l := by
            intro d
            induction d with
            | zero => intro q l _; rfl
            | succ d ih =>
              intro q l hq
              unfold lrn
              have e : f' (5 + tlg g q) = verg g (tlg g q) := h3.1 _ (by have := (t3 q (by omega)).1; omega)
              rw [e]
              exact ih (q + 1) _ (by omega)
          exact gen _ _ _ (by omega)
        rw [hv, show kn + (i + 1 - kn) = i + 1 by omega] at f3
        have hco : come1 g i (S k) = (va_up (S k).1 0 (nI (i + 1)), lrn (tlg g) (verg g) (i + 1 - kn) kn (S k).2) := by
          unfold come1
          rw [hc0, nI_clamp (by omega), if_pos (by rw [nI_leI (by omega) (by omega)]; exact hle)]
        refine hrec _ _ ⟨k + 1, f2, by omega, by omega, rfl, rfl, ?_⟩
        rw [← comeN_succ, hco]
        exact MA_sess h3 hk4 f3 f4
      · rw [if_neg hle]
        have b5 := hms.1 5 (by omega)
        simp (disch := omega) only [i1, i2, i3, i4, i5, i6, i7, i8, i9, i10, i11, i12, i17, i20, i21, i22, i23, i26, i32, i44, i48, i55, i57, i59, i60, i63, i99, i100, i101, i115, i116, i117, i126, i217, i437, i438, i598, i599, i623, i999, i1869, mx_m X, mx_r0 X, mx_t1 X, of_t, ofE_t, ofO_t, mx_ld X, mx_st X, gI_t, pI_t, ev_t, nI_add, nI_leI, nI_ltI, b5]
        have hco : come1 g i (S k) = (va_up (S k).1 5 ((S k).1 5 + 1), (S k).2) := by
          unfold come1
          rw [hc0, if_neg (by rw [nI_leI (by omega) (by omega)]; exact hle)]
        refine hrec _ _ ⟨k + 1, _, by omega, by omega, rfl, rfl, ?_⟩
        rw [← comeN_succ, hco]
        exact MA_sess h3 hk4 (MS_c hms (by omega)) (Out_set (by omega) (by omega))
/-- the notices that are due at a tick come: so many of them still to be looked at, from k on; and how many came -/
def atS (g : Nat → Int32) (at_ : Int32) : Nat → Nat → (Nat → Ses) → (Nat → Ses) × Nat
  | 0, _, S => (S, 0)
  | d + 1, k, S => if g (117 + k) = at_ then ((atS g at_ d (k + 1) (comeN g k S 4)).1, (atS g at_ d (k + 1) (comeN g k S 4)).2 + 1) else atS g at_ d (k + 1) S
theorem atS_good {N : Nat} (hN : N ≤ 100) (at_ : Int32) : ∀ (d k : Nat) (S : Nat → Ses), k + d = N → sgood N S → sgood N (atS g at_ d k S).1 := by
  intro d
  induction d with
  | zero => intro k S _ h; exact h
  | succ d ih =>
    intro k S hk h
    unfold atS
    split
    · exact ih (k + 1) _ (by omega) (comeN_good hN (by omega) h 4)
    · exact ih (k + 1) _ (by omega) h
theorem m_ticks22 (X : MX sh ma h) (hm : MA f g S os rc) {N : Nat} (ht : tgood g N) (hs : sgood N S) {x1 x3 c0 : Int32} {K : Int32 → Hp → Prop} (hk : ∀ f', MA f' g (atS g (g 0) N 0 S).1 os rc → K (c0 + nI (4 * (atS g (g 0) N 0 S).2)) (hset h (ma 1) f')) : lo (b_X6_ticks_22 sh (ma 0) x1 x3 (fun y h => K y h)) (c0, (0 : Int32)) (hset h (ma 1) f) := by
  refine lo_ind (fun d s h' => ∃ k m f' S', k + d = N + 1 ∧ k ≤ N ∧ s = (c0 + nI (4 * m), nI k) ∧ h' = hset h (ma 1) f' ∧ MA f' g S' os rc ∧ sgood N S' ∧ (∀ f2, MA f2 g (atS g (g 0) (N - k) k S').1 os rc → K (c0 + nI (4 * (m + (atS g (g 0) (N - k) k S').2))) (hset h (ma 1) f2))) ?_ ?_ (d := N + 1) ⟨0, 0, f, S, by omega, by omega, by rw [Nat.mul_zero, nI_0, Int32.add_zero], rfl, hm, hs, fun f2 h2 => by rw [Nat.zero_add]; exact hk f2 h2⟩
  · rintro s h' ⟨k, m, f', S', h1, h2, -⟩
    omega
  · rintro d rec hrec s h' ⟨k, m, f', S', h1, h2, rfl, rfl, h3, h4, h5⟩
    obtain ⟨t1, t2, t3⟩ := ht
    have b1 := h3.1 1 (by omega)
    rw [t2] at b1
    have b0 := h3.1 0 (by omega)
    have e0 : (0 : Int32) = nI 0 := rfl
    unfold b_X6_ticks_22
    rw [e0]
    simp (disch := omega) only [i1, i117, mx_m X, mx_r0 X, mx_t1 X, of_t, mx_ld X, b1, nI_leI, nI_add]
    by_cases hz : k = N
    · rw [if_pos (by omega)]
      subst hz
      rw [Nat.sub_self] at h5
      exact h5 f' h3
    · rw [if_neg (by omega)]
      have b7 := h3.1 (117 + k) (by omega)
      simp (disch := omega) only [i1, i117, i4, mx_m X, mx_r0 X, mx_t1 X, of_t, mx_ld X, b0, b7, nI_add]
      obtain ⟨d', hd'⟩ : ∃ d', N - k = d' + 1 := ⟨N - k - 1, by omega⟩
      rw [hd'] at h5
      unfold atS at h5
      by_cases hdue : g (117 + k) = g 0
      · rw [if_pos hdue] at h5 ⊢
        refine m_come X h3 ⟨t1, t2, t3⟩ h4 (by omega) (fun f2 f3 => ?_)
        rw [show c0 + nI (4 * m) + nI 4 = c0 + nI (4 * (m + 1)) by rw [Int32.add_assoc, nI_add]; rfl]
        refine hrec _ _ ⟨k + 1, m + 1, f2, _, by omega, by omega, rfl, rfl, f3, comeN_good t1 (by omega) h4 4, fun f5 f6 => ?_⟩
        rw [show N - (k + 1) = d' by omega] at f6 ⊢
        have := h5 f5 f6
        rw [show m + 1 + (atS g (g 0) d' (k + 1) (comeN g k S' 4)).2 = m + ((atS g (g 0) d' (k + 1) (comeN g k S' 4)).2 + 1) by omega]
        exact this
      · rw [if_neg hdue] at h5 ⊢
        refine hrec _ _ ⟨k + 1, m, f', S', by omega, by omega, rfl, rfl, h3, h4, fun f5 f6 => ?_⟩
        rw [show N - (k + 1) = d' by omega] at f6 ⊢
        exact h5 f5 f6
end M7

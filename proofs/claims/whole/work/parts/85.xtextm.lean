/-! the reference reads a command -/
def FR (ma : Nat → Nat) (h h' : Hp) : Prop := h'.2 = h.2 ∧ (∀ q, q ≠ ma 0 → h'.1 q = h.1 q) ∧ ∀ k, (k < 11 ∨ 16 ≤ k) → gi h' (ma 0) k = gi h (ma 0) k
def G12 (ma : Nat → Nat) (h h' : Hp) : Prop := h'.2 = h.2 ∧ (∀ q, q ≠ ma 0 → h'.1 q = h.1 q) ∧ ∀ k, k ≠ 11 → k ≠ 12 → gi h' (ma 0) k = gi h (ma 0) k
def TXm (sh : Sh) (ma : Nat → Nat) (h : Hp) (len : Nat) (tc : Nat → Nat) : Prop := MX sh ma h ∧ gi h (ma 0) 7 = nI len ∧ (∀ i, i < len → gi h (ma 5) i = nI (tc i)) ∧ len ≤ 60 ∧ ∀ i, i < len → 32 ≤ tc i ∧ tc i ≤ 126
section XR
variable {sh : Sh} {ma : Nat → Nat} {h h' h'' : Hp} {len : Nat} {tc : Nat → Nat}
theorem FR.rf : FR ma h h := ⟨rfl, fun _ _ => rfl, fun _ _ => rfl⟩
theorem FR.tr (a : FR ma h h') (b : FR ma h' h'') : FR ma h h'' := ⟨b.1.trans a.1, fun q hq => (b.2.1 q hq).trans (a.2.1 q hq), fun k hk => (b.2.2 k hk).trans (a.2.2 k hk)⟩
theorem G12.rf : G12 ma h h := ⟨rfl, fun _ _ => rfl, fun _ _ _ => rfl⟩
theorem G12.tr (a : G12 ma h h') (b : G12 ma h' h'') : G12 ma h h'' := ⟨b.1.trans a.1, fun q hq => (b.2.1 q hq).trans (a.2.1 q hq), fun k k1 k2 => (b.2.2 k k1 k2).trans (a.2.2 k k1 k2)⟩
theorem G12_FR (a : G12 ma h h') : FR ma h h' := ⟨a.1, a.2.1, fun k hk => a.2.2 k (by omega) (by omega)⟩
theorem FR_si {k : Nat} {v : Int32} (hk : 11 ≤ k ∧ k < 16) : FR ma h (si h (ma 0) k v) := ⟨rfl, fun q hq => by show va_up h.1 _ _ q = _; rw [va_up_off hq], fun j hj => gi_si_k (by omega)⟩
theorem G12_si {k : Nat} {v : Int32} (hk : k = 11 ∨ k = 12) : G12 ma h (si h (ma 0) k v) := ⟨rfl, fun q hq => by show va_up h.1 _ _ q = _; rw [va_up_off hq], fun j j1 j2 => gi_si_k (by omega)⟩
theorem TXm_FR (t : TXm sh ma h len tc) (f : FR ma h h') : TXm sh ma h' len tc := by
  obtain ⟨x, t2, t3, t4⟩ := t
  have x' : MX sh ma h' := by
    obtain ⟨x1, x2, x3, x4, x5, x6, x7, x8, x9, x10, y⟩ := x
    refine ⟨x1, x2, x3, x4, x5, x6, x7, x8, x9, x10, ?_⟩
    have g : ∀ a k, gr h' a k = gr h a k := fun a k => by show h'.2 _ _ = h.2 _ _; rw [f.1]
    simp only [g]
    exact y
  refine ⟨x', by rw [f.2.2 7 (by omega)]; exact t2, fun i hi' => ?_, t4⟩
  show h'.1 _ _ = _
  rw [f.2.1 _ (mx_ne x (by omega))]
  exact t3 i hi'
/-- a sign is taken, where all was right so far -/
theorem r_sign (t : TXm sh ma h len tc) {p lo hi : Nat} (hp : p < 1000) (hlo : 1 ≤ lo ∧ lo < 1000) (hhi : hi < 1000) (h11 : gi h (ma 0) 11 = nI p) (h12 : gi h (ma 0) 12 = 0) {K : Int32 → Hp → Prop} (k1 : p < len → lo ≤ tc p → tc p ≤ hi → ∀ h', G12 ma h h' → gi h' (ma 0) 12 = 0 → gi h' (ma 0) 11 = nI (p + 1) → K (nI (tc p)) h') (k0 : ¬ (p < len ∧ lo ≤ tc p ∧ tc p ≤ hi) → ∀ v h', G12 ma h h' → gi h' (ma 0) 12 = 1 → gi h' (ma 0) 11 = nI p → K v h') : f_X6_sign sh (ma 0) (nI lo) (nI hi) h K := by
  obtain ⟨x, t2, t3, t4, t5⟩ := t
  have wrong : ∀ v, ¬ (p < len ∧ lo ≤ tc p ∧ tc p ≤ hi) → K v (si (si h (ma 0) 12 1) (ma 0) 11 (nI p + 0)) := fun v z => k0 z v _ ((G12_si (by omega)).tr (G12_si (by omega))) (by rw [gi_si_k (by decide), gi_si]) (by rw [gi_si, Int32.add_zero])
  have e11 : ∀ v, gi (si h (ma 0) 12 v) (ma 0) 11 = nI p := fun v => by rw [gi_si_k (by decide)]; exact h11
  unfold f_X6_sign
  rw [mx_m x, gI_t, h11, gI_t, t2]
  by_cases c : p < len
  · have hr := t5 p c
    rw [if_neg (fun z => by rw [nI_leI (by omega) (by omega)] at z; omega), mx_q6 x, gI_t, h11, mx_t5 x, mx_l5 x (by omega), t3 p c, gI_t, h12, if_pos rfl]
    refine in_t (a := lo) (b := hi) (by omega) (by omega) (fun k q1 q2 e => ?_) (fun z _ => ?_)
    · have ek : tc p = k := nI_inj (by omega) (by omega) e
      refine if_n (by decide) ?_
      rw [pI_t, gI_t, e11, gI_t, gi_si, if_pos rfl, pI_t, nI_1]
      exact k1 c (by omega) (by omega) _ ((G12_si (by omega)).tr (G12_si (by omega))) (by rw [gi_si_k (by decide), gi_si]) gi_si
    · refine if_y rfl ?_
      rw [pI_t, gI_t, e11, gI_t, gi_si, if_neg (by decide), pI_t]
      exact wrong _ (fun q => z (tc p) q.2.1 q.2.2 rfl)
  · rw [if_pos (nI_le (by omega) (by omega)), gI_t, h12, if_pos rfl]
    refine in_t (a := lo) (b := hi) (by omega) (by omega) (fun k q1 q2 e => ?_) (fun z _ => ?_)
    · have : 0 = k := nI_inj (a := 0) (by omega) (by omega) e
      omega
    · refine if_y rfl ?_
      rw [pI_t, gI_t, e11, gI_t, gi_si, if_neg (by decide), pI_t]
      exact wrong _ (fun q => c q.1)
/-- .. and where it wasn't -/
theorem r_signW (t : TXm sh ma h len tc) {p : Nat} {lo hi : Int32} (hp : p < 1000) (h11 : gi h (ma 0) 11 = nI p) (h12 : gi h (ma 0) 12 = 1) {K : Int32 → Hp → Prop} (k0 : ∀ v h', G12 ma h h' → gi h' (ma 0) 12 = 1 → gi h' (ma 0) 11 = nI p → K v h') : f_X6_sign sh (ma 0) lo hi h K := by
  obtain ⟨x, t2, t3, t4, t5⟩ := t
  have wrong : ∀ v, K v (si (si h (ma 0) 12 1) (ma 0) 11 (nI p + 0)) := fun v => k0 v _ ((G12_si (by omega)).tr (G12_si (by omega))) (by rw [gi_si_k (by decide), gi_si]) (by rw [gi_si, Int32.add_zero])
  have e11 : ∀ v, gi (si h (ma 0) 12 v) (ma 0) 11 = nI p := fun v => by rw [gi_si_k (by decide)]; exact h11
  unfold f_X6_sign
  rw [mx_m x, gI_t, h11, gI_t, t2]
  by_cases c : p < len
  · rw [if_neg (fun z => by rw [nI_leI (by omega) (by omega)] at z; omega), mx_q6 x, gI_t, h11, mx_t5 x, mx_l5 x (by omega), gI_t, h12, if_neg (by decide), pI_t, gI_t, e11, gI_t, gi_si, if_neg (by decide), pI_t]
    exact wrong _
  · rw [if_pos (nI_le (by omega) (by omega)), gI_t, h12, if_neg (by decide), pI_t, gI_t, e11, gI_t, gi_si, if_neg (by decide), pI_t]
    exact wrong _
theorem r_number (t : TXm sh ma h len tc) {p : Nat} (hp : p < 900) (h11 : gi h (ma 0) 11 = nI p) (h12 : gi h (ma 0) 12 = 0) {K : Int32 → Hp → Prop} (k0 : nd tc len p = 0 → ∀ v h', G12 ma h h' → gi h' (ma 0) 12 = 1 → gi h' (ma 0) 11 = nI p → K v h') (k1 : nd tc len p ≠ 0 → ∀ h', G12 ma h h' → gi h' (ma 0) 12 = 0 → gi h' (ma 0) 11 = nI (p + nd tc len p) → K (nI (vl tc len p)) h') : f_X6_number sh (ma 0) h K := by
  have x := t.1
  have hl := t.2.2.2.1
  unfold f_X6_number
  rw [mx_m x]
  refine r_sign t (lo := 48) (hi := 57) (by omega) (by omega) (by omega) h11 h12 (fun q1 q2 q3 h1 g1 w1 a1 => ?_) (fun z v h1 g1 w1 a1 => ?_)
  · have d0 : dg tc len p := ⟨q1, q2, q3⟩
    have e1 : nI (tc p) - (48 : Int32) = valI tc p 1 := by rw [show (48 : Int32) = nI 48 from rfl, nI_sub q2]; rfl
    rw [e1]
    refine lo_ind (fun d s h' => ∃ k, k + d = 4 ∧ 1 ≤ k ∧ k ≤ 3 ∧ s = (valI tc p k, nI k) ∧ G12 ma h h' ∧ gi h' (ma 0) 12 = 0 ∧ gi h' (ma 0) 11 = nI (p + k) ∧ ∀ i, i < k → dg tc len (p + i)) ?_ ?_ (d := 3) ⟨1, by omega, by omega, by omega, rfl, g1, w1, a1, fun i hi => by rw [show i = 0 by omega]; exact d0⟩
    · rintro s h' ⟨k, z1, z2, z3, -⟩
      omega
    · rintro d rec hrec s h' ⟨k, z1, z2, z3, rfl, g2, w2, a2, h6⟩
      have t2 := TXm_FR t (G12_FR g2)
      have leave : (k = 3 ∨ ¬ dg tc len (p + k)) → K (valI tc p k) h' := fun hz => by
        match k, z2, z3 with
        | 1, _, _ =>
          have n1 : ¬ dg tc len (p + 1) := hz.elim (fun z => by omega) id
          have e : nd tc len p = 1 := by unfold nd; rw [if_pos d0, if_neg n1]
          have ev : vl tc len p = tc p - 48 := by unfold vl; rw [if_neg n1]
          have := k1 (by rw [e]; decide) h' g2 w2 (by rw [e]; exact a2)
          rw [ev] at this
          exact this
        | 2, _, _ =>
          have d1 := h6 1 (by omega)
          have n2 : ¬ dg tc len (p + 2) := hz.elim (fun z => by omega) id
          have e : nd tc len p = 2 := by unfold nd; rw [if_pos d0, if_pos d1, if_neg n2]
          have ev : vl tc len p = 10 * (tc p - 48) + (tc (p + 1) - 48) := by unfold vl; rw [if_pos d1, if_neg n2]
          have := k1 (by rw [e]; decide) h' g2 w2 (by rw [e]; exact a2)
          rw [ev] at this
          exact this
        | 3, _, _ =>
          have d1 := h6 1 (by omega)
          have d2 := h6 2 (by omega)
          have e : nd tc len p = 3 := by unfold nd; rw [if_pos d0, if_pos d1, if_pos d2]
          have ev : vl tc len p = 10 * (10 * (tc p - 48) + (tc (p + 1) - 48)) + (tc (p + 2) - 48) := by unfold vl; rw [if_pos d1, if_pos d2]
          have := k1 (by rw [e]; decide) h' g2 w2 (by rw [e]; exact a2)
          rw [ev] at this
          exact this
      unfold b_X6_number_14
      dsimp only
      by_cases hz : k = 3
      · subst hz
        rw [if_pos (show (3 : Int32) ≤ nI 3 by decide)]
        exact leave (Or.inl rfl)
      · have hk : k < 3 := by omega
        rw [if_neg (fun z => by rw [show (3 : Int32) = nI 3 from rfl, nI_leI (by omega) (by omega)] at z; omega), mx_m x, gI_t, w2, if_pos rfl, gI_t, a2, gI_t, t2.2.1]
        by_cases c : p + k < len
        · have hr := t2.2.2.2.2 _ c
          rw [if_neg (fun z => by rw [nI_leI (by omega) (by omega)] at z; omega), mx_q6 t2.1, gI_t, a2, mx_t5 x, mx_l5 x (by omega), t2.2.2.1 _ c]
          refine in_t (a := 48) (b := 57) (by omega) (by omega) (fun c' c1 c2 e => ?_) (fun z _ => ?_)
          · have ec : tc (p + k) = c' := nI_inj (by omega) (by omega) e
            have dk : dg tc len (p + k) := ⟨c, by omega, by omega⟩
            refine if_n (by decide) ?_
            refine r_sign t2 (lo := 48) (hi := 57) (by omega) (by omega) (by omega) a2 w2 (fun _ _ _ h3 g3 w3 a3 => ?_) (fun z => absurd ⟨c, by omega, by omega⟩ z)
            rw [nI_1]
            refine hrec _ _ ⟨k + 1, by omega, by omega, by omega, ?_, g2.tr g3, w3, by rw [a3, Nat.add_assoc], fun i hi2 => ?_⟩
            · match k, z2, hk with
              | 1, _, _ =>
                show (((10 : Int32) * nI (tc p - 48) + nI (tc (p + 1))) - 48, nI 2) = _
                have b1 : 48 ≤ tc (p + 1) := dk.2.1
                rw [show (10 : Int32) = nI 10 from rfl, nI_mul, nI_add, show (48 : Int32) = nI 48 from rfl, nI_sub (by omega), show 10 * (tc p - 48) + tc (p + 1) - 48 = 10 * (tc p - 48) + (tc (p + 1) - 48) by omega]
                rfl
              | 2, _, _ =>
                show (((10 : Int32) * nI (10 * (tc p - 48) + (tc (p + 1) - 48)) + nI (tc (p + 2))) - 48, nI 3) = _
                have b1 : 48 ≤ tc (p + 2) := dk.2.1
                rw [show (10 : Int32) = nI 10 from rfl, nI_mul, nI_add, show (48 : Int32) = nI 48 from rfl, nI_sub (by omega), show 10 * (10 * (tc p - 48) + (tc (p + 1) - 48)) + tc (p + 2) - 48 = 10 * (10 * (tc p - 48) + (tc (p + 1) - 48)) + (tc (p + 2) - 48) by omega]
                rfl
            · by_cases e2 : i = k
              · subst e2; exact dk
              · exact h6 i (by omega)
          · refine if_y rfl ?_
            exact leave (Or.inr (fun q => z _ q.2.1 q.2.2 rfl))
        · rw [if_pos (nI_le (by omega) (by omega))]
          exact leave (Or.inr (fun z => c z.1))
  · have n0 : ¬ dg tc len p := fun q => z ⟨q.1, q.2.1, q.2.2⟩
    refine lo_ind (fun d s h' => d = 1 ∧ s = (v - 48, (1 : Int32)) ∧ h' = h1) ?_ ?_ (d := 1) ⟨rfl, rfl, rfl⟩
    · rintro s h' ⟨z1, -⟩
      omega
    · rintro d rec hrec s h' ⟨z1, rfl, rfl⟩
      unfold b_X6_number_14
      dsimp only
      rw [if_neg (by decide), mx_m x, gI_t, w1, if_neg (by decide)]
      exact k0 (by unfold nd; rw [if_neg n0]) _ _ g1 w1 a1
theorem r_cmd (t : TXm sh ma h len tc) {p : Nat} (hp : p < len) (h11 : gi h (ma 0) 11 = nI p) {K : Hp → Prop} (k0 : cmd tc len p = none → ∀ h', FR ma h h' → gi h' (ma 0) 12 = 1 → K h') (k1 : ∀ l x y r h', cmd tc len p = some (l, x, y, r) → FR ma h h' → gi h' (ma 0) 12 = 0 → gi h' (ma 0) 13 = nI l → gi h' (ma 0) 14 = nI x → gi h' (ma 0) 15 = nI y → gi h' (ma 0) 11 = nI r → K h') : f_X6_read sh (ma 0) h K := by
  have x := t.1
  have hl := t.2.2.2.1
  have hpr := t.2.2.2.2 p hp
  have ne : ∀ q : Nat, q < 2 ^ 31 → tc p ≠ q → nI (tc p) ≠ nI q := fun q hq c z => c (nI_inj (by omega) hq z)
  -- the last sign
  have last : ∀ h', FR ma h h' → gi h' (ma 0) 12 = 1 → (∃ q, q < 1000 ∧ gi h' (ma 0) 11 = nI q) → cmd tc len p = none → j_X6_read_161 sh (ma 0) h' K := fun h' f w ⟨q, q1, q2⟩ e => by
    unfold j_X6_read_161
    rw [mx_m x]
    exact r_signW (TXm_FR t f) q1 q2 w (fun v h2 g2 w2 a2 => k0 e h2 (f.tr (G12_FR g2)) w2)
  have last1 : ∀ h' q, FR ma h h' → gi h' (ma 0) 12 = 0 → q < 1000 → gi h' (ma 0) 11 = nI q → (∀ h2, FR ma h h2 → (∀ k, k ≠ 11 → k ≠ 12 → gi h2 (ma 0) k = gi h' (ma 0) k) → isc tc len q 59 → gi h2 (ma 0) 12 = 0 → gi h2 (ma 0) 11 = nI (q + 1) → K h2) → (¬ isc tc len q 59 → cmd tc len p = none) → j_X6_read_161 sh (ma 0) h' K := fun h' q f w q1 q2 ok no => by
    unfold j_X6_read_161
    rw [mx_m x]
    refine r_sign (TXm_FR t f) (lo := 59) (hi := 59) q1 (by omega) (by omega) q2 w (fun c1 c2 c3 h2 g2 w2 a2 => ok h2 (f.tr (G12_FR g2)) g2.2.2 ⟨c1, by omega⟩ w2 a2) (fun z v h2 g2 w2 a2 => k0 (no (fun c => z ⟨c.1, by have := c.2; omega, by have := c.2; omega⟩)) h2 (f.tr (G12_FR g2)) w2)
  have wrong2 : ∀ h' (x2 : Int32), FR ma h h' → gi h' (ma 0) 12 = 1 → (∃ q, q < 1000 ∧ gi h' (ma 0) 11 = nI q) → cmd tc len p = none → j_X6_read_121 sh (ma 0) x2 h' K := fun h' x2 f w ⟨q, q1, q2⟩ e => by
    have w138 : ∀ h', FR ma h h' → gi h' (ma 0) 12 = 1 → (∃ q, q < 1000 ∧ gi h' (ma 0) 11 = nI q) → j_X6_read_138 sh (ma 0) x2 h' K := fun h' f w ⟨q, q1, q2⟩ => by
      have s15 : j_X6_read_161 sh (ma 0) (si h' (ma 0) 15 0) K := last _ (f.tr (FR_si (by omega))) (by rw [gi_si_k (by decide)]; exact w) ⟨q, q1, by rw [gi_si_k (by decide)]; exact q2⟩ e
      unfold j_X6_read_138
      by_cases z : x2 = 0
      · rw [if_pos z, mx_m x, pI_t]
        exact s15
      · rw [if_neg z, mx_m x, gI_t, w, if_neg (by decide), pI_t]
        exact s15
    unfold j_X6_read_121
    by_cases z : x2 = 0
    · rw [if_pos z]
      exact w138 h' f w ⟨q, q1, q2⟩
    · rw [if_neg z, mx_m x]
      exact r_signW (TXm_FR t f) q1 q2 w (fun v h2 g2 w2 a2 => w138 h2 (f.tr (G12_FR g2)) w2 ⟨q, q1, a2⟩)
  have wrong3 : ∀ h' (x1 : Int32), FR ma h h' → gi h' (ma 0) 12 = 1 → (∃ q, q < 1000 ∧ gi h' (ma 0) 11 = nI q) → cmd tc len p = none → j_X6_read_103 sh (ma 0) x1 h' K := fun h' x1 f w hq e => by
    unfold j_X6_read_103
    by_cases c1 : x1 = 99
    · rw [if_pos c1]; exact wrong2 h' _ f w hq e
    · rw [if_neg c1]
      by_cases c2 : x1 = 115
      · rw [if_pos c2]; exact wrong2 h' _ f w hq e
      · rw [if_neg c2]; exact wrong2 h' _ f w hq e
  unfold f_X6_read
  rw [mx_m x, gI_t, h11, gI_t, t.2.1, if_neg (fun z => by rw [nI_leI (by omega) (by omega)] at z; omega), mx_q6 x, gI_t, h11, mx_t5 x, mx_l5 x (by omega), t.2.2.1 p hp]
  -- a letter that is one
  have good : (tc p = 99 ∨ tc p = 115 ∨ tc p = 101 ∨ tc p = 116) → j_X6_read_58 sh (ma 0) (nI (tc p)) (si h (ma 0) 12 0) K := fun hc => by
    unfold j_X6_read_58
    rw [mx_m x, gI_t, gi_si_k (by decide), h11, gI_t, gi_si, if_pos rfl, pI_t, nI_1, pI_t, gI_t]
    have f1 : FR ma h (si (si (si h (ma 0) 12 0) (ma 0) 11 (nI (p + 1))) (ma 0) 13 (nI (tc p))) := ((FR_si (by omega)).tr (FR_si (by omega))).tr (FR_si (by omega))
    have w1 : gi (si (si (si h (ma 0) 12 0) (ma 0) 11 (nI (p + 1))) (ma 0) 13 (nI (tc p))) (ma 0) 12 = 0 := by rw [gi_si_k (by decide), gi_si_k (by decide), gi_si]
    have a1 : gi (si (si (si h (ma 0) 12 0) (ma 0) 11 (nI (p + 1))) (ma 0) 13 (nI (tc p))) (ma 0) 11 = nI (p + 1) := by rw [gi_si_k (by decide), gi_si]
    have l1 : gi (si (si (si h (ma 0) 12 0) (ma 0) 11 (nI (p + 1))) (ma 0) 13 (nI (tc p))) (ma 0) 13 = nI (tc p) := gi_si
    rw [w1, if_pos rfl]
    generalize si (si (si h (ma 0) 12 0) (ma 0) 11 (nI (p + 1))) (ma 0) 13 (nI (tc p)) = h1 at f1 w1 a1 l1 ⊢
    have hnd := nd_le (tc := tc) (len := len) (p := p + 1)
    have t1 := TXm_FR t f1
    refine r_number t1 (by omega) a1 w1 (fun n0 v h2 g2 w2 a2 => ?_) (fun n0 h2 g2 w2 a2 => ?_)
    · rw [pI_t]
      have ec : cmd tc len p = none := by
        unfold cmd
        by_cases q : tc p = 99 ∨ tc p = 115
        · rw [if_pos q, if_pos n0]
        · rw [if_neg q]
          by_cases q2 : tc p = 101 ∨ tc p = 116
          · rw [if_pos q2, if_pos n0]
          · rw [if_neg q2]
      exact wrong3 _ _ ((f1.tr (G12_FR g2)).tr (FR_si (by omega))) (by rw [gi_si_k (by decide)]; exact w2) ⟨p + 1, by omega, by rw [gi_si_k (by decide)]; exact a2⟩ ec
    · rw [pI_t]
      have f2 := (f1.tr (G12_FR g2)).tr (FR_si (ma := ma) (k := 14) (v := nI (vl tc len (p + 1))) (by omega))
      have w3 : gi (si h2 (ma 0) 14 (nI (vl tc len (p + 1)))) (ma 0) 12 = 0 := by rw [gi_si_k (by decide)]; exact w2
      have a3 : gi (si h2 (ma 0) 14 (nI (vl tc len (p + 1)))) (ma 0) 11 = nI (p + 1 + nd tc len (p + 1)) := by rw [gi_si_k (by decide)]; exact a2
      have l3 : gi (si h2 (ma 0) 14 (nI (vl tc len (p + 1)))) (ma 0) 13 = nI (tc p) := by rw [gi_si_k (by decide), g2.2.2 13 (by decide) (by decide)]; exact l1
      have o3 : gi (si h2 (ma 0) 14 (nI (vl tc len (p + 1)))) (ma 0) 14 = nI (vl tc len (p + 1)) := gi_si
      generalize si h2 (ma 0) 14 (nI (vl tc len (p + 1))) = h3 at f2 w3 a3 l3 o3 ⊢
      have t3 := TXm_FR t f2
      have two : tc p = 99 ∨ tc p = 115 → j_X6_read_121 sh (ma 0) 1 h3 K := fun hc2 => by
        unfold j_X6_read_121
        rw [if_neg (by decide), mx_m x]
        refine r_sign t3 (lo := 44) (hi := 44) (by omega) (by omega) (by omega) a3 w3 (fun c1 c2 c3 h4 g4 w4 a4 => ?_) (fun z v h4 g4 w4 a4 => ?_)
        · have c44 : isc tc len (p + 1 + nd tc len (p + 1)) 44 := ⟨c1, by omega⟩
          have f4 := f2.tr (G12_FR g4)
          have t4 := TXm_FR t f4
          unfold j_X6_read_138
          rw [if_neg (by decide), mx_m x, gI_t, w4, if_pos rfl]
          have e42 : p + 1 + nd tc len (p + 1) + 1 = p + 2 + nd tc len (p + 1) := by omega
          rw [e42] at a4
          have hnd2 := nd_le (tc := tc) (len := len) (p := p + 2 + nd tc len (p + 1))
          refine r_number t4 (by omega) a4 w4 (fun m0 v h5 g5 w5 a5 => ?_) (fun m0 h5 g5 w5 a5 => ?_)
          · rw [pI_t]
            exact last _ ((f4.tr (G12_FR g5)).tr (FR_si (by omega))) (by rw [gi_si_k (by decide)]; exact w5) ⟨p + 2 + nd tc len (p + 1), by omega, by rw [gi_si_k (by decide)]; exact a5⟩ (by unfold cmd; rw [if_pos hc2, if_neg n0, if_pos c44, if_pos m0])
          · rw [pI_t]
            refine last1 _ (p + 2 + nd tc len (p + 1) + nd tc len (p + 2 + nd tc len (p + 1))) ((f4.tr (G12_FR g5)).tr (FR_si (by omega))) (by rw [gi_si_k (by decide)]; exact w5) (by omega) (by rw [gi_si_k (by decide)]; exact a5) (fun h6 f6 g6 c59 w6 a6 => ?_) (fun z => by unfold cmd; rw [if_pos hc2, if_neg n0, if_pos c44, if_neg m0, if_neg z])
            refine k1 (tc p) (vl tc len (p + 1)) (vl tc len (p + 2 + nd tc len (p + 1))) (p + 3 + nd tc len (p + 1) + nd tc len (p + 2 + nd tc len (p + 1))) h6 (by unfold cmd; rw [if_pos hc2, if_neg n0, if_pos c44, if_neg m0, if_pos c59]) f6 w6 ?_ ?_ ?_ ?_
            · rw [g6 13 (by decide) (by decide), gi_si_k (by decide), g5.2.2 13 (by decide) (by decide), g4.2.2 13 (by decide) (by decide)]; exact l3
            · rw [g6 14 (by decide) (by decide), gi_si_k (by decide), g5.2.2 14 (by decide) (by decide), g4.2.2 14 (by decide) (by decide)]; exact o3
            · rw [g6 15 (by decide) (by decide), gi_si]
            · rw [a6]; congr 1; omega
        · have ec : cmd tc len p = none := by unfold cmd; rw [if_pos hc2, if_neg n0, if_neg (fun c => z ⟨c.1, by have := c.2; omega, by have := c.2; omega⟩)]
          unfold j_X6_read_138
          rw [if_neg (by decide), mx_m x, gI_t, w4, if_neg (by decide), pI_t]
          exact last _ ((f2.tr (G12_FR g4)).tr (FR_si (by omega))) (by rw [gi_si_k (by decide)]; exact w4) ⟨p + 1 + nd tc len (p + 1), by omega, by rw [gi_si_k (by decide)]; exact a4⟩ ec
      unfold j_X6_read_103
      by_cases c1 : tc p = 99
      · rw [if_pos (by rw [c1]; rfl)]; exact two (Or.inl c1)
      · refine if_n (ne 99 (by omega) c1) ?_
        by_cases c2 : tc p = 115
        · rw [if_pos (by rw [c2]; rfl)]; exact two (Or.inr c2)
        · refine if_n (ne 115 (by omega) c2) ?_
          have nc : ¬ (tc p = 99 ∨ tc p = 115) := fun z => z.elim c1 c2
          have hc2 : tc p = 101 ∨ tc p = 116 := by omega
          unfold j_X6_read_121 j_X6_read_138
          rw [if_pos rfl, if_pos rfl, mx_m x, pI_t]
          refine last1 _ (p + 1 + nd tc len (p + 1)) (f2.tr (FR_si (by omega))) (by rw [gi_si_k (by decide)]; exact w3) (by omega) (by rw [gi_si_k (by decide)]; exact a3) (fun h6 f6 g6 c59 w6 a6 => ?_) (fun z => by unfold cmd; rw [if_neg nc, if_pos hc2, if_neg n0, if_neg z])
          refine k1 (tc p) (vl tc len (p + 1)) 0 (p + 2 + nd tc len (p + 1)) h6 (by unfold cmd; rw [if_neg nc, if_pos hc2, if_neg n0, if_pos c59]) f6 w6 ?_ ?_ ?_ ?_
          · rw [g6 13 (by decide) (by decide), gi_si_k (by decide)]; exact l3
          · rw [g6 14 (by decide) (by decide), gi_si_k (by decide)]; exact o3
          · rw [g6 15 (by decide) (by decide), gi_si]; rfl
          · rw [a6]; congr 1; omega
  unfold j_X6_read_25
  by_cases c1 : tc p = 99
  · rw [if_pos (by rw [c1]; rfl), mx_m x, pI_t]; exact good (by omega)
  · refine if_n (ne 99 (by omega) c1) ?_
    by_cases c2 : tc p = 115
    · rw [if_pos (by rw [c2]; rfl), mx_m x, pI_t]; exact good (by omega)
    · refine if_n (ne 115 (by omega) c2) ?_
      by_cases c3 : tc p = 101
      · rw [if_pos (by rw [c3]; rfl), mx_m x, pI_t]; exact good (by omega)
      · refine if_n (ne 101 (by omega) c3) ?_
        by_cases c4 : tc p = 116
        · rw [if_pos (by rw [c4]; rfl), mx_m x, pI_t]; exact good (by omega)
        · refine if_n (ne 116 (by omega) c4) ?_
          have ec : cmd tc len p = none := by unfold cmd; rw [if_neg (fun z => z.elim c1 c2), if_neg (fun z => z.elim c3 c4)]
          rw [mx_m x, pI_t]
          unfold j_X6_read_58
          rw [mx_m x, gI_t, gi_si_k (by decide), h11, gI_t, gi_si, if_neg (by decide), pI_t, Int32.add_zero, pI_t, gI_t]
          have w1 : gi (si (si (si h (ma 0) 12 1) (ma 0) 11 (nI p)) (ma 0) 13 (nI (tc p))) (ma 0) 12 = 1 := by rw [gi_si_k (by decide), gi_si_k (by decide), gi_si]
          rw [w1, if_neg (by decide), pI_t]
          exact wrong3 _ _ ((((FR_si (by omega)).tr (FR_si (by omega))).tr (FR_si (by omega))).tr (FR_si (by omega))) (by rw [gi_si_k (by decide)]; exact w1) ⟨p, by omega, by rw [gi_si_k (by decide), gi_si_k (by decide), gi_si]⟩ ec
end XR

/-! the text: what a command is, and how both sides read it -/
abbrev dg (tc : Nat → Nat) (len p : Nat) : Prop := p < len ∧ 48 ≤ tc p ∧ tc p ≤ 57
def nd (tc : Nat → Nat) (len p : Nat) : Nat := if dg tc len p then (if dg tc len (p + 1) then (if dg tc len (p + 2) then 3 else 2) else 1) else 0
def vl (tc : Nat → Nat) (len p : Nat) : Nat := if dg tc len (p + 1) then (if dg tc len (p + 2) then 10 * (10 * (tc p - 48) + (tc (p + 1) - 48)) + (tc (p + 2) - 48) else 10 * (tc p - 48) + (tc (p + 1) - 48)) else tc p - 48
abbrev isc (tc : Nat → Nat) (len p c : Nat) : Prop := p < len ∧ tc p = c
def cmd (tc : Nat → Nat) (len p : Nat) : Option (Nat × Nat × Nat × Nat) :=
  if tc p = 99 ∨ tc p = 115 then
    if nd tc len (p + 1) = 0 then none else
    if isc tc len (p + 1 + nd tc len (p + 1)) 44 then
      if nd tc len (p + 2 + nd tc len (p + 1)) = 0 then none else
      if isc tc len (p + 2 + nd tc len (p + 1) + nd tc len (p + 2 + nd tc len (p + 1))) 59 then some (tc p, vl tc len (p + 1), vl tc len (p + 2 + nd tc len (p + 1)), p + 3 + nd tc len (p + 1) + nd tc len (p + 2 + nd tc len (p + 1))) else none
    else none
  else if tc p = 101 ∨ tc p = 116 then
    if nd tc len (p + 1) = 0 then none else
    if isc tc len (p + 1 + nd tc len (p + 1)) 59 then some (tc p, vl tc len (p + 1), 0, p + 2 + nd tc len (p + 1)) else none
  else none
theorem nd_le {tc : Nat → Nat} {len p : Nat} : nd tc len p ≤ 3 := by
  unfold nd
  repeat' split
  all_goals decide
theorem vl_lt {tc : Nat → Nat} {len p : Nat} (h : nd tc len p ≠ 0) : vl tc len p < 1000 := by
  have hd0 : dg tc len p := by
    apply Classical.byContradiction
    intro z
    exact h (by unfold nd; rw [if_neg z])
  have := hd0.2.2
  unfold vl
  repeat' split
  all_goals omega
theorem cmd_ok {tc : Nat → Nat} {len p l x y r : Nat} (h : cmd tc len p = some (l, x, y, r)) : (l = 99 ∨ l = 115 ∨ l = 101 ∨ l = 116) ∧ x < 1000 ∧ y < 1000 ∧ p + 3 ≤ r ∧ r ≤ len := by
  unfold cmd at h
  split at h
  · next c =>
    split at h
    · cases h
    · next n1 =>
      split at h
      · next c1 =>
        split at h
        · cases h
        · next n2 =>
          split at h
          · next c2 =>
            cases h
            have := vl_lt n1
            have := vl_lt n2
            have := c2.1
            refine ⟨?_, by omega, by omega, by omega, by omega⟩
            rcases c with c | c <;> omega
          · cases h
      · cases h
  · split at h
    · next c =>
      split at h
      · cases h
      · next n1 =>
        split at h
        · next c1 =>
          cases h
          have := vl_lt n1
          have := c1.1
          refine ⟨?_, by omega, by omega, by omega, by omega⟩
          rcases c with c | c <;> omega
        · cases h
    · cases h
/-- the class's text object has changed in what it read last alone -/
def FT (ad : Nat → Nat) (h h' : Hp) : Prop := h'.2 = h.2 ∧ (∀ q, q ≠ ad 590 → h'.1 q = h.1 q) ∧ ∀ k, (k < 2 ∨ 6 ≤ k) → gi h' (ad 590) k = gi h (ad 590) k
def F5 (ad : Nat → Nat) (h h' : Hp) : Prop := h'.2 = h.2 ∧ (∀ q, q ≠ ad 590 → h'.1 q = h.1 q) ∧ ∀ k, k ≠ 5 → gi h' (ad 590) k = gi h (ad 590) k
def TXn (h : Hp) (ad : Nat → Nat) (len : Nat) (tc : Nat → Nat) : Prop := gi h (ad 590) 1 = nI len ∧ gr h (ad 590) 0 = some (ad 591) ∧ (∀ i, i < len → gi h (ad 591) i = nI (tc i)) ∧ len ≤ 60 ∧ ∀ i, i < len → 32 ≤ tc i ∧ tc i ≤ 126
section XQ
variable {sh : Sh} {ad ma : Nat → Nat} {h h' h'' : Hp} {len : Nat} {tc : Nat → Nat}
theorem FT.rf : FT ad h h := ⟨rfl, fun _ _ => rfl, fun _ _ => rfl⟩
theorem FT.tr (a : FT ad h h') (b : FT ad h' h'') : FT ad h h'' := ⟨b.1.trans a.1, fun q hq => (b.2.1 q hq).trans (a.2.1 q hq), fun k hk => (b.2.2 k hk).trans (a.2.2 k hk)⟩
theorem F5_FT (a : F5 ad h h') : FT ad h h' := ⟨a.1, a.2.1, fun k hk => a.2.2 k (by omega)⟩
theorem FT_si {k : Nat} {v : Int32} (hk : 2 ≤ k ∧ k < 6) : FT ad h (si h (ad 590) k v) := ⟨rfl, fun q hq => by show va_up h.1 _ _ q = _; rw [va_up_off hq], fun j hj => gi_si_k (by omega)⟩
theorem TXn_FT (hi : inj ad) (t : TXn h ad len tc) (f : FT ad h h') : TXn h' ad len tc := by
  obtain ⟨t1, t2, t3, t4⟩ := t
  refine ⟨by rw [f.2.2 1 (by omega)]; exact t1, by show h'.2 _ _ = _; rw [f.1]; exact t2, fun i hi' => ?_, t4⟩
  show h'.1 _ _ = _
  rw [f.2.1 _ (ad_ne hi (by omega))]
  exact t3 i hi'
theorem c_sign (X : WK sh ad ma) (t : TXn h ad len tc) {p : Nat} (hp : p < 1000) {K : Int32 → Hp → Prop} (k1 : p < len → K (nI (tc p)) h) (k0 : ¬ p < len → K (-1) h) : f_X3_signAt sh (ad 590) (nI p) h K := by
  unfold f_X3_signAt
  have hl := t.2.2.2.1
  rw [if_neg (nI_pos (by omega)), x_tt X, gI_t, t.1]
  by_cases c : p < len
  · rw [if_neg (fun z => by rw [nI_leI (by omega) (by omega)] at z; omega), if_neg (fun z => by rw [show (60 : Int32) = nI 60 from rfl, nI_leI (by omega) (by omega)] at z; omega), gR_t t.2.1, x_tx X, x_lx X (by omega), t.2.2.1 p c]
    exact k1 c
  · rw [if_pos (nI_le (by omega) (by omega))]
    exact k0 c
def valI (tc : Nat → Nat) (p : Nat) : Nat → Int32
  | 0 => -1
  | 1 => nI (tc p - 48)
  | 2 => nI (10 * (tc p - 48) + (tc (p + 1) - 48))
  | _ => nI (10 * (10 * (tc p - 48) + (tc (p + 1) - 48)) + (tc (p + 2) - 48))
theorem c_num (X : WK sh ad ma) (t : TXn h ad len tc) {p : Nat} (hp : p < 900) (h5 : gi h (ad 590) 5 = nI p) {K : Int32 → Hp → Prop} (k0 : nd tc len p = 0 → ∀ h', F5 ad h h' → gi h' (ad 590) 5 = nI p → K (-1) h') (k1 : nd tc len p ≠ 0 → ∀ h', F5 ad h h' → gi h' (ad 590) 5 = nI (p + nd tc len p) → K (nI (vl tc len p)) h') : f_X3_readNumber sh (ad 590) h K := by
  have hi := X.1
  unfold f_X3_readNumber
  refine lo_ind (fun d s h' => ∃ k, k + d = 4 ∧ k ≤ 3 ∧ s = (valI tc p k, nI k) ∧ F5 ad h h' ∧ gi h' (ad 590) 5 = nI (p + k) ∧ ∀ i, i < k → dg tc len (p + i)) ?_ ?_ (d := 4) ⟨0, by omega, by omega, rfl, ⟨rfl, fun _ _ => rfl, fun _ _ => rfl⟩, h5, fun i hi => absurd hi (Nat.not_lt_zero i)⟩
  · rintro s h' ⟨k, h1, h2, -⟩
    omega
  · rintro d rec hrec s h' ⟨k, h1, h2, rfl, h3, h4, h6⟩
    have leave : (k = 3 ∨ ¬ dg tc len (p + k)) → K (valI tc p k) h' := fun hz => by
      match k, h2 with
      | 0, _ =>
        have n0 : ¬ dg tc len p := hz.elim (fun z => by omega) id
        exact k0 (by unfold nd; rw [if_neg n0]) h' h3 h4
      | 1, _ =>
        have d0 : dg tc len p := h6 0 (by omega)
        have n1 : ¬ dg tc len (p + 1) := hz.elim (fun z => by omega) id
        have e : nd tc len p = 1 := by unfold nd; rw [if_pos d0, if_neg n1]
        have ev : vl tc len p = tc p - 48 := by unfold vl; rw [if_neg n1]
        have := k1 (by rw [e]; decide) h' h3 (by rw [e]; exact h4)
        rw [ev] at this
        exact this
      | 2, _ =>
        have d0 : dg tc len p := h6 0 (by omega)
        have d1 := h6 1 (by omega)
        have n2 : ¬ dg tc len (p + 2) := hz.elim (fun z => by omega) id
        have e : nd tc len p = 2 := by unfold nd; rw [if_pos d0, if_pos d1, if_neg n2]
        have ev : vl tc len p = 10 * (tc p - 48) + (tc (p + 1) - 48) := by unfold vl; rw [if_pos d1, if_neg n2]
        have := k1 (by rw [e]; decide) h' h3 (by rw [e]; exact h4)
        rw [ev] at this
        exact this
      | 3, _ =>
        have d0 : dg tc len p := h6 0 (by omega)
        have d1 := h6 1 (by omega)
        have d2 := h6 2 (by omega)
        have e : nd tc len p = 3 := by unfold nd; rw [if_pos d0, if_pos d1, if_pos d2]
        have ev : vl tc len p = 10 * (10 * (tc p - 48) + (tc (p + 1) - 48)) + (tc (p + 2) - 48) := by unfold vl; rw [if_pos d1, if_pos d2]
        have := k1 (by rw [e]; decide) h' h3 (by rw [e]; exact h4)
        rw [ev] at this
        exact this
    unfold b_X3_readNumber_4
    dsimp only
    by_cases hz : k = 3
    · subst hz
      rw [if_pos (show (3 : Int32) ≤ nI 3 by decide)]
      exact leave (Or.inl rfl)
    · have hk : k < 3 := by omega
      have t' := TXn_FT hi t (F5_FT h3)
      rw [if_neg (fun z => by rw [show (3 : Int32) = nI 3 from rfl, nI_leI (by omega) (by omega)] at z; omega), x_tt X, gI_t, h4]
      refine c_sign X t' (by omega) (fun c => ?_) (fun c => ?_)
      · have hr := t'.2.2.2.2 _ c
        by_cases c1 : tc (p + k) < 48
        · rw [if_pos (by rw [show (48 : Int32) = nI 48 from rfl, nI_ltI (by omega) (by omega)]; exact c1)]
          exact leave (Or.inr (fun z => by have := z.2.1; omega))
        · rw [if_neg (fun z => by rw [show (48 : Int32) = nI 48 from rfl, nI_ltI (by omega) (by omega)] at z; omega)]
          by_cases c2 : tc (p + k) ≤ 57
          · rw [if_pos (by rw [show (57 : Int32) = nI 57 from rfl, nI_leI (by omega) (by omega)]; exact c2), ev_t, gI_t, h4, pI_t, nI_1]
            have dk : dg tc len (p + k) := ⟨c, by omega, c2⟩
            refine hrec _ _ ⟨k + 1, by omega, by omega, ?_, ⟨h3.1, fun q hq => by show va_up h'.1 _ _ q = _; rw [va_up_off hq]; exact h3.2.1 q hq, fun j hj => by rw [gi_si_k hj]; exact h3.2.2 j hj⟩, by rw [gi_si, nI_1, Nat.add_assoc], fun i hi2 => ?_⟩
            · have es : nI (tc (p + k)) - (48 : Int32) = nI (tc (p + k) - 48) := by rw [show (48 : Int32) = nI 48 from rfl, nI_sub (by omega)]
              rw [es]
              match k, hk with
              | 0, _ =>
                show ((if (-1 : Int32) < 0 then (0 : Int32) else -1) * 10 + nI (tc (p + 0) - 48), nI 1) = _
                rw [if_pos (by decide), show (0 : Int32) * 10 = 0 from rfl, Int32.zero_add]
                rfl
              | 1, _ =>
                show ((if nI (tc p - 48) < 0 then (0 : Int32) else nI (tc p - 48)) * 10 + nI (tc (p + 1) - 48), nI 2) = _
                have q0 : tc p ≤ 57 := (h6 0 (by omega)).2.2
                rw [if_neg (nI_pos (by omega)), show (10 : Int32) = nI 10 from rfl, nI_mul, nI_add, Nat.mul_comm]
                rfl
              | 2, _ =>
                show ((if nI (10 * (tc p - 48) + (tc (p + 1) - 48)) < 0 then (0 : Int32) else nI (10 * (tc p - 48) + (tc (p + 1) - 48))) * 10 + nI (tc (p + 2) - 48), nI 3) = _
                have q0 : tc p ≤ 57 := (h6 0 (by omega)).2.2
                have q1 : tc (p + 1) ≤ 57 := (h6 1 (by omega)).2.2
                rw [if_neg (nI_pos (by omega)), show (10 : Int32) = nI 10 from rfl, nI_mul, nI_add, Nat.mul_comm]
                rfl
            · by_cases e : i = k
              · subst e; exact dk
              · exact h6 i (by omega)
          · rw [if_neg (fun z => by rw [show (57 : Int32) = nI 57 from rfl, nI_leI (by omega) (by omega)] at z; omega)]
            exact leave (Or.inr (fun z => by have := z.2.2; omega))
      · rw [if_pos (show (-1 : Int32) < 48 by decide)]
        exact leave (Or.inr (fun z => c z.1))
/-- what follows when a command has two numbers, or one -/
def b_two (sh : Sh) (ad : Nat → Nat) (K : Int32 → Hp → Prop) (h9 : Hp) : Prop :=
  gI h9 (ad 590) 3 fun v11 => if v11 < 0 then K (0 : Int32) h9 else gI h9 (ad 590) 5 fun v12 => f_X3_signAt sh (ad 590) v12 h9 fun r13 h14 => if r13 = (44 : Int32) then gI h14 (ad 590) 5 fun v15 => pI h14 (ad 590) 5 (v15 + (1 : Int32)) fun h16 => f_X3_readNumber sh (ad 590) h16 fun r17 h18 => pI h18 (ad 590) 4 r17 fun h19 => gI h19 (ad 590) 3 fun v20 => if v20 < 0 then K (0 : Int32) h19 else gI h19 (ad 590) 4 fun v21 => if v21 < 0 then K (0 : Int32) h19 else gI h19 (ad 590) 5 fun v22 => f_X3_signAt sh (ad 590) v22 h19 fun r23 h24 => if r23 = (59 : Int32) then gI h24 (ad 590) 5 fun v25 => pI h24 (ad 590) 5 (v25 + (1 : Int32)) fun h26 => K (1 : Int32) h26 else K (0 : Int32) h24 else K (0 : Int32) h14
def b_one (sh : Sh) (ad : Nat → Nat) (K : Int32 → Hp → Prop) (h9 : Hp) : Prop :=
  gI h9 (ad 590) 3 fun v29 => if v29 < 0 then K (0 : Int32) h9 else gI h9 (ad 590) 4 fun v30 => if v30 < 0 then K (0 : Int32) h9 else gI h9 (ad 590) 5 fun v31 => f_X3_signAt sh (ad 590) v31 h9 fun r32 h33 => if r32 = (59 : Int32) then gI h33 (ad 590) 5 fun v34 => pI h33 (ad 590) 5 (v34 + (1 : Int32)) fun h35 => K (1 : Int32) h35 else K (0 : Int32) h33
def b_tail (sh : Sh) (ad : Nat → Nat) (K : Int32 → Hp → Prop) (v10 : Int32) (h9 : Hp) : Prop :=
  if v10 = (99 : Int32) then b_two sh ad K h9 else gI h9 (ad 590) 2 fun v27 => if v27 = (115 : Int32) then b_two sh ad K h9 else gI h9 (ad 590) 2 fun v28 => if v28 = (101 : Int32) then b_one sh ad K h9 else gI h9 (ad 590) 2 fun v36 => if v36 = (116 : Int32) then b_one sh ad K h9 else K (0 : Int32) h9
theorem c_read (X : WK sh ad ma) (t : TXn h ad len tc) {p : Nat} (hp : p < len) {K : Int32 → Hp → Prop} (k0 : cmd tc len p = none → ∀ h', FT ad h h' → K 0 h') (k1 : ∀ l x y r h', cmd tc len p = some (l, x, y, r) → FT ad h h' → gi h' (ad 590) 2 = nI l → gi h' (ad 590) 3 = nI x → gi h' (ad 590) 4 = nI y → gi h' (ad 590) 5 = nI r → K 1 h') : f_X3_readCommand sh (ad 590) (nI p) h K := by
  have hi := X.1
  have hl := t.2.2.2.1
  have hpr := t.2.2.2.2 p hp
  unfold f_X3_readCommand
  rw [x_tt X]
  refine c_sign X t (by omega) (fun _ => ?_) (fun z => absurd hp z)
  rw [pI_t, pI_t, nI_1]
  have f1 := (FT_si (ad := ad) (h := h) (k := 2) (v := nI (tc p)) (by omega)).tr (FT_si (k := 5) (v := nI (p + 1)) (by omega))
  have t1 := TXn_FT hi t f1
  have g12 : gi (si (si h (ad 590) 2 (nI (tc p))) (ad 590) 5 (nI (p + 1))) (ad 590) 2 = nI (tc p) := by rw [gi_si_k (by decide), gi_si]
  have g15 : gi (si (si h (ad 590) 2 (nI (tc p))) (ad 590) 5 (nI (p + 1))) (ad 590) 5 = nI (p + 1) := gi_si
  generalize si (si h (ad 590) 2 (nI (tc p))) (ad 590) 5 (nI (p + 1)) = h1 at t1 f1 g12 g15 ⊢
  have tail : ∀ v h', F5 ad h1 h' → gi h' (ad 590) 5 = nI (p + 1 + nd tc len (p + 1)) → ((nd tc len (p + 1) = 0 ∧ v = -1) ∨ (nd tc len (p + 1) ≠ 0 ∧ v = nI (vl tc len (p + 1)))) → (pI h' (ad 590) 3 v fun h8 => pI h8 (ad 590) 4 (0 : Int32) fun h9 => gI h9 (ad 590) 2 fun v10 => b_tail sh ad K v10 h9) := fun v h' f5 g5 hv => by
    have hnd := nd_le (tc := tc) (len := len) (p := p + 1)
    rw [pI_t, pI_t]
    have f2 := ((f1.tr (F5_FT f5)).tr (FT_si (k := 3) (v := v) (by omega))).tr (FT_si (k := 4) (v := 0) (by omega))
    have t2 := TXn_FT hi t f2
    have e2 : gi (si (si h' (ad 590) 3 v) (ad 590) 4 0) (ad 590) 2 = nI (tc p) := by rw [gi_si_k (by decide), gi_si_k (by decide), f5.2.2 2 (by decide)]; exact g12
    have e3 : gi (si (si h' (ad 590) 3 v) (ad 590) 4 0) (ad 590) 3 = v := by rw [gi_si_k (by decide), gi_si]
    have e4 : gi (si (si h' (ad 590) 3 v) (ad 590) 4 0) (ad 590) 4 = 0 := gi_si
    have e5 : gi (si (si h' (ad 590) 3 v) (ad 590) 4 0) (ad 590) 5 = nI (p + 1 + nd tc len (p + 1)) := by rw [gi_si_k (by decide), gi_si_k (by decide)]; exact g5
    generalize si (si h' (ad 590) 3 v) (ad 590) 4 0 = h9 at f2 t2 e2 e3 e4 e5 ⊢
    rw [gI_t, e2]
    have two : tc p = 99 ∨ tc p = 115 → b_two sh ad K h9 := fun hc => by
      unfold b_two
      rw [gI_t, e3]
      rcases hv with ⟨n0, v0⟩ | ⟨n0, v0⟩
      · rw [v0, if_pos (by decide)]
        exact k0 (by unfold cmd; rw [if_pos hc, if_pos n0]) h9 f2
      · have hvl := vl_lt n0
        rw [v0, if_neg (nI_pos (by omega)), gI_t, e5]
        refine c_sign X t2 (by omega) (fun q1 => ?_) (fun q1 => ?_)
        · have hr := t2.2.2.2.2 _ q1
          by_cases c44 : tc (p + 1 + nd tc len (p + 1)) = 44
          · have hc44 : isc tc len (p + 1 + nd tc len (p + 1)) 44 := ⟨q1, c44⟩
            rw [if_pos (by rw [c44]; rfl), gI_t, e5, pI_t, nI_1]
            have f3 := f2.tr (FT_si (k := 5) (v := nI (p + 1 + nd tc len (p + 1) + 1)) (by omega))
            have t3 := TXn_FT hi t f3
            have i2 : gi (si h9 (ad 590) 5 (nI (p + 1 + nd tc len (p + 1) + 1))) (ad 590) 2 = nI (tc p) := by rw [gi_si_k (by decide)]; exact e2
            have i3 : gi (si h9 (ad 590) 5 (nI (p + 1 + nd tc len (p + 1) + 1))) (ad 590) 3 = nI (vl tc len (p + 1)) := by rw [gi_si_k (by decide), e3]; exact v0
            have i5 : gi (si h9 (ad 590) 5 (nI (p + 1 + nd tc len (p + 1) + 1))) (ad 590) 5 = nI (p + 2 + nd tc len (p + 1)) := by rw [gi_si]; congr 1; omega
            generalize si h9 (ad 590) 5 (nI (p + 1 + nd tc len (p + 1) + 1)) = h16 at f3 t3 i2 i3 i5 ⊢
            have hnd2 := nd_le (tc := tc) (len := len) (p := p + 2 + nd tc len (p + 1))
            refine c_num X t3 (by omega) i5 (fun m0 h18 f18 g18 => ?_) (fun m0 h18 f18 g18 => ?_)
            · rw [pI_t, gI_t, gi_si_k (by decide), f18.2.2 3 (by decide), i3, if_neg (nI_pos (by omega)), gI_t, gi_si, if_pos (by decide)]
              exact k0 (by unfold cmd; rw [if_pos hc, if_neg n0, if_pos hc44, if_pos m0]) _ ((f3.tr (F5_FT f18)).tr (FT_si (by omega)))
            · have hvl2 := vl_lt m0
              rw [pI_t]
              have f4 := (f3.tr (F5_FT f18)).tr (FT_si (k := 4) (v := nI (vl tc len (p + 2 + nd tc len (p + 1)))) (by omega))
              have t4 := TXn_FT hi t f4
              have j2 : gi (si h18 (ad 590) 4 (nI (vl tc len (p + 2 + nd tc len (p + 1))))) (ad 590) 2 = nI (tc p) := by rw [gi_si_k (by decide), f18.2.2 2 (by decide)]; exact i2
              have j3 : gi (si h18 (ad 590) 4 (nI (vl tc len (p + 2 + nd tc len (p + 1))))) (ad 590) 3 = nI (vl tc len (p + 1)) := by rw [gi_si_k (by decide), f18.2.2 3 (by decide)]; exact i3
              have j4 : gi (si h18 (ad 590) 4 (nI (vl tc len (p + 2 + nd tc len (p + 1))))) (ad 590) 4 = nI (vl tc len (p + 2 + nd tc len (p + 1))) := gi_si
              have j5 : gi (si h18 (ad 590) 4 (nI (vl tc len (p + 2 + nd tc len (p + 1))))) (ad 590) 5 = nI (p + 2 + nd tc len (p + 1) + nd tc len (p + 2 + nd tc len (p + 1))) := by rw [gi_si_k (by decide)]; exact g18
              generalize si h18 (ad 590) 4 (nI (vl tc len (p + 2 + nd tc len (p + 1)))) = h19 at f4 t4 j2 j3 j4 j5 ⊢
              rw [gI_t, j3, if_neg (nI_pos (by omega)), gI_t, j4, if_neg (nI_pos (by omega)), gI_t, j5]
              refine c_sign X t4 (by omega) (fun q2 => ?_) (fun q2 => ?_)
              · have hr2 := t4.2.2.2.2 _ q2
                by_cases c59 : tc (p + 2 + nd tc len (p + 1) + nd tc len (p + 2 + nd tc len (p + 1))) = 59
                · rw [if_pos (by rw [c59]; rfl), gI_t, j5, pI_t, nI_1]
                  refine k1 (tc p) _ _ (p + 3 + nd tc len (p + 1) + nd tc len (p + 2 + nd tc len (p + 1))) _ (by unfold cmd; rw [if_pos hc, if_neg n0, if_pos hc44, if_neg m0, if_pos ⟨q2, c59⟩]) (f4.tr (FT_si (by omega))) (by rw [gi_si_k (by decide)]; exact j2) (by rw [gi_si_k (by decide)]; exact j3) (by rw [gi_si_k (by decide)]; exact j4) (by rw [gi_si]; congr 1; omega)
                · refine if_n (fun z => c59 (nI_inj (b := 59) (by omega) (by omega) z)) ?_
                  exact k0 (by unfold cmd; rw [if_pos hc, if_neg n0, if_pos hc44, if_neg m0, if_neg (fun z => c59 z.2)]) _ f4
              · rw [if_neg (by decide)]
                exact k0 (by unfold cmd; rw [if_pos hc, if_neg n0, if_pos hc44, if_neg m0, if_neg (fun z => q2 z.1)]) _ f4
          · refine if_n (fun z => c44 (nI_inj (b := 44) (by omega) (by omega) z)) ?_
            exact k0 (by unfold cmd; rw [if_pos hc, if_neg n0, if_neg (fun z => c44 z.2)]) _ f2
        · rw [if_neg (by decide)]
          exact k0 (by unfold cmd; rw [if_pos hc, if_neg n0, if_neg (fun z => q1 z.1)]) _ f2
    have one : ¬ (tc p = 99 ∨ tc p = 115) → tc p = 101 ∨ tc p = 116 → b_one sh ad K h9 := fun nc hc => by
      unfold b_one
      rw [gI_t, e3]
      rcases hv with ⟨n0, v0⟩ | ⟨n0, v0⟩
      · rw [v0, if_pos (by decide)]
        exact k0 (by unfold cmd; rw [if_neg nc, if_pos hc, if_pos n0]) h9 f2
      · have hvl := vl_lt n0
        rw [v0, if_neg (nI_pos (by omega)), gI_t, e4, if_neg (by decide), gI_t, e5]
        refine c_sign X t2 (by omega) (fun q1 => ?_) (fun q1 => ?_)
        · have hr := t2.2.2.2.2 _ q1
          by_cases c59 : tc (p + 1 + nd tc len (p + 1)) = 59
          · rw [if_pos (by rw [c59]; rfl), gI_t, e5, pI_t, nI_1]
            exact k1 (tc p) _ 0 (p + 2 + nd tc len (p + 1)) _ (by unfold cmd; rw [if_neg nc, if_pos hc, if_neg n0, if_pos ⟨q1, c59⟩]) (f2.tr (FT_si (by omega))) (by rw [gi_si_k (by decide)]; exact e2) (by rw [gi_si_k (by decide), e3]; exact v0) (by rw [gi_si_k (by decide)]; exact e4) (by rw [gi_si]; congr 1; omega)
          · refine if_n (fun z => c59 (nI_inj (b := 59) (by omega) (by omega) z)) ?_
            exact k0 (by unfold cmd; rw [if_neg nc, if_pos hc, if_neg n0, if_neg (fun z => c59 z.2)]) _ f2
        · rw [if_neg (by decide)]
          exact k0 (by unfold cmd; rw [if_neg nc, if_pos hc, if_neg n0, if_neg (fun z => q1 z.1)]) _ f2
    unfold b_tail
    by_cases c1 : tc p = 99
    · rw [if_pos (by rw [c1]; rfl)]
      exact two (Or.inl c1)
    · refine if_n (fun z => c1 (nI_inj (b := 99) (by omega) (by omega) z)) ?_
      rw [gI_t, e2]
      by_cases c2 : tc p = 115
      · rw [if_pos (by rw [c2]; rfl)]
        exact two (Or.inr c2)
      · refine if_n (fun z => c2 (nI_inj (b := 115) (by omega) (by omega) z)) ?_
        rw [gI_t, e2]
        have nc : ¬ (tc p = 99 ∨ tc p = 115) := fun z => z.elim c1 c2
        by_cases c3 : tc p = 101
        · rw [if_pos (by rw [c3]; rfl)]
          exact one nc (Or.inl c3)
        · refine if_n (fun z => c3 (nI_inj (b := 101) (by omega) (by omega) z)) ?_
          rw [gI_t, e2]
          by_cases c4 : tc p = 116
          · rw [if_pos (by rw [c4]; rfl)]
            exact one nc (Or.inr c4)
          · refine if_n (fun z => c4 (nI_inj (b := 116) (by omega) (by omega) z)) ?_
            exact k0 (by unfold cmd; rw [if_neg nc, if_neg (fun z => z.elim c3 c4)]) _ f2
  refine c_num X t1 (by omega) g15 (fun n0 h' f5 g5 => ?_) (fun n0 h' f5 g5 => ?_)
  · exact tail (-1) h' f5 (by rw [n0]; exact g5) (Or.inl ⟨n0, rfl⟩)
  · exact tail _ h' f5 g5 (Or.inr ⟨n0, rfl⟩)
end XQ

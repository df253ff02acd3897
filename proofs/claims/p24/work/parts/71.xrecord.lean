/-! the class's object: one more state; the trial -/
section XC
variable {sh : Sh} {ad ma : Nat → Nat} {h h' h'' : Hp} {b : Nat → Nat} {m len T : Nat} {A : Nat → AS} {kp : Option AS} {tx : Nat → Int32}
theorem sr_at {h : Hp} {a k j : Nat} {v : Option Nat} : gr (sr h a k v) a j = if j = k then v else gr h a j := by
  simp [gr, sr, va_up]
theorem sr_off {h : Hp} {a c k j : Nat} {v : Option Nat} (e : c ≠ a) : gr (sr h a k v) c j = gr h c j := by
  simp [gr, sr, va_up, e]
theorem pushA_4 {a : AS} {i : Nat} (h : m = 4) : pushA m A a (1 + i) = if i = 3 then A 0 else A (1 + (i + 1)) := by
  unfold pushA
  repeat' split
  all_goals first | rfl | (exfalso; omega) | (congr 1; omega)
theorem pushA_n {a : AS} {i : Nat} (h : m ≠ 4) : pushA m A a (1 + i) = if i = m then A 0 else A (1 + i) := by
  unfold pushA
  repeat' split
  all_goals first | rfl | (exfalso; omega) | (congr 1; omega)
theorem pushB_4 {i : Nat} (h : m = 4) (hi : i < 4) : pushB m b (2 + i) = if i = 3 then b 0 else b (2 + (i + 1)) := by
  unfold pushB
  repeat' split
  all_goals first | rfl | (exfalso; omega) | (congr 1; omega)
theorem pushB_n {i : Nat} (h : m ≠ 4) (hi : i < 4) : pushB m b (2 + i) = if i = m then b 0 else b (2 + i) := by
  unfold pushB
  repeat' split
  all_goals first | rfl | (exfalso; omega) | (congr 1; omega)
theorem CI_re (X : WK sh ad ma) (c : CI ad b m A kp len tx h) (hm : m ≤ 4) {a' : AS} (ha : CA h ad (b 1) a') (ho : ∀ q, q ≠ ad 0 → q ≠ ad 253 → h'.1 q = h.1 q ∧ h'.2 q = h.2 q)
    (r0 : gr h' (ad 0) 0 = some (ad (b 1))) (r1 : gr h' (ad 0) 1 = some (ad (pushB m b 1))) (rk : ∀ k, 2 ≤ k → gr h' (ad 0) k = gr h (ad 0) k) (i5 : gi h' (ad 0) 5 = nI (min (m + 1) 4)) (ik : ∀ k, k ≠ 5 → gi h' (ad 0) k = gi h (ad 0) k)
    (rh : ∀ i, i < 4 → gr h' (ad 253) i = some (ad (pushB m b (2 + i)))) : CI ad (pushB m b) (min (m + 1) 4) (pushA m A a') kp len tx h' := by
  have hi := X.1
  obtain ⟨c1, ⟨x1, x2, x3, x4, x5, x6, x7⟩, c3, c4, c5, c6, c7, c8, c9, c10, c11⟩ := c
  have qb : ∀ i, i < 6 → QB ad h h' (b i) := fun i i1 j hj => ho _ (ad_ne hi (fun z => (outB c1 i1 j hj).1 z.symm)) (ad_ne hi (fun z => (outB c1 i1 j hj).2.1 z.symm))
  have qk : QB ad h h' 169 := fun j hj => ho _ (ad_ne hi (by omega)) (ad_ne hi (by omega))
  have e2 := ho (ad 590) (ad_ne hi (by omega)) (ad_ne hi (by omega))
  have e3 := ho (ad 591) (ad_ne hi (by omega)) (ad_ne hi (by omega))
  have tg : ∀ i, i < 6 → TG h' ad (b i) := fun i i1 => TG_Q (qb i i1) (by
    by_cases z0 : i = 0
    · rw [z0]; exact CT_G c4
    · by_cases z1 : i = 1
      · rw [z1]; exact c5
      · have := c7 (i - 2) (by omega)
        rw [show 2 + (i - 2) = i by omega] at this
        exact this)
  have tp : ∀ i, i < 6 → TG h' ad (pushB m b i) := fun i i1 => by
    unfold pushB
    repeat' split
    all_goals exact tg _ (by omega)
  refine ⟨pushB_BS c1 hm, ⟨r0, r1, by rw [rk 2 (by omega)]; exact x3, by rw [rk 4 (by omega)]; exact x4, by rw [rk 6 (by omega)]; exact x5, rh, by show h'.2 _ _ = _; rw [e2.2]; exact x7⟩, i5, CA_Q (qb 1 (by omega)) ha, tp 1 (by omega), fun i i1 => ?_, fun i i1 => tp _ (by omega), ?_, TG_Q qk c9, by show h'.1 _ _ = _; rw [e2.1]; exact c10, fun i i1 => by show h'.1 _ _ = _; rw [e3.1]; exact c11 i i1⟩
  · by_cases m4 : m = 4
    · rw [pushA_4 m4, pushB_4 m4 (by omega)]
      by_cases z : i = 3
      · rw [if_pos z, if_pos z]
        exact CA_Q (qb 0 (by omega)) c4
      · rw [if_neg z, if_neg z]
        exact CA_Q (qb (2 + (i + 1)) (by omega)) (c6 (i + 1) (by omega))
    · rw [pushA_n m4, pushB_n m4 (by omega)]
      by_cases z : i = m
      · rw [if_pos z, if_pos z]
        exact CA_Q (qb 0 (by omega)) c4
      · rw [if_neg z, if_neg z]
        exact CA_Q (qb (2 + i) (by omega)) (c6 i (by omega))
  · rcases c8 with ⟨z1, z2⟩ | ⟨a, z1, z2, z3⟩
    · exact Or.inl ⟨z1, by rw [ik 3 (by omega)]; exact z2⟩
    · exact Or.inr ⟨a, z1, by rw [ik 3 (by omega)]; exact z2, CA_Q qk z3⟩
theorem x_t0 (X : WK sh ad ma) {P : Prop} : ty sh (ad 0) 5 P = P := ty_t X.2.2.1
theorem x_th (X : WK sh ad ma) {P : Prop} : ty sh (ad 253) 10 P = P := ty_t (by rw [X.2.2.2.1])
theorem x_tt (X : WK sh ad ma) {P : Prop} : ty sh (ad 590) 3 P = P := ty_t X.2.2.2.2.1
theorem x_tx (X : WK sh ad ma) {P : Prop} : ty sh (ad 591) 7 P = P := ty_t (by rw [X.2.2.2.2.2.1])
theorem x_tb (X : WK sh ad ma) (hb : BS b) {i : Nat} (hi : i < 6) {P : Prop} : ty sh (ad (b i)) 2 P = P := ct_t0 (X.2.2.2.2.2.2.1 _ (hb.1 i hi))
theorem x_T (X : WK sh ad ma) (hb : BS b) {i : Nat} (hi : i < 6) : TK sh ad (b i) := X.2.2.2.2.2.2.1 _ (hb.1 i hi)
theorem x_lh (X : WK sh ad ma) {h : Hp} {i q : Nat} (hi : i < 4) {K : Nat → Prop} (e : gr h (ad 253) i = some q) : lR sh h (ad 253) (nI i) K = K q := lR_t (by rw [X.2.2.2.1]; exact hi) (by rw [X.2.2.2.1]; decide) e
theorem x_sh (X : WK sh ad ma) {h : Hp} {i q : Nat} (hi : i < 4) {K : Hp → Prop} : sR sh h (ad 253) (nI i) q K = K (sr h (ad 253) i (some q)) := sR_t (by rw [X.2.2.2.1]; exact hi) (by rw [X.2.2.2.1]; decide)
theorem x_record (X : WK sh ad ma) (c : CI ad b m A kp len tx h) (hm : m ≤ 4) {K : Hp → Prop} (hk : ∀ h2, EQm ma h h2 → (∀ a', CA h ad (b 1) a' → CI ad (pushB m b) (min (m + 1) 4) (pushA m A a') kp len tx h2) → K h2) : f_X5_record sh (ad 0) h K := by
  have hi := X.1
  obtain ⟨c1, ⟨x1, x2, x3, x4, x5, x6, x7⟩, c3, crest⟩ := c
  have c : CI ad b m A kp len tx h := ⟨c1, ⟨x1, x2, x3, x4, x5, x6, x7⟩, c3, crest⟩
  have n03 : ad 253 ≠ ad 0 := ad_ne hi (by omega)
  unfold f_X5_record
  rw [x_t0 X, gR_t x4, x_th X, show (0 : Int32) = nI 0 from rfl, x_lh X (by omega) (x6 0 (by omega)), gI_t, c3]
  by_cases m4 : m = 4
  · rw [if_pos (by subst m4; exact ge4)]
    subst m4
    refine lo_ind (fun d s' h' => ∃ k f, k + d = 5 ∧ 1 ≤ k ∧ k ≤ 4 ∧ s' = nI k ∧ h' = rset h (ad 253) f ∧ (∀ i, i + 1 < k → f i = some (ad (b (3 + i)))) ∧ (∀ i, k ≤ i + 1 → i < 4 → f i = some (ad (b (2 + i))))) ?_ ?_ (d := 4) ⟨1, gr h (ad 253), by omega, by omega, by omega, rfl, rset_self.symm, fun i hi => by omega, fun i _ hi4 => x6 i hi4⟩
    · rintro s' h' ⟨k, f, h1, h2, h3, -⟩
      omega
    · rintro d rec hrec s' h' ⟨k, f, h1, h2, h3, rfl, rfl, h4, h5⟩
      have y4 : gr (rset h (ad 253) f) (ad 0) 4 = some (ad 253) := by rw [gr_rset_ne (Ne.symm n03)]; exact x4
      have y0 : gr (rset h (ad 253) f) (ad 0) 0 = some (ad (b 0)) := by rw [gr_rset_ne (Ne.symm n03)]; exact x1
      unfold b_X5_record_40
      by_cases hz : k = 4
      · subst hz
        rw [if_pos ge4]
        dsimp only
        have i5 : gi (rset h (ad 253) f) (ad 0) 5 = nI 4 := c3
        rw [gR_t y4, gI_t, i5, gR_t y0, x_th X, x_tb X c1 (by omega), show (1 : Int32) = nI 1 from rfl, nI_sub (by omega), x_sh X (by omega), sr_rset]
        rw [gR_t (q := ad (b 1)) (by rw [gr_rset_ne (Ne.symm n03)]; exact x2), pR_t, pR_t]
        refine hk _ (fun q => ?_) (fun a' ha => CI_re X c (by omega) ha (fun q q0 q1 => ?_) ?_ ?_ (fun k hk2 => ?_) ?_ (fun k hk2 => rfl) (fun i hi4 => ?_))
        · refine ⟨rfl, ?_⟩
          show va_up (va_up (va_up h.2 _ _) _ _) _ _ (ma q) = h.2 (ma q)
          rw [va_up_off (fun z => X.2.1 0 q z.symm), va_up_off (fun z => X.2.1 0 q z.symm), va_up_off (fun z => X.2.1 253 q z.symm)]
        · refine ⟨rfl, ?_⟩
          show va_up (va_up (va_up h.2 _ _) _ _) _ _ q = h.2 q
          rw [va_up_off q0, va_up_off q0, va_up_off q1]
        · rw [sr_at, if_neg (by omega), sr_at, if_pos rfl]
        · rw [sr_at, if_pos rfl]
          show some (ad (b (2 + 0))) = _
          rfl
        · rw [sr_at, if_neg (by omega), sr_at, if_neg (by omega), gr_rset_ne (Ne.symm n03)]
        · exact c3
        · rw [sr_off n03, sr_off n03, gr_rset, pushB_4 rfl hi4]
          by_cases z : i = 3
          · subst z
            rw [va_up_self, if_pos rfl]
          · rw [va_up_off (by omega), if_neg z, h4 i (by omega)]
            congr 3
            omega
      · have hk4 : k < 4 := by omega
        rw [if_neg (lt4 hk4), x_t0 X, gR_t y4, gR_t y4, x_th X, x_lh X hk4 (by rw [gr_rset]; exact h5 k (by omega) hk4), x_th X, x_tb X c1 (by omega), show (1 : Int32) = nI 1 from rfl, nI_sub (by omega), x_sh X (by omega), sr_rset, nI_add]
        refine hrec _ _ ⟨k + 1, _, by omega, by omega, by omega, rfl, rfl, fun i hi2 => ?_, fun i hi2 hi4 => by rw [va_up_off (by omega)]; exact h5 i (by omega) hi4⟩
        by_cases z : i = k - 1
        · subst z
          rw [va_up_self]
          congr 3
          omega
        · rw [va_up_off z]; exact h4 i (by omega)
  · have hm4 : m < 4 := by omega
    rw [if_neg (lt4 hm4), gR_t x4, gI_t, c3, x_th X, x_lh X hm4 (x6 m hm4), gI_t, c3, pI_t, nI_1]
    have i5 : gi (si h (ad 0) 5 (nI (m + 1))) (ad 0) 5 = nI (m + 1) := gi_si
    rw [gR_s x4, gI_t, i5, gR_s x1, x_th X, x_tb X c1 (by omega), show (1 : Int32) = nI 1 from rfl, nI_sub (by omega), Nat.add_sub_cancel, x_sh X hm4]
    rw [gR_t (q := ad (b 1)) (by rw [sr_off (Ne.symm n03)]; exact x2), pR_t, pR_t]
    refine hk _ (fun q => ?_) (fun a' ha => CI_re X c hm ha (fun q q0 q1 => ?_) ?_ ?_ (fun k hk2 => ?_) ?_ (fun k hk2 => ?_) (fun i hi4 => ?_))
    · refine ⟨?_, ?_⟩
      · show va_up h.1 _ _ (ma q) = h.1 (ma q)
        rw [va_up_off (fun z => X.2.1 0 q z.symm)]
      · show va_up (va_up (va_up h.2 _ _) _ _) _ _ (ma q) = h.2 (ma q)
        rw [va_up_off (fun z => X.2.1 0 q z.symm), va_up_off (fun z => X.2.1 0 q z.symm), va_up_off (fun z => X.2.1 253 q z.symm)]
    · refine ⟨?_, ?_⟩
      · show va_up h.1 _ _ q = h.1 q
        rw [va_up_off q0]
      · show va_up (va_up (va_up h.2 _ _) _ _) _ _ q = h.2 q
        rw [va_up_off q0, va_up_off q0, va_up_off q1]
    · rw [sr_at, if_neg (by omega), sr_at, if_pos rfl]
    · rw [sr_at, if_pos rfl]
      unfold pushB
      rw [if_neg (by omega), if_neg m4, if_pos rfl]
    · rw [sr_at, if_neg (by omega), sr_at, if_neg (by omega), sr_off (Ne.symm n03)]
      rfl
    · show gi (si h (ad 0) 5 (nI (m + 1))) (ad 0) 5 = _
      rw [i5, show min (m + 1) 4 = m + 1 by omega]
    · show gi (si h (ad 0) 5 (nI (m + 1))) (ad 0) k = _
      exact gi_si_k hk2
    · rw [sr_off n03, sr_off n03, sr_at, pushB_n m4 hi4]
      by_cases z : i = m
      · rw [if_pos z, if_pos z]
      · rw [if_neg z, if_neg z]
        exact x6 i hi4
/-- an answer: an error leaves all as it is, else the trial is the present state -/
theorem x_settle (X : WK sh ad ma) (c : CI ad b m A kp len tx h) (hm : m ≤ 4) {r : Int32} {K : Int32 → Hp → Prop} (k0 : r < 0 → K r h) (k1 : ¬ r < 0 → ∀ h2, EQm ma h h2 → (∀ a', CA h ad (b 1) a' → CI ad (pushB m b) (min (m + 1) 4) (pushA m A a') kp len tx h2) → K r h2) : f_X5_settle sh (ad 0) r h K := by
  unfold f_X5_settle
  by_cases z : r < 0
  · rw [if_pos z]; exact k0 z
  · rw [if_neg z, x_t0 X]
    exact x_record X c hm (k1 z)
/-- the trial becomes a copy of the present state -/
theorem x_trial (X : WK sh ad ma) (c : CI ad b m A kp len tx h) (hp : PA T (A 0)) {K : Hp → Prop} (hk : ∀ h2, CA h2 ad (b 1) (A 0) → FB ad h h2 (b 1) → K h2) : f_X2_copyFrom sh (ad (b 1)) (ad (b 0)) h K := by
  obtain ⟨tk, rm, st, hI, -⟩ := hp
  exact c_copyT (x_T X c.1 (by omega)) X.1 (x_T X c.1 (by omega)) (farB_b c.1 (by omega) (by omega) (by omega)) c.2.2.2.2.1 c.2.2.2.1 hI.1.1.1 hI.1.1.2.1 (SI_5 hI.2.1) hk
end XC

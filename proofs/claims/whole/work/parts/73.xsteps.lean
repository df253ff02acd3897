/-! a call on both sides: the changes -/
theorem MA_ext {f f' g : Nat → Int32} {S : Nat → Ses} {os : List En} {rc : List (Int32 × Int32)} (hm : MA f g S os rc) (he : ∀ k, k < 623 → f' k = f k) : MA f' g S os rc := by
  obtain ⟨a1, a2, ⟨a3, a4, a5⟩, a6, a7, a8⟩ := hm
  refine ⟨fun k hk => by rw [he _ (by omega)]; exact a1 k hk, fun n hn => ?_, ⟨by rw [he _ (by omega)]; exact a3, a4, fun p hp k hk => by rw [he _ (by omega)]; exact a5 p hp k hk⟩, by rw [he _ (by omega)]; exact a6, a7, fun p hp => ⟨by rw [he _ (by omega)]; exact (a8 p hp).1, by rw [he _ (by omega)]; exact (a8 p hp).2⟩⟩
  obtain ⟨m1, m2, m3, m4⟩ := a2 n hn
  exact ⟨fun k hk => by rw [he _ (by omega)]; exact m1 k hk, by rw [he _ (by omega)]; exact m2, m3, fun i hi k hk => by rw [he _ (by omega)]; exact m4 i hi k hk⟩
section XE
variable {sh : Sh} {ad ma : Nat → Nat} {h h' h'' : Hp} {b : Nat → Nat} {m len T : Nat} {A : Nat → AS} {kp : Option AS} {tx : Nat → Int32}
theorem hset_fn {a : Nat} {f : Nat → Int32} : gi (hset h a f) a = f := by funext k; exact gi_hset
theorem r_know (X : WK sh ad ma) (c : RX sh ma m A kp len tx h) (hm : m ≤ 4) {K : Hp → Prop} (hk : ∀ h2 f, MX sh ma h2 → RA f (A 0) → (∀ f' a', RA f' a' → RX sh ma (min (m + 1) 4) (pushA m A a') kp len tx (hset h2 (ma 1) f') ∧ EQa ad h (hset h2 (ma 1) f')) → K (hset h2 (ma 1) f)) : f_X6_know sh (ma 0) h K := by
  obtain ⟨c1, c2, c3, c4, c5, c6, c7⟩ := c
  have key : f_X6_know sh (ma 0) (hset h (ma 1) (gi h (ma 1))) K := by
    refine m_know c1 hm c2 (fun h2 x1 x2 x3 x4 x5 x6 => hk h2 _ x1 c3 (fun f' a' ra => ⟨?_, fun q => ?_⟩))
    · have o : ∀ p k, p ≠ 1 → gi (hset h2 (ma 1) f') (ma p) k = gi h2 (ma p) k := fun p k hp => gi_hset_ne (mx_ne c1 hp)
      have o2 : ∀ p, p ≠ 0 → p ≠ 3 → gi h2 (ma p) = gi h (ma p) := fun p p0 p3 => by
        funext k; show h2.1 _ _ = h.1 _ _; rw [x3 _ (mx_ne c1 p0) (mx_ne c1 p3)]
      refine ⟨mx_h x1, by rw [o 0 3 (by omega)]; exact x5, by rw [hset_fn]; exact ra, fun i hi => ?_, ?_, by rw [o 0 7 (by omega), x4 7 (by omega)]; exact c6, fun i hi => by rw [o 5 i (by omega), o2 5 (by omega) (by omega)]; exact c7 i hi⟩
      · have e : ∀ k, k < 623 → gi (hset h2 (ma 1) f') (ma 3) (623 * i + k) = if i + 1 = min (m + 1) 4 then gi h (ma 1) k else gi h (ma 3) (623 * (if m = 4 then i + 1 else i) + k) := fun k hk => by
          rw [o 3 _ (by omega)]
          exact x6 i k hi hk
        by_cases m4 : m = 4
        · rw [pushA_4 m4]
          by_cases z : i = 3
          · rw [if_pos z]
            exact MA_ext c3 (fun k hk => by rw [e k hk, if_pos (by omega)])
          · rw [if_neg z]
            refine MA_ext (c4 (i + 1) (by omega)) (fun k hk => ?_)
            rw [e k hk, if_neg (by omega), if_pos m4]
        · rw [pushA_n m4]
          by_cases z : i = m
          · rw [if_pos z]
            exact MA_ext c3 (fun k hk => by rw [e k hk, if_pos (by omega)])
          · rw [if_neg z]
            refine MA_ext (c4 i (by omega)) (fun k hk => ?_)
            rw [e k hk, if_neg (by omega), if_neg m4]
      · rcases c5 with ⟨z1, z2⟩ | ⟨a, z1, z2, z3⟩
        · exact Or.inl ⟨z1, by rw [o 0 5 (by omega), x4 5 (by omega)]; exact z2⟩
        · refine Or.inr ⟨a, z1, by rw [o 0 5 (by omega), x4 5 (by omega)]; exact z2, ?_⟩
          have : gi (hset h2 (ma 1) f') (ma 4) = gi h (ma 4) := by funext k; rw [o 4 k (by omega), o2 4 (by omega) (by omega)]
          rw [this]; exact z3
    · refine ⟨?_, ?_⟩
      · show va_up h2.1 _ _ (ad q) = _
        rw [va_up_off (X.2.1 q 1), x3 _ (X.2.1 q 0) (X.2.1 q 3)]
      · show h2.2 (ad q) = _
        rw [x2]
  rw [hset_self] at key
  exact key
/-- the reference's row, looked at -/
theorem r_open (c : RX sh ma m A kp len tx h) {P : Hp → Prop} (hp : MX sh ma h → RA (gi h (ma 1)) (A 0) → P (hset h (ma 1) (gi h (ma 1)))) : P h := by
  have := hp c.1 c.2.2.1
  rw [hset_self] at this
  exact this
theorem isS_t {x : Int32} {h : Hp} {K : Int32 → Hp → Prop} (h1 : ∀ n, n < 4 → x = nI n → K 1 h) (h2 : (∀ n, n < 4 → x ≠ nI n) → K 0 h) : f_X6_isSession sh x h K := by
  unfold f_X6_isSession
  refine in_t (a := 0) (b := 3) (by omega) (by omega) (fun k k1 k2 e => ?_) (fun z _ => ?_)
  · exact ⟨Or.inr rfl, h1 k (by omega) e⟩
  · exact ⟨Or.inl rfl, h2 (fun n hn => z n (by omega) (by omega))⟩
theorem isT_t {x : Int32} {h : Hp} {K : Int32 → Hp → Prop} (h1 : ∀ n, n < 6 → x = nI n → K 1 h) (h2 : (∀ n, n < 6 → x ≠ nI n) → K 0 h) : f_X6_isTable sh x h K := by
  unfold f_X6_isTable
  refine in_t (a := 0) (b := 5) (by omega) (by omega) (fun k k1 k2 e => ?_) (fun z _ => ?_)
  · exact ⟨Or.inr rfl, h1 k (by omega) e⟩
  · exact ⟨Or.inl rfl, h2 (fun n hn => z n (by omega) (by omega))⟩
theorem PI_push {T' : Nat} (p : PI T m A kp len tx) {a' : AS} (ha : PA T' a') (hT : T ≤ T') : PI T' (min (m + 1) 4) (pushA m A a') kp len tx := by
  obtain ⟨p1, p2, p3, p4⟩ := p
  refine ⟨by omega, fun i hi => ?_, fun a ha => PA_T (p3 a ha) hT, p4⟩
  unfold pushA
  repeat' split
  all_goals first | exact ha | exact PA_T (p2 _ (by omega)) hT
theorem MI_T {T' : Nat} (h : MI sh ad ma T h') (hT : T ≤ T') : MI sh ad ma T' h' := by
  obtain ⟨b, m, A, kp, len, tx, c, r, p⟩ := h
  exact ⟨b, m, A, kp, len, tx, c, r, PI_T p hT⟩
theorem PA_nN {a : AS} (h : PA T a) : ∃ tk rm st, INV T (nN a) tk rm st a.1 a.2.1 a.2.2.1.1 a.2.2.1.2 ∧ RW a.2.2.1.1 a.2.2.2.1 ∧ RLt a.2.2.1.2 a.2.2.2.2 st := h
theorem nN_of {g : Nat → Int32} {N : Nat} (hg : g 1 = nI N) (hN : N ≤ 100) {S : Nat → Ses} {o : List En × List (Int32 × Int32)} {w : Slots × Ring} : nN (g, S, o, w) = N := by
  show (g 1).toNatClampNeg = N
  rw [hg, nI_clamp (by omega)]
theorem atS_cnt {g : Nat → Int32} {a : Int32} : ∀ (d k : Nat) (S : Nat → Ses), (atS g a d k S).2 ≤ d := by
  intro d
  induction d with
  | zero => intro k S; exact Nat.le_refl _
  | succ d ih =>
    intro k S
    unfold atS
    split
    · have := ih (k + 1) (comeN g k S 4)
      dsimp only
      omega
    · have := ih (k + 1) S
      omega
theorem tkS_cnt {g : Nat → Int32} {N : Nat} : ∀ (d tk : Nat) (S : Nat → Ses), (tkS g N d tk S).2 ≤ N * d := by
  intro d
  induction d with
  | zero => intro tk S; exact Nat.le_refl _
  | succ d ih =>
    intro tk S
    unfold tkS
    have h1 := atS_cnt (g := g) (a := nI (tk + 1)) N 0 S
    have h2 := ih (tk + 1) (atS g (nI (tk + 1)) N 0 S).1
    dsimp only
    rw [Nat.mul_succ]
    omega
theorem s_tick (X : WK sh ad ma) (I : MI sh ad ma T h) (hT : T < 2 ^ 29) {x : Int32} {K : Int32 → Int32 → Hp → Prop} (hk : ∀ r h', MI sh ad ma (T + 6000) h' → K r r h') : f_X5_tick sh (ad 0) x h (fun r1 h1 => f_X6_tick sh (ma 0) x h1 (fun r2 h2 => K r1 r2 h2)) := by
  obtain ⟨b, m, A, kp, len, tx, cI, rX, pI⟩ := I
  have hm := pI.1
  have hb := cI.1
  obtain ⟨tk, rm, st, hI, hRW, hRL⟩ := pI.2.1 0 (by omega)
  have hI0 := hI
  have hT1 := x_T X hb (i := 1) (by omega)
  obtain ⟨⟨ht, ⟨h0, h0', hd⟩, -⟩, hS, -⟩ := hI
  have hN := ht.1
  have htk : tk ≤ T := h0'
  unfold f_X5_tick
  rw [x_t0 X, gR_t cI.2.1.2.1, gR_t cI.2.1.1, x_tb X hb (by omega)]
  refine x_trial X cI (pI.2.1 0 (by omega)) (fun h2 ca fb => ?_)
  have cI2 := CI_trial X cI fb (CT_G ca) hm
  rw [gR_t cI2.2.1.2.1, x_tb X hb (by omega)]
  refine c_pass hT1 X.1 ca ht (SI_good hS) h0 (by omega) hd (fun hbad => ?_) (fun w h3 w1 w2 hx ca3 fb3 => ?_)
  · refine x_settle X cI2 hm (fun _ => ?_) (fun z => absurd (by decide) z)
    unfold f_X6_tick
    refine in_t (a := 1) (b := 99) (by omega) (by omega) (fun k k1 k2 e => absurd e (hbad k k1 k2)) (fun _ _ => ?_)
    refine if_y rfl (hk _ _ ⟨b, m, A, kp, len, tx, cI2, RX_c (FB_EQm X fb) rX, PI_T pI (by omega)⟩)
  · subst hx
    have cI3 := CI_trial X cI2 fb3 (CT_G ca3) hm
    have hcnt := tkS_cnt (g := (A 0).1) (N := nN (A 0)) w tk (A 0).2.1
    have hcnt2 : nN (A 0) * w ≤ 100 * 99 := Nat.mul_le_mul hN w2
    refine x_settle X cI3 hm (fun z => absurd z (nI_pos (by omega))) (fun _ h4 em hci => ?_)
    have rX4 := RX_c (((FB_EQm X fb).tr (FB_EQm X fb3)).tr em) rX
    have e1 : va_up (A 0).1 0 (nI (tk + w)) 1 = nI (nN (A 0)) := by rw [va_up_off (by decide)]; exact ht.2.1
    unfold f_X6_tick
    refine in_t (a := 1) (b := 99) (by omega) (by omega) (fun k k1 k2 e => ?_) (fun z _ => absurd rfl (z w w1 w2))
    refine if_n (by decide) ?_
    rw [mx_m rX4.1]
    refine r_know X rX4 hm (fun h5 f X5 ra fin => ?_)
    refine m_ticks X5 ra ht (SI_good hS) h0 w2 (fun f' hf' => ?_)
    obtain ⟨q1, q2⟩ := fin f' (va_up (A 0).1 0 (nI (tk + w)), (tkS (A 0).1 (nN (A 0)) w tk (A 0).2.1).1, (A 0).2.2.1, (A 0).2.2.2) hf'
    refine hk _ _ ⟨pushB m b, min (m + 1) 4, _, kp, len, tx, CI_m q2 (hci _ ?_), q1, PI_push pI ⟨tk + w, rm, st, ?_, hRW, hRL⟩ (by omega)⟩
    · show CT h3 ad (b 1) (nN _) _ _ _ _
      rw [nN_of e1 hN]
      exact ca3
    · rw [nN_of e1 hN]
      exact INV_T (INV_tick hI0 w) (by omega)
end XE

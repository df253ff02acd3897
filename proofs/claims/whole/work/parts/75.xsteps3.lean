/-! a call on both sides: start, end -/
section XG
variable {sh : Sh} {ad ma : Nat → Nat} {h h' h'' : Hp} {b : Nat → Nat} {m len T : Nat} {A : Nat → AS} {kp : Option AS} {tx : Nat → Int32}
theorem r_aside (X : WK sh ad ma) (c : RX sh ma m A kp len tx h) {K : Hp → Prop} (hk : ∀ h2 f, MX sh ma h2 → RA f (A 0) → (∀ k, k < 623 → gi h2 (ma 2) k = f k) → (∀ k, gi h2 (ma 0) k = gi h (ma 0) k) → (∀ k, gi h2 (ma 5) k = gi h (ma 5) k) → (∀ h3 f'', (∀ p, 2 ≤ p → p < 6 → gi h3 (ma p) = gi h2 (ma p)) → MX sh ma h3 → gi h3 (ma 0) 3 = gi h2 (ma 0) 3 → gi h3 (ma 0) 5 = gi h2 (ma 0) 5 → gi h3 (ma 0) 7 = gi h2 (ma 0) 7 → (∀ k, k < 623 → f'' k = gi h3 (ma 2) k) → RX sh ma m A kp len tx (hset h3 (ma 1) f'')) → (∀ f'', EQa ad h (hset h2 (ma 1) f'')) → K (hset h2 (ma 1) f)) : f_X6_putAside sh (ma 0) h K := by
  obtain ⟨c1, c2, c3, c4, c5, c6, c7⟩ := c
  have key : f_X6_putAside sh (ma 0) (hset h (ma 1) (gi h (ma 1))) K := by
    refine m_putAside c1 (fun a ha => hk (hset h (ma 2) a) _ (mx_h c1) c3 (fun k hk => by rw [gi_hset]; exact ha k hk) (fun k => gi_hset_ne (mx_ne c1 (by omega))) (fun k => gi_hset_ne (mx_ne c1 (by omega))) (fun h3 f'' e1 e2 e3 e4 e5 e6 => ?_) (fun f'' => EQa.tr (hset_EQa X) (hset_EQa X)))
    have o : ∀ p k, p ≠ 1 → gi (hset h3 (ma 1) f'') (ma p) k = gi h3 (ma p) k := fun p k hp => gi_hset_ne (mx_ne c1 hp)
    have o2 : ∀ p, 3 ≤ p → p < 6 → gi h3 (ma p) = gi h (ma p) := fun p p3 p6 => by
      rw [e1 p (by omega) p6]; funext k; exact gi_hset_ne (mx_ne c1 (by omega))
    have z0 : ∀ k, gi (hset h (ma 2) a) (ma 0) k = gi h (ma 0) k := fun k => gi_hset_ne (mx_ne c1 (by omega))
    refine ⟨mx_h e2, by rw [o 0 3 (by omega), e3, z0]; exact c2, ?_, fun i hi => ?_, ?_, by rw [o 0 7 (by omega), e5, z0]; exact c6, fun i hi => by rw [o 5 i (by omega), o2 5 (by omega) (by omega)]; exact c7 i hi⟩
    · rw [hset_fn]
      exact MA_ext c3 (fun k hk => by rw [e6 k hk, e1 2 (by omega) (by omega), gi_hset, ha k hk])
    · refine MA_ext (c4 i hi) (fun k hk => ?_)
      rw [o 3 _ (by omega), o2 3 (by omega) (by omega)]
    · rcases c5 with ⟨q1, q2⟩ | ⟨a, q1, q2, q3⟩
      · exact Or.inl ⟨q1, by rw [o 0 5 (by omega), e4, z0]; exact q2⟩
      · refine Or.inr ⟨a, q1, by rw [o 0 5 (by omega), e4, z0]; exact q2, ?_⟩
        have : gi (hset h3 (ma 1) f'') (ma 4) = gi h (ma 4) := by funext k; rw [o 4 k (by omega), o2 4 (by omega) (by omega)]
        rw [this]; exact q3
  rw [hset_self] at key
  exact key
/-- what a start does, on the reference's row -/
theorem r_starts {f : Nat → Int32} {a : AS} (X : MX sh ma h) (ra : RA f a) (hp : PA T a) {n s : Nat} (hn : n < 4) (hs1 : 1 ≤ s) (hs : s ≤ 63) {K : Int32 → Hp → Prop}
    (k1 : ∀ f' kn st, a.1 2 = nI st → st ≤ 999 → (a.2.1 n).1 0 = nI kn → kn ≤ nN a → (pcn a.2.2.1.1 n = 4 ∨ st = 999 ∨ uAll a.1 (nI st) (nI s) 6 0 (askC (nN a) kn (a.2.1 n).1) (askL a.1 (nN a) kn (a.2.1 n).2) = none) → K (-3) (hset h (ma 1) f'))
    (k2 : ∀ r f' row kn st, a.1 2 = nI st → st < 999 → (a.2.1 n).1 0 = nI kn → kn ≤ nN a → pcn a.2.2.1.1 n ≠ 4 → uAll a.1 (nI st) (nI s) 6 0 (askC (nN a) kn (a.2.1 n).1) (askL a.1 (nN a) kn (a.2.1 n).2) = some r → row 0 = nI st → row 1 = nI n → row 2 = nI s → row 3 = a.1 0 → (∀ j, j < 6 → bitp (nI s) j → row (4 + j) = r.2.2 j) → MA f' (va_up a.1 2 (nI (st + 1))) (va_up a.2.1 n (r.1, r.2.1)) (a.2.2.1.1 ++ [row]) (rem12 a.2.2.1.2 (nI n, nI s)) → K (nI st) (hset h (ma 1) f')) :
    f_X6_starts sh (ma 0) (nI n) (nI s) (hset h (ma 1) f) K := by
  obtain ⟨tk, rm, st, hI, hRW, hRL⟩ := hp
  obtain ⟨⟨ht, ⟨h0, h0', hd⟩, -, ⟨hrm, hrm8⟩, ⟨hst, hst9⟩, -⟩, hS, hO, hR⟩ := hI
  obtain ⟨-, kn, hkn, hc0⟩ := hS n hn
  refine m_starts X ra ht hn (SI_good hS) hrm hrm8 hst hst9 (fun z => ?_) hkn hc0 (fun f' z => ?_) (fun r f' row z1 z2 z3 z4 z5 z6 z7 z8 z9 => ?_)
  · rw [cntN_pcn] at z
    have := pcn_sum (fun o ho => (hO.1 o ho).2)
    have h1 := hO.2.2 n hn
    have := hO.2.2 0 (by omega)
    have := hO.2.2 1 (by omega)
    have := hO.2.2 2 (by omega)
    have := hO.2.2 3 (by omega)
    have : pcn a.2.2.1.1 n ≤ 3 := by omega
    match n, hn with
    | 0, _ => omega
    | 1, _ => omega
    | 2, _ => omega
    | 3, _ => omega
  · rw [cntN_pcn] at z
    exact k1 f' kn st hst hst9 hc0 hkn z
  · rw [cntN_pcn] at z1
    exact k2 r f' row kn st hst (by omega) hc0 hkn z1 z3 z4 z5 z6 z7 z8 z9
theorem s_start (X : WK sh ad ma) (I : MI sh ad ma T h) {x y : Int32} {K : Int32 → Int32 → Hp → Prop} (hk : ∀ r h', MI sh ad ma T h' → K r r h') : f_X5_start sh (ad 0) x y h (fun r1 h1 => f_X6_start sh (ma 0) x y h1 (fun r2 h2 => K r1 r2 h2)) := by
  obtain ⟨b, m, A, kp, len, tx, cI, rX, pI⟩ := I
  have hm := pI.1
  have hb := cI.1
  have hp0 := pI.2.1 0 (by omega)
  obtain ⟨tk, rm, st, hI, hRW, hRL⟩ := pI.2.1 0 (by omega)
  have hI0 := hI
  have hT1 := x_T X hb (i := 1) (by omega)
  obtain ⟨⟨ht, ⟨h0, h0', hd⟩, -, ⟨hrm, hrm8⟩, ⟨hst, hst9⟩, -⟩, hS, hO, hR⟩ := hI
  have hN := ht.1
  unfold f_X5_start
  rw [x_t0 X, gR_t cI.2.1.2.1, gR_t cI.2.1.1, x_tb X hb (by omega)]
  refine x_trial X cI hp0 (fun h2 ca fb => ?_)
  have cI2 := CI_trial X cI fb (CT_G ca) hm
  have rX2 := RX_c (FB_EQm X fb) rX
  rw [gR_t cI2.2.1.2.1, x_tb X hb (by omega)]
  refine c_begin hT1 X.1 ca ht (SI_good hS) hrm hrm8 hst hst9 (SI_HU hS) (fun hbad => ?_) (fun n kn h3 hn hx hy hkn hc0 hno tg3 fb3 => ?_) (fun n kn j r h3 w' hn hx hy hkn hc0 hj hidle hst2 hu ca3 fb3 w1 w2 w3 w4 w5 => ?_)
  · refine x_settle X cI2 hm (fun _ => ?_) (fun z => absurd (by decide) z)
    unfold f_X6_start f_X6_startFault
    dsimp only
    rw [mx_m rX2.1]
    refine isS_t (fun n hn e => ?_) (fun _ => if_y rfl (if_n (by decide) (hk _ _ (MI_mk cI2 rX2 pI))))
    refine if_n (by decide) ?_
    refine in_t (a := 1) (b := 63) (by omega) (by omega) (fun s s1 s2 e2 => absurd ⟨⟨n, hn, e⟩, s, s1, s2, e2⟩ hbad) (fun _ _ => ?_)
    exact if_y rfl (if_n (by decide) (hk _ _ (MI_mk cI2 rX2 pI)))
  · obtain ⟨s, s1, s2, hy⟩ := hy
    subst hx; subst hy
    have cI3 := CI_trial X cI2 fb3 tg3 hm
    have rX3 := RX_c (FB_EQm X fb3) rX2
    refine x_settle X cI3 hm (fun _ => ?_) (fun z => absurd (by decide) z)
    unfold f_X6_start f_X6_startFault
    dsimp only
    rw [mx_m rX3.1]
    refine isS_t (fun n' hn' e => ?_) (fun z => absurd rfl (z n hn))
    refine if_n (by decide) ?_
    refine in_t (a := 1) (b := 63) (by omega) (by omega) (fun s' s1' s2' e2 => ?_) (fun z _ => absurd rfl (z s s1 s2))
    refine if_n (by decide) ?_
    rw [mx_m rX3.1]
    refine r_aside X rX3 (fun h4 f X4 ra4 a4 _ _ fin feq => ?_)
    refine r_starts X4 ra4 hp0 hn s1 s2 (fun f' kn' st' _ _ _ _ _ => ?_) (fun r f' row kn' st' q1 q2 q3 q4 q5 q6 _ _ _ _ _ _ => ?_)
    · refine m_putBack X4 (fun f'' hf'' => ?_)
      refine if_n (by decide) (if_n (by decide) (hk _ _ (MI_mk (CI_m (feq f'') cI3) (fin h4 f'' (fun _ _ _ => rfl) X4 rfl rfl rfl hf'') pI)))
    · exfalso
      have est : st' = st := nI_inj (by omega) (by omega) (q1.symm.trans hst)
      have ekn : kn' = kn := nI_inj (by omega) (by omega) (q3.symm.trans hc0)
      subst est; subst ekn
      rcases hno with z | z | z
      · exact q5 ((RW_full hRW hO hst9 hn).mpr z)
      · omega
      · rw [q6] at z; cases z
  · obtain ⟨s, s1, s2, hy⟩ := hy
    subst hx; subst hy
    have cI3 := CI_trial X cI2 fb3 (CT_G ca3) hm
    have e1 : va_up (A 0).1 2 (nI (st + 1)) 1 = nI (nN (A 0)) := by rw [va_up_off (by decide)]; exact ht.2.1
    refine x_settle X cI3 hm (fun z => absurd z (nI_pos (by omega))) (fun _ h4 em hci => ?_)
    have rX4 := RX_c ((FB_EQm X fb3).tr em) rX2
    have nofail : ¬ (pcn (A 0).2.2.1.1 n = 4 ∨ st = 999 ∨ uAll (A 0).1 (nI st) (nI s) 6 0 (askC (nN (A 0)) kn ((A 0).2.1 n).1) (askL (A 0).1 (nN (A 0)) kn ((A 0).2.1 n).2) = none) := fun z => by
      rcases z with z | z | z
      · exact (RW_full hRW hO hst9 hn).mp z j hj hidle
      · omega
      · rw [hu] at z; cases z
    unfold f_X6_start f_X6_startFault
    dsimp only
    rw [mx_m rX4.1]
    refine isS_t (fun n' hn' e => ?_) (fun z => absurd rfl (z n hn))
    refine if_n (by decide) ?_
    refine in_t (a := 1) (b := 63) (by omega) (by omega) (fun s' s1' s2' e2 => ?_) (fun z _ => absurd rfl (z s s1 s2))
    refine if_n (by decide) ?_
    rw [mx_m rX4.1]
    refine r_aside X rX4 (fun h5 f X5 ra5 a5 _ _ fin feq => ?_)
    refine r_starts X5 ra5 hp0 hn s1 s2 (fun f' kn' st' q1 q2 q3 q4 q5 => ?_) (fun r' f' row kn' st' q1 q2 q3 q4 q5 q6 _ _ _ _ _ _ => ?_)
    · exfalso
      have est : st' = st := nI_inj (by omega) (by omega) (q1.symm.trans hst)
      have ekn : kn' = kn := nI_inj (by omega) (by omega) (q3.symm.trans hc0)
      subst est; subst ekn
      exact nofail q5
    · refine m_putBack X5 (fun f'' hf'' => ?_)
      refine if_y (nI_pos' (by omega)) (if_y (by decide) ?_)
      have rX6 := fin h5 f'' (fun _ _ _ => rfl) X5 rfl rfl rfl hf''
      have eq6 := feq f''
      generalize hset h5 (ma 1) f'' = h6 at rX6 eq6 ⊢
      refine r_know X rX6 hm (fun h7 f7 X7 ra7 fin7 => ?_)
      refine r_starts X7 ra7 hp0 hn s1 s2 (fun f' kn' st' q1 q2 q3 q4 q5 => ?_) (fun r' f8 row kn' st' q1 q2 q3 q4 q5 q6 r0 r1 r2 r3 r4 hma => ?_)
      · exfalso
        have est : st' = st := nI_inj (by omega) (by omega) (q1.symm.trans hst)
        have ekn : kn' = kn := nI_inj (by omega) (by omega) (q3.symm.trans hc0)
        subst est; subst ekn
        exact nofail q5
      · have est : st' = st := nI_inj (by omega) (by omega) (q1.symm.trans hst)
        have ekn : kn' = kn := nI_inj (by omega) (by omega) (q3.symm.trans hc0)
        subst est; subst ekn
        rw [hu] at q6
        cases q6
        obtain ⟨p1, p2⟩ := fin7 f8 (va_up (A 0).1 2 (nI (st' + 1)), va_up (A 0).2.1 n (r.1, r.2.1), ((A 0).2.2.1.1 ++ [row], rem12 (A 0).2.2.1.2 (nI n, nI s)), (va_up (A 0).2.2.2.1 n w', va_up (A 0).2.2.2.2 (st' % 12) (nI n, nI s))) hma
        refine hk _ _ (MI_mk (CI_m (eq6.tr p2) (hci _ ?_)) p1 (PI_push pI ⟨tk, rm, st' + 1, ?_, ?_, ?_⟩ (Nat.le_refl _)))
        · show CT h3 ad (b 1) (nN _) _ _ _ _
          rw [nN_of e1 hN]
          exact ca3
        · rw [nN_of e1 hN]
          exact INV_start hI0 hn hkn hc0 s1 s2 hst2 q5 hu r0 r1 r2 r4
        · refine RW_push hRW hO hst2 hn hj hidle w1 r0 r1 ⟨w2.trans r0.symm, w3.trans r2.symm, w4.trans r3.symm, fun t ht hbt => ?_⟩
          rw [r2] at hbt
          rw [w5 t ht hbt, r4 t ht hbt]
        · exact RLt_push hRL hR.1
end XG

/-! a call on both sides: end, would -/
section XH
variable {sh : Sh} {ad ma : Nat → Nat} {h h' h'' : Hp} {b : Nat → Nat} {m len T : Nat} {A : Nat → AS} {kp : Option AS} {tx : Nat → Int32}
/-- the row of the statement at a place -/
theorem RW_row {st : Nat} {os : List En} {W : Slots} (hRW : RW os W) (hO : OI st os) (hst : st ≤ 999) {n j p : Nat} (hn : n < 4) (hj : j < 4) (hp : p < os.length) (e : hd os p 0 = W n j 0) : hd os p 1 = nI n ∧ sm (hd os p) (W n j) := by
  rcases hRW.2.1 n j hn hj with z | ⟨o, o1, o2, o3⟩
  · obtain ⟨⟨q, q1, q2⟩, -⟩ := hO.1 _ (hd_mem hp)
    rw [z, q2] at e
    exact absurd e (nI_ne_m1 (by omega))
  · obtain ⟨i, i1, rfl⟩ := mem_hd o1
    have : i = p := OI_at hO i1 hp (o3.1.symm.trans e.symm)
    subst this
    exact ⟨o2, o3⟩
theorem end_pins {g : Nat → Int32} {N rm : Nat} {os : List En} {S : Nat → Ses} (hS : SI g N rm os S) {n p : Nat} (hn : n < 4) (hp : p < os.length) (h1 : hd os p 1 = nI n) : (∀ t, t < 6 → bitp (hd os p 2) t → 0 < pc os n t (hd os p (4 + t))) ∧ pins (hd os p) (S n).2 := by
  have key : ∀ t, t < 6 → bitp (hd os p 2) t → 0 < pc os n t (hd os p (4 + t)) := fun t ht hb => pc_pos.mpr ⟨_, hd_mem hp, h1, hb, rfl⟩
  refine ⟨key, fun t ht hb => ?_⟩
  obtain ⟨e, e1, e2, e3⟩ := (hS n hn).1.1.2.2.2.1 t _ ht (key t ht hb)
  obtain ⟨t', v, u, u1, u2, u3, u4, u5, u6, -⟩ := (hS n hn).1.1.1 e e1
  obtain ⟨i, i1, rfl⟩ := mem_hd e1
  exact ⟨by rw [← e3, u3]; exact nI_pos' (by omega), i, i1, e2, e3⟩
theorem s_end (X : WK sh ad ma) (I : MI sh ad ma T h) {x : Int32} {K : Int32 → Int32 → Hp → Prop} (hk : ∀ r h', MI sh ad ma T h' → K r r h') : f_X5_end sh (ad 0) x h (fun r1 h1 => f_X6_end sh (ma 0) x h1 (fun r2 h2 => K r1 r2 h2)) := by
  obtain ⟨b, m, A, kp, len, tx, cI, rX, pI⟩ := I
  have hm := pI.1
  have hb := cI.1
  have hp0 := pI.2.1 0 (by omega)
  obtain ⟨tk, rm, st, hI, hRW, hRL⟩ := pI.2.1 0 (by omega)
  have hI0 := hI
  have hT1 := x_T X hb (i := 1) (by omega)
  obtain ⟨⟨ht, ⟨h0, h0', hd'⟩, -, ⟨hrm, hrm8⟩, ⟨hst, hst9⟩, -⟩, hS, hO, hR⟩ := hI
  have hN := ht.1
  unfold f_X5_end
  rw [x_t0 X, gR_t cI.2.1.2.1, gR_t cI.2.1.1, x_tb X hb (by omega)]
  refine x_trial X cI hp0 (fun h2 ca fb => ?_)
  have cI2 := CI_trial X cI fb (CT_G ca) hm
  have rX2 := RX_c (FB_EQm X fb) rX
  rw [gR_t cI2.2.1.2.1, x_tb X hb (by omega)]
  refine c_finish hT1 X.1 ca (SI_0 hS) (fun hx => ?_) (fun hx hno => ?_) (fun n j r h3 hx hn hj hw hr ca3 fb3 => ?_)
  · refine x_settle X cI2 hm (fun _ => ?_) (fun z => absurd (by decide) z)
    unfold f_X6_end
    dsimp only
    rw [mx_m rX2.1]
    refine r_open (P := fun h2 => f_X6_endFault sh (ma 0) x h2 fun r2 h3 => if 0 ≤ r2 then f_X6_know sh (ma 0) h3 fun h5 => f_X6_ends sh (ma 0) x h5 fun r6 h7 => K (-1) r6 h7 else K (-1) r2 h3) rX2 (fun X3 ra => ?_)
    refine m_endFault X3 ra (fun _ => ?_) (fun z => absurd z hx) (fun z => absurd z hx)
    rw [hset_self]
    exact if_n (by decide) (hk _ _ (MI_mk cI2 rX2 pI))
  · refine x_settle X cI2 hm (fun _ => ?_) (fun z => absurd (by decide) z)
    unfold f_X6_end
    dsimp only
    rw [mx_m rX2.1]
    refine r_open (P := fun h2 => f_X6_endFault sh (ma 0) x h2 fun r2 h3 => if 0 ≤ r2 then f_X6_know sh (ma 0) h3 fun h5 => f_X6_ends sh (ma 0) x h5 fun r6 h7 => K (-2) r6 h7 else K (-2) r2 h3) rX2 (fun X3 ra => ?_)
    refine m_endFault X3 ra (fun z => absurd hx z) (fun _ _ => ?_) (fun _ p p1 p2 _ => ?_)
    · rw [hset_self]
      exact if_n (by decide) (hk _ _ (MI_mk cI2 rX2 pI))
    · obtain ⟨n, j, q1, q2, q3, q4⟩ := hRW.1 _ (hd_mem p1)
      exact absurd (q4.1.trans p2) (hno n j q1 q2)
  · have cI3 := CI_trial X cI2 fb3 (CT_G ca3) hm
    have hl8 := SI_8 hS hn
    have hlF : (((A 0).2.1 n).2.filterMap (rq ((A 0).2.2.2.1 n j))).length ≤ ((A 0).2.1 n).2.length := List.length_filterMap_le _ _
    have hsl := shr_len ((A 0).1 4) (((A 0).2.1 n).2.filterMap (rq ((A 0).2.2.2.1 n j))).length (((A 0).2.1 n).2.filterMap (rq ((A 0).2.2.2.1 n j))) (by omega)
    rw [← hr] at hsl
    have hres : nI ((A 0).2.1 n).2.length - nI r.1.length = nI (((A 0).2.1 n).2.length - r.1.length) := nI_sub (by omega)
    refine x_settle X cI3 hm (fun z => absurd z (by rw [hres]; exact nI_pos (by omega))) (fun _ h4 em hci => ?_)
    have rX4 := RX_c ((FB_EQm X fb3).tr em) rX2
    unfold f_X6_end
    dsimp only
    rw [mx_m rX4.1]
    refine r_open (P := fun h2 => f_X6_endFault sh (ma 0) x h2 fun r2 h3 => if 0 ≤ r2 then f_X6_know sh (ma 0) h3 fun h5 => f_X6_ends sh (ma 0) x h5 fun r6 h7 => K (nI ((A 0).2.1 n).2.length - nI r.1.length) r6 h7 else K (nI ((A 0).2.1 n).2.length - nI r.1.length) r2 h3) rX4 (fun X3 ra => ?_)
    refine m_endFault X3 ra (fun z => absurd hx z) (fun _ z => ?_) (fun _ p p1 p2 p3 => ?_)
    · exfalso
      rcases hRW.2.1 n j hn hj with q | ⟨o, o1, o2, o3⟩
      · rw [hw] at q
        rw [q] at hx
        exact absurd hx (by decide)
      · obtain ⟨i, i1, rfl⟩ := mem_hd o1
        exact z i i1 (o3.1.symm.trans hw)
    · rw [hset_self]
      refine if_y (by decide) ?_
      obtain ⟨ho1, hsm⟩ := RW_row hRW hO hst9 hn hj p1 (p2.trans hw.symm)
      obtain ⟨hpc, hpin⟩ := end_pins hS hn p1 ho1
      obtain ⟨re1, re2⟩ := rel_eq (hS n hn).1.1 hsm hpc
      refine r_know X rX4 hm (fun h5 f X5 ra5 fin => ?_)
      refine m_ends X5 ra5 hn p1 p2 p3 ho1 hpin (fun f' hf' => ?_)
      rw [re1] at hf' ⊢
      rw [re2, ← hr, nI_add]
      rw [← hr] at hf'
      rw [hres, show ((A 0).2.1 n).2.length - (((A 0).2.1 n).2.filterMap (rq ((A 0).2.2.2.1 n j))).length + r.2 = ((A 0).2.1 n).2.length - r.1.length by omega]
      obtain ⟨q1, q2⟩ := fin f' ((A 0).1, va_up (A 0).2.1 n (va_up ((A 0).2.1 n).1 3 (((A 0).2.1 n).1 3 + nI r.2), r.1), ((A 0).2.2.1.1.eraseIdx p, (A 0).2.2.1.2), (va_up (A 0).2.2.2.1 n (va_up ((A 0).2.2.2.1 n) j (va_up ((A 0).2.2.2.1 n j) 0 (-1))), (A 0).2.2.2.2)) hf'
      refine hk _ _ (MI_mk (CI_m q2 (hci _ ?_)) q1 (PI_push pI ⟨tk, rm, st, ?_, ?_, hRL⟩ (Nat.le_refl _)))
      · exact ca3
      · have := INV_end hI0 hn p1 ho1 hsm
        rw [← hr] at this
        exact this
      · exact RW_erase hRW hO hst9 hn hj p1 ho1 (p2.trans hw.symm)
/-- would: what a start would bring -/
theorem s_would (X : WK sh ad ma) (I : MI sh ad ma T h) {x y z : Int32} {K : Int32 → Int32 → Hp → Prop} (hk : ∀ r h', MI sh ad ma T h' → K r r h') : f_X5_would sh (ad 0) x y z h (fun r1 h1 => f_X6_would sh (ma 0) x y z h1 (fun r2 h2 => K r1 r2 h2)) := by
  have I0 := I
  obtain ⟨b, m, A, kp, len, tx, cI, rX, pI⟩ := I
  have hm := pI.1
  have hb := cI.1
  have hp0 := pI.2.1 0 (by omega)
  obtain ⟨tk, rm, st, hI, hRW, hRL⟩ := pI.2.1 0 (by omega)
  have hT1 := x_T X hb (i := 1) (by omega)
  have hT0 := x_T X hb (i := 0) (by omega)
  obtain ⟨⟨ht, ⟨h0, h0', hd'⟩, -, ⟨hrm, hrm8⟩, ⟨hst, hst9⟩, -⟩, hS, hO, hR⟩ := hI
  have hN := ht.1
  have bad : ∀ h1, MI sh ad ma T h1 → ¬ ((∃ n, n < 4 ∧ x = nI n) ∧ (∃ s, 1 ≤ s ∧ s ≤ 63 ∧ y = nI s) ∧ ∃ q, q ≤ 3 ∧ z = nI q) → f_X6_would sh (ma 0) x y z h1 (fun r2 h2 => K (-1) r2 h2) := fun h1 I1 hb => by
    unfold f_X6_would
    refine isS_t (fun n hn e => ?_) (fun _ => if_y rfl (hk _ _ I1))
    refine if_n (by decide) ?_
    refine in_t (a := 1) (b := 63) (by omega) (by omega) (fun s s1 s2 e2 => ?_) (fun _ _ => if_y rfl (hk _ _ I1))
    refine if_n (by decide) ?_
    refine in_t (a := 0) (b := 3) (by omega) (by omega) (fun q q1 q2 e3 => absurd ⟨⟨n, hn, e⟩, ⟨s, s1, s2, e2⟩, q, q2, e3⟩ hb) (fun _ _ => if_y rfl (hk _ _ I1))
  unfold f_X5_would
  rcases rng x (a := 0) (b := 3) (by omega) (by omega) with ⟨n, -, n2, rfl⟩ | zx | ⟨zx1, zx2⟩
  · have hn : n < 4 := by omega
    rw [if_neg (nI_pos (by omega)), if_neg (lt4 hn)]
    rcases rng z (a := 0) (b := 3) (by omega) (by omega) with ⟨q, -, q2, rfl⟩ | zz | ⟨zz1, zz2⟩
    · rw [if_neg (nI_pos (by omega)), if_pos (by rw [show (3 : Int32) = nI 3 from rfl, nI_leI (by omega) (by omega)]; exact q2), x_t0 X, gR_t cI.2.1.2.1, gR_t cI.2.1.1, x_tb X hb (by omega)]
      refine x_trial X cI hp0 (fun h2 ca fb => ?_)
      have cI2 := CI_trial X cI fb (CT_G ca) hm
      have rX2 := RX_c (FB_EQm X fb) rX
      rw [gR_t cI2.2.1.2.1, x_tb X hb (by omega)]
      refine c_begin hT1 X.1 ca ht (SI_good hS) hrm hrm8 hst hst9 (SI_HU hS) (fun hbad => ?_) (fun n' kn h3 hn' hx hy hkn hc0 hno tg3 fb3 => ?_) (fun n' kn j r h3 w' hn' hx hy hkn hc0 hj hidle hst2 hu ca3 fb3 w1 w2 w3 w4 w5 => ?_)
      · refine if_n (by decide) (bad _ (MI_mk cI2 rX2 pI) (fun q => hbad ⟨q.1, q.2.1⟩))
      · obtain ⟨s, s1, s2, hy⟩ := hy
        have en : n' = n := nI_inj (by omega) (by omega) hx.symm
        subst en; subst hy
        have cI3 := CI_trial X cI2 fb3 tg3 hm
        have rX3 := RX_c (FB_EQm X fb3) rX2
        refine if_n (by decide) ?_
        unfold f_X6_would
        refine isS_t (fun nx hnx e => ?_) (fun z => absurd rfl (z n' hn))
        refine if_n (by decide) ?_
        refine in_t (a := 1) (b := 63) (by omega) (by omega) (fun s' s1' s2' e2 => ?_) (fun z _ => absurd rfl (z s s1 s2))
        refine if_n (by decide) ?_
        refine in_t (a := 0) (b := 3) (by omega) (by omega) (fun s' s1' s2' e2 => ?_) (fun z _ => absurd rfl (z q (by omega) q2))
        refine if_n (by decide) ?_
        rw [mx_m rX3.1]
        refine r_aside X rX3 (fun h4 f X4 ra4 a4 _ _ fin feq => ?_)
        refine r_starts X4 ra4 hp0 hn s1 s2 (fun f' kn' st' _ _ _ _ _ => ?_) (fun r f' row kn' st' q1 q2 q3 q4 q5 q6 _ _ _ _ _ _ => ?_)
        · have last : f_X6_putBack sh (ma 0) (hset h4 (ma 1) f') fun h35 => K (-3) (-3) h35 := m_putBack X4 (fun f'' hf'' => hk _ _ (MI_mk (CI_m (feq f'') cI3) (fin h4 f'' (fun _ _ _ => rfl) X4 rfl rfl rfl hf'') pI))
          by_cases c3 : q = 3
          · subst c3
            refine if_y rfl ?_
            rw [show (0 : Int32) = nI 0 from rfl, of_t, mx_r0 X4, mx_t1 X4, mx_ld X4 (by omega), mx_r1 X4, mx_t2 X4, mx_l2 X4 (by omega)]
            exact m_putBack X4 (fun f'' hf'' => if_n (by decide) (hk _ _ (MI_mk (CI_m (feq f'') cI3) (fin h4 f'' (fun _ _ _ => rfl) X4 rfl rfl rfl hf'') pI)))
          · refine if_n (fun z => c3 (nI_inj (b := 3) (by omega) (by omega) z)) ?_
            rw [show (1 : Int32) = nI 1 from rfl, nI_add, of_t, mx_r0 X4, mx_t1 X4, mx_ld X4 (by omega), mx_r1 X4, mx_t2 X4, mx_l2 X4 (by omega)]
            exact m_putBack X4 (fun f'' hf'' => if_n (by decide) (hk _ _ (MI_mk (CI_m (feq f'') cI3) (fin h4 f'' (fun _ _ _ => rfl) X4 rfl rfl rfl hf'') pI)))
        · exfalso
          have est : st' = st := nI_inj (by omega) (by omega) (q1.symm.trans hst)
          have ekn : kn' = kn := nI_inj (by omega) (by omega) (q3.symm.trans hc0)
          subst est; subst ekn
          rcases hno with z | z | z
          · exact q5 ((RW_full hRW hO hst9 hn).mpr z)
          · omega
          · rw [q6] at z; cases z
      · obtain ⟨s, s1, s2, hy⟩ := hy
        have en : n' = n := nI_inj (by omega) (by omega) hx.symm
        subst en; subst hy
        have cI3 := CI_trial X cI2 fb3 (CT_G ca3) hm
        have rX3 := RX_c (FB_EQm X fb3) rX2
        have e0 := cI3.2.2.2.1
        have es := e0.2.2.2.2.2 n' hn
        have et := ca3.2.2.2.2.2 n' hn
        rw [va_up_self, va_up_self] at et
        refine if_y (nI_pos' (by omega)) ?_
        rw [gR_t cI3.2.1.1, x_tb X hb (by omega), tp_ses hT0 e0.1 hn, gR_t cI3.2.1.2.1, x_tb X hb (by omega), tp_ses hT1 ca3.1 hn]
        have nofail : ¬ (pcn (A 0).2.2.1.1 n' = 4 ∨ st = 999 ∨ uAll (A 0).1 (nI st) (nI s) 6 0 (askC (nN (A 0)) kn ((A 0).2.1 n').1) (askL (A 0).1 (nN (A 0)) kn ((A 0).2.1 n').2) = none) := fun z => by
          rcases z with z | z | z
          · exact (RW_full hRW hO hst9 hn).mp z j hj hidle
          · omega
          · rw [hu] at z; cases z
        have main : ∀ v at_, (q = 3 → at_ = 0) → (q ≠ 3 → at_ = 1 + q) → v = r.1 at_ - ((A 0).2.1 n').1 at_ → f_X6_would sh (ma 0) (nI n') (nI s) (nI q) h3 (fun r2 h2 => K v r2 h2) := fun v at_ ha1 ha2 hv => by
          have hat : at_ < 6 := by by_cases c : q = 3
                                   · rw [ha1 c]; omega
                                   · rw [ha2 c]; omega
          unfold f_X6_would
          refine isS_t (fun nx hnx e => ?_) (fun z => absurd rfl (z n' hn))
          refine if_n (by decide) ?_
          refine in_t (a := 1) (b := 63) (by omega) (by omega) (fun s' s1' s2' e2 => ?_) (fun z _ => absurd rfl (z s s1 s2))
          refine if_n (by decide) ?_
          refine in_t (a := 0) (b := 3) (by omega) (by omega) (fun s' s1' s2' e2 => ?_) (fun z _ => absurd rfl (z q (by omega) q2))
          refine if_n (by decide) ?_
          rw [mx_m rX3.1]
          refine r_aside X rX3 (fun h4 f X4 ra4 a4 _ _ fin feq => ?_)
          refine r_starts X4 ra4 hp0 hn s1 s2 (fun f' kn' st' q1 q2 q3 q4 q5 => ?_) (fun r' f' row kn' st' q1 q2 q3 q4 q5 q6 r0 r1 r2 r3 r4 hma => ?_)
          · exfalso
            have est : st' = st := nI_inj (by omega) (by omega) (q1.symm.trans hst)
            have ekn : kn' = kn := nI_inj (by omega) (by omega) (q3.symm.trans hc0)
            subst est; subst ekn
            exact nofail q5
          · have est : st' = st := nI_inj (by omega) (by omega) (q1.symm.trans hst)
            have ekn : kn' = kn := nI_inj (by omega) (by omega) (q3.symm.trans hc0)
            subst est; subst ekn
            rw [hu] at q6
            cases q6
            have f1 : f' (217 + 55 * n' + at_) = r.1 at_ := by
              have := (hma.2.1 n' hn).1 at_ hat
              rw [va_up_self] at this
              exact this
            have f2 : gi (hset h4 (ma 1) f') (ma 2) (217 + 55 * n' + at_) = ((A 0).2.1 n').1 at_ := by
              rw [gi_o X4 (by omega), a4 _ (by omega)]
              exact (ra4.2.1 n' hn).1 at_ hat
            by_cases c3 : q = 3
            · have ha := ha1 c3
              subst c3; subst ha
              refine if_y rfl ?_
              rw [show (0 : Int32) = nI 0 from rfl, of_t, mx_r0 X4, mx_t1 X4, mx_ld X4 (by omega), mx_r1 X4, mx_t2 X4, mx_l2 X4 (by omega), f1, f2, ← hv]
              exact m_putBack X4 (fun f'' hf'' => if_y (nI_pos' (by omega)) (hk _ _ (MI_mk (CI_m (feq f'') cI3) (fin h4 f'' (fun _ _ _ => rfl) X4 rfl rfl rfl hf'') pI)))
            · have ha := ha2 c3
              subst ha
              refine if_n (fun z => c3 (nI_inj (b := 3) (by omega) (by omega) z)) ?_
              rw [show (1 : Int32) = nI 1 from rfl, nI_add, of_t, mx_r0 X4, mx_t1 X4, mx_ld X4 (by omega), mx_r1 X4, mx_t2 X4, mx_l2 X4 (by omega), f1, f2, ← hv]
              exact m_putBack X4 (fun f'' hf'' => if_y (nI_pos' (by omega)) (hk _ _ (MI_mk (CI_m (feq f'') cI3) (fin h4 f'' (fun _ _ _ => rfl) X4 rfl rfl rfl hf'') pI)))
        by_cases c0 : q = 0
        · subst c0
          refine if_y rfl ?_
          rw [cs_t0 (ct_SK hT1 hn), gI_t, cs_t0 (ct_SK hT0 hn), gI_t, et.2.1 1 (by omega), es.2.1 1 (by omega)]
          exact main _ 1 (fun z => by omega) (fun _ => rfl) rfl
        · refine if_n (fun z => c0 (nI_inj (b := 0) (by omega) (by omega) z)) ?_
          by_cases c1 : q = 1
          · subst c1
            refine if_y rfl ?_
            rw [cs_t0 (ct_SK hT1 hn), gI_t, cs_t0 (ct_SK hT0 hn), gI_t, et.2.1 2 (by omega), es.2.1 2 (by omega)]
            exact main _ 2 (fun z => by omega) (fun _ => rfl) rfl
          · refine if_n (fun z => c1 (nI_inj (b := 1) (by omega) (by omega) z)) ?_
            by_cases c2 : q = 2
            · subst c2
              refine if_y rfl ?_
              rw [cs_t0 (ct_SK hT1 hn), gI_t, cs_t0 (ct_SK hT0 hn), gI_t, et.2.1 3 (by omega), es.2.1 3 (by omega)]
              exact main _ 3 (fun z => by omega) (fun _ => rfl) rfl
            · refine if_n (fun z => c2 (nI_inj (b := 2) (by omega) (by omega) z)) ?_
              rw [cs_t0 (ct_SK hT1 hn), gI_t, cs_t0 (ct_SK hT0 hn), gI_t, et.2.1 0 (by omega), es.2.1 0 (by omega)]
              exact main _ 0 (fun _ => rfl) (fun z => by omega) rfl
    · refine if_y zz ?_
      exact bad h I0 (fun q => by
        obtain ⟨-, -, s, s1, rfl⟩ := q
        exact nI_pos (by omega) zz)
    · refine if_n zz1 (if_n (fun q => nlt_le.mpr q zz2) ?_)
      exact bad h I0 (fun q => by
        obtain ⟨-, -, s, s1, rfl⟩ := q
        rw [nI_ltI (by omega) (by omega)] at zz2; omega)
  · refine if_y zx ?_
    exact bad h I0 (fun q => by
      obtain ⟨⟨n, n1, rfl⟩, -⟩ := q
      exact nI_pos (by omega) zx)
  · refine if_n zx1 (if_y ?_ ?_)
    · rw [Int32.le_iff_toInt_le]; rw [Int32.lt_iff_toInt_lt, nI_toInt (by omega)] at zx2
      have : (4 : Int32).toInt = 4 := by decide
      omega
    · exact bad h I0 (fun q => by
        obtain ⟨⟨n, n1, rfl⟩, -⟩ := q
        rw [nI_ltI (by omega) (by omega)] at zx2; omega)
end XH

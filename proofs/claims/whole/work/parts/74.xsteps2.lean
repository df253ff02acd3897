/-! a call on both sides: alter, set -/
section XF
variable {sh : Sh} {ad ma : Nat → Nat} {h h' h'' : Hp} {b : Nat → Nat} {m len T : Nat} {A : Nat → AS} {kp : Option AS} {tx : Nat → Int32}
/-- the entries by which statements work, and the open statements -/
theorem pin_os {g : Nat → Int32} {N rm st : Nat} {os : List En} {S : Nat → Ses} (hS : SI g N rm os S) (ho : OI st os) {t : Nat} (ht : t < 6) {P : Int32 → Prop} : (∃ e, pinE S (nI t) 4 e ∧ P (e 1)) ↔ ∃ o ∈ os, bitp (o 2) t ∧ P (o (4 + t)) := by
  constructor
  · rintro ⟨e, ⟨n, hn, e1, e2, e3⟩, hP⟩
    obtain ⟨t', v, u, u1, u2, u3, u4, u5, u6, u7, u8, u9⟩ := (hS n hn).1.1.1 e e1
    have et : t' = t := nI_inj (by omega) (by omega) (u2.symm.trans e2)
    subst et
    have hpos : 0 < pc os n t' (e 1) := by
      rcases Nat.eq_zero_or_pos (pc os n t' (e 1)) with z | z
      · rw [u8, z] at e3; exact absurd (show (nI 0 : Int32) ≤ 0 by decide) e3
      · exact z
    obtain ⟨o, o1, o2, o3, o4⟩ := pc_pos.mp hpos
    exact ⟨o, o1, o3, by rw [o4]; exact hP⟩
  · rintro ⟨o, o1, o2, hP⟩
    obtain ⟨-, n, hn, o3⟩ := ho.1 o o1
    have hpos : 0 < pc os n t (o (4 + t)) := pc_pos.mpr ⟨o, o1, o3, o2, rfl⟩
    obtain ⟨e, e1, e2, e3⟩ := (hS n hn).1.1.2.2.2.1 t _ ht hpos
    obtain ⟨t', v, u, u1, u2, u3, u4, u5, u6, u7, u8, u9⟩ := (hS n hn).1.1.1 e e1
    have et : t' = t := nI_inj (by omega) (by omega) (u2.symm.trans e2)
    subst et
    have hb := (hS n hn).1.1.2.2.2.2.2.1 t' (e 1) u1
    refine ⟨e, ⟨n, hn, e1, e2, ?_⟩, by rw [e3]; exact hP⟩
    rw [u8, e3]
    rw [e3] at hb
    exact fun z => by rw [show (0 : Int32) = nI 0 from rfl, nI_leI (by omega) (by omega)] at z; omega
theorem MI_mk (c : CI ad b m A kp len tx h) (r : RX sh ma m A kp len tx h) (p : PI T m A kp len tx) : MI sh ad ma T h := ⟨b, m, A, kp, len, tx, c, r, p⟩
theorem OI_nn {st : Nat} {os : List En} (ho : OI st os) (hst : st ≤ 999) : ∀ o ∈ os, ∃ q, q < 2 ^ 31 ∧ o 0 = nI q := fun o o1 => by
  obtain ⟨⟨q, q1, q2⟩, -⟩ := ho.1 o o1
  exact ⟨q, by omega, q2⟩
theorem s_alter (X : WK sh ad ma) (I : MI sh ad ma T h) (hT : T < 2 ^ 29) {x y : Int32} {K : Int32 → Int32 → Hp → Prop} (hk : ∀ r h', MI sh ad ma T h' → K r r h') : f_X5_alter sh (ad 0) x y h (fun r1 h1 => f_X6_alter sh (ma 0) x y h1 (fun r2 h2 => K r1 r2 h2)) := by
  obtain ⟨b, m, A, kp, len, tx, cI, rX, pI⟩ := I
  have hm := pI.1
  have hb := cI.1
  obtain ⟨tk, rm, st, hI, hRW, hRL⟩ := pI.2.1 0 (by omega)
  have hI0 := hI
  have hT1 := x_T X hb (i := 1) (by omega)
  obtain ⟨⟨ht, ⟨h0, h0', hd⟩, -, -, ⟨hst, hst9⟩, -⟩, hS, hO, hR⟩ := hI
  have hN := ht.1
  unfold f_X5_alter
  rw [x_t0 X, gR_t cI.2.1.2.1, gR_t cI.2.1.1, x_tb X hb (by omega)]
  refine x_trial X cI (pI.2.1 0 (by omega)) (fun h2 ca fb => ?_)
  have cI2 := CI_trial X cI fb (CT_G ca) hm
  have rX2 := RX_c (FB_EQm X fb) rX
  rw [gR_t cI2.2.1.2.1, x_tb X hb (by omega)]
  -- what the reference does where there is an error
  refine c_change hT1 X.1 ca ht (SI_good hS) (SI_vs hS) (fun hbad => ?_) (fun t j t1 hx j1 hy hbad => ?_) (fun t j t1 hx j1 hy hok hsh hN1 => ?_) (fun t j h3 t1 hx j1 hy hok hsh hN1 ca3 fb3 => ?_)
  · refine x_settle X cI2 hm (fun _ => ?_) (fun z => absurd (by decide) z)
    unfold f_X6_alter
    dsimp only
    rw [mx_m rX2.1]
    refine r_open (P := fun h2 => f_X6_alterFault sh (ma 0) x y h2 fun r2 h3 => if 0 ≤ r2 then f_X6_know sh (ma 0) h3 fun h5 => f_X6_alters sh (ma 0) x y h5 fun r6 h7 => K (-1) r6 h7 else K (-1) r2 h3) rX2 (fun X3 ra => ?_)
    refine m_alterFault X3 ra (OI_nn hO hst9) (fun _ => ?_) (fun t ht hx j hj hy _ => absurd ⟨⟨t, ht, hx⟩, j, hj, hy⟩ hbad) (fun t ht hx j hj hy _ _ => absurd ⟨⟨t, ht, hx⟩, j, hj, hy⟩ hbad)
    rw [hset_self]
    refine if_n (by decide) (hk _ _ (MI_mk cI2 rX2 pI))
  · refine x_settle X cI2 hm (fun _ => ?_) (fun z => absurd (by decide) z)
    unfold f_X6_alter
    dsimp only
    rw [mx_m rX2.1]
    refine r_open (P := fun h2 => f_X6_alterFault sh (ma 0) x y h2 fun r2 h3 => if 0 ≤ r2 then f_X6_know sh (ma 0) h3 fun h5 => f_X6_alters sh (ma 0) x y h5 fun r6 h7 => K (-2) r6 h7 else K (-2) r2 h3) rX2 (fun X3 ra => ?_)
    refine m_alterFault X3 ra (OI_nn hO hst9) (fun z => ?_) (fun t' ht' hx' j' hj' hy' _ => ?_) (fun t' ht' hx' j' hj' hy' z1 z2 => ?_)
    · exact absurd (z.elim (fun z => z t t1 hx) (fun z => z j j1 hy)) id
    · rw [hset_self]
      refine if_n (by decide) (hk _ _ (MI_mk cI2 rX2 pI))
    · have et : t' = t := nI_inj (by omega) (by omega) (hx'.symm.trans hx)
      have ej : j' = j := nI_inj (by omega) (by omega) (hy'.symm.trans hy)
      subst et; subst ej
      rcases hbad with q | q
      · obtain ⟨o, o1, o2, o3⟩ := (pin_os hS hO t1 (P := fun v => ¬ (A 0).1 (5 + t') ≤ v)).mp q
        exact absurd ⟨o2, o3⟩ (z1 o o1)
      · exact absurd q z2
  · refine x_settle X cI2 hm (fun _ => ?_) (fun z => absurd (by decide) z)
    unfold f_X6_alter
    dsimp only
    rw [mx_m rX2.1]
    refine r_open (P := fun h2 => f_X6_alterFault sh (ma 0) x y h2 fun r2 h3 => if 0 ≤ r2 then f_X6_know sh (ma 0) h3 fun h5 => f_X6_alters sh (ma 0) x y h5 fun r6 h7 => K (-3) r6 h7 else K (-3) r2 h3) rX2 (fun X3 ra => ?_)
    refine m_alterFault X3 ra (OI_nn hO hst9) (fun z => ?_) (fun t' ht' hx' j' hj' hy' z1 => ?_) (fun t' ht' hx' j' hj' hy' z1 z2 => ?_)
    · exact absurd (z.elim (fun z => z t t1 hx) (fun z => z j j1 hy)) id
    · have et : t' = t := nI_inj (by omega) (by omega) (hx'.symm.trans hx)
      have ej : j' = j := nI_inj (by omega) (by omega) (hy'.symm.trans hy)
      subst et; subst ej
      rcases z1 with ⟨o, o1, o2, o3⟩ | z1
      · obtain ⟨e, e1, e2⟩ := (pin_os hS hO t1 (P := fun v => ¬ (A 0).1 (5 + t') ≤ v)).mpr ⟨o, o1, o2, o3⟩
        exact absurd (hok e e1) e2
      · exact absurd z1 hsh
    · rw [hset_self, ht.2.1, hN1]
      refine if_n (by decide) (hk _ _ (MI_mk cI2 rX2 pI))
  · have cI3 := CI_trial X cI2 fb3 (CT_G ca3) hm
    have hI' := INV_alt (j := j) hI0 hN1 (by omega) t1
    obtain ⟨u, hu, hu2⟩ := hI0.1.2.2.2.2.2 t t1
    refine x_settle X cI3 hm (fun z => absurd z (by rw [hu, nI_1]; exact nI_pos (by omega))) (fun _ h4 em hci => ?_)
    have rX4 := RX_c ((FB_EQm X fb3).tr em) rX2
    have e1 : altG (A 0).1 t j (nN (A 0)) 1 = nI (nN (A 0) + 1) := va_up_self _ _ _
    unfold f_X6_alter
    dsimp only
    rw [mx_m rX4.1]
    refine r_open (P := fun h2 => f_X6_alterFault sh (ma 0) x y h2 fun r2 h3 => if 0 ≤ r2 then f_X6_know sh (ma 0) h3 fun h5 => f_X6_alters sh (ma 0) x y h5 fun r6 h7 => K ((A 0).1 (5 + t) + 1) r6 h7 else K ((A 0).1 (5 + t) + 1) r2 h3) rX4 (fun X3 ra => ?_)
    refine m_alterFault X3 ra (OI_nn hO hst9) (fun z => ?_) (fun t' ht' hx' j' hj' hy' z1 => ?_) (fun t' ht' hx' j' hj' hy' z1 z2 => ?_)
    · exact absurd (z.elim (fun z => z t t1 hx) (fun z => z j j1 hy)) id
    · have et : t' = t := nI_inj (by omega) (by omega) (hx'.symm.trans hx)
      have ej : j' = j := nI_inj (by omega) (by omega) (hy'.symm.trans hy)
      subst et; subst ej
      rcases z1 with ⟨o, o1, o2, o3⟩ | z1
      · obtain ⟨e, e1, e2⟩ := (pin_os hS hO t1 (P := fun v => ¬ (A 0).1 (5 + t') ≤ v)).mpr ⟨o, o1, o2, o3⟩
        exact absurd (hok e e1) e2
      · exact absurd z1 hsh
    · have nh : ¬ nI (nN (A 0)) = nI 100 := fun z => by have := nI_inj (by omega) (by omega) z; omega
      rw [hset_self, ht.2.1, if_neg nh]
      refine if_y (by decide) ?_
      refine r_know X rX4 hm (fun h5 f X5 ra5 fin => ?_)
      rw [hx, hy]
      refine m_alters X5 ra5 ht hN1 (SI_good hS) t1 (fun f' hf' => ?_)
      obtain ⟨q1, q2⟩ := fin f' (altG (A 0).1 t j (nN (A 0)), (if (A 0).1 3 = 0 then comeN (altG (A 0).1 t j (nN (A 0))) (nN (A 0)) (A 0).2.1 4 else (A 0).2.1), (A 0).2.2.1, (A 0).2.2.2) hf'
      refine hk _ _ (MI_mk (CI_m q2 (hci _ ?_)) q1 (PI_push pI ⟨tk, rm, st, ?_, hRW, hRL⟩ (Nat.le_refl _)))
      · show CT h3 ad (b 1) (nN _) _ _ _ _
        rw [nN_of e1 (by omega)]
        exact ca3
      · rw [nN_of e1 (by omega)]
        exact hI'
theorem MA_S {f g : Nat → Int32} {S S' : Nat → Ses} {os : List En} {rc : List (Int32 × Int32)} (hm : MA f g S os rc) (he : ∀ n, n < 4 → S' n = S n) : MA f g S' os rc := by
  obtain ⟨a1, a2, a3⟩ := hm
  exact ⟨a1, fun n hn => by rw [he n hn]; exact a2 n hn, a3⟩
theorem m_set55 {f g : Nat → Int32} {S : Nat → Ses} {os : List En} {rc : List (Int32 × Int32)} (X : MX sh ma h) (hm : MA f g S os rc) {x3 : Int32} {K : Hp → Prop} (hk : ∀ f', MA f' g (shSN (g 4) S 4) os rc → K (hset h (ma 1) f')) : lo (b_X6_set_55 sh (ma 0) x3 (fun h => K h)) (0 : Int32) (hset h (ma 1) f) := by
  refine lo_ind (fun d s' h' => ∃ k f', k + d = 5 ∧ k ≤ 4 ∧ s' = nI k ∧ h' = hset h (ma 1) f' ∧ MA f' g (shSN (g 4) S k) os rc) ?_ ?_ (d := 5) ⟨0, f, by omega, by omega, rfl, rfl, hm⟩
  · rintro s' h' ⟨k, f', h1, h2, -⟩
    omega
  · rintro d rec hrec s' h' ⟨k, f', h1, h2, rfl, rfl, h3⟩
    unfold b_X6_set_55
    by_cases hz : k = 4
    · subst hz
      rw [if_pos ge4]
      exact hk f' h3
    · have hk4 : k < 4 := by omega
      have hms := h3.2.1 k hk4
      have hck : shSN (g 4) S k k = S k := if_neg (by omega)
      rw [hck] at hms
      have b4 := h3.1 4 (by omega)
      rw [if_neg (lt4 hk4), mx_m X, mx_r0 X, mx_t1 X, show (4 : Int32) = nI 4 from rfl, mx_ld X (by omega), b4, nI_1]
      refine m_shrink X hk4 hms (fun f2 f3 f4 => ?_)
      have h8 := MA_sess h3 hk4 f3 f4
      have hss : (va_up (S k).1 3 ((S k).1 3 + nI (shr (g 4) (S k).2.length (S k).2).2), (shr (g 4) (S k).2.length (S k).2).1) = shS (g 4) (S k) := rfl
      rw [hss, shSN_succ] at h8
      exact hrec _ _ ⟨k + 1, f2, by omega, by omega, rfl, rfl, h8⟩
theorem s_set (X : WK sh ad ma) (I : MI sh ad ma T h) {x y : Int32} {K : Int32 → Int32 → Hp → Prop} (hk : ∀ r h', MI sh ad ma T h' → K r r h') : f_X5_set sh (ad 0) x y h (fun r1 h1 => f_X6_set sh (ma 0) x y h1 (fun r2 h2 => K r1 r2 h2)) := by
  obtain ⟨b, m, A, kp, len, tx, cI, rX, pI⟩ := I
  have hm := pI.1
  have hb := cI.1
  obtain ⟨tk, rm, st, hI, hRW, hRL⟩ := pI.2.1 0 (by omega)
  have hI0 := hI
  have hT1 := x_T X hb (i := 1) (by omega)
  obtain ⟨⟨ht, ⟨h0, h0', hd⟩, ⟨dl, hdl, hdl2⟩, ⟨hrm, hrm1, hrm8⟩, ⟨hst, hst9⟩, -⟩, hS, hO, hR⟩ := hI
  have hN := ht.1
  unfold f_X5_set
  rw [x_t0 X, gR_t cI.2.1.2.1, gR_t cI.2.1.1, x_tb X hb (by omega)]
  refine x_trial X cI (pI.2.1 0 (by omega)) (fun h2 ca fb => ?_)
  have cI2 := CI_trial X cI fb (CT_G ca) hm
  have rX2 := RX_c (FB_EQm X fb) rX
  rw [gR_t cI2.2.1.2.1, x_tb X hb (by omega)]
  refine c_adjust hT1 X.1 ca (fun hbad => ?_) (fun v h3 hx v1 hy ca3 fb3 => ?_) (fun v h3 hx v1 v2 hy ca3 fb3 => ?_)
  · refine x_settle X cI2 hm (fun _ => ?_) (fun z => absurd (by decide) z)
    unfold f_X6_set
    refine in_t (a := 0) (b := 1) (by omega) (by omega) (fun k k1 k2 e => ?_) (fun _ _ => ?_)
    · refine if_n (by decide) ?_
      by_cases c0 : k = 0
      · subst c0
        refine if_y e ?_
        rw [e]
        refine in_t (a := 0) (b := 20) (by omega) (by omega) (fun v k1 k2 e2 => absurd (Or.inl ⟨e, v, k2, e2⟩) hbad) (fun _ _ => ?_)
        refine if_y rfl (hk _ _ (MI_mk cI2 rX2 pI))
      · have : k = 1 := by omega
        subst this
        refine if_n (by rw [e]; decide) ?_
        rw [e]
        refine in_t (a := 1) (b := 8) (by omega) (by omega) (fun v k1 k2 e2 => absurd (Or.inr ⟨e, v, k1, k2, e2⟩) hbad) (fun _ _ => ?_)
        refine if_y rfl (hk _ _ (MI_mk cI2 rX2 pI))
    · refine if_y rfl (hk _ _ (MI_mk cI2 rX2 pI))
  · have cI3 := CI_trial X cI2 fb3 (CT_G ca3) hm
    refine x_settle X cI3 hm (fun z => absurd z (by rw [hdl]; exact nI_pos (by omega))) (fun _ h4 em hci => ?_)
    have rX4 := RX_c ((FB_EQm X fb3).tr em) rX2
    have e1 : va_up (A 0).1 3 (nI v) 1 = nI (nN (A 0)) := by rw [va_up_off (by decide)]; exact ht.2.1
    subst hx; subst hy
    unfold f_X6_set
    refine in_t (a := 0) (b := 1) (by omega) (by omega) (fun k k1 k2 e => ?_) (fun z _ => absurd rfl (z 0 (by omega) (by omega)))
    refine if_n (by decide) (if_y rfl ?_)
    refine in_t (a := 0) (b := 20) (by omega) (by omega) (fun k k1 k2 e => ?_) (fun z _ => absurd rfl (z v (by omega) v1))
    refine if_n (by decide) ?_
    rw [mx_m rX4.1]
    refine r_know X rX4 hm (fun h5 f X5 ra fin => ?_)
    rw [mx_r0 X5, mx_t1 X5, i3, nI_add, mx_ld X5 (by omega), mx_r0 X5, mx_t1 X5, mx_st X5 (by omega)]
    rw [show f (3 + 0) = (A 0).1 3 from ra.1 3 (by omega)]
    refine m_set55 X5 (MA_g ra (k := 3 + 0) (by omega)) (fun f' hf' => ?_)
    have g4 : va_up (A 0).1 (3 + 0) (nI v) 4 = nI rm := by rw [va_up_off (by decide)]; exact hrm
    rw [g4] at hf'
    obtain ⟨q1, q2⟩ := fin f' (va_up (A 0).1 3 (nI v), (A 0).2.1, (A 0).2.2.1, (A 0).2.2.2) (MA_S hf' (fun n hn => (shSN_id hS hrm8 n hn).symm))
    refine hk _ _ (MI_mk (CI_m q2 (hci _ ?_)) q1 (PI_push pI ⟨tk, rm, st, ?_, hRW, hRL⟩ (Nat.le_refl _)))
    · show CT h3 ad (b 1) (nN _) _ _ _ _
      rw [nN_of e1 hN]
      exact ca3
    · rw [nN_of e1 hN]
      exact INV_delay hI0 v1
  · have cI3 := CI_trial X cI2 fb3 (CT_G ca3) hm
    refine x_settle X cI3 hm (fun z => absurd z (by rw [hrm]; exact nI_pos (by omega))) (fun _ h4 em hci => ?_)
    have rX4 := RX_c ((FB_EQm X fb3).tr em) rX2
    have e1 : va_up (A 0).1 4 (nI v) 1 = nI (nN (A 0)) := by rw [va_up_off (by decide)]; exact ht.2.1
    subst hx; subst hy
    unfold f_X6_set
    refine in_t (a := 0) (b := 1) (by omega) (by omega) (fun k k1 k2 e => ?_) (fun z _ => absurd rfl (z 1 (by omega) (by omega)))
    refine if_n (by decide) (if_n (by decide) ?_)
    refine in_t (a := 1) (b := 8) (by omega) (by omega) (fun k k1 k2 e => ?_) (fun z _ => absurd rfl (z v v1 v2))
    refine if_n (by decide) ?_
    rw [mx_m rX4.1]
    refine r_know X rX4 hm (fun h5 f X5 ra fin => ?_)
    rw [mx_r0 X5, mx_t1 X5, i3, nI_add, mx_ld X5 (by omega), mx_r0 X5, mx_t1 X5, mx_st X5 (by omega)]
    rw [show f (3 + 1) = (A 0).1 4 from ra.1 4 (by omega)]
    refine m_set55 X5 (MA_g ra (k := 3 + 1) (by omega)) (fun f' hf' => ?_)
    have g4 : va_up (A 0).1 (3 + 1) (nI v) 4 = nI v := va_up_self _ _ _
    rw [g4] at hf'
    obtain ⟨q1, q2⟩ := fin f' (va_up (A 0).1 4 (nI v), shSN (nI v) (A 0).2.1 4, (A 0).2.2.1, (A 0).2.2.2) hf'
    refine hk _ _ (MI_mk (CI_m q2 (hci _ ?_)) q1 (PI_push pI ⟨tk, v, st, ?_, hRW, hRL⟩ (Nat.le_refl _)))
    · show CT h3 ad (b 1) (nN _) _ _ _ _
      rw [nN_of e1 hN]
      exact ca3
    · rw [nN_of e1 hN]
      exact INV_room hI0 v1 v2
end XF

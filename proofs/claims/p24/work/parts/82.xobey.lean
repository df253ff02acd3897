/-! the class does a command -/
section XO
variable {sh : Sh} {ad : Nat → Nat} {h : Hp} {B T0 : Nat} {a : AQ}
theorem c_obey (T : TK sh ad B) (hi : inj ad) (hc : CQ h ad B a) (hp : PQ T0 a) (hT : T0 < 2 ^ 29) {l x y : Nat} (hl : l = 99 ∨ l = 115 ∨ l = 101 ∨ l = 116) (hx : x < 1000) (hy : y < 1000) {K : Int32 → Hp → Prop}
    (k0 : ∀ h', (stepA a l x y).1 < 0 → TG h' ad B → FB ad h h' B → K (stepA a l x y).1 h')
    (k1 : ∀ h', ¬ (stepA a l x y).1 < 0 → CQ h' ad B (stepA a l x y).2 → FB ad h h' B → K (stepA a l x y).1 h') :
    f_X2_obey sh (ad B) (nI l) (nI x) (nI y) h K := by
  obtain ⟨W, L, hm, hRW, hRL⟩ := hc
  obtain ⟨rm, hI⟩ := hp
  have hI0 := hI
  obtain ⟨⟨ht, ⟨h0, h0', hd'⟩, -, ⟨hrm, hrm8⟩, ⟨hst, hst9⟩, -⟩, hS, hO, hR⟩ := hI
  have hN := ht.1
  have er : ∀ v, stepA a l x y = (v, a) → v < 0 → K v h := fun v e hv => by
    rw [e] at k0
    exact k0 h hv (CT_G hm) FB.rf
  unfold f_X2_obey
  have hlit : ∀ q : Nat, q < 2 ^ 31 → nI l = nI q → l = q := fun q hq e => nI_inj (by omega) hq e
  rcases hl with c | c | c | c
  · subst c
    refine if_y rfl ?_
    rw [ct_t0 T]
    have e0 : stepA a 99 x y = stepC a x y := rfl
    rw [e0] at k0 k1 er
    refine c_change T hi hm ht (SI_good hS) (SI_vs hS) (fun hbad => ?_) (fun t j t1 ex j1 ey hbad => ?_) (fun t j t1 ex j1 ey hok hsh hN1 => ?_) (fun t j h3 t1 ex j1 ey hok hsh hN1 ca3 fb3 => ?_)
    · exact er _ (by unfold stepC; rw [pick_y (fun z => hbad ⟨⟨x, z.1, rfl⟩, y, z.2, rfl⟩)]) (by decide)
    · have et : x = t := nI_inj (by omega) (by omega) ex
      have ej : y = j := nI_inj (by omega) (by omega) ey
      subst et; subst ej
      refine er _ ?_ (by decide)
      unfold stepC
      rw [pick_n (fun z => z ⟨t1, j1⟩), pick_y (hbad.imp (fun q => (pin_os hS hO t1 (P := fun v => ¬ a.1 (5 + x) ≤ v)).mp q) id)]
    · have et : x = t := nI_inj (by omega) (by omega) ex
      have ej : y = j := nI_inj (by omega) (by omega) ey
      subst et; subst ej
      refine er _ ?_ (by decide)
      unfold stepC
      rw [pick_n (fun z => z ⟨t1, j1⟩), pick_n (fun z => z.elim (fun q => by
        obtain ⟨e, e1, e2⟩ := (pin_os hS hO t1 (P := fun v => ¬ a.1 (5 + x) ≤ v)).mpr q
        exact e2 (hok e e1)) hsh), pick_y hN1]
    · have et : x = t := nI_inj (by omega) (by omega) ex
      have ej : y = j := nI_inj (by omega) (by omega) ey
      subst et; subst ej
      have e : stepC a x y = (a.1 (5 + x) + 1, (altG a.1 x y (nQ a), (if a.1 3 = 0 then comeN (altG a.1 x y (nQ a)) (nQ a) a.2.1 4 else a.2.1), a.2.2.1, a.2.2.2)) := by
        unfold stepC
        rw [pick_n (fun z => z ⟨t1, j1⟩), pick_n (fun z => z.elim (fun q => by
          obtain ⟨e, e1, e2⟩ := (pin_os hS hO t1 (P := fun v => ¬ a.1 (5 + x) ≤ v)).mpr q
          exact e2 (hok e e1)) hsh), pick_n (fun z => by omega)]
      obtain ⟨u, hu, hu2⟩ := hI0.1.2.2.2.2.2 x t1
      rw [e] at k1
      refine k1 h3 (by show ¬ (a.1 (5 + x) + 1) < 0; rw [hu, nI_1]; exact nI_pos (by omega)) ⟨W, L, ?_, hRW, ?_⟩ fb3
      · have : nQ (altG a.1 x y (nQ a), (if a.1 3 = 0 then comeN (altG a.1 x y (nQ a)) (nQ a) a.2.1 4 else a.2.1), a.2.2.1, a.2.2.2) = nQ a + 1 := by
          show (altG a.1 x y (nQ a) 1).toNatClampNeg = _
          rw [show altG a.1 x y (nQ a) 1 = nI (nQ a + 1) from va_up_self _ _ _, nI_clamp (by omega)]
        rw [this]; exact ca3
      · have : sQ (altG a.1 x y (nQ a), (if a.1 3 = 0 then comeN (altG a.1 x y (nQ a)) (nQ a) a.2.1 4 else a.2.1), a.2.2.1, a.2.2.2) = sQ a := by
          show (altG a.1 x y (nQ a) 2).toNatClampNeg = (a.1 2).toNatClampNeg
          unfold altG
          rw [va_up_off (by omega), va_up_off (by omega), va_up_off (by omega), va_up_off (by omega), va_up_off (by omega)]
        rw [this]; exact hRL
  · subst c
    refine if_n (by decide) (if_n (by decide) (if_y rfl ?_))
    rw [ct_t0 T]
    have e0 : stepA a 115 x y = stepS a x y := rfl
    rw [e0] at k0 k1 er
    have kq : ∀ n kn, n < 4 → (a.2.1 n).1 0 = nI kn → kn ≤ nQ a → kQ a n = kn := fun n kn hn e hk => by
      show ((a.2.1 n).1 0).toNatClampNeg = kn
      rw [e, nI_clamp (by omega)]
    refine c_begin T hi hm ht (SI_good hS) hrm hrm8 hst hst9 (SI_HU hS) (fun hbad => ?_) (fun n kn h3 hn ex ey hkn hc0 hno tg3 fb3 => ?_) (fun n kn j r h3 w' hn ex ey hkn hc0 hj hidle hst2 hu ca3 fb3 w1 w2 w3 w4 w5 => ?_)
    · exact er _ (by unfold stepS; rw [pick_y (fun z => hbad ⟨⟨x, z.1, rfl⟩, y, z.2.1, z.2.2, rfl⟩)]) (by decide)
    · obtain ⟨s, s1, s2, ey⟩ := ey
      have et : x = n := nI_inj (by omega) (by omega) ex
      have ej : y = s := nI_inj (by omega) (by omega) ey
      subst et; subst ej
      have e : stepS a x y = (-3, a) := by
        unfold stepS
        rw [pick_n (fun z => z ⟨hn, s1, s2⟩), kq x kn hn hc0 hkn]
        rcases hno with z | z | z
        · rw [pick_y (Or.inl ((RW_full hRW hO hst9 hn).mpr z))]
        · rw [pick_y (Or.inr z)]
        · rw [z]
          by_cases q : pcn a.2.2.1 x = 4 ∨ sQ a = 999
          · rw [pick_y q]
          · rw [pick_n q]
      rw [e] at k0
      exact k0 h3 (show (-3 : Int32) < 0 by decide) tg3 fb3
    · obtain ⟨s, s1, s2, ey⟩ := ey
      have et : x = n := nI_inj (by omega) (by omega) ex
      have ej : y = s := nI_inj (by omega) (by omega) ey
      subst et; subst ej
      have e : stepS a x y = (nI (sQ a), (va_up a.1 2 (nI (sQ a + 1)), va_up a.2.1 x (r.1, r.2.1), a.2.2.1 ++ [rowC (nI (sQ a)) (nI x) (nI y) (a.1 0) r.2.2], rem12 a.2.2.2 (nI x, nI y))) := by
        unfold stepS
        rw [pick_n (fun z => z ⟨hn, s1, s2⟩), kq x kn hn hc0 hkn, pick_n (fun z => z.elim (fun z => (RW_full hRW hO hst9 hn).mp z j hj hidle) (fun z => by omega)), hu]
      rw [e] at k1
      refine k1 h3 (nI_pos (by omega)) ⟨va_up W x w', va_up L (sQ a % 12) (nI x, nI y), ?_, ?_, ?_⟩ fb3
      · have : nQ (va_up a.1 2 (nI (sQ a + 1)), va_up a.2.1 x (r.1, r.2.1), a.2.2.1 ++ [rowC (nI (sQ a)) (nI x) (nI y) (a.1 0) r.2.2], rem12 a.2.2.2 (nI x, nI y)) = nQ a := by
          show (va_up a.1 2 (nI (sQ a + 1)) 1).toNatClampNeg = (a.1 1).toNatClampNeg
          rw [va_up_off (by omega)]
        rw [this]; exact ca3
      · refine RW_push hRW hO hst2 hn hj hidle w1 rfl rfl ⟨w2, w3, w4, fun t ht hbt => ?_⟩
        rw [w5 t ht hbt]
        exact rowC_v.symm
      · have : sQ (va_up a.1 2 (nI (sQ a + 1)), va_up a.2.1 x (r.1, r.2.1), a.2.2.1 ++ [rowC (nI (sQ a)) (nI x) (nI y) (a.1 0) r.2.2], rem12 a.2.2.2 (nI x, nI y)) = sQ a + 1 := by
          show (va_up a.1 2 (nI (sQ a + 1)) 2).toNatClampNeg = _
          rw [va_up_self, nI_clamp (by omega)]
        rw [this]; exact RLt_push hRL hR.1
  · subst c
    refine if_n (by decide) (if_y rfl ?_)
    rw [ct_t0 T]
    have e0 : stepA a 101 x y = stepE a x := rfl
    rw [e0] at k0 k1 er
    refine c_finish T hi hm (SI_0 hS) (fun z => absurd (nI_pos' (by omega)) z) (fun _ hno => ?_) (fun n j r h3 _ hn hj hw hr ca3 fb3 => ?_)
    · refine er _ ?_ (by decide)
      unfold stepE
      rw [pick_y]
      intro o ho e
      obtain ⟨n, j, q1, q2, q3, q4⟩ := hRW.1 o ho
      exact hno n j q1 q2 (q4.1.trans e)
    · have hsome : ¬ ∀ o ∈ a.2.2.1, o 0 ≠ nI x := fun z => by
        rcases hRW.2.1 n j hn hj with w | ⟨o, o1, o2, o3⟩
        · rw [hw] at w; exact nI_ne_m1 (by omega) w
        · exact z o o1 (o3.1.symm.trans hw)
      obtain ⟨p1, p2⟩ := oQ_some hsome
      obtain ⟨ho1, hsm⟩ := RW_row hRW hO hst9 hn hj p1 (p2.trans hw.symm)
      have en : (hd a.2.2.1 (oQ a x) 1).toNatClampNeg = n := by rw [ho1, nI_clamp (by omega)]
      have efm : (a.2.1 n).2.filterMap (rq (W n j)) = (a.2.1 n).2.filterMap (rq (cw (hd a.2.2.1 (oQ a x)))) := fm_congr (fun e he => by
        obtain ⟨t, ht6, e0⟩ := SI_0 hS n hn e he
        have htb : tb e = t := by unfold tb; rw [e0, nI_clamp (by omega)]
        unfold rq
        rw [htb, hsm.2.1, sm_cw.2.1]
        by_cases hbt : ((hd a.2.2.1 (oQ a x) 2 >>> (nI t &&& 31)) &&& 1) = 1
        · rw [hsm.2.2.2 t ht6 hbt, (sm_cw (o := hd a.2.2.1 (oQ a x))).2.2.2 t ht6 hbt]
        · rw [if_neg (fun z => hbt z.1), if_neg (fun z => hbt z.1)])
      rw [efm] at hr
      have hr' : r = eQ a (oQ a x) n := hr
      have e := (show stepE a x = _ from by unfold stepE; rw [pick_n hsome, en, ← hr'])
      have hl8 := SI_8 hS hn
      have hsl := shr_len (a.1 4) ((a.2.1 n).2.filterMap (rq (cw (hd a.2.2.1 (oQ a x))))).length ((a.2.1 n).2.filterMap (rq (cw (hd a.2.2.1 (oQ a x))))) (Nat.le_trans (List.length_filterMap_le _ _) hl8)
      rw [← hr] at hsl
      have hlF : ((a.2.1 n).2.filterMap (rq (cw (hd a.2.2.1 (oQ a x))))).length ≤ (a.2.1 n).2.length := List.length_filterMap_le _ _
      rw [e] at k1
      rw [nI_sub (by omega)]
      exact k1 h3 (nI_pos (by omega)) ⟨_, L, ca3, RW_erase hRW hO hst9 hn hj p1 ho1 (p2.trans hw.symm), hRL⟩ fb3
  · subst c
    refine if_n (by decide) (if_n (by decide) (if_n (by decide) (if_y rfl ?_)))
    rw [ct_t0 T]
    have e0 : stepA a 116 x y = stepT a x := rfl
    rw [e0] at k0 k1 er
    refine c_pass T hi hm ht (SI_good hS) h0 (by omega) hd' (fun hbad => ?_) (fun w h3 w1 w2 ex ca3 fb3 => ?_)
    · exact er _ (by unfold stepT; rw [pick_y (fun z => hbad x z.1 z.2 rfl)]) (by decide)
    · have et : x = w := nI_inj (by omega) (by omega) ex
      subst et
      have e := (show stepT a x = _ from by unfold stepT; rw [pick_n (fun z => z ⟨w1, w2⟩)])
      have hcnt := tkS_cnt (g := a.1) (N := nQ a) x (tQ a) a.2.1
      have hcnt2 : nQ a * x ≤ 100 * 99 := Nat.mul_le_mul hN w2
      rw [e] at k1
      refine k1 h3 (nI_pos (by omega)) ⟨W, L, ?_, hRW, ?_⟩ fb3
      · have : nQ (va_up a.1 0 (nI (tQ a + x)), (tkS a.1 (nQ a) x (tQ a) a.2.1).1, a.2.2.1, a.2.2.2) = nQ a := by
          show (va_up a.1 0 (nI (tQ a + x)) 1).toNatClampNeg = (a.1 1).toNatClampNeg
          rw [va_up_off (by omega)]
        rw [this]; exact ca3
      · have : sQ (va_up a.1 0 (nI (tQ a + x)), (tkS a.1 (nQ a) x (tQ a) a.2.1).1, a.2.2.1, a.2.2.2) = sQ a := by
          show (va_up a.1 0 (nI (tQ a + x)) 2).toNatClampNeg = (a.1 2).toNatClampNeg
          rw [va_up_off (by omega)]
        rw [this]; exact hRL
end XO

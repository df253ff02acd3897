/-! a call on both sides: what there is -/
section XJ
variable {sh : Sh} {ad ma : Nat → Nat} {h h' : Hp} {f g : Nat → Int32} {S : Nat → Ses} {os : List En} {rc : List (Int32 × Int32)}
theorem m_hands (X : MX sh ma h) (hm : MA f g S os rc) {t : Int32} {K : Int32 → Hp → Prop} (hk : K (nI (hwN S t 4)) (hset h (ma 1) f)) : f_X6_hands sh (ma 0) t (hset h (ma 1) f) K := by
  unfold f_X6_hands
  refine lo_ind (fun d s h' => ∃ k, k + d = 5 ∧ k ≤ 4 ∧ s = (nI (hwN S t k), nI k) ∧ h' = hset h (ma 1) f) ?_ ?_ (d := 5) ⟨0, by omega, by omega, rfl, rfl⟩
  · rintro s h' ⟨k, h1, h2, -⟩
    omega
  · rintro d rec hrec s h' ⟨k, h1, h2, rfl, rfl⟩
    unfold b_X6_hands_4
    dsimp only
    by_cases hz : k = 4
    · subst hz
      rw [if_pos ge4]
      exact hk
    · have hk4 : k < 4 := by omega
      have nx := fun v z => hrec (v, nI (k + 1)) _ ⟨k + 1, by omega, by omega, z, rfl⟩
      have hms := hm.2.1 k hk4
      rw [if_neg (lt4 hk4), mx_m X, nI_1, nI_1, Int32.add_zero]
      refine m_entryOfF X hk4 hms ?_
      have hl := hms.lenle
      rcases lastN_lt (fun e => e 0 = t ∧ e 5 = 0) (S k).2 (S k).2.length with e | ⟨j, j1, j2, -⟩
      · have e' : lastI (fun e => e 0 = t ∧ e 5 = 0) (S k).2 = -1 := e
        rw [e', if_neg (by decide)]
        exact nx _ (by rw [hwN_s, e', if_pos (by decide)])
      · have e' : lastI (fun e => e 0 = t ∧ e 5 = 0) (S k).2 = nI j := j2
        rw [e', if_pos (nI_pos' (by omega))]
        exact nx _ (by rw [hwN_s, e', if_neg (nI_pos (by omega))])
theorem m_onWay (X : MX sh ma h) (hm : MA f g S os rc) {N : Nat} (hN : N ≤ 100) (hgN : g 1 = nI N) {K : Int32 → Hp → Prop} (hk : K (nI (owN g N)) (hset h (ma 1) f)) : f_X6_onWay sh (ma 0) (hset h (ma 1) f) K := by
  unfold f_X6_onWay
  refine lo_ind (fun d s h' => ∃ k, k + d = N + 1 ∧ k ≤ N ∧ s = (nI (owN g k), nI k) ∧ h' = hset h (ma 1) f) ?_ ?_ (d := N + 1) ⟨0, by omega, by omega, rfl, rfl⟩
  · rintro s h' ⟨k, h1, h2, -⟩
    omega
  · rintro d rec hrec s h' ⟨k, h1, h2, rfl, rfl⟩
    have b1 := hm.1 1 (by omega)
    rw [hgN] at b1
    have b0 := hm.1 0 (by omega)
    unfold b_X6_onWay_4
    dsimp only
    rw [mx_m X, mx_r0 X, mx_t1 X, show (1 : Int32) = nI 1 from rfl, mx_ld X (by omega), b1]
    by_cases hz : k = N
    · subst hz
      rw [if_pos (nI_le (by omega) (by omega))]
      exact hk
    · have hkN : k < N := by omega
      have nx := fun v z => hrec (v, nI (k + 1)) _ ⟨k + 1, by omega, by omega, z, rfl⟩
      rw [if_neg (nI_ge (by omega) (by omega)), mx_r0 X, mx_t1 X, i117, nI_add, mx_ld X (by omega), hm.1 (117 + k) (by omega), mx_r0 X, mx_t1 X, show (0 : Int32) = nI 0 from rfl, mx_ld X (by omega), b0, nI_add, nI_add, nI_add, Nat.add_zero]
      by_cases c : g (117 + k) ≤ g 0
      · rw [if_pos c]; exact nx _ (by rw [owN_s, if_pos c])
      · rw [if_neg c]; exact nx _ (by rw [owN_s, if_neg c])
theorem m_canChange (X : MX sh ma h) (hm : MA f g S os rc) (hnn : ∀ o ∈ os, ∃ q, q < 2 ^ 31 ∧ o 0 = nI q) {K : Int32 → Hp → Prop} (hk : K (tcS (fun t => ∀ o ∈ os, ¬ (bitp (o 2) t ∧ ¬ g (5 + t) ≤ o (4 + t))) 6) (hset h (ma 1) f)) : f_X6_canChange sh (ma 0) (hset h (ma 1) f) K := by
  unfold f_X6_canChange
  refine lo_ind (fun d s h' => ∃ k, k + d = 7 ∧ k ≤ 6 ∧ s = (tcS (fun t => ∀ o ∈ os, ¬ (bitp (o 2) t ∧ ¬ g (5 + t) ≤ o (4 + t))) k, nI k) ∧ h' = hset h (ma 1) f) ?_ ?_ (d := 7) ⟨0, by omega, by omega, rfl, rfl⟩
  · rintro s h' ⟨k, h1, h2, -⟩
    omega
  · rintro d rec hrec s h' ⟨k, h1, h2, rfl, rfl⟩
    unfold b_X6_canChange_4
    dsimp only
    by_cases hz : k = 6
    · subst hz
      rw [if_pos ge6]
      exact hk
    · have hk6 : k < 6 := by omega
      have nx := fun v z => hrec (v, nI (k + 1)) _ ⟨k + 1, by omega, by omega, z, rfl⟩
      have ne4 : ∀ o ∈ os, o 0 ≠ -4 := fun o ho e => by
        obtain ⟨q, q1, q2⟩ := hnn o ho
        rw [q2] at e
        have := congrArg Int32.toInt e
        rw [nI_toInt q1] at this
        have h4 : (-4 : Int32).toInt = -4 := by decide
        omega
      rw [if_neg (lt6 hk6), mx_m X, nI_1, Int32.or_zero]
      refine m_inWay X hm hk6 ne4 (fun r hr => ?_)
      rcases hr with ⟨r1, r2⟩ | ⟨⟨o, o1, o2, o3⟩, -⟩
      · rw [if_pos (by exact r1)]
        exact nx _ (by rw [tcS_y r2])
      · rw [if_neg (fun z : r = -4 => ne4 o o1 (o3.trans z))]
        exact nx _ (by rw [tcS_n (fun z => z o o1 o2)])
theorem tcS_congr {P Q : Nat → Prop} : ∀ k, (∀ t, t < k → (P t ↔ Q t)) → tcS P k = tcS Q k := by
  intro k
  induction k with
  | zero => intro _; rfl
  | succ k ih =>
    intro h
    by_cases c : P k
    · rw [tcS_y c, tcS_y ((h k (by omega)).mp c), ih (fun t ht => h t (by omega))]
    · rw [tcS_n c, tcS_n (fun z => c ((h k (by omega)).mpr z)), ih (fun t ht => h t (by omega))]
theorem m_allLoads (X : MX sh ma h) (hm : MA f g S os rc) {K : Int32 → Hp → Prop} (hk : K (ldN S 4) (hset h (ma 1) f)) : f_X6_allLoads sh (ma 0) (hset h (ma 1) f) K := by
  unfold f_X6_allLoads
  refine lo_ind (fun d s h' => ∃ k, k + d = 5 ∧ k ≤ 4 ∧ s = (ldN S k, nI k) ∧ h' = hset h (ma 1) f) ?_ ?_ (d := 5) ⟨0, by omega, by omega, rfl, rfl⟩
  · rintro s h' ⟨k, h1, h2, -⟩
    omega
  · rintro d rec hrec s h' ⟨k, h1, h2, rfl, rfl⟩
    unfold b_X6_allLoads_4
    dsimp only
    by_cases hz : k = 4
    · subst hz
      rw [if_pos ge4]
      exact hk
    · have hk4 : k < 4 := by omega
      rw [if_neg (lt4 hk4), mx_m X, mx_r0 X, show (2 : Int32) = nI 2 from rfl, of_t, mx_t1 X, mx_ld X (by omega), (hm.2.1 k hk4).1 2 (by omega), nI_1]
      exact hrec _ _ ⟨k + 1, by omega, by omega, rfl, rfl⟩
theorem m_older (X : MX sh ma h) (hm : MA f g S os rc) {p : Nat} (hp : p < os.length) {K : Int32 → Hp → Prop} (hk : K (olN (hd os p 2) (fun t => hd os p (4 + t)) g 6) (hset h (ma 1) f)) : f_X6_older sh (ma 0) (nI p) (hset h (ma 1) f) K := by
  have hp16 := hm.2.2.1.2.1
  unfold f_X6_older
  refine lo_ind (fun d s h' => ∃ k, k + d = 7 ∧ k ≤ 6 ∧ s = (olN (hd os p 2) (fun t => hd os p (4 + t)) g k, nI k) ∧ h' = hset h (ma 1) f) ?_ ?_ (d := 7) ⟨0, by omega, by omega, rfl, rfl⟩
  · rintro s h' ⟨k, h1, h2, -⟩
    omega
  · rintro d rec hrec s h' ⟨k, h1, h2, rfl, rfl⟩
    unfold b_X6_older_4
    dsimp only
    by_cases hz : k = 6
    · subst hz
      rw [if_pos ge6]
      exact hk
    · have hk6 : k < 6 := by omega
      have nx := fun v z => hrec (v, nI (k + 1)) _ ⟨k + 1, by omega, by omega, z, rfl⟩
      rw [if_neg (lt6 hk6), mx_m X, mx_r0 X, show (2 : Int32) = nI 2 from rfl, ofO_t, mx_t1 X, mx_ld X (by omega), hm.2.2.1.2.2 p hp 2 (by omega), nI_1, Int32.or_zero]
      by_cases hb : ((hd os p 2 >>> (nI k &&& 31)) &&& 1) = 1
      · rw [if_pos hb, mx_r0 X, mx_t1 X, show (5 : Int32) = nI 5 from rfl, nI_add, mx_ld X (by omega), hm.1 (5 + k) (by omega), mx_r0 X, show (4 : Int32) = nI 4 from rfl, nI_add, ofO_t, mx_t1 X, mx_ld X (by omega), hm.2.2.1.2.2 p hp (4 + k) (by omega)]
        by_cases c : g (5 + k) ≤ hd os p (4 + k)
        · rw [if_pos c]; exact nx _ (by rw [olN_s, if_neg (fun z => z.2 c)])
        · rw [if_neg c]; exact nx _ (by rw [olN_s, if_pos ⟨hb, c⟩])
      · rw [if_neg hb]
        exact nx _ (by rw [olN_s, if_neg (fun z => hb z.1)])
theorem olN_congr {set : Int32} {v v' g : Nat → Int32} : ∀ k, (∀ t, t < k → ((set >>> (nI t &&& 31)) &&& 1) = 1 → v t = v' t) → olN set v g k = olN set v' g k := by
  intro k
  induction k with
  | zero => intro _; rfl
  | succ k ih =>
    intro h
    rw [olN_s, olN_s, ih (fun t ht => h t (by omega))]
    by_cases hb : ((set >>> (nI k &&& 31)) &&& 1) = 1
    · rw [h k (by omega) hb]
    · rw [if_neg (fun z => hb z.1), if_neg (fun z => hb z.1)]
variable {b : Nat → Nat} {m len T : Nat} {A : Nat → AS} {kp : Option AS} {tx : Nat → Int32}
theorem s_tableOf (X : WK sh ad ma) (I : MI sh ad ma T h) {x y : Int32} {K : Int32 → Int32 → Hp → Prop} (hk : ∀ r, K r r h) : f_X5_tableOf sh (ad 0) x y h (fun r1 h1 => f_X6_tableOf sh (ma 0) x y h1 (fun r2 h2 => K r1 r2 h2)) := by
  obtain ⟨b, m, A, kp, len, tx, cI, rX, pI⟩ := I
  have hb := cI.1
  have hp0 := pI.2.1 0 (by omega)
  obtain ⟨tk, rm, st, hI, hRW, hRL⟩ := pI.2.1 0 (by omega)
  have hT0 := x_T X hb (i := 0) (by omega)
  obtain ⟨⟨ht, -, -, -, ⟨hst, hst9⟩, hv⟩, hS, hO, hR⟩ := hI
  have c0 := cI.2.2.2.1
  have bad : (∀ t, t < 6 → x ≠ nI t) → f_X6_tableOf sh (ma 0) x y h (fun r2 h2 => K (-1) r2 h2) := fun hb => by
    unfold f_X6_tableOf
    exact isT_t (fun n hn e => absurd e (hb n hn)) (fun _ => if_y rfl (hk _))
  have vn : ∀ {t : Nat} {o : En}, t < 6 → o ∈ (A 0).2.2.1.1 → bitp (o 2) t → ∃ v, v < 2 ^ 31 ∧ o (4 + t) = nI v := fun {t o} ht ho hbt => by
    obtain ⟨-, n, hn, o3⟩ := hO.1 o ho
    obtain ⟨e, e1, e2, e3⟩ := (hS n hn).1.1.2.2.2.1 t _ ht (pc_pos.mpr ⟨o, ho, o3, hbt, rfl⟩)
    obtain ⟨t', v, u, u1, u2, u3, u4, u5, u6, -⟩ := (hS n hn).1.1.1 e e1
    exact ⟨v, by omega, by rw [← e3]; exact u3⟩
  unfold f_X5_tableOf
  rcases rng x (a := 0) (b := 5) (by omega) (by omega) with ⟨t, -, t2, rfl⟩ | zx | ⟨zx1, zx2⟩
  · have ht6 : t < 6 := by omega
    rw [if_neg (nI_pos (by omega)), if_pos (by rw [show (6 : Int32) = nI 6 from rfl, nI_ltI (by omega) (by omega)]; exact ht6)]
    have open_ : ∀ (P : Int32 → Hp → Prop) (v : Int32), (∀ f, RA f (A 0) → MX sh ma h → hset h (ma 1) f = h → (if y = 0 then ty sh (ma 0) 6 <| gR (hset h (ma 1) f) (ma 0) 0 fun q4 => ty sh q4 7 <| lI sh (hset h (ma 1) f) q4 ((5 : Int32) + nI t) fun v6 => P v6 (hset h (ma 1) f) else if y = 1 then ty sh (ma 0) 6 <| gR (hset h (ma 1) f) (ma 0) 0 fun q9 => ty sh q9 7 <| lI sh (hset h (ma 1) f) q9 ((11 : Int32) + nI t) fun v11 => P v11 (hset h (ma 1) f) else if y = 2 then ty sh (ma 0) 6 <| f_X6_leastVersion sh (ma 0) (nI t) (hset h (ma 1) f) fun r14 h15 => P r14 h15 else if y = 3 then ty sh (ma 0) 6 <| f_X6_hands sh (ma 0) (nI t) (hset h (ma 1) f) fun r17 h18 => P r17 h18 else if y = 4 then ty sh (ma 0) 6 <| f_X6_inWay sh (ma 0) (nI t) (hset h (ma 1) f) fun r20 h21 => if r20 = (-4 : Int32) then P (1 : Int32) h21 else P (0 : Int32) h21 else P (-1 : Int32) (hset h (ma 1) f))) → f_X6_tableOf sh (ma 0) (nI t) y h P := fun P v hP => by
      unfold f_X6_tableOf
      refine isT_t (fun n hn e => ?_) (fun z => absurd rfl (z t ht6))
      refine if_n (by decide) ?_
      have := hP _ rX.2.2.1 rX.1 hset_self
      rw [hset_self] at this
      exact this
    by_cases y0 : y = 0
    · rw [if_pos y0, x_t0 X, gR_t cI.2.1.1, x_tb X hb (by omega), gR_t c0.1.1, ct_t1 hT0, ct_l1 hT0 ht6, (c0.2.2.1 t ht6).1]
      refine open_ _ 0 (fun f ra X3 hh => ?_)
      rw [if_pos y0, mx_m X3, mx_r0 X3, mx_t1 X3, i5, nI_add, mx_ld X3 (by omega), ra.1 (5 + t) (by omega), hh]
      exact hk _
    · rw [if_neg y0]
      by_cases y1 : y = 1
      · rw [if_pos y1, x_t0 X, gR_t cI.2.1.1, x_tb X hb (by omega), gR_t c0.1.2.1, ct_t2 hT0, ct_l2 hT0 ht6, (c0.2.2.1 t ht6).2]
        refine open_ _ 0 (fun f ra X3 hh => ?_)
        rw [if_neg y0, if_pos y1, mx_m X3, mx_r0 X3, mx_t1 X3, i11, nI_add, mx_ld X3 (by omega), ra.1 (11 + t) (by omega), hh]
        exact hk _
      · rw [if_neg y1]
        by_cases y2 : y = 2
        · rw [if_pos y2, x_t0 X, gR_t cI.2.1.1, x_tb X hb (by omega)]
          refine c_leastVT hT0 c0 (SI_vs hS t ht6) (fun r hr => ?_)
          refine open_ _ 0 (fun f ra X3 hh => ?_)
          rw [if_neg y0, if_neg y1, if_pos y2, mx_m X3]
          refine m_leastVersion X3 ra ht6 (fun o ho hbt e => ?_) (fun r2 hr2 => ?_)
          · obtain ⟨v, v1, v2⟩ := vn ht6 ho hbt
            rw [v2] at e
            have := congrArg Int32.toInt e
            rw [nI_toInt v1] at this
            have h4 : (-4 : Int32).toInt = -4 := by decide
            omega
          · have er : r = r2 := mn_uniq hr (mn_of hr2) (fun e he => by
              obtain ⟨o, o1, o2, o3⟩ := (pin_os hS hO ht6 (P := fun v => v = e 1)).mp ⟨e, he, rfl⟩
              exact ⟨o, ⟨o1, o2⟩, o3⟩) (fun o ho => by
              obtain ⟨e, e1, e2⟩ := (pin_os hS hO ht6 (P := fun v => v = o (4 + t))).mpr ⟨o, ho.1, ho.2, rfl⟩
              exact ⟨e, e1, e2⟩)
            rw [← er, hh]
            exact hk _
        · rw [if_neg y2]
          by_cases y3 : y = 3
          · rw [if_pos y3, x_t0 X, gR_t cI.2.1.1, x_tb X hb (by omega)]
            refine c_handsWith hT0 c0 (SI_uq hS ht6) ?_
            refine open_ _ 0 (fun f ra X3 hh => ?_)
            rw [if_neg y0, if_neg y1, if_neg y2, if_pos y3, mx_m X3]
            refine m_hands X3 ra ?_
            rw [hh]
            exact hk _
          · rw [if_neg y3]
            by_cases y4 : y = 4
            · rw [if_pos y4, x_t0 X, gR_t cI.2.1.1, x_tb X hb (by omega)]
              have ne4 : ∀ o ∈ (A 0).2.2.1.1, o 0 ≠ -4 := fun o ho e => by
                obtain ⟨q, q1, q2⟩ := OI_nn hO hst9 o ho
                rw [q2] at e
                have := congrArg Int32.toInt e
                rw [nI_toInt q1] at this
                have h4 : (-4 : Int32).toInt = -4 := by decide
                omega
              refine c_canChange hT0 c0 ht6 (SI_vs hS t ht6) (fun z => ?_) (fun z => ?_)
              · rw [if_neg (by decide)]
                refine open_ _ 0 (fun f ra X3 hh => ?_)
                rw [if_neg y0, if_neg y1, if_neg y2, if_neg y3, if_pos y4, mx_m X3]
                refine m_inWay X3 ra ht6 ne4 (fun r hr => ?_)
                rcases hr with ⟨r1, -⟩ | ⟨⟨o, o1, o2, o3⟩, -⟩
                · rw [if_pos (by exact r1), hh]; exact hk _
                · obtain ⟨e, e1, e2⟩ := (pin_os hS hO ht6 (P := fun v => ¬ (A 0).1 (5 + t) ≤ v)).mpr ⟨o, o1, o2⟩
                  exact absurd (z e e1) e2
              · rw [if_pos rfl]
                refine open_ _ 0 (fun f ra X3 hh => ?_)
                rw [if_neg y0, if_neg y1, if_neg y2, if_neg y3, if_pos y4, mx_m X3]
                refine m_inWay X3 ra ht6 ne4 (fun r hr => ?_)
                obtain ⟨o, o1, o2⟩ := (pin_os hS hO ht6 (P := fun v => ¬ (A 0).1 (5 + t) ≤ v)).mp z
                rcases hr with ⟨-, r2⟩ | ⟨⟨p, p1, p2, p3⟩, -⟩
                · exact absurd o2 (r2 o o1)
                · rw [if_neg (fun w : r = -4 => ne4 p p1 (p3.trans w)), hh]; exact hk _
            · rw [if_neg y4]
              refine open_ _ 0 (fun f ra X3 hh => ?_)
              rw [if_neg y0, if_neg y1, if_neg y2, if_neg y3, if_neg y4, hh]
              exact hk _
  · refine if_y zx (bad (fun c c1 e => ?_))
    rw [e] at zx; exact nI_pos (by omega) zx
  · refine if_n zx1 (if_n (fun q => ?_) (bad (fun c c1 e => ?_)))
    · rw [Int32.lt_iff_toInt_lt] at q zx2
      rw [nI_toInt (by omega)] at zx2
      have : (6 : Int32).toInt = 6 := by decide
      omega
    · rw [e, nI_ltI (by omega) (by omega)] at zx2; omega
end XJ

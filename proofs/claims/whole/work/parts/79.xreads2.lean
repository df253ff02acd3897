/-! a call on both sides: what there is, the others -/
section XK
variable {sh : Sh} {ad ma : Nat → Nat} {h h' : Hp} {b : Nat → Nat} {m len T : Nat} {A : Nat → AS} {kp : Option AS} {tx : Nat → Int32}
/-- a read of the reference alone leaves the heap as it is -/
theorem r_read (c : RX sh ma m A kp len tx h) {P : Hp → (Hp → Prop) → Prop} {Q : Hp → Prop} (hq : Q h) (hp : ∀ f, MX sh ma h → RA f (A 0) → hset h (ma 1) f = h → P (hset h (ma 1) f) (fun h' => h' = h)) (mono : ∀ h1, P h1 (fun h' => h' = h) → P h1 Q) : P h Q := by
  have := hp _ c.1 c.2.2.1 hset_self
  rw [hset_self] at this
  exact mono _ this
theorem s_sessionOf (X : WK sh ad ma) (I : MI sh ad ma T h) {x y : Int32} {K : Int32 → Int32 → Hp → Prop} (hk : ∀ r, K r r h) : f_X5_sessionOf sh (ad 0) x y h (fun r1 h1 => f_X6_sessionOf sh (ma 0) x y h1 (fun r2 h2 => K r1 r2 h2)) := by
  obtain ⟨b, m, A, kp, len, tx, cI, rX, pI⟩ := I
  have hb := cI.1
  obtain ⟨tk, rm, st, hI, hRW, hRL⟩ := pI.2.1 0 (by omega)
  have hT0 := x_T X hb (i := 0) (by omega)
  obtain ⟨⟨ht, -, -, -, ⟨hst, hst9⟩, hv⟩, hS, hO, hR⟩ := hI
  have c0 := cI.2.2.2.1
  have bad : (∀ t, t < 4 → x ≠ nI t) → f_X6_sessionOf sh (ma 0) x y h (fun r2 h2 => K (-1) r2 h2) := fun hb => by
    unfold f_X6_sessionOf
    exact isS_t (fun n hn e => absurd e (hb n hn)) (fun _ => if_y rfl (hk _))
  unfold f_X5_sessionOf
  rcases rng x (a := 0) (b := 3) (by omega) (by omega) with ⟨n, -, n2, rfl⟩ | zx | ⟨zx1, zx2⟩
  · have hn : n < 4 := by omega
    have hcs := c0.2.2.2.2.2 n hn
    have X1 := ct_SK hT0 hn
    rw [if_neg (nI_pos (by omega)), if_pos (by rw [show (4 : Int32) = nI 4 from rfl, nI_ltI (by omega) (by omega)]; exact hn), x_t0 X, gR_t cI.2.1.1, x_tb X hb (by omega), tp_ses hT0 c0.1 hn]
    have hh : hset h (ma 1) (gi h (ma 1)) = h := hset_self
    have ra := rX.2.2.1
    have ms := ra.2.1 n hn
    have X3 := rX.1
    have go : ∀ v, (if y = 0 then ty sh (ma 0) 6 <| gR (hset h (ma 1) (gi h (ma 1))) (ma 0) 0 fun q4 => f_X6_of sh (nI n) (0 : Int32) (hset h (ma 1) (gi h (ma 1))) fun r5 h6 => ty sh q4 7 <| lI sh h6 q4 r5 fun v8 => K v v8 h6 else if y = 1 then ty sh (ma 0) 6 <| f_X6_onWay sh (ma 0) (hset h (ma 1) (gi h (ma 1))) fun r11 h12 => K v r11 h12 else if y = 2 then ty sh (ma 0) 6 <| gR (hset h (ma 1) (gi h (ma 1))) (ma 0) 0 fun q14 => f_X6_of sh (nI n) (6 : Int32) (hset h (ma 1) (gi h (ma 1))) fun r15 h16 => ty sh q14 7 <| lI sh h16 q14 r15 fun v18 => K v v18 h16 else if y = 3 then ty sh (ma 0) 6 <| f_X6_stale sh (ma 0) (nI n) (hset h (ma 1) (gi h (ma 1))) fun r21 h22 => K v r21 h22 else if y = 4 then ty sh (ma 0) 6 <| f_X6_opensOf sh (ma 0) (nI n) (hset h (ma 1) (gi h (ma 1))) fun r24 h25 => K v r24 h25 else if y = 5 then ty sh (ma 0) 6 <| gR (hset h (ma 1) (gi h (ma 1))) (ma 0) 0 fun q27 => f_X6_of sh (nI n) (((1 : Int32) + y) - (5 : Int32)) (hset h (ma 1) (gi h (ma 1))) fun r28 h29 => ty sh q27 7 <| lI sh h29 q27 r28 fun v31 => K v v31 h29 else if y = 6 then ty sh (ma 0) 6 <| gR (hset h (ma 1) (gi h (ma 1))) (ma 0) 0 fun q34 => f_X6_of sh (nI n) (((1 : Int32) + y) - (5 : Int32)) (hset h (ma 1) (gi h (ma 1))) fun r35 h36 => ty sh q34 7 <| lI sh h36 q34 r35 fun v38 => K v v38 h36 else if y = 7 then ty sh (ma 0) 6 <| gR (hset h (ma 1) (gi h (ma 1))) (ma 0) 0 fun q41 => f_X6_of sh (nI n) (((1 : Int32) + y) - (5 : Int32)) (hset h (ma 1) (gi h (ma 1))) fun r42 h43 => ty sh q41 7 <| lI sh h43 q41 r42 fun v45 => K v v45 h43 else if y = 8 then ty sh (ma 0) 6 <| gR (hset h (ma 1) (gi h (ma 1))) (ma 0) 0 fun q48 => f_X6_of sh (nI n) (((1 : Int32) + y) - (5 : Int32)) (hset h (ma 1) (gi h (ma 1))) fun r49 h50 => ty sh q48 7 <| lI sh h50 q48 r49 fun v52 => K v v52 h50 else if y = 9 then ty sh (ma 0) 6 <| gR (hset h (ma 1) (gi h (ma 1))) (ma 0) 0 fun q55 => f_X6_of sh (nI n) (((1 : Int32) + y) - (5 : Int32)) (hset h (ma 1) (gi h (ma 1))) fun r56 h57 => ty sh q55 7 <| lI sh h57 q55 r56 fun v59 => K v v59 h57 else K v (-1 : Int32) (hset h (ma 1) (gi h (ma 1)))) → f_X6_sessionOf sh (ma 0) (nI n) y h (fun r2 h2 => K v r2 h2) := fun v hp => by
      unfold f_X6_sessionOf
      refine isS_t (fun n' hn' e => ?_) (fun z => absurd rfl (z n hn))
      refine if_n (by decide) ?_
      rw [hh] at hp
      exact hp
    by_cases y0 : y = 0
    · rw [if_pos y0, cs_t0 X1, gI_t, hcs.2.1 0 (by omega)]
      refine go _ (if_y y0 ?_)
      rw [mx_m X3, mx_r0 X3, show (0 : Int32) = nI 0 from rfl, of_t, mx_t1 X3, mx_ld X3 (by omega), ms.1 0 (by omega), hh]
      exact hk _
    · rw [if_neg y0]
      by_cases y1 : y = 1
      · rw [if_pos y1, gR_t cI.2.1.1, x_tb X hb (by omega)]
        refine c_onWay hT0 c0 ht.1 ht.2.1 ?_
        refine go _ (if_n y0 (if_y y1 ?_))
        rw [mx_m X3]
        refine m_onWay X3 ra ht.1 ht.2.1 ?_
        rw [hh]; exact hk _
      · rw [if_neg y1]
        by_cases y2 : y = 2
        · rw [if_pos y2, cs_t0 X1, gI_t, hcs.2.2.1]
          refine go _ (if_n y0 (if_n y1 (if_y y2 ?_)))
          rw [mx_m X3, mx_r0 X3, i6, of_t, mx_t1 X3, mx_ld X3 (by omega), ms.2.1, hh]
          exact hk _
        · rw [if_neg y2]
          by_cases y3 : y = 3
          · rw [if_pos y3, cs_t0 X1]
            refine c_stale X1 hcs (SI_5 hS n hn) ?_
            refine go _ (if_n y0 (if_n y1 (if_n y2 (if_y y3 ?_))))
            rw [mx_m X3]
            refine m_stale X3 hn ms ?_
            rw [hh]; exact hk _
          · rw [if_neg y3]
            by_cases y4 : y = 4
            · rw [if_pos y4, cs_t0 X1]
              refine c_atWork X1 hcs ?_
              refine go _ (if_n y0 (if_n y1 (if_n y2 (if_n y3 (if_y y4 ?_)))))
              rw [mx_m X3]
              refine m_opensOf X3 ra ?_
              rw [cntN_pcn, hRW.2.2.2 n hn, hh]
              exact hk _
            · rw [if_neg y4]
              by_cases y5 : y = 5
              · rw [if_pos y5, cs_t0 X1, gI_t, hcs.2.1 1 (by omega)]
                refine go _ (if_n y0 (if_n y1 (if_n y2 (if_n y3 (if_n y4 (if_y y5 ?_))))))
                rw [mx_m X3, mx_r0 X3, y5, show ((1 : Int32) + 5) - 5 = nI 1 from rfl, of_t, mx_t1 X3, mx_ld X3 (by omega), ms.1 1 (by omega), hh]
                exact hk _
              · rw [if_neg y5]
                by_cases y6 : y = 6
                · rw [if_pos y6, cs_t0 X1, gI_t, hcs.2.1 2 (by omega)]
                  refine go _ (if_n y0 (if_n y1 (if_n y2 (if_n y3 (if_n y4 (if_n y5 (if_y y6 ?_)))))))
                  rw [mx_m X3, mx_r0 X3, y6, show ((1 : Int32) + 6) - 5 = nI 2 from rfl, of_t, mx_t1 X3, mx_ld X3 (by omega), ms.1 2 (by omega), hh]
                  exact hk _
                · rw [if_neg y6]
                  by_cases y7 : y = 7
                  · rw [if_pos y7, cs_t0 X1, gI_t, hcs.2.1 3 (by omega)]
                    refine go _ (if_n y0 (if_n y1 (if_n y2 (if_n y3 (if_n y4 (if_n y5 (if_n y6 (if_y y7 ?_))))))))
                    rw [mx_m X3, mx_r0 X3, y7, show ((1 : Int32) + 7) - 5 = nI 3 from rfl, of_t, mx_t1 X3, mx_ld X3 (by omega), ms.1 3 (by omega), hh]
                    exact hk _
                  · rw [if_neg y7]
                    by_cases y8 : y = 8
                    · rw [if_pos y8, cs_t0 X1, gI_t, hcs.2.1 4 (by omega)]
                      refine go _ (if_n y0 (if_n y1 (if_n y2 (if_n y3 (if_n y4 (if_n y5 (if_n y6 (if_n y7 (if_y y8 ?_)))))))))
                      rw [mx_m X3, mx_r0 X3, y8, show ((1 : Int32) + 8) - 5 = nI 4 from rfl, of_t, mx_t1 X3, mx_ld X3 (by omega), ms.1 4 (by omega), hh]
                      exact hk _
                    · rw [if_neg y8]
                      by_cases y9 : y = 9
                      · rw [if_pos y9, cs_t0 X1, gI_t, hcs.2.1 5 (by omega)]
                        refine go _ (if_n y0 (if_n y1 (if_n y2 (if_n y3 (if_n y4 (if_n y5 (if_n y6 (if_n y7 (if_n y8 (if_y y9 ?_))))))))))
                        rw [mx_m X3, mx_r0 X3, y9, show ((1 : Int32) + 9) - 5 = nI 5 from rfl, of_t, mx_t1 X3, mx_ld X3 (by omega), ms.1 5 (by omega), hh]
                        exact hk _
                      · rw [if_neg y9]
                        refine go _ (if_n y0 (if_n y1 (if_n y2 (if_n y3 (if_n y4 (if_n y5 (if_n y6 (if_n y7 (if_n y8 (if_n y9 ?_))))))))))
                        rw [hh]; exact hk _
  · refine if_y zx (bad (fun c c1 e => ?_))
    rw [e] at zx; exact nI_pos (by omega) zx
  · refine if_n zx1 (if_n (fun q => ?_) (bad (fun c c1 e => ?_)))
    · rw [Int32.lt_iff_toInt_lt] at q zx2
      rw [nI_toInt (by omega)] at zx2
      have : (4 : Int32).toInt = 4 := by decide
      omega
    · rw [e, nI_ltI (by omega) (by omega)] at zx2; omega
theorem s_entry (X : WK sh ad ma) (I : MI sh ad ma T h) {x y z : Int32} {K : Int32 → Int32 → Hp → Prop} (hk : ∀ r, K r r h) : f_X5_entry sh (ad 0) x y z h (fun r1 h1 => f_X6_entry sh (ma 0) x y z h1 (fun r2 h2 => K r1 r2 h2)) := by
  obtain ⟨b, m, A, kp, len, tx, cI, rX, pI⟩ := I
  have hb := cI.1
  obtain ⟨tk, rm, st, hI, hRW, hRL⟩ := pI.2.1 0 (by omega)
  have hT0 := x_T X hb (i := 0) (by omega)
  obtain ⟨-, hS, -⟩ := hI
  have c0 := cI.2.2.2.1
  have bad : ¬ ((∃ t, t < 4 ∧ x = nI t) ∧ ¬ y < 0 ∧ ∃ q, q ≤ 5 ∧ z = nI q) → f_X6_entry sh (ma 0) x y z h (fun r2 h2 => K (-1) r2 h2) := fun hb => by
    unfold f_X6_entry
    refine isS_t (fun n hn e => ?_) (fun _ => if_y rfl (hk _))
    refine if_n (by decide) ?_
    by_cases cy : y < 0
    · exact if_y cy (hk _)
    · refine if_n cy ?_
      refine in_t (a := 0) (b := 5) (by omega) (by omega) (fun q _ q2 e3 => absurd ⟨⟨n, hn, e⟩, cy, q, q2, e3⟩ hb) (fun _ _ => if_y rfl (hk _))
  unfold f_X5_entry
  rcases rng x (a := 0) (b := 3) (by omega) (by omega) with ⟨n, -, n2, rfl⟩ | zx | ⟨zx1, zx2⟩
  · have hn : n < 4 := by omega
    have hcs := c0.2.2.2.2.2 n hn
    have X1 := ct_SK hT0 hn
    rw [if_neg (nI_pos (by omega)), if_neg (lt4 hn)]
    by_cases cy : y < 0
    · rw [if_pos cy]
      exact bad (fun q => q.2.1 cy)
    · rw [if_neg cy]
      rcases rng z (a := 0) (b := 5) (by omega) (by omega) with ⟨q, -, q2, rfl⟩ | zz | ⟨zz1, zz2⟩
      · rw [if_neg (nI_pos (by omega)), if_pos (by rw [show (5 : Int32) = nI 5 from rfl, nI_leI (by omega) (by omega)]; exact q2), x_t0 X, gR_t cI.2.1.1, x_tb X hb (by omega), tp_ses hT0 c0.1 hn, cs_t0 X1, gI_t, hcs.2.2.1]
        have hh : hset h (ma 1) (gi h (ma 1)) = h := hset_self
        have ra := rX.2.2.1
        have ms := ra.2.1 n hn
        have X3 := rX.1
        have hl8 := ms.lenle
        obtain ⟨i, i1, rfl⟩ := nI_of cy
        have go : ∀ v, (i < ((A 0).2.1 n).2.length → v = hd ((A 0).2.1 n).2 i q) → (¬ i < ((A 0).2.1 n).2.length → v = -4) → f_X6_entry sh (ma 0) (nI n) (nI i) (nI q) h (fun r2 h2 => K v r2 h2) := fun v hv hv2 => by
          unfold f_X6_entry
          refine isS_t (fun n' hn' e => ?_) (fun z => absurd rfl (z n hn))
          refine if_n (by decide) (if_n cy ?_)
          refine in_t (a := 0) (b := 5) (by omega) (by omega) (fun _ _ _ _ => ?_) (fun z _ => absurd rfl (z q (by omega) q2))
          refine if_n (by decide) ?_
          have key : ty sh (ma 0) 6 <| gR (hset h (ma 1) (gi h (ma 1))) (ma 0) 0 fun q6 => f_X6_of sh (nI n) (6 : Int32) (hset h (ma 1) (gi h (ma 1))) fun r7 h8 => ty sh q6 7 <| lI sh h8 q6 r7 fun v10 => if v10 ≤ nI i then K v (-4 : Int32) h8 else gR h8 (ma 0) 0 fun q12 => f_X6_ofEntry sh (nI n) (nI i) (nI q) h8 fun r13 h14 => ty sh q12 7 <| lI sh h14 q12 r13 fun v16 => K v v16 h14 := by
            rw [mx_m X3, mx_r0 X3, i6, of_t, mx_t1 X3, mx_ld X3 (by omega), ms.2.1]
            by_cases c : i < ((A 0).2.1 n).2.length
            · rw [if_neg (fun z => by rw [nI_leI (by omega) i1] at z; omega), mx_r0 X3, ofE_t, mx_t1 X3, mx_ld X3 (by omega), ms.2.2.2 i c q (by omega), hv c, hh]
              exact hk _
            · rw [if_pos (nI_le (by omega) i1), hv2 c, hh]
              exact hk _
          rw [hh] at key
          exact key
        by_cases c : i < ((A 0).2.1 n).2.length
        · obtain ⟨pm, hp⟩ := CS_p hcs
          obtain ⟨⟨p7, p8, p10⟩, m1, m6, m8, ⟨w1, w2, w3⟩, w4, m9⟩ := hp
          rw [if_pos (by rw [nI_ltI i1 (by omega)]; exact c), gR_t p7, cs_t1 X1, cs_lR1 X1 (by omega) (w3 i (by omega))]
          have rd : ∀ k, k < 6 → gi h (ad (b 0 + 8 + 19 * n + 2 + pm i)) k = hd ((A 0).2.1 n).2 i k := fun k hk => w4 i c k hk
          have t2 : ∀ {P : Prop}, ty sh (ad (b 0 + 8 + 19 * n + 2 + pm i)) 0 P = P := cs_t2 X1 (w1 i (by omega))
          match q, q2 with
          | 0, _ => refine if_y rfl ?_; rw [t2, gI_t, rd 0 (by omega)]; exact go _ (fun _ => rfl) (fun z => absurd c z)
          | 1, _ => refine if_n (by decide) (if_y rfl ?_); rw [t2, gI_t, rd 1 (by omega)]; exact go _ (fun _ => rfl) (fun z => absurd c z)
          | 2, _ => refine if_n (by decide) (if_n (by decide) (if_y rfl ?_)); rw [t2, gI_t, rd 2 (by omega)]; exact go _ (fun _ => rfl) (fun z => absurd c z)
          | 3, _ => refine if_n (by decide) (if_n (by decide) (if_n (by decide) (if_y rfl ?_))); rw [t2, gI_t, rd 3 (by omega)]; exact go _ (fun _ => rfl) (fun z => absurd c z)
          | 4, _ => refine if_n (by decide) (if_n (by decide) (if_n (by decide) (if_n (by decide) (if_y rfl ?_)))); rw [t2, gI_t, rd 4 (by omega)]; exact go _ (fun _ => rfl) (fun z => absurd c z)
          | 5, _ =>
            refine if_n (by decide) (if_n (by decide) (if_n (by decide) (if_n (by decide) (if_n (by decide) ?_))))
            rw [t2, gI_t, rd 5 (by omega)]
            rcases SI_5 hS n hn i c with e | e
            · rw [if_pos e]; exact go _ (fun _ => e.symm) (fun z => absurd c z)
            · rw [if_neg (by rw [e]; decide)]; exact go _ (fun _ => e.symm) (fun z => absurd c z)
        · rw [if_neg (fun z => c (by rw [nI_ltI i1 (by omega)] at z; exact z))]
          exact go _ (fun z => absurd z c) (fun _ => rfl)
      · refine if_y zz (bad (fun q => ?_))
        obtain ⟨-, -, s, s1, rfl⟩ := q
        exact nI_pos (by omega) zz
      · refine if_n zz1 (if_n (fun q => nlt_le.mpr q zz2) (bad (fun q => ?_)))
        obtain ⟨-, -, s, s1, rfl⟩ := q
        rw [nI_ltI (by omega) (by omega)] at zz2; omega
  · refine if_y zx (bad (fun q => ?_))
    obtain ⟨⟨n, n1, rfl⟩, -⟩ := q
    exact nI_pos (by omega) zx
  · refine if_n zx1 (if_y ?_ (bad (fun q => ?_)))
    · rw [Int32.le_iff_toInt_le]; rw [Int32.lt_iff_toInt_lt, nI_toInt (by omega)] at zx2
      have : (4 : Int32).toInt = 4 := by decide
      omega
    · obtain ⟨⟨n, n1, rfl⟩, -⟩ := q
      rw [nI_ltI (by omega) (by omega)] at zx2; omega
theorem s_statement (X : WK sh ad ma) (I : MI sh ad ma T h) {x y : Int32} {K : Int32 → Int32 → Hp → Prop} (hk : ∀ r, K r r h) : f_X5_statement sh (ad 0) x y h (fun r1 h1 => f_X6_statement sh (ma 0) x y h1 (fun r2 h2 => K r1 r2 h2)) := by
  obtain ⟨b, m, A, kp, len, tx, cI, rX, pI⟩ := I
  have hb := cI.1
  obtain ⟨tk, rm, st, hI, hRW, hRL⟩ := pI.2.1 0 (by omega)
  have hT0 := x_T X hb (i := 0) (by omega)
  obtain ⟨⟨-, -, -, -, ⟨hst, hst9⟩, -⟩, hS, hO, -⟩ := hI
  have c0 := cI.2.2.2.1
  have hh : hset h (ma 1) (gi h (ma 1)) = h := hset_self
  have ra := rX.2.2.1
  have X3 := rX.1
  have hp16 := ra.2.2.1.2.1
  unfold f_X5_statement
  by_cases cx : x < 0
  · rw [if_pos cx]
    unfold f_X6_statement
    exact if_y cx (hk _)
  · rw [if_neg cx]
    have cx' : 0 ≤ x := nlt_le.mp cx
    rcases rng y (a := 0) (b := 3) (by omega) (by omega) with ⟨q, -, q2, rfl⟩ | zz | ⟨zz1, zz2⟩
    · rw [if_neg (nI_pos (by omega)), if_pos (by rw [show (3 : Int32) = nI 3 from rfl, nI_leI (by omega) (by omega)]; exact q2), x_t0 X, gR_t cI.2.1.1, x_tb X hb (by omega)]
      have go : ∀ v, (∀ p, p < (A 0).2.2.1.1.length → hd (A 0).2.2.1.1 p 0 = x → (q = 3 → v = olN (hd (A 0).2.2.1.1 p 2) (fun t => hd (A 0).2.2.1.1 p (4 + t)) (A 0).1 6) ∧ (q ≠ 3 → v = hd (A 0).2.2.1.1 p (1 + q))) → ((∀ p, p < (A 0).2.2.1.1.length → hd (A 0).2.2.1.1 p 0 ≠ x) → v = -4) → f_X6_statement sh (ma 0) x (nI q) h (fun r2 h2 => K v r2 h2) := fun v h1 h2 => by
        unfold f_X6_statement
        refine if_n cx ?_
        refine in_t (a := 0) (b := 3) (by omega) (by omega) (fun _ _ _ _ => ?_) (fun z _ => absurd rfl (z q (by omega) q2))
        refine if_n (by decide) ?_
        have key : ty sh (ma 0) 6 <| f_X6_placeOf sh (ma 0) x (hset h (ma 1) (gi h (ma 1))) fun r4 h5 => if 0 ≤ r4 then (if (3 : Int32) ≤ nI q then f_X6_older sh (ma 0) r4 h5 fun r6 h7 => K v r6 h7 else gR h5 (ma 0) 0 fun q8 => f_X6_ofOpen sh r4 ((1 : Int32) + nI q) h5 fun r9 h10 => ty sh q8 7 <| lI sh h10 q8 r9 fun v12 => K v v12 h10) else K v (-4 : Int32) h5 := by
          rw [mx_m X3]
          refine m_placeOf X3 ra (fun p p1 p2 _ => ?_) (fun z => ?_)
          · obtain ⟨w1, w2⟩ := h1 p p1 p2
            rw [if_pos (nI_pos' (by omega))]
            by_cases c : q = 3
            · refine if_y (by rw [c]; decide) ?_
              refine m_older X3 ra p1 ?_
              rw [← w1 c, hh]; exact hk _
            · refine if_n (fun z => by rw [show (3 : Int32) = nI 3 from rfl, nI_leI (by omega) (by omega)] at z; omega) ?_
              rw [mx_r0 X3, show (1 : Int32) = nI 1 from rfl, nI_add, ofO_t, mx_t1 X3, mx_ld X3 (by omega), ra.2.2.1.2.2 p p1 (1 + q) (by omega), ← w2 c, hh]
              exact hk _
          · rw [if_neg (by decide), h2 z, hh]
            exact hk _
        rw [hh] at key
        exact key
      have none_ : (∀ n j, n < 4 → j < 4 → (A 0).2.2.2.1 n j 0 ≠ x) → ∀ p, p < (A 0).2.2.1.1.length → hd (A 0).2.2.1.1 p 0 ≠ x := fun z p p1 e => by
        obtain ⟨n, j, w1, w2, w3, w4⟩ := hRW.1 _ (hd_mem p1)
        exact z n j w1 w2 (w4.1.trans e)
      refine c_sesWith hT0 c0 cx' (fun n j hn hj hw hmin => ?_) (fun z => ?_)
      · rw [if_neg (nI_pos (by omega)), if_pos (by rw [show (4 : Int32) = nI 4 from rfl, nI_ltI (by omega) (by omega)]; exact hn), gR_t cI.2.1.1, x_tb X hb (by omega), tp_ses hT0 c0.1 hn, cs_t0 (ct_SK hT0 hn)]
        have hcs := c0.2.2.2.2.2 n hn
        refine c_workOf (ct_SK hT0 hn) hcs (fun _ j' j1 j2 j3 => ⟨fun z => absurd z (by simp), fun qq z => ?_⟩) (fun z => absurd hw (z cx' j hj))
        cases z
        have ej : j' = j := by
          rcases Nat.lt_trichotomy j' j with w | w | w
          · exact absurd j2 (hmin j' w)
          · exact w
          · exact absurd hw (j3 j w)
        subst ej
        have row : ∀ p, p < (A 0).2.2.1.1.length → hd (A 0).2.2.1.1 p 0 = x → hd (A 0).2.2.1.1 p 1 = nI n ∧ sm (hd (A 0).2.2.1.1 p) ((A 0).2.2.2.1 n j') := fun p p1 p2 => RW_row hRW hO hst9 hn hj p1 (p2.trans hw.symm)
        have some_ : ¬ ∀ p, p < (A 0).2.2.1.1.length → hd (A 0).2.2.1.1 p 0 ≠ x := fun z => by
          rcases hRW.2.1 n j' hn hj with w | ⟨o, o1, o2, o3⟩
          · rw [hw] at w; rw [w] at cx; exact cx (by decide)
          · obtain ⟨i, i1, rfl⟩ := mem_hd o1
            exact z i i1 (o3.1.symm.trans hw)
        match q, q2 with
        | 0, _ =>
          refine if_y rfl ?_
          exact go _ (fun p p1 p2 => ⟨fun z => absurd z (by decide), fun _ => (row p p1 p2).1.symm⟩) (fun z => absurd z some_)
        | 1, _ =>
          refine if_n (by decide) (if_y rfl ?_)
          rw [cs_t11 (ct_SK hT0 hn) hj, gI_t, cs_w hcs hj (by omega)]
          exact go _ (fun p p1 p2 => ⟨fun z => absurd z (by decide), fun _ => (row p p1 p2).2.2.1⟩) (fun z => absurd z some_)
        | 2, _ =>
          refine if_n (by decide) (if_n (by decide) (if_y rfl ?_))
          rw [cs_t11 (ct_SK hT0 hn) hj, gI_t, cs_w hcs hj (by omega)]
          exact go _ (fun p p1 p2 => ⟨fun z => absurd z (by decide), fun _ => (row p p1 p2).2.2.2.1⟩) (fun z => absurd z some_)
        | 3, _ =>
          refine if_n (by decide) (if_n (by decide) (if_n (by decide) ?_))
          rw [gR_t cI.2.1.1, x_tb X hb (by omega), gR_t c0.1.1, cs_t11 (ct_SK hT0 hn) hj]
          refine c_outrun hT0 c0 hn hj ?_
          refine go _ (fun p p1 p2 => ⟨fun _ => ?_, fun z => absurd rfl z⟩) (fun z => absurd z some_)
          obtain ⟨-, w0, w1, w2, w3⟩ := row p p1 p2
          rw [w1]
          exact olN_congr 6 (fun t ht hbt => w3 t ht hbt)
      · rw [if_pos (by decide)]
        exact go _ (fun p p1 p2 => absurd p2 (none_ z p p1)) (fun _ => rfl)
    · refine if_y zz ?_
      unfold f_X6_statement
      refine if_n cx ?_
      refine in_t (a := 0) (b := 3) (by omega) (by omega) (fun q _ q2 e3 => ?_) (fun _ _ => if_y rfl (hk _))
      rw [e3] at zz; exact absurd zz (nI_pos (by omega))
    · refine if_n zz1 (if_n (fun q => nlt_le.mpr q zz2) ?_)
      unfold f_X6_statement
      refine if_n cx ?_
      refine in_t (a := 0) (b := 3) (by omega) (by omega) (fun q _ q2 e3 => ?_) (fun _ _ => if_y rfl (hk _))
      rw [e3, nI_ltI (by omega) (by omega)] at zz2; omega
theorem s_notice (X : WK sh ad ma) (I : MI sh ad ma T h) {x : Int32} {K : Int32 → Int32 → Hp → Prop} (hk : ∀ r, K r r h) : f_X5_notice sh (ad 0) x h (fun r1 h1 => f_X6_notice sh (ma 0) x h1 (fun r2 h2 => K r1 r2 h2)) := by
  obtain ⟨b, m, A, kp, len, tx, cI, rX, pI⟩ := I
  have hb := cI.1
  obtain ⟨tk, rm, st, hI, hRW, hRL⟩ := pI.2.1 0 (by omega)
  have hT0 := x_T X hb (i := 0) (by omega)
  obtain ⟨⟨ht, -⟩, -⟩ := hI
  have hN := ht.1
  have c0 := cI.2.2.2.1
  have hh : hset h (ma 1) (gi h (ma 1)) = h := hset_self
  have ra := rX.2.2.1
  have X3 := rX.1
  unfold f_X5_notice
  by_cases cx : 0 ≤ x
  · obtain ⟨i, i1, rfl⟩ := nI_of (fun z => nlt_le.mpr cx z)
    rw [if_pos cx, x_t0 X, gR_t cI.2.1.1, x_tb X hb (by omega), gI_t, c0.2.1.2.2.2.1, ht.2.1]
    have go : ∀ v, (i < nN (A 0) → v = (A 0).1 (17 + i)) → (¬ i < nN (A 0) → v = -4) → f_X6_notice sh (ma 0) (nI i) h (fun r2 h2 => K v r2 h2) := fun v h1 h2 => by
      unfold f_X6_notice
      refine if_y cx ?_
      have key : ty sh (ma 0) 6 <| gR (hset h (ma 1) (gi h (ma 1))) (ma 0) 0 fun q2 => ty sh q2 7 <| lI sh (hset h (ma 1) (gi h (ma 1))) q2 (1 : Int32) fun v4 => if v4 ≤ nI i then K v (-4 : Int32) (hset h (ma 1) (gi h (ma 1))) else gR (hset h (ma 1) (gi h (ma 1))) (ma 0) 0 fun q6 => ty sh q6 7 <| lI sh (hset h (ma 1) (gi h (ma 1))) q6 ((17 : Int32) + nI i) fun v8 => K v v8 (hset h (ma 1) (gi h (ma 1))) := by
        rw [mx_m X3, mx_r0 X3, mx_t1 X3, show (1 : Int32) = nI 1 from rfl, mx_ld X3 (by omega), ra.1 1 (by omega), ht.2.1]
        by_cases c : i < nN (A 0)
        · rw [if_neg (fun z => by rw [nI_leI (by omega) i1] at z; omega), mx_r0 X3, mx_t1 X3, i17, nI_add, mx_ld X3 (by omega), ra.1 (17 + i) (by omega), h1 c, hh]
          exact hk _
        · rw [if_pos (nI_le (by omega) i1), h2 c, hh]
          exact hk _
      rw [hh] at key
      exact key
    by_cases c : i < nN (A 0)
    · rw [if_neg (fun z => by rw [nI_leI (by omega) i1] at z; omega), gR_t cI.2.1.1, x_tb X hb (by omega), gR_t c0.1.2.2.1, ct_t3 hT0, ct_l3 hT0 (by omega), (c0.2.2.2.1 i c).1]
      exact go _ (fun _ => rfl) (fun z => absurd c z)
    · rw [if_pos (nI_le (by omega) i1)]
      exact go _ (fun z => absurd z c) (fun _ => rfl)
  · rw [if_neg cx]
    unfold f_X6_notice
    exact if_n cx (hk _)
theorem s_inTheWay (X : WK sh ad ma) (I : MI sh ad ma T h) {x : Int32} {K : Int32 → Int32 → Hp → Prop} (hk : ∀ r, K r r h) : f_X5_inTheWay sh (ad 0) x h (fun r1 h1 => f_X6_inTheWay sh (ma 0) x h1 (fun r2 h2 => K r1 r2 h2)) := by
  obtain ⟨b, m, A, kp, len, tx, cI, rX, pI⟩ := I
  have hb := cI.1
  obtain ⟨tk, rm, st, hI, hRW, hRL⟩ := pI.2.1 0 (by omega)
  have hT0 := x_T X hb (i := 0) (by omega)
  obtain ⟨⟨ht, -, -, -, ⟨hst, hst9⟩, hv⟩, hS, hO, hR⟩ := hI
  have c0 := cI.2.2.2.1
  have hh : hset h (ma 1) (gi h (ma 1)) = h := hset_self
  have ra := rX.2.2.1
  have X3 := rX.1
  have bad : (∀ t, t < 6 → x ≠ nI t) → f_X6_inTheWay sh (ma 0) x h (fun r2 h2 => K (-1) r2 h2) := fun hb => by
    unfold f_X6_inTheWay
    exact isT_t (fun n hn e => absurd e (hb n hn)) (fun _ => if_y rfl (hk _))
  unfold f_X5_inTheWay
  rcases rng x (a := 0) (b := 5) (by omega) (by omega) with ⟨t, -, t2, rfl⟩ | zx | ⟨zx1, zx2⟩
  · have ht6 : t < 6 := by omega
    rw [if_neg (nI_pos (by omega)), if_pos (by rw [show (6 : Int32) = nI 6 from rfl, nI_ltI (by omega) (by omega)]; exact ht6)]
    refine lo_ind (fun d s' h' => ∃ k r, k + d = 5 ∧ k ≤ 4 ∧ s' = (r, nI k) ∧ h' = h ∧ mn (behW (A 0).2.2.2.1 ((A 0).1 (5 + t)) t k) (fun e => e 0) (-4) r) ?_ ?_ (d := 5) ⟨0, -4, by omega, by omega, rfl, rfl, mn_iff mn_none (fun x => ⟨fun z => z.elim, fun ⟨n, n1, _⟩ => absurd n1 (Nat.not_lt_zero n)⟩)⟩
    · rintro s' h' ⟨k, r, h1, h2, -⟩
      omega
    · rintro d rec hrec s' h' ⟨k, r, h1, h2, rfl, rfl, h3⟩
      unfold b_X5_inTheWay_17
      dsimp only
      by_cases hz : k = 4
      · subst hz
        rw [if_pos ge4]
        unfold f_X6_inTheWay
        refine isT_t (fun n hn e => ?_) (fun z => absurd rfl (z t ht6))
        refine if_n (by decide) ?_
        have key : ty sh (ma 0) 6 <| f_X6_inWay sh (ma 0) (nI t) (hset h' (ma 1) (gi h' (ma 1))) fun r4 h5 => K r r4 h5 := by
          rw [mx_m X3]
          refine m_inWay X3 ra ht6 (fun o ho e => ?_) (fun r2 hr2 => ?_)
          · obtain ⟨q, q1, q2⟩ := OI_nn hO hst9 o ho
            rw [q2] at e
            have := congrArg Int32.toInt e
            rw [nI_toInt q1] at this
            have h4 : (-4 : Int32).toInt = -4 := by decide
            omega
          · have er : r = r2 := mn_uniq h3 (mn_of hr2) (fun e ⟨n, hn, j, hj, ew, e1, e2, e3⟩ => by
              subst ew
              rcases hRW.2.1 n j hn hj with w | ⟨o, o1, o2, o3⟩
              · rw [w] at e1; exact absurd (by decide) e1
              · rw [o3.2.1] at e2
                exact ⟨o, ⟨o1, e2, by rw [← o3.2.2.2 t ht6 e2]; exact e3⟩, o3.1.symm⟩) (fun o ⟨o1, o2, o3⟩ => by
              obtain ⟨n, j, w1, w2, w3, w4⟩ := hRW.1 o o1
              obtain ⟨⟨q, q1, q2⟩, -⟩ := hO.1 o o1
              exact ⟨_, ⟨n, w1, j, w2, rfl, by rw [w4.1, q2]; exact nI_pos (by omega), by rw [w4.2.1]; exact o2, by rw [w4.2.2.2 t ht6 o2]; exact o3⟩, w4.1⟩)
            rw [← er, hh]
            exact hk _
        rw [hh] at key
        exact key
      · have hk4 : k < 4 := by omega
        have nx := fun v z => hrec (v, nI (k + 1)) h' ⟨k + 1, v, by omega, by omega, rfl, rfl, mn_iff z (fun x => behW_s)⟩
        rw [if_neg (lt4 hk4), x_t0 X, gR_t cI.2.1.1, x_tb X hb (by omega), tp_ses hT0 c0.1 hk4, gR_t cI.2.1.1, x_tb X hb (by omega), gR_t c0.1.1, ct_t1 hT0, ct_l1 hT0 ht6, (c0.2.2.1 t ht6).1, cs_t0 (ct_SK hT0 hk4), nI_1]
        refine c_lowest (ct_SK hT0 hk4) (c0.2.2.2.2.2 k hk4) ht6 (fun r2 hr2 => ?_)
        have hr2 := mn_of hr2
        have p2 : ∀ e, (e ∈ (List.range 4).map ((A 0).2.2.2.1 k) ∧ ¬ e 0 < 0 ∧ bitp (e 1) t ∧ ¬ (A 0).1 (5 + t) ≤ e (3 + t)) → ¬ e 0 < 0 := fun e q => q.2.1
        have p1 : ∀ e, behW (A 0).2.2.2.1 ((A 0).1 (5 + t)) t k e → ¬ e 0 < 0 := fun e ⟨n, n1, j, j1, e1, e2, _⟩ => e2
        by_cases z2 : r2 < 0
        · rw [if_pos z2]
          exact nx r (mn_j1 (val := fun e => e 0) h3 hr2 p2 z2)
        · rw [if_neg z2]
          by_cases z1 : r < 0
          · rw [if_pos z1]
            exact nx r2 (mn_j2 (val := fun e => e 0) h3 hr2 p1 z2 z1)
          · rw [if_neg z1]
            by_cases hle : r ≤ r2
            · rw [if_pos hle]
              exact nx r (mn_j3 h3 hr2 z2 z1 hle)
            · rw [if_neg hle]
              exact nx r2 (mn_j4 h3 hr2 z2 z1 hle)
  · refine if_y zx (bad (fun c c1 e => ?_))
    rw [e] at zx; exact nI_pos (by omega) zx
  · refine if_n zx1 (if_n (fun q => ?_) (bad (fun c c1 e => ?_)))
    · rw [Int32.lt_iff_toInt_lt] at q zx2
      rw [nI_toInt (by omega)] at zx2
      have : (6 : Int32).toInt = 6 := by decide
      omega
    · rw [e, nI_ltI (by omega) (by omega)] at zx2; omega
end XK

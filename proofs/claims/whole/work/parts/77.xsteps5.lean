/-! a call on both sides: snapshot, undo, the text's signs -/
section XI
variable {sh : Sh} {ad ma : Nat → Nat} {h h' h'' : Hp} {b : Nat → Nat} {m len T : Nat} {A : Nat → AS} {kp : Option AS} {tx : Nat → Int32}
theorem CI_text (X : WK sh ad ma) (hm : m ≤ 4) (c : CI ad b m A kp len tx h) (h2 : h'.2 = h.2) (h1 : ∀ q, q ≠ ad 590 → q ≠ ad 591 → h'.1 q = h.1 q) {len' : Nat} {tx' : Nat → Int32} (t : TXc h' ad len' tx') : CI ad b m A kp len' tx' h' := by
  have hi := X.1
  obtain ⟨c1, c2, c3, c4, c5, c6, c7, c8, c9, c10, c11⟩ := c
  have qb : ∀ i, i < 6 → QB ad h h' (b i) := fun i i1 j hj => ⟨h1 _ (ad_ne hi (fun z => (outB c1 i1 j hj).2.2.1 z.symm)) (ad_ne hi (fun z => (outB c1 i1 j hj).2.2.2 z.symm)), by rw [h2]⟩
  have qk : QB ad h h' 169 := fun j hj => ⟨h1 _ (ad_ne hi (by omega)) (ad_ne hi (by omega)), by rw [h2]⟩
  have e0 : ∀ k, gi h' (ad 0) k = gi h (ad 0) k := fun k => by show h'.1 _ _ = h.1 _ _; rw [h1 _ (ad_ne hi (by omega)) (ad_ne hi (by omega))]
  refine ⟨c1, XP_eq (by rw [h2]) (by rw [h2]) (by rw [h2]) c2, by rw [e0]; exact c3, CA_Q (qb 0 (by omega)) c4, TG_Q (qb 1 (by omega)) c5, fun i hi => CA_Q (qb _ (by omega)) (c6 i hi), fun i hi => TG_Q (qb _ (by omega)) (c7 i hi), ?_, TG_Q qk c9, t⟩
  rcases c8 with ⟨z1, z2⟩ | ⟨a, z1, z2, z3⟩
  · exact Or.inl ⟨z1, by rw [e0]; exact z2⟩
  · exact Or.inr ⟨a, z1, by rw [e0]; exact z2, CA_Q qk z3⟩
theorem RX_text (c : RX sh ma m A kp len tx h) (h2 : h'.2 = h.2) (h1 : ∀ q, q ≠ ma 0 → q ≠ ma 5 → h'.1 q = h.1 q) (h0 : ∀ k, k ≠ 7 → gi h' (ma 0) k = gi h (ma 0) k) {len' : Nat} {tx' : Nat → Int32} (t7 : gi h' (ma 0) 7 = nI len') (t : ∀ i, i < len' → gi h' (ma 5) i = tx' i) : RX sh ma m A kp len' tx' h' := by
  obtain ⟨c1, c2, c3, c4, c5, c6, c7⟩ := c
  have X' : MX sh ma h' := by
    obtain ⟨x1, x2, x3, x4, x5, x6, x7, x8, x9, x10, y⟩ := c1
    refine ⟨x1, x2, x3, x4, x5, x6, x7, x8, x9, x10, ?_⟩
    have g : ∀ a k, gr h' a k = gr h a k := fun a k => by show h'.2 _ _ = h.2 _ _; rw [h2]
    simp only [g]
    exact y
  have o : ∀ p, p ≠ 0 → p ≠ 5 → gi h' (ma p) = gi h (ma p) := fun p p0 p5 => by
    funext k; show h'.1 _ _ = h.1 _ _; rw [h1 _ (mx_ne c1 p0) (mx_ne c1 p5)]
  refine ⟨X', by rw [h0 3 (by omega)]; exact c2, by rw [o 1 (by omega) (by omega)]; exact c3, fun i hi => by rw [o 3 (by omega) (by omega)]; exact c4 i hi, ?_, t7, t⟩
  rcases c5 with ⟨z1, z2⟩ | ⟨a, z1, z2, z3⟩
  · exact Or.inl ⟨z1, by rw [h0 5 (by omega)]; exact z2⟩
  · exact Or.inr ⟨a, z1, by rw [h0 5 (by omega)]; exact z2, by rw [o 4 (by omega) (by omega)]; exact z3⟩
theorem s_keep (X : WK sh ad ma) (I : MI sh ad ma T h) {K : Int32 → Int32 → Hp → Prop} (hk : ∀ r h', MI sh ad ma T h' → K r r h') : f_X5_keep sh (ad 0) h (fun r1 h1 => f_X6_keep sh (ma 0) h1 (fun r2 h2 => K r1 r2 h2)) := by
  have hi := X.1
  obtain ⟨b, m, A, kp, len, tx, cI, rX, pI⟩ := I
  have hm := pI.1
  have hp0 := pI.2.1 0 (by omega)
  obtain ⟨tk, rm, st, hI, -⟩ := pI.2.1 0 (by omega)
  have cI0 := cI
  obtain ⟨c1, c2, c3, c4, c5, c6, c7, c8, c9, c10⟩ := cI
  unfold f_X5_keep
  rw [x_t0 X, gR_t c2.2.2.1, gR_t c2.1, ct_t0 X.2.2.2.2.2.2.2]
  refine c_copyT X.2.2.2.2.2.2.2 hi (x_T X c1 (i := 0) (by omega)) (farB_k c1 (by omega)).2 c9 c4 hI.1.1.1 hI.1.1.2.1 (SI_5 hI.2.1) (fun h2 ca fb => ?_)
  have e0 := fb (ad 0) (fun j hj => ad_ne hi (by omega))
  have e1 := fb (ad 253) (fun j hj => ad_ne hi (by omega))
  have e2 := fb (ad 590) (fun j hj => ad_ne hi (by omega))
  have e3 := fb (ad 591) (fun j hj => ad_ne hi (by omega))
  have qb : ∀ i, i < 6 → QB ad h h2 (b i) := fun i i1 => FB_QB hi fb (farB_k c1 i1).2
  have x2 := XP_eq e0.2 e1.2 e2.2 c2
  rw [pI_t, gR_s x2.2.2.1, ct_t0 X.2.2.2.2.2.2.2, gI_t, gi_ad hi (by omega), ca.2.1.1]
  have q3 : ∀ B, (∀ j, j < 84 → 0 ≠ B + j) → QB ad h2 (si h2 (ad 0) 3 1) B := fun B hB j hj => ⟨by show va_up h2.1 _ _ _ = _; rw [va_up_off (ad_ne hi (fun z => hB j hj z.symm))], rfl⟩
  have qb2 : ∀ i, i < 6 → QB ad h (si h2 (ad 0) 3 1) (b i) := fun i i1 => (qb i i1).tr (q3 _ (fun j hj => (outB c1 i1 j hj).1))
  have qk2 := q3 169 (fun j hj => by omega)
  have cI3 : CI ad b m A (some (A 0)) len tx (si h2 (ad 0) 3 1) := by
    refine ⟨c1, x2, ?_, CA_Q (qb2 0 (by omega)) c4, TG_Q (qb2 1 (by omega)) c5, fun i hi => CA_Q (qb2 _ (by omega)) (c6 i hi), fun i hi => TG_Q (qb2 _ (by omega)) (c7 i hi), Or.inr ⟨A 0, rfl, gi_si, CA_Q qk2 ca⟩, TG_Q qk2 (CT_G ca), ?_, fun i i1 => ?_⟩
    · rw [gi_si_k (by decide)]; show h2.1 _ _ = _; rw [e0.1]; exact c3
    · rw [gi_ad hi (by omega)]; show h2.1 _ _ = _; rw [e2.1]; exact c10.1
    · rw [gi_ad hi (by omega)]; show h2.1 _ _ = _; rw [e3.1]; exact c10.2 i i1
  have rX3 := RX_c ((FB_EQm X fb).tr (si_EQm X (p := 0) (k := 3) (v := 1))) rX
  generalize si h2 (ad 0) 3 1 = h3 at cI3 rX3 ⊢
  refine r_open (P := fun h2 => f_X6_keep sh (ma 0) h2 fun r2 h2 => K ((A 0).1 0) r2 h2) rX3 (fun X3 ra => ?_)
  refine m_keep X3 (fun a ha => ?_)
  rw [ra.1 0 (by omega)]
  obtain ⟨r1, r2, r3, r4, r5, r6, r7⟩ := rX3
  refine hk _ _ (MI_mk (CI_m (((hset_EQa X).tr (si_EQa X)).tr (hset_EQa X)) cI3) ?_ ⟨hm, pI.2.1, fun a ha => by cases ha; exact hp0, pI.2.2.2⟩)
  have n40 : ma 4 ≠ ma 0 := mx_ne X3 (by omega)
  have o : ∀ p k, p ≠ 1 → p ≠ 4 → p ≠ 0 → gi (hset (si (hset h3 (ma 4) a) (ma 0) 5 1) (ma 1) (gi h3 (ma 1))) (ma p) k = gi h3 (ma p) k := fun p k p1 p4 p0 => by
    rw [gi_hset_ne (mx_ne X3 p1), gi_si_ne (mx_ne X3 p0), gi_hset_ne (mx_ne X3 p4)]
  have o0 : ∀ k, k ≠ 5 → gi (hset (si (hset h3 (ma 4) a) (ma 0) 5 1) (ma 1) (gi h3 (ma 1))) (ma 0) k = gi h3 (ma 0) k := fun k k5 => by
    rw [gi_hset_ne (mx_ne X3 (by omega)), gi_si_k k5, gi_hset_ne (Ne.symm n40)]
  refine ⟨mx_h (mx_s (mx_h X3)), by rw [o0 3 (by omega)]; exact r2, by rw [hset_fn]; exact r3, fun i hi => MA_ext (r4 i hi) (fun k hk => o 3 _ (by omega) (by omega) (by omega)), Or.inr ⟨A 0, rfl, ?_, ?_⟩, by rw [o0 7 (by omega)]; exact r6, fun i hi => by rw [o 5 i (by omega) (by omega) (by omega)]; exact r7 i hi⟩
  · rw [gi_hset_ne (mx_ne X3 (by omega)), gi_si]
  · refine MA_ext r3 (fun k hk => ?_)
    rw [gi_hset_ne (mx_ne X3 (by omega)), gi_si_ne n40, gi_hset]
    exact ha k hk
theorem s_restore (X : WK sh ad ma) (I : MI sh ad ma T h) {K : Int32 → Int32 → Hp → Prop} (hT : T < 2 ^ 29) (hk : ∀ r h', MI sh ad ma T h' → K r r h') : f_X5_restore sh (ad 0) h (fun r1 h1 => f_X6_restore sh (ma 0) h1 (fun r2 h2 => K r1 r2 h2)) := by
  have hi := X.1
  obtain ⟨b, m, A, kp, len, tx, cI, rX, pI⟩ := I
  have hm := pI.1
  have hb := cI.1
  unfold f_X5_restore
  rcases cI.2.2.2.2.2.2.2.1 with ⟨z1, z2⟩ | ⟨a, z1, z2, z3⟩
  · rw [x_t0 X, gI_t, z2, if_pos rfl]
    unfold f_X6_restore
    dsimp only
    rcases rX.2.2.2.2.1 with ⟨y1, y2⟩ | ⟨a, y1, -⟩
    · rw [mx_m rX.1, gI_t, y2, if_pos rfl]
      exact hk _ _ (MI_mk cI rX pI)
    · rw [z1] at y1; cases y1
  · have hpa := pI.2.2.1 a z1
    obtain ⟨tk, rm, st, hI, hRW, hRL⟩ := pI.2.2.1 a z1
    rw [x_t0 X, gI_t, z2, if_neg (by decide), gR_t cI.2.1.2.1, gR_t cI.2.1.2.2.1, x_tb X hb (by omega)]
    refine c_copyT (x_T X hb (by omega)) hi X.2.2.2.2.2.2.2 (farB_k hb (by omega)).1 cI.2.2.2.2.1 z3 hI.1.1.1 hI.1.1.2.1 (SI_5 hI.2.1) (fun h2 ca fb => ?_)
    have cI2 := CI_trial X cI fb (CT_G ca) hm
    have rX2 := RX_c (FB_EQm X fb) rX
    rw [gR_t cI2.2.1.2.1, x_tb X hb (by omega), gI_t, ca.2.1.1, hI.1.2.1.1]
    have htk := hI.1.2.1.2.1
    refine x_settle X cI2 hm (fun z => absurd z (nI_pos (by omega))) (fun _ h4 em hci => ?_)
    have rX4 := RX_c em rX2
    unfold f_X6_restore
    dsimp only
    rcases rX4.2.2.2.2.1 with ⟨y1, y2⟩ | ⟨a', y1, y2, y3⟩
    · rw [z1] at y1; cases y1
    · rw [mx_m rX4.1, gI_t, y2, if_neg (by decide)]
      refine r_know X rX4 hm (fun h5 f X5 ra5 fin => ?_)
      refine m_restore16 X5 (fun f' hf' => ?_)
      have ra' : RA f' a := by
        obtain ⟨q1, -⟩ := fin f (A 0) ra5
        rcases q1.2.2.2.2.1 with ⟨w1, -⟩ | ⟨a2, w1, -, w3⟩
        · rw [z1] at w1; cases w1
        · rw [z1] at w1
          cases w1
          refine MA_ext w3 (fun k hk => ?_)
          rw [gi_o X5 (by omega)]
          exact hf' k hk
      rw [mx_r0 X5, mx_t1 X5, show (0 : Int32) = nI 0 from rfl, mx_ld X5 (by omega), ra'.1 0 (by omega), hI.1.2.1.1]
      obtain ⟨q1, q2⟩ := fin f' a ra'
      exact hk _ _ (MI_mk (CI_m q2 (hci a ca)) q1 (PI_push pI hpa (Nat.le_refl _)))
theorem s_undo (X : WK sh ad ma) (I : MI sh ad ma T h) {K : Int32 → Int32 → Hp → Prop} (hk : ∀ r h', MI sh ad ma T h' → K r r h') : f_X5_undo sh (ad 0) h (fun r1 h1 => f_X6_undo sh (ma 0) h1 (fun r2 h2 => K r1 r2 h2)) := by
  have hi := X.1
  obtain ⟨b, m, A, kp, len, tx, cI, rX, pI⟩ := I
  have hm := pI.1
  have cI0 := cI
  obtain ⟨c1, ⟨x1, x2, x3, x4, x5, x6, x7⟩, c3, c4, c5, c6, c7, c8, c9, c10⟩ := cI
  obtain ⟨r1, r2, r3, r4, r5, r6, r7⟩ := rX
  have n03 : ad 253 ≠ ad 0 := ad_ne hi (by omega)
  unfold f_X5_undo
  rw [x_t0 X, gI_t, c3]
  by_cases m0 : m = 0
  · subst m0
    rw [if_neg (by decide)]
    unfold f_X6_undo
    dsimp only
    rw [mx_m r1, gI_t, r2]
    refine if_y rfl ?_
    exact hk _ _ (MI_mk cI0 ⟨r1, r2, r3, r4, r5, r6, r7⟩ pI)
  · obtain ⟨p, rfl⟩ : ∃ p, m = p + 1 := ⟨m - 1, by omega⟩
    rw [if_pos (by rw [show (0 : Int32) = nI 0 from rfl, nI_ltI (by omega) (by omega)]; omega), gI_t, c3, pI_t, show (1 : Int32) = nI 1 from rfl, nI_sub (by omega), Nat.add_sub_cancel]
    have i5 : gi (si h (ad 0) 5 (nI p)) (ad 0) 5 = nI p := gi_si
    rw [gR_s x4, gI_t, i5, x_th X, x_lh X (by omega) (show gr (si h (ad 0) 5 (nI p)) (ad 253) p = some (ad (b (2 + p))) from x6 p (by omega)), gR_s x4, gI_t, i5, gR_s x1, x_th X, x_tb X c1 (by omega), x_sh X (by omega), pR_t, gI_t]
    have i5' : gi (sr (sr (si h (ad 0) 5 (nI p)) (ad 253) p (some (ad (b 0)))) (ad 0) 0 (some (ad (b (2 + p))))) (ad 0) 5 = nI p := i5
    rw [i5']
    have ho : ∀ q, q ≠ ad 0 → q ≠ ad 253 → (sr (sr (si h (ad 0) 5 (nI p)) (ad 253) p (some (ad (b 0)))) (ad 0) 0 (some (ad (b (2 + p))))).1 q = h.1 q ∧ (sr (sr (si h (ad 0) 5 (nI p)) (ad 253) p (some (ad (b 0)))) (ad 0) 0 (some (ad (b (2 + p))))).2 q = h.2 q := fun q q0 q1 => by
      refine ⟨?_, ?_⟩
      · show va_up h.1 _ _ q = h.1 q
        rw [va_up_off q0]
      · show va_up (va_up h.2 _ _) _ _ q = h.2 q
        rw [va_up_off q0, va_up_off q1]
    have em : EQm ma h (sr (sr (si h (ad 0) 5 (nI p)) (ad 253) p (some (ad (b 0)))) (ad 0) 0 (some (ad (b (2 + p))))) := fun q => ho _ (fun z => X.2.1 0 q z.symm) (fun z => X.2.1 253 q z.symm)
    have qb : ∀ i, i < 6 → QB ad h (sr (sr (si h (ad 0) 5 (nI p)) (ad 253) p (some (ad (b 0)))) (ad 0) 0 (some (ad (b (2 + p))))) (b i) := fun i i1 j hj => ho _ (ad_ne hi (fun z => (outB c1 i1 j hj).1 z.symm)) (ad_ne hi (fun z => (outB c1 i1 j hj).2.1 z.symm))
    have qk : QB ad h (sr (sr (si h (ad 0) 5 (nI p)) (ad 253) p (some (ad (b 0)))) (ad 0) 0 (some (ad (b (2 + p))))) 169 := fun j hj => ho _ (ad_ne hi (by omega)) (ad_ne hi (by omega))
    have e2 := ho (ad 590) (ad_ne hi (by omega)) (ad_ne hi (by omega))
    have e3 := ho (ad 591) (ad_ne hi (by omega)) (ad_ne hi (by omega))
    have rX2 := RX_c em (⟨r1, r2, r3, r4, r5, r6, r7⟩ : RX sh ma (p + 1) A kp len tx h)
    have cI2 : CI ad (fun i => if i = 0 then b (2 + p) else if i = 2 + p then b 0 else b i) p (fun i => if i = 0 then A (1 + p) else A i) kp len tx (sr (sr (si h (ad 0) 5 (nI p)) (ad 253) p (some (ad (b 0)))) (ad 0) 0 (some (ad (b (2 + p))))) := by
      have bs : BS (fun i => if i = 0 then b (2 + p) else if i = 2 + p then b 0 else b i) := by
        refine ⟨fun i i1 => ?_, fun i j i1 j1 e => ?_⟩
        · dsimp only
          repeat' split
          all_goals exact c1.1 _ (by omega)
        · dsimp only at e
          repeat' split at e
          all_goals (have := c1.2 _ _ (by omega) (by omega) e; omega)
      refine ⟨bs, ⟨?_, ?_, ?_, ?_, ?_, fun i i1 => ?_, ?_⟩, i5', CA_Q (qb (2 + p) (by omega)) (c6 p (by omega)), ?_, fun i i1 => ?_, fun i i1 => ?_, ?_, TG_Q qk c9, ?_, fun i i1 => ?_⟩
      · rw [sr_at, if_pos rfl]; rfl
      · rw [sr_at, if_neg (by omega), sr_off (Ne.symm n03)]; show gr h (ad 0) 1 = _; rw [x2]; dsimp only; rw [if_neg (by omega), if_neg (by omega)]
      · rw [sr_at, if_neg (by omega), sr_off (Ne.symm n03)]; exact x3
      · rw [sr_at, if_neg (by omega), sr_off (Ne.symm n03)]; exact x4
      · rw [sr_at, if_neg (by omega), sr_off (Ne.symm n03)]; exact x5
      · rw [sr_off n03, sr_at]
        dsimp only
        by_cases z : i = p
        · rw [if_pos z, if_neg (by omega), if_pos (by omega)]
        · rw [if_neg z, if_neg (by omega), if_neg (by omega)]
          exact x6 i i1
      · show (sr (sr (si h (ad 0) 5 (nI p)) (ad 253) p (some (ad (b 0)))) (ad 0) 0 (some (ad (b (2 + p))))).2 (ad 590) 0 = _
        rw [e2.2]; exact x7
      · dsimp only
        rw [if_neg (by omega), if_neg (by omega)]
        exact TG_Q (qb 1 (by omega)) c5
      · dsimp only
        rw [if_neg (by omega), if_neg (by omega), if_neg (by omega)]
        exact CA_Q (qb _ (by omega)) (c6 i (by omega))
      · dsimp only
        rw [if_neg (by omega)]
        split
        · exact TG_Q (qb 0 (by omega)) (CT_G c4)
        · exact TG_Q (qb _ (by omega)) (c7 i i1)
      · have e5 : gi (sr (sr (si h (ad 0) 5 (nI p)) (ad 253) p (some (ad (b 0)))) (ad 0) 0 (some (ad (b (2 + p))))) (ad 0) 3 = gi h (ad 0) 3 := gi_si_k (h := h) (by decide)
        rcases c8 with ⟨z1, z2⟩ | ⟨a, z1, z2, z3⟩
        · exact Or.inl ⟨z1, by rw [e5]; exact z2⟩
        · exact Or.inr ⟨a, z1, by rw [e5]; exact z2, CA_Q qk z3⟩
      · show (sr (sr (si h (ad 0) 5 (nI p)) (ad 253) p (some (ad (b 0)))) (ad 0) 0 (some (ad (b (2 + p))))).1 (ad 590) 1 = _
        rw [e2.1]; exact c10.1
      · show (sr (sr (si h (ad 0) 5 (nI p)) (ad 253) p (some (ad (b 0)))) (ad 0) 0 (some (ad (b (2 + p))))).1 (ad 591) i = _
        rw [e3.1]; exact c10.2 i i1
    generalize sr (sr (si h (ad 0) 5 (nI p)) (ad 253) p (some (ad (b 0)))) (ad 0) 0 (some (ad (b (2 + p)))) = h2 at rX2 cI2 ⊢
    obtain ⟨r1, r2, r3, r4, r5, r6, r7⟩ := rX2
    unfold f_X6_undo
    dsimp only
    rw [mx_m r1, gI_t, r2]
    refine if_n (fun z => by have := nI_inj (b := 0) (by omega) (by omega) z; omega) ?_
    rw [gI_t, r2, pI_t, show (1 : Int32) = nI 1 from rfl, nI_sub (by omega), Nat.add_sub_cancel]
    have n10 : ma 1 ≠ ma 0 := mx_ne r1 (by omega)
    have key : lo (b_X6_undo_22 sh (ma 0) fun h15 => gI h15 (ma 0) 3 fun v16 => K (nI p) v16 h15) (0 : Int32) (hset (si h2 (ma 0) 3 (nI p)) (ma 1) (gi h2 (ma 1))) := by
      refine m_undo22 (mx_s r1) (m := p) (by omega) gi_si (fun f' hf' => ?_)
      rw [gI_t, gi_o r1 (by omega), gi_si]
      have o : ∀ q k, q ≠ 0 → q ≠ 1 → gi (hset (si h2 (ma 0) 3 (nI p)) (ma 1) f') (ma q) k = gi h2 (ma q) k := fun q k q0 q1 => by
        rw [gi_hset_ne (mx_ne r1 q1), gi_si_ne (mx_ne r1 q0)]
      have o0 : ∀ k, k ≠ 3 → gi (hset (si h2 (ma 0) 3 (nI p)) (ma 1) f') (ma 0) k = gi h2 (ma 0) k := fun k k3 => by
        rw [gi_hset_ne (Ne.symm n10), gi_si_k k3]
      refine hk _ _ (MI_mk (CI_m ((si_EQa X).tr (hset_EQa X)) cI2) ⟨mx_h (mx_s r1), ?_, ?_, fun i i1 => ?_, ?_, by rw [o0 7 (by omega)]; exact r6, fun i i1 => by rw [o 5 i (by omega) (by omega)]; exact r7 i i1⟩ ⟨by omega, fun i i1 => ?_, pI.2.2.1, pI.2.2.2⟩)
      · rw [gi_hset_ne (Ne.symm n10), gi_si]
      · rw [hset_fn]
        refine MA_ext (r4 p (by omega)) (fun k hk => ?_)
        rw [hf' k hk, gi_si_ne (mx_ne r1 (by omega))]
      · dsimp only
        rw [if_neg (by omega)]
        exact MA_ext (r4 i (by omega)) (fun k hk => o 3 _ (by omega) (by omega))
      · rcases r5 with ⟨z1, z2⟩ | ⟨a, z1, z2, z3⟩
        · exact Or.inl ⟨z1, by rw [o0 5 (by omega)]; exact z2⟩
        · refine Or.inr ⟨a, z1, by rw [o0 5 (by omega)]; exact z2, ?_⟩
          have : gi (hset (si h2 (ma 0) 3 (nI p)) (ma 1) f') (ma 4) = gi h2 (ma 4) := by funext k; exact o 4 k (by omega) (by omega)
          rw [this]; exact z3
      · dsimp only
        split
        · exact pI.2.1 _ (by omega)
        · exact pI.2.1 _ (by omega)
    have e : hset (si h2 (ma 0) 3 (nI p)) (ma 1) (gi h2 (ma 1)) = si h2 (ma 0) 3 (nI p) := by
      have : gi h2 (ma 1) = gi (si h2 (ma 0) 3 (nI p)) (ma 1) := by funext k; rw [gi_si_ne n10]
      rw [this, hset_self]
    rw [e] at key
    exact key
theorem x_lx (X : WK sh ad ma) {h : Hp} {k : Nat} (hk : k < 60) {K : Int32 → Prop} : lI sh h (ad 591) (nI k) K = K (gi h (ad 591) k) := lI_t (by rw [X.2.2.2.2.2.1]; exact hk) (by rw [X.2.2.2.2.2.1]; decide)
theorem x_sx (X : WK sh ad ma) {h : Hp} {k : Nat} (hk : k < 60) {v : Int32} {K : Hp → Prop} : sI sh h (ad 591) (nI k) v K = K (si h (ad 591) k v) := sI_t (by rw [X.2.2.2.2.2.1]; exact hk) (by rw [X.2.2.2.2.2.1]; decide)
theorem s_type (X : WK sh ad ma) (I : MI sh ad ma T h) {x : Int32} {K : Int32 → Int32 → Hp → Prop} (hk : ∀ r h', MI sh ad ma T h' → K r r h') : f_X5_type sh (ad 0) x h (fun r1 h1 => f_X6_type sh (ma 0) x h1 (fun r2 h2 => K r1 r2 h2)) := by
  have hi := X.1
  have I0 := I
  obtain ⟨b, m, A, kp, len, tx, cI, rX, pI⟩ := I
  have hl := pI.2.2.2.1
  have bad : (∀ c, 32 ≤ c → c ≤ 126 → x ≠ nI c) → f_X6_type sh (ma 0) x h (fun r2 h2 => K (-1) r2 h2) := fun hb => by
    unfold f_X6_type
    refine in_t (a := 32) (b := 126) (by omega) (by omega) (fun c c1 c2 e => absurd e (hb c c1 c2)) (fun _ _ => if_y rfl (hk _ _ I0))
  unfold f_X5_type
  rcases rng x (a := 32) (b := 126) (by omega) (by omega) with ⟨c, q1, q2, rfl⟩ | zx | ⟨zx1, zx2⟩
  · rw [if_neg (fun z => by rw [show (32 : Int32) = nI 32 from rfl, nI_ltI (by omega) (by omega)] at z; omega), if_pos (by rw [show (126 : Int32) = nI 126 from rfl, nI_leI (by omega) (by omega)]; exact q2), x_t0 X, gR_t cI.2.1.2.2.2.2.1, x_tt X, gI_t, cI.2.2.2.2.2.2.2.2.2.1]
    by_cases l60 : len = 60
    · subst l60
      rw [if_neg (by decide)]
      unfold f_X6_type
      refine in_t (a := 32) (b := 126) (by omega) (by omega) (fun c' c1 c2 e => ?_) (fun z _ => absurd rfl (z c q1 q2))
      refine if_n (by decide) ?_
      rw [mx_m rX.1, gI_t, rX.2.2.2.2.2.1]
      exact if_y rfl (hk _ _ I0)
    · have hl2 : len < 60 := by omega
      rw [if_pos (by rw [show (60 : Int32) = nI 60 from rfl, nI_ltI (by omega) (by omega)]; exact hl2), gR_t cI.2.1.2.2.2.2.1, x_tt X, gR_t cI.2.1.2.2.2.2.2.2, gR_t cI.2.1.2.2.2.2.1, x_tt X, gI_t, cI.2.2.2.2.2.2.2.2.2.1, x_tx X, x_sx X hl2]
      rw [gR_s cI.2.1.2.2.2.2.1, x_tt X, gI_t, gi_ad hi (by omega), cI.2.2.2.2.2.2.2.2.2.1, pI_t, nI_1]
      rw [gR_t (h := si (si h (ad 591) len (nI c)) (ad 590) 1 (nI (len + 1))) cI.2.1.2.2.2.2.1, x_tt X, gI_t, gi_si]
      have tI : TXc (si (si h (ad 591) len (nI c)) (ad 590) 1 (nI (len + 1))) ad (len + 1) (va_up tx len (nI c)) := by
        refine ⟨gi_si, fun i i1 => ?_⟩
        rw [gi_ad hi (by omega)]
        by_cases e : i = len
        · subst e; rw [gi_si, va_up_self]
        · rw [gi_si_k e, va_up_off e]; exact cI.2.2.2.2.2.2.2.2.2.2 i (by omega)
      have cI2 := CI_text X pI.1 cI (h' := si (si h (ad 591) len (nI c)) (ad 590) 1 (nI (len + 1))) rfl (fun q z1 z2 => by show va_up (va_up h.1 _ _) _ _ q = _; rw [va_up_off z1, va_up_off z2]) tI
      have rX2 := RX_c (((si_EQm X (h := h) (p := 591) (k := len) (v := nI c))).tr (si_EQm X (p := 590) (k := 1) (v := nI (len + 1)))) rX
      generalize si (si h (ad 591) len (nI c)) (ad 590) 1 (nI (len + 1)) = h2 at cI2 rX2 ⊢
      have x0 := rX2.1
      have n50 : ma 5 ≠ ma 0 := mx_ne x0 (by omega)
      unfold f_X6_type
      refine in_t (a := 32) (b := 126) (by omega) (by omega) (fun c' c1 c2 e => ?_) (fun z _ => absurd rfl (z c q1 q2))
      refine if_n (by decide) ?_
      rw [mx_m x0, gI_t, rX2.2.2.2.2.2.1]
      refine if_n (fun z => l60 (nI_inj (b := 60) (by omega) (by omega) z)) ?_
      rw [mx_q6 x0, gI_t, rX2.2.2.2.2.2.1, mx_t5 x0, mx_s5 x0 hl2, gI_t, gi_si_ne (Ne.symm n50), rX2.2.2.2.2.2.1, pI_t, nI_1, gI_t, gi_si]
      refine hk _ _ (MI_mk (CI_m ((si_EQa X).tr (si_EQa X)) cI2) (RX_text (h' := si (si h2 (ma 5) len (nI c)) (ma 0) 7 (nI (len + 1))) rX2 rfl (fun q z1 z2 => by show va_up (va_up h2.1 _ _) _ _ q = _; rw [va_up_off z1, va_up_off z2]) (fun k k7 => by rw [gi_si_k k7, gi_si_ne (Ne.symm n50)]) gi_si (tx' := va_up tx len (nI c)) (fun i i1 => ?_)) ⟨pI.1, pI.2.1, pI.2.2.1, by omega, fun i i1 => ?_⟩)
      · rw [gi_si_ne n50]
        by_cases e : i = len
        · subst e; rw [gi_si, va_up_self]
        · rw [gi_si_k e, va_up_off e]; exact rX2.2.2.2.2.2.2 i (by omega)
      · by_cases e : i = len
        · subst e; rw [va_up_self]; exact ⟨c, q1, q2, rfl⟩
        · rw [va_up_off e]; exact pI.2.2.2.2 i (by omega)
  · refine if_y zx (bad (fun c c1 c2 e => ?_))
    rw [e, nI_ltI (by omega) (by omega)] at zx; omega
  · refine if_n zx1 (if_n (fun q => nlt_le.mpr q zx2) (bad (fun c c1 c2 e => ?_)))
    rw [e, nI_ltI (by omega) (by omega)] at zx2; omega
theorem s_clear (X : WK sh ad ma) (I : MI sh ad ma T h) {K : Int32 → Int32 → Hp → Prop} (hk : ∀ r h', MI sh ad ma T h' → K r r h') : f_X5_clearText sh (ad 0) h (fun r1 h1 => f_X6_clearText sh (ma 0) h1 (fun r2 h2 => K r1 r2 h2)) := by
  have hi := X.1
  obtain ⟨b, m, A, kp, len, tx, cI, rX, pI⟩ := I
  unfold f_X5_clearText
  rw [x_t0 X, gR_t cI.2.1.2.2.2.2.1, x_tt X, gI_t, cI.2.2.2.2.2.2.2.2.2.1, gR_t cI.2.1.2.2.2.2.1, x_tt X, pI_t]
  have cI2 := CI_text X pI.1 cI (h' := si h (ad 590) 1 0) rfl (fun q z1 z2 => by show va_up h.1 _ _ q = _; rw [va_up_off z1]) (len' := 0) (tx' := tx) ⟨gi_si, fun i i1 => absurd i1 (Nat.not_lt_zero i)⟩
  have rX2 := RX_c (si_EQm X (h := h) (p := 590) (k := 1) (v := 0)) rX
  generalize si h (ad 590) 1 0 = h2 at cI2 rX2 ⊢
  unfold f_X6_clearText
  dsimp only
  rw [mx_m rX2.1, gI_t, rX2.2.2.2.2.2.1, pI_t]
  exact hk _ _ (MI_mk (CI_m (si_EQa X) cI2) (RX_text (h' := si h2 (ma 0) 7 0) rX2 rfl (fun q z1 z2 => by show va_up h2.1 _ _ q = _; rw [va_up_off z1]) (fun k k7 => gi_si_k k7) gi_si (len' := 0) (tx' := tx) (fun i i1 => absurd i1 (Nat.not_lt_zero i))) ⟨pI.1, pI.2.1, pI.2.2.1, by omega, fun i i1 => absurd i1 (Nat.not_lt_zero i)⟩)
end XI

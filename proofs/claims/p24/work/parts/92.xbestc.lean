/-! a call on both sides: the best room -/
theorem ev12 {st : Nat} (h : st < 1000) : (if (0 : Int32) < nI st - 12 then nI st - 12 else (0 : Int32)) = nI (st - 12) := by
  by_cases c : 12 ≤ st
  · rw [show (12 : Int32) = nI 12 from rfl, nI_sub c]
    by_cases d : st = 12
    · subst d; rfl
    · rw [if_pos (by rw [show (0 : Int32) = nI 0 from rfl, nI_ltI (by omega) (by omega)]; omega)]
  · have : ∀ st, st < 12 → ¬ (0 : Int32) < nI st - 12 := by decide
    rw [if_neg (this st (by omega)), show st - 12 = 0 by omega]
    rfl
def bstv (v : Nat → Int32) : Nat → Nat → Int32 × Int32 → Int32 × Int32
  | 0, _, s => s
  | d + 1, r, s => bstv v d (r + 1) (if v r < 0 then s else if s.2 < 0 then (nI r, v r) else if s.2 ≤ v r then s else (nI r, v r))
theorem bstv_eq {v : Nat → Int32} : ∀ (d r : Nat) (x y f : Int32), f < 0 → (∃ q, r ≤ q ∧ q < r + d ∧ ¬ v q < 0) → bstv v d r (x, f) = bstv v d r (y, f) := by
  intro d
  induction d with
  | zero => rintro r x y f _ ⟨q, q1, q2, -⟩; omega
  | succ d ih =>
    rintro r x y f hf ⟨q, q1, q2, q3⟩
    unfold bstv
    dsimp only
    by_cases c : v r < 0
    · rw [if_pos c, if_pos c]
      have : q ≠ r := fun z => q3 (by rw [z]; exact c)
      exact ih (r + 1) x y f hf ⟨q, by omega, by omega, q3⟩
    · rw [if_neg c, if_neg c, if_pos hf, if_pos hf]
section XZ
variable {sh : Sh} {ad ma : Nat → Nat} {h h' h'' : Hp} {b : Nat → Nat} {m len T : Nat} {A : Nat → AS} {kp : Option AS} {tx : Nat → Int32} {n k rm st : Nat} {g : Nat → Int32} {rc : List (Int32 × Int32)}
theorem c_latest (X : WK sh ad ma) (hm : m ≤ 4) (hrm : 1 ≤ rm ∧ rm ≤ 8) (hst : (A 0).1 2 = nI st) (hst9 : st ≤ 999) (hRL : RLt rc (A 0).2.2.2.2 st) (hRI : RI st rc) {K : Int32 → Hp → Prop} :
    ∀ (d p : Nat) (a : AQ) (h : Hp), p + d = rc.length → CI ad b m A kp len tx h → CQ h ad (b 1) a → BR rm p a → (∀ h', EQm ma h h' → CI ad b m A kp len tx h' → K (bres (brun (rc.drop p) a)) h') →
      lp (b_X5_loadsWithRoom_30 sh (ad 0) (fun h37 => gR h37 (ad 0) 1 fun q38 => ty sh q38 2 <| f_X2_loadsOfAll sh q38 h37 fun r40 h41 => K r40 h41) K) (d + 1) (nI (st - rc.length + p)) h := by
  have hi := X.1
  obtain ⟨hlen, hr⟩ := hRI
  intro d
  induction d with
  | zero =>
    intro p a h hp cI cq hB hK
    have hb := cI.1
    show b_X5_loadsWithRoom_30 sh (ad 0) (fun h37 => gR h37 (ad 0) 1 fun q38 => ty sh q38 2 <| f_X2_loadsOfAll sh q38 h37 fun r40 h41 => K r40 h41) K (lp (b_X5_loadsWithRoom_30 sh (ad 0) (fun h37 => gR h37 (ad 0) 1 fun q38 => ty sh q38 2 <| f_X2_loadsOfAll sh q38 h37 fun r40 h41 => K r40 h41) K) 0) (nI (st - rc.length + p)) h
    unfold b_X5_loadsWithRoom_30
    rw [x_t0 X, gR_t cI.2.1.1, x_tb X hb (by omega), gI_t, cI.2.2.2.1.2.1.2.2.2.2, hst, if_pos (by rw [nI_leI (by omega) (by omega)]; omega)]
    dsimp only
    rw [gR_t cI.2.1.2.1, x_tb X hb (by omega)]
    obtain ⟨W, L, ct, -⟩ := cq
    refine c_loadsOfAll (x_T X hb (by omega)) ct ?_
    have := hK h EQm.rf cI
    rw [List.drop_eq_nil_of_le (by omega)] at this
    exact this
  | succ d ih =>
    intro p a h hp cI cq hB hK
    have hb := cI.1
    show b_X5_loadsWithRoom_30 sh (ad 0) (fun h37 => gR h37 (ad 0) 1 fun q38 => ty sh q38 2 <| f_X2_loadsOfAll sh q38 h37 fun r40 h41 => K r40 h41) K (lp (b_X5_loadsWithRoom_30 sh (ad 0) (fun h37 => gR h37 (ad 0) 1 fun q38 => ty sh q38 2 <| f_X2_loadsOfAll sh q38 h37 fun r40 h41 => K r40 h41) K) (d + 1)) (nI (st - rc.length + p)) h
    revert ih
    generalize lp (b_X5_loadsWithRoom_30 sh (ad 0) (fun h37 => gR h37 (ad 0) 1 fun q38 => ty sh q38 2 <| f_X2_loadsOfAll sh q38 h37 fun r40 h41 => K r40 h41) K) (d + 1) = rec
    intro ih
    have hT0 := x_T X hb (i := 0) (by omega)
    have hT1 := x_T X hb (i := 1) (by omega)
    have ca := cI.2.2.2.1
    have ring := hRL p (by omega)
    have hq : (st - rc.length + p) % 12 < 12 := Nat.mod_lt _ (by omega)
    obtain ⟨⟨n, hn, f1⟩, s, s1, s2, f2⟩ := hr p (by omega)
    unfold b_X5_loadsWithRoom_30
    rw [x_t0 X, gR_t cI.2.1.1, x_tb X hb (by omega), gI_t, ca.2.1.2.2.2.2, hst, if_neg (nI_ge (by omega) (by omega)), gR_t cI.2.1.2.1, gR_t cI.2.1.1, x_tb X hb (by omega), gR_t ca.1.2.2.2.2.1, ct_t5 hT0, nI_mod12 (by omega), ct_l5 hT0 hq, (ca.2.2.2.2.1 _ hq).1, ring, f1, gR_t cI.2.1.1, x_tb X hb (by omega), gR_t ca.1.2.2.2.2.2.1, ct_t6 hT0, ct_l6 hT0 hq, (ca.2.2.2.2.1 _ hq).2, ring, f2, x_tb X hb (by omega)]
    obtain ⟨hz, g4, -, sq, -, hBL⟩ := BR_BL hB hrm (by omega) hn
    have hP := hB.1
    rw [drop_rcd (by omega), show rcd rc p = (nI n, nI s) from Prod.ext f1 f2] at hK
    cases eu : uAll a.1 (nI p) (nI s) 6 0 (va_up (a.2.1 n).1 0 (nI 0)) (a.2.1 n).2 with
    | none =>
      obtain ⟨b1, b2⟩ := bstep_none hB hrm (by omega) hn ⟨s1, s2⟩ eu
      have key : f_X2_obey sh (ad (b 1)) (nI 115) (nI n) (nI s) h (fun r31 h32 => if 0 ≤ r31 then (gR h32 (ad 0) 1 fun q33 => ty sh q33 2 <| f_X2_finish sh q33 r31 h32 fun r35 h36 => rec (nI (st - rc.length + p) + (1 : Int32)) h36) else K (-1) h32) := by
        refine c_obey hT1 hi cq hP (by omega) (Or.inr (Or.inl rfl)) (by omega) (by omega) (fun h2 hneg tg fb => ?_) (fun h2 hpos cq2 fb => absurd b1 hpos)
        refine if_n (fun z => nlt_le.mpr z hneg) ?_
        have cI2 := CI_trial X cI fb tg hm
        have := hK h2 (FB_EQm X fb) cI2
        unfold brun at this
        rw [b2] at this
        exact this
      unfold f_X2_obey at key
      rw [if_neg (by decide), if_neg (by decide), if_pos (show nI 115 = 115 from rfl), ct_t0 hT1] at key
      exact key
    | some r =>
      obtain ⟨b0, b1, a', x, l'', b2, b3, b4, -⟩ := bstep_some hB hrm (by omega) hn ⟨s1, s2⟩ eu
      have key : f_X2_obey sh (ad (b 1)) (nI 115) (nI n) (nI s) h (fun r31 h32 => if 0 ≤ r31 then (gR h32 (ad 0) 1 fun q33 => ty sh q33 2 <| f_X2_finish sh q33 r31 h32 fun r35 h36 => rec (nI (st - rc.length + p) + (1 : Int32)) h36) else K (-1) h32) := by
        have hpos0 : ¬ (stepA a 115 n s).1 < 0 := by
          show ¬ (stepS a n s).1 < 0
          rw [b0]; exact nI_pos (by omega)
        refine c_obey hT1 hi cq hP (by omega) (Or.inr (Or.inl rfl)) (by omega) (by omega) (fun h2 hneg tg fb => absurd hneg hpos0) (fun h2 hpos cq2 fb => ?_)
        have cI2 := CI_trial X cI fb (CQ_G cq2) hm
        rw [show (stepA a 115 n s).1 = nI p from b0]
        refine if_y (nI_pos' (by omega)) ?_
        rw [gR_t cI2.2.1.2.1, x_tb X hb (by omega)]
        have P2 : PQ (198 * p + 99) (stepA a 115 n s).2 := step_PQ hP (by omega) (by omega) hpos0
        have key2 : f_X2_obey sh (ad (b 1)) (nI 101) (nI p) (nI 0) h2 (fun r35 h36 => rec (nI (st - rc.length + p) + (1 : Int32)) h36) := by
          refine c_obey hT1 hi cq2 P2 (by omega) (Or.inr (Or.inr (Or.inl rfl))) (by omega) (by omega) (fun h3 hneg tg fb3 => absurd hneg b1) (fun h3 _ cq3 fb3 => ?_)
          have cI3 := CI_trial X cI2 fb3 (CQ_G cq3) hm
          have cq3' : CQ h3 ad (b 1) a' := by rw [b3]; exact cq3
          rw [nI_1, Nat.add_assoc]
          refine ih (p + 1) a' h3 (by omega) cI3 cq3' b4 (fun h4 em c4 => ?_)
          have := hK h4 (((FB_EQm X fb).tr (FB_EQm X fb3)).tr em) c4
          unfold brun at this
          rw [b2] at this
          exact this
        unfold f_X2_obey at key2
        rw [if_neg (by decide), if_pos (show nI 101 = 101 from rfl), ct_t0 hT1] at key2
        exact key2
      unfold f_X2_obey at key
      rw [if_neg (by decide), if_neg (by decide), if_pos (show nI 115 = 115 from rfl), ct_t0 hT1] at key
      exact key
theorem x_lwr (X : WK sh ad ma) (cI : CI ad b m A kp len tx h) (pI : PI T m A kp len tx) (hrm : 1 ≤ rm ∧ rm ≤ 8) {K : Int32 → Hp → Prop} (hk : ∀ h', EQm ma h h' → CI ad b m A kp len tx h' → K (bres (brun (A 0).2.2.1.2 (aB rm))) h') : f_X5_loadsWithRoom sh (ad 0) (nI rm) h K := by
  have hi := X.1
  have hm := pI.1
  have hb := cI.1
  have hT1 := x_T X hb (i := 1) (by omega)
  obtain ⟨tk, rm0, st, hI, hRW, hRL⟩ := pI.2.1 0 (by omega)
  obtain ⟨⟨-, -, -, -, ⟨hst, hst9⟩, -⟩, -, -, hRI⟩ := hI
  unfold f_X5_loadsWithRoom
  rw [x_t0 X, gR_t cI.2.1.2.1, x_tb X hb (by omega)]
  refine c_clearT hT1 hi cI.2.2.2.2.1 (fun h2 W' L' hw ct fb => ?_)
  have cI2 := CI_trial X cI fb (CT_G ct) hm
  rw [gR_t cI2.2.1.2.1, x_tb X hb (by omega), pI_t]
  have ct3 := CT_room hi ct (v := nI rm)
  have fb3 : FB ad h2 (si h2 (ad (b 1)) 2 (nI rm)) (b 1) := FB_si0
  have cI3 := CI_trial X cI2 fb3 (CT_G ct3) hm
  generalize si h2 (ad (b 1)) 2 (nI rm) = h3 at ct3 fb3 cI3 ⊢
  rw [gR_t cI3.2.1.1, x_tb X hb (by omega), gI_t, cI3.2.2.2.1.2.1.2.2.2.2, hst, ev_t, ev12 (by omega)]
  have nq : nQ (aB rm) = 0 := by
    show (gB rm 1).toNatClampNeg = 0
    rw [gB_z (by omega)]; rfl
  have cq : CQ h3 ad (b 1) (aB rm) := by
    refine ⟨W', L', by rw [nq]; exact ct3, ⟨fun o ho => absurd ho List.not_mem_nil, fun n j hn hj => Or.inl (hw n hn j hj), fun n j n' j' hn hj _ _ _ z => absurd (hw n hn j hj) z, fun n hn => ?_⟩, fun p hp => absurd hp (Nat.not_lt_zero p)⟩
    show 0 = cntW (W' n) 4
    have neg : ∀ j, j < 4 → W' n j 0 < 0 := fun j hj => by rw [hw n hn j hj]; decide
    rw [cntW_s, if_pos (neg 3 (by omega)), cntW_s, if_pos (neg 2 (by omega)), cntW_s, if_pos (neg 1 (by omega)), cntW_s, if_pos (neg 0 (by omega))]
    rfl
  have hl := hRI.1
  have := c_latest X hm hrm hst hst9 hRL hRI (K := K) (kp := kp) (len := len) (tx := tx) (b := b) (A := A) (A 0).2.2.1.2.length 0 (aB rm) h3 (by omega) cI3 cq (BR_0 hrm) (fun h' em c' => hk h' (((FB_EQm X fb).tr (FB_EQm X fb3)).tr em) c')
  rw [show st - (A 0).2.2.1.2.length + 0 = st - 12 by omega] at this
  exact ⟨_, this⟩
theorem x_best31 (X : WK sh ad ma) (pI : PI T m A kp len tx) {x1 : Int32} {Xc : Int32 → Int32 → Hp → Prop} :
    ∀ (d r : Nat) (x f : Int32) (h : Hp), r + d = 9 → 1 ≤ r → CI ad b m A kp len tx h → (∀ h', EQm ma h h' → CI ad b m A kp len tx h' → Xc (bstv (fun q => bres (brun (A 0).2.2.1.2 (aB q))) d r (x, f)).1 (bstv (fun q => bres (brun (A 0).2.2.1.2 (aB q))) d r (x, f)).2 h') →
      lp (b_X5_bestRoom_31 sh (ad 0) x1 Xc) (d + 1) (x, f, nI r) h := by
  intro d
  induction d with
  | zero =>
    intro r x f h hr hr1 cI hK
    have : r = 9 := by omega
    subst this
    show b_X5_bestRoom_31 sh (ad 0) x1 Xc (lp (b_X5_bestRoom_31 sh (ad 0) x1 Xc) 0) (x, f, nI 9) h
    unfold b_X5_bestRoom_31
    rw [if_pos (show (8 : Int32) < nI 9 by decide)]
    exact hK h EQm.rf cI
  | succ d ih =>
    intro r x f h hr hr1 cI hK
    show b_X5_bestRoom_31 sh (ad 0) x1 Xc (lp (b_X5_bestRoom_31 sh (ad 0) x1 Xc) (d + 1)) (x, f, nI r) h
    revert ih
    generalize lp (b_X5_bestRoom_31 sh (ad 0) x1 Xc) (d + 1) = rec
    intro ih
    unfold b_X5_bestRoom_31
    dsimp only
    rw [if_neg (fun z => by rw [show (8 : Int32) = nI 8 from rfl, nI_ltI (by omega) (by omega)] at z; omega), x_t0 X]
    refine x_lwr X cI pI (by omega) (fun h' em cI' => ?_)
    unfold bstv at hK
    dsimp only at hK
    rw [nI_1]
    by_cases c : bres (brun (A 0).2.2.1.2 (aB r)) < 0
    · rw [if_pos c] at hK ⊢
      exact ih (r + 1) x f h' (by omega) (by omega) cI' (fun h'' em' c' => hK h'' (em.tr em') c')
    · rw [if_neg c] at hK ⊢
      by_cases c2 : f < 0
      · rw [if_pos c2] at hK ⊢
        exact ih (r + 1) _ _ h' (by omega) (by omega) cI' (fun h'' em' c' => hK h'' (em.tr em') c')
      · rw [if_neg c2] at hK ⊢
        by_cases c3 : f ≤ bres (brun (A 0).2.2.1.2 (aB r))
        · rw [if_pos c3] at hK ⊢
          exact ih (r + 1) x f h' (by omega) (by omega) cI' (fun h'' em' c' => hK h'' (em.tr em') c')
        · rw [if_neg c3] at hK ⊢
          exact ih (r + 1) _ _ h' (by omega) (by omega) cI' (fun h'' em' c' => hK h'' (em.tr em') c')
end XZ

/-! a call on both sides: fault, play -/
def aqS (a : AS) : AQ := (a.1, a.2.1, a.2.2.1.1, a.2.2.1.2)
theorem runA_lt {tc : Nat → Nat} {len : Nat} : ∀ (d p : Nat) (a : AQ), (runA tc len d p a).1.1 < 3 ∧ ((runA tc len d p a).1.1 = 1 → (runA tc len d p a).1.2.2 = -4) := by
  intro d
  induction d with
  | zero => intro p a; exact ⟨show (0 : Nat) < 3 by decide, fun z => absurd (show (0 : Nat) = 1 from z) (by decide)⟩
  | succ d ih =>
    intro p a
    by_cases c : len ≤ p
    · rw [runA_end c]; exact ⟨show (0 : Nat) < 3 by decide, fun z => absurd (show (0 : Nat) = 1 from z) (by decide)⟩
    · cases e : cmd tc len p with
      | none => rw [runA_none c e]; exact ⟨show (1 : Nat) < 3 by decide, fun _ => rfl⟩
      | some q =>
        obtain ⟨l, x, y, r⟩ := q
        by_cases hb : (stepA a l x y).1 < 0
        · rw [runA_bad c e hb]; exact ⟨show (2 : Nat) < 3 by decide, fun z => absurd (show (2 : Nat) = 1 from z) (by decide)⟩
        · rw [runA_go c e hb]; exact ih r _
theorem runA_cnt {tc : Nat → Nat} {len : Nat} : ∀ (d p : Nat) (a : AQ), (runA tc len d p a).2.2 ≤ d := by
  intro d
  induction d with
  | zero => intro p a; exact Nat.le_refl _
  | succ d ih =>
    intro p a
    by_cases c : len ≤ p
    · rw [runA_end c]; exact Nat.zero_le _
    · cases e : cmd tc len p with
      | none => rw [runA_none c e]; exact Nat.zero_le _
      | some q =>
        obtain ⟨l, x, y, r⟩ := q
        by_cases hb : (stepA a l x y).1 < 0
        · rw [runA_bad c e hb]; exact Nat.zero_le _
        · rw [runA_go c e hb]; exact Nat.succ_le_succ (ih r _)
theorem runA_PQ {tc : Nat → Nat} {len : Nat} : ∀ (d p T : Nat) (a : AQ), PQ T a → T + 99 * d < 2 ^ 29 → PQ (T + 99 * d) (runA tc len d p a).2.1 := by
  intro d
  induction d with
  | zero => intro p T a h _; exact h
  | succ d ih =>
    intro p T a h hT
    have up : PQ (T + 99 * (d + 1)) a := by
      obtain ⟨rm, hI⟩ := h
      exact ⟨rm, INV_T hI (by omega)⟩
    by_cases c : len ≤ p
    · rw [runA_end c]; exact up
    · cases e : cmd tc len p with
      | none => rw [runA_none c e]; exact up
      | some q =>
        obtain ⟨l, x, y, r⟩ := q
        obtain ⟨l1, x1, y1, p1, p2⟩ := cmd_ok e
        by_cases hb : (stepA a l x y).1 < 0
        · rw [runA_bad c e hb]; exact up
        · rw [runA_go c e hb]
          have := ih r (T + 99) _ (step_PQ h (by omega) (by omega) hb) (by omega)
          rw [show T + 99 + 99 * d = T + 99 * (d + 1) by omega] at this
          exact this
section XT
variable {sh : Sh} {ad ma : Nat → Nat} {h h' h'' : Hp} {b : Nat → Nat} {m len T : Nat} {A : Nat → AS} {kp : Option AS} {tx : Nat → Int32} {tc : Nat → Nat} {B : Nat}
theorem FX_EQm (X : WK sh ad ma) (f : FX ad B h h') : EQm ma h h' := fun q => f.1 _ (fun z => X.2.1 0 q z.symm) (fun z => X.2.1 590 q z.symm) (fun j _ z => X.2.1 (B + j) q z.symm)
theorem CI_FX (X : WK sh ad ma) (c : CI ad b m A kp len tx h) (hF : FX ad (b 1) h h') (hG : TG h' ad (b 1)) (hm : m ≤ 4) : CI ad b m A kp len tx h' := by
  have hi := X.1
  obtain ⟨c1, c2, c3, c4, c5, c6, c7, c8, c9, c10, c11⟩ := c
  obtain ⟨f1, f2, f3, f4, f5⟩ := hF
  have o := fun j (hj : j < 84) => outB c1 (i := 1) (by omega) j hj
  have e1 := f1 (ad 253) (ad_ne hi (by omega)) (ad_ne hi (by omega)) (fun j hj => ad_ne hi (o j hj).2.1)
  have e3 := f1 (ad 591) (ad_ne hi (by omega)) (ad_ne hi (by omega)) (fun j hj => ad_ne hi (o j hj).2.2.2)
  have qb : ∀ i, i < 6 → i ≠ 1 → QB ad h h' (b i) := fun i i1 i2 j hj => f1 _ (ad_ne hi (fun z => (outB c1 i1 j hj).1 z.symm)) (ad_ne hi (fun z => (outB c1 i1 j hj).2.2.1 z.symm)) (fun k hk => ad_ne hi (farB_b c1 i1 (by omega) i2 j k hj hk))
  have qk : QB ad h h' 169 := fun j hj => f1 _ (ad_ne hi (by omega)) (ad_ne hi (by omega)) (fun k hk => ad_ne hi ((farB_k c1 (i := 1) (by omega)).2 j k hj hk))
  refine ⟨c1, XP_eq f2 e1.2 f3 c2, by rw [f4 5 (by omega)]; exact c3, CA_Q (qb 0 (by omega) (by omega)) c4, hG, fun i hi => CA_Q (qb _ (by omega) (by omega)) (c6 i hi), fun i hi => TG_Q (qb _ (by omega) (by omega)) (c7 i hi), ?_, TG_Q qk c9, by rw [f5 1 (by omega)]; exact c10, fun i hi => by show h'.1 _ _ = _; rw [e3.1]; exact c11 i hi⟩
  rcases c8 with ⟨z1, z2⟩ | ⟨a, z1, z2, z3⟩
  · exact Or.inl ⟨z1, by rw [f4 3 (by omega)]; exact z2⟩
  · exact Or.inr ⟨a, z1, by rw [f4 3 (by omega)]; exact z2, CA_Q qk z3⟩
theorem CQ_CA {a : AS} (c : CA h ad B a) (hp : PA T a) (hT : T < 2 ^ 29) : CQ h ad B (aqS a) ∧ PQ T (aqS a) := by
  obtain ⟨tk, rm, st, hI, hRW, hRL⟩ := hp
  obtain ⟨p1, p2, p3, p4⟩ := PQ_of (by omega) hI
  refine ⟨⟨a.2.2.2.1, a.2.2.2.2, c, hRW, ?_⟩, p1⟩
  show RLt a.2.2.1.2 a.2.2.2.2 (sQ (aqS a))
  rw [show sQ (aqS a) = st from p4]
  exact hRL
/-- the text's signs as numbers -/
def tcs (tx : Nat → Int32) : Nat → Nat := fun i => (tx i).toNatClampNeg
theorem tcs_ok (p : PI T m A kp len tx) : ∀ i, i < len → tx i = nI (tcs tx i) ∧ 32 ≤ tcs tx i ∧ tcs tx i ≤ 126 := fun i hi => by
  obtain ⟨c, c1, c2, c3⟩ := p.2.2.2.2 i hi
  have : tcs tx i = c := by unfold tcs; rw [c3, nI_clamp (by omega)]
  rw [this]
  exact ⟨c3, c1, c2⟩
theorem x_doC (X : WK sh ad ma) (cI : CI ad b m A kp len tx h) (pI : PI T m A kp len tx) (hT : T + 6100 < 2 ^ 29) {K : Int32 → Hp → Prop}
    (hk : ∀ h' v, EQm ma h h' → CI ad b m A kp len tx h' → gi h' (ad 0) 8 = nI (runA (tcs tx) len 61 0 (aqS (A 0))).1.1 → ((runA (tcs tx) len 61 0 (aqS (A 0))).1.1 ≠ 0 → gi h' (ad 0) 7 = nI (runA (tcs tx) len 61 0 (aqS (A 0))).1.2.1) → ((runA (tcs tx) len 61 0 (aqS (A 0))).1.1 = 2 → gi h' (ad 0) 9 = (runA (tcs tx) len 61 0 (aqS (A 0))).1.2.2) → ((runA (tcs tx) len 61 0 (aqS (A 0))).1.1 = 0 → CQ h' ad (b 1) (runA (tcs tx) len 61 0 (aqS (A 0))).2.1 ∧ v = nI (0 + (runA (tcs tx) len 61 0 (aqS (A 0))).2.2)) → K v h') :
    f_X5_doCommands sh (ad 0) h K := by
  have hi := X.1
  have hm := pI.1
  have hb := cI.1
  have hp0 := pI.2.1 0 (by omega)
  have hl := pI.2.2.2.1
  have ht := tcs_ok pI
  have ho := fun j (hj : j < 84) => outB hb (i := 1) (by omega) j hj
  unfold f_X5_doCommands
  rw [x_t0 X, gR_t cI.2.1.2.1, gR_t cI.2.1.1, x_tb X hb (by omega)]
  refine x_trial X cI hp0 (fun h2 ca fb => ?_)
  have cI2 := CI_trial X cI fb (CT_G ca) hm
  rw [pI_t]
  obtain ⟨cq, pq⟩ := CQ_CA ca hp0 (by omega)
  have F1 : FX ad (b 1) h2 (si h2 (ad 0) 8 0) := FX_si hi (by omega)
  have cq1 : CQ (si h2 (ad 0) 8 0) ad (b 1) (aqS (A 0)) := CQ_Q (QB_si0 hi ho) cq
  have cI3 := CI_FX X cI2 F1 (CQ_G cq1) hm
  have e8 : gi (si h2 (ad 0) 8 0) (ad 0) 8 = 0 := gi_si
  have em : EQm ma h (si h2 (ad 0) 8 0) := (FB_EQm X fb).tr (si_EQm X)
  generalize si h2 (ad 0) 8 0 = h3 at F1 cq1 cI3 e8 em ⊢
  have t3 : TXn h3 ad len (tcs tx) := ⟨cI3.2.2.2.2.2.2.2.2.2.1, cI3.2.1.2.2.2.2.2.2, fun i hi2 => by rw [cI3.2.2.2.2.2.2.2.2.2.2 i hi2]; exact (ht i hi2).1, hl, fun i hi2 => (ht i hi2).2⟩
  refine ⟨61, ?_⟩
  refine c_run X (x_T X hb (by omega)) ho 61 0 0 T (aqS (A 0)) h3 t3 cq1 pq (by omega) (by omega) (by omega) (by omega) cI3.2.1.2.1 cI3.2.1.2.2.2.2.1 e8 (fun h' v f tg w8 w7 w9 w0 => ?_)
  exact hk h' v (em.tr (FX_EQm X f)) (CI_FX X cI3 f tg hm) w8 w7 w9 w0
theorem FY_MX (x : MX sh ma h) (f : FY ma h h') : MX sh ma h' := by
  obtain ⟨x1, x2, x3, x4, x5, x6, x7, x8, x9, x10, y⟩ := x
  refine ⟨x1, x2, x3, x4, x5, x6, x7, x8, x9, x10, ?_⟩
  have g : ∀ a k, gr h' a k = gr h a k := fun a k => by show h'.2 _ _ = h.2 _ _; rw [f.1]
  simp only [g]
  exact y
theorem FY_EQa (X : WK sh ad ma) (f : FY ma h h') : EQa ad h h' := fun q => ⟨f.2.1 _ (X.2.1 q 0) (X.2.1 q 1), by rw [f.1]⟩
theorem FY_h1 (X : WK sh ad ma) (x : MX sh ma h) {f : Nat → Int32} : FY ma h (hset h (ma 1) f) := ⟨rfl, fun q _ q1 => by show va_up h.1 _ _ q = _; rw [va_up_off q1], fun j _ => gi_hset_ne (mx_ne x (by omega))⟩
theorem RX_FY (r : RX sh ma m A kp len tx h) (f : FY ma h h') {a' : AS} (ra : RA (gi h' (ma 1)) a') (e : ∀ i, 1 + i ≠ 0) : RX sh ma m (fun i => if i = 0 then a' else A i) kp len tx h' := by
  obtain ⟨r1, r2, r3, r4, r5, r6, r7⟩ := r
  have o : ∀ p, p ≠ 0 → p ≠ 1 → gi h' (ma p) = gi h (ma p) := fun p p0 p1 => by
    funext k; show h'.1 _ _ = h.1 _ _; rw [f.2.1 _ (mx_ne r1 p0) (mx_ne r1 p1)]
  refine ⟨FY_MX r1 f, by rw [f.2.2 3 (by omega)]; exact r2, ?_, fun i hi => ?_, ?_, by rw [f.2.2 7 (by omega)]; exact r6, fun i hi => by rw [o 5 (by omega) (by omega)]; exact r7 i hi⟩
  · dsimp only; rw [if_pos rfl]; exact ra
  · dsimp only; rw [if_neg (e i), o 3 (by omega) (by omega)]; exact r4 i hi
  · rcases r5 with ⟨z1, z2⟩ | ⟨a, z1, z2, z3⟩
    · exact Or.inl ⟨z1, by rw [f.2.2 5 (by omega)]; exact z2⟩
    · exact Or.inr ⟨a, z1, by rw [f.2.2 5 (by omega)]; exact z2, by rw [o 4 (by omega) (by omega)]; exact z3⟩
theorem r_goR (X : WK sh ad ma) (x : MX sh ma h) (pI : PI T m A kp len tx) (ra : RA (gi h (ma 1)) (A 0)) (e7 : gi h (ma 0) 7 = nI len) (e5 : ∀ i, i < len → gi h (ma 5) i = tx i) (hT : T + 6100 < 2 ^ 29) {K : Int32 → Hp → Prop}
    (hk : ∀ h' v, FY ma h h' → gi h' (ma 0) 17 = nI (runA (tcs tx) len 61 0 (aqS (A 0))).1.1 → ((runA (tcs tx) len 61 0 (aqS (A 0))).1.1 ≠ 0 → gi h' (ma 0) 16 = nI (runA (tcs tx) len 61 0 (aqS (A 0))).1.2.1 ∧ gi h' (ma 0) 18 = (runA (tcs tx) len 61 0 (aqS (A 0))).1.2.2) → ((runA (tcs tx) len 61 0 (aqS (A 0))).1.1 = 0 → RQ (gi h' (ma 1)) (runA (tcs tx) len 61 0 (aqS (A 0))).2.1 ∧ v = nI (0 + (runA (tcs tx) len 61 0 (aqS (A 0))).2.2)) → K v h') :
    f_X6_go sh (ma 0) h K := by
  have ht := tcs_ok pI
  have hl := pI.2.2.2.1
  obtain ⟨tk, rm, st, hI, -⟩ := pI.2.1 0 (by omega)
  obtain ⟨pq, -⟩ := PQ_of (by omega) hI
  unfold f_X6_go
  rw [mx_m x, pI_t, pI_t]
  have n10 : ma 1 ≠ ma 0 := mx_ne x (by omega)
  have F1 : FY ma h (si (si h (ma 0) 11 0) (ma 0) 17 0) := (FY_si (by omega)).tr (FY_si (by omega))
  have a11 : gi (si (si h (ma 0) 11 0) (ma 0) 17 0) (ma 0) 11 = nI 0 := by rw [gi_si_k (by decide), gi_si]; rfl
  have a17 : gi (si (si h (ma 0) 11 0) (ma 0) 17 0) (ma 0) 17 = 0 := gi_si
  have af : gi (si (si h (ma 0) 11 0) (ma 0) 17 0) (ma 1) = gi h (ma 1) := by funext k; rw [gi_si_ne n10, gi_si_ne n10]
  generalize si (si h (ma 0) 11 0) (ma 0) 17 0 = h1 at F1 a11 a17 af ⊢
  have t0 : TXm sh ma h len (tcs tx) := ⟨x, e7, fun i hi => by rw [e5 i hi]; exact (ht i hi).1, hl, fun i hi => (ht i hi).2⟩
  have t1 := TXm_FY t0 F1
  have rq1 : RQ (gi h1 (ma 1)) (aqS (A 0)) := by
    rw [af]; exact ⟨(A 0).2.2.1.1, ra, EQO_rf⟩
  refine ⟨62, ?_⟩
  refine r_run t1.1 61 0 0 T (aqS (A 0)) h1 t1 rq1 pq (by omega) (by omega) (by omega) a11 a17 (fun h' v f w17 w16 w0 => ?_)
  exact hk h' v (F1.tr f) w17 w16 w0
theorem r_look (X : WK sh ad ma) (rX : RX sh ma m A kp len tx h) (pI : PI T m A kp len tx) (hT : T + 6100 < 2 ^ 29) {K : Hp → Prop}
    (hk : ∀ h', RX sh ma m A kp len tx h' → EQa ad h h' → gi h' (ma 0) 17 = nI (runA (tcs tx) len 61 0 (aqS (A 0))).1.1 → ((runA (tcs tx) len 61 0 (aqS (A 0))).1.1 ≠ 0 → gi h' (ma 0) 16 = nI (runA (tcs tx) len 61 0 (aqS (A 0))).1.2.1 ∧ gi h' (ma 0) 18 = (runA (tcs tx) len 61 0 (aqS (A 0))).1.2.2) → K h') :
    f_X6_look sh (ma 0) h K := by
  unfold f_X6_look
  rw [mx_m rX.1]
  refine r_aside X rX (fun h2 f X2 ra a2 e0 e5 fin feq => ?_)
  have x2 : MX sh ma (hset h2 (ma 1) f) := mx_h X2
  refine r_goR X x2 pI (by rw [hset_fn]; exact ra) (by rw [gi_o X2 (by omega), e0]; exact rX.2.2.2.2.2.1) (fun i hi => by rw [gi_o X2 (by omega), e5]; exact rX.2.2.2.2.2.2 i hi) hT (fun h' v F w17 w16 _ => ?_)
  have x' : MX sh ma h' := FY_MX x2 F
  have o : ∀ p, p ≠ 0 → p ≠ 1 → gi h' (ma p) = gi h2 (ma p) := fun p p0 p1 => by
    funext k; show h'.1 _ _ = _; rw [F.2.1 _ (mx_ne X2 p0) (mx_ne X2 p1)]; exact gi_o X2 p1
  have o0 : ∀ k, k < 11 → gi h' (ma 0) k = gi h2 (ma 0) k := fun k hk => by rw [F.2.2 k hk, gi_o X2 (by omega)]
  have key : f_X6_putBack sh (ma 0) (hset h' (ma 1) (gi h' (ma 1))) (fun h7 => K h7) := by
    refine m_putBack x' (fun f'' hf'' => ?_)
    refine hk _ (fin h' f'' (fun p p2 _ => o p (by omega) (by omega)) x' (o0 3 (by omega)) (o0 5 (by omega)) (o0 7 (by omega)) hf'') ?_ (by rw [gi_o x' (by omega)]; exact w17) (fun z => by rw [gi_o x' (by omega), gi_o x' (by omega)]; exact w16 z)
    exact ((feq f).tr (FY_EQa X F)).tr (hset_EQa X)
  rw [hset_self] at key
  exact key
theorem s_fault (X : WK sh ad ma) (I : MI sh ad ma T h) (hT : T + 6100 < 2 ^ 29) {x : Int32} {K : Int32 → Int32 → Hp → Prop} (hk : ∀ r h', MI sh ad ma T h' → K r r h') : f_X5_fault sh (ad 0) x h (fun r1 h1 => f_X6_fault sh (ma 0) x h1 (fun r2 h2 => K r1 r2 h2)) := by
  have I0 := I
  obtain ⟨b, m, A, kp, len, tx, cI, rX, pI⟩ := I
  have bad : (∀ q, q ≤ 2 → x ≠ nI q) → f_X6_fault sh (ma 0) x h (fun r2 h2 => K (-1) r2 h2) := fun hb => by
    unfold f_X6_fault
    refine in_t (a := 0) (b := 2) (by omega) (by omega) (fun q q1 q2 e3 => absurd e3 (hb q q2)) (fun _ _ => if_y rfl (hk _ _ I0))
  unfold f_X5_fault
  rcases rng x (a := 0) (b := 2) (by omega) (by omega) with ⟨q, -, q2, rfl⟩ | zx | ⟨zx1, zx2⟩
  · rw [if_neg (nI_pos (by omega)), if_pos (by rw [show (2 : Int32) = nI 2 from rfl, nI_leI (by omega) (by omega)]; exact q2), x_t0 X]
    refine x_doC X cI pI hT (fun h1 v em cI1 w8 w7 w9 _ => ?_)
    have rX1 := RX_c em rX
    obtain ⟨lt3, c4⟩ := runA_lt (tc := tcs tx) (len := len) 61 0 (aqS (A 0))
    rw [gI_t, w8]
    have ref : ∀ (w : Int32), (∀ h2, MI sh ad ma T h2 → ((runA (tcs tx) len 61 0 (aqS (A 0))).1.1 = 0 → w = -4) → ((runA (tcs tx) len 61 0 (aqS (A 0))).1.1 ≠ 0 → (q = 0 → w = nI (runA (tcs tx) len 61 0 (aqS (A 0))).1.2.1) ∧ (q = 1 → w = nI (runA (tcs tx) len 61 0 (aqS (A 0))).1.1) ∧ (q = 2 → w = (runA (tcs tx) len 61 0 (aqS (A 0))).1.2.2)) → K w w h2) → ((runA (tcs tx) len 61 0 (aqS (A 0))).1.1 = 0 → w = -4) → ((runA (tcs tx) len 61 0 (aqS (A 0))).1.1 ≠ 0 → (q = 0 → w = nI (runA (tcs tx) len 61 0 (aqS (A 0))).1.2.1) ∧ (q = 1 → w = nI (runA (tcs tx) len 61 0 (aqS (A 0))).1.1) ∧ (q = 2 → w = (runA (tcs tx) len 61 0 (aqS (A 0))).1.2.2)) → f_X6_fault sh (ma 0) (nI q) h1 (fun r2 h2 => K w r2 h2) := fun w hK u0 u1 => by
      unfold f_X6_fault
      refine in_t (a := 0) (b := 2) (by omega) (by omega) (fun q' _ _ e3 => ?_) (fun z _ => absurd rfl (z q (by omega) q2))
      refine if_n (by decide) ?_
      rw [mx_m rX1.1]
      refine r_look X rX1 pI hT (fun h2 rX2 ea v17 v16 => ?_)
      have fin := hK h2 (MI_mk (CI_m ea cI1) rX2 pI) u0 u1
      rw [gI_t, v17]
      by_cases z : (runA (tcs tx) len 61 0 (aqS (A 0))).1.1 = 0
      · rw [z]
        refine if_y rfl ?_
        rw [u0 z] at fin ⊢
        exact fin
      · refine if_n (fun e => z (nI_inj (b := 0) (by omega) (by omega) e)) ?_
        obtain ⟨y1, y2, y3⟩ := u1 z
        obtain ⟨x1, x2⟩ := v16 z
        by_cases c0 : q = 0
        · subst c0
          refine if_y rfl ?_
          rw [gI_t, x1, ← y1 rfl]
          exact fin
        · refine if_n (fun e => c0 (nI_inj (b := 0) (by omega) (by omega) e)) ?_
          by_cases c1 : q = 1
          · subst c1
            refine if_y rfl ?_
            rw [gI_t, v17, ← y2 rfl]
            exact fin
          · have c2 : q = 2 := by omega
            refine if_n (fun e => c1 (nI_inj (b := 1) (by omega) (by omega) e)) ?_
            rw [gI_t, x2, ← y3 c2]
            exact fin
    by_cases z : (runA (tcs tx) len 61 0 (aqS (A 0))).1.1 = 0
    · rw [z]
      refine if_y rfl (ref _ (fun h2 I2 _ _ => hk _ _ I2) (fun _ => rfl) (fun z' => absurd z z'))
    · refine if_n (fun e => z (nI_inj (b := 0) (by omega) (by omega) e)) ?_
      by_cases c0 : q = 0
      · subst c0
        refine if_y rfl ?_
        rw [gI_t, w7 z]
        exact ref _ (fun h2 I2 _ _ => hk _ _ I2) (fun z' => absurd z' z) (fun _ => ⟨fun _ => rfl, fun e => absurd e (by decide), fun e => absurd e (by decide)⟩)
      · refine if_n (fun e => c0 (nI_inj (b := 0) (by omega) (by omega) e)) ?_
        by_cases c1 : q = 1
        · subst c1
          refine if_y rfl ?_
          rw [gI_t, w8]
          exact ref _ (fun h2 I2 _ _ => hk _ _ I2) (fun z' => absurd z' z) (fun _ => ⟨fun e => absurd e (by decide), fun _ => rfl, fun e => absurd e (by decide)⟩)
        · have c2 : q = 2 := by omega
          refine if_n (fun e => c1 (nI_inj (b := 1) (by omega) (by omega) e)) ?_
          rw [gI_t, w8]
          by_cases d2 : (runA (tcs tx) len 61 0 (aqS (A 0))).1.1 = 2
          · refine if_y (by rw [d2]; rfl) ?_
            rw [gI_t, w9 d2]
            exact ref _ (fun h2 I2 _ _ => hk _ _ I2) (fun z' => absurd z' z) (fun _ => ⟨fun e => absurd e c0, fun e => absurd e c1, fun _ => rfl⟩)
          · refine if_n (fun e => d2 (nI_inj (b := 2) (by omega) (by omega) e)) ?_
            exact ref _ (fun h2 I2 _ _ => hk _ _ I2) (fun z' => absurd z' z) (fun _ => ⟨fun e => absurd e c0, fun e => absurd e c1, fun _ => (c4 (by omega)).symm⟩)
  · refine if_y zx (bad (fun q hq e => ?_))
    rw [e] at zx
    exact nI_pos (by omega) zx
  · refine if_n zx1 (if_n (nle_lt.mpr zx2) (bad (fun q hq e => ?_)))
    rw [e, nI_ltI (by omega) (by omega)] at zx2
    omega
theorem s_play (X : WK sh ad ma) (I : MI sh ad ma T h) (hT : T + 6100 < 2 ^ 29) {K : Int32 → Int32 → Hp → Prop} (hk : ∀ r h', MI sh ad ma (T + 6100) h' → K r r h') : f_X5_play sh (ad 0) h (fun r1 h1 => f_X6_play sh (ma 0) h1 (fun r2 h2 => K r1 r2 h2)) := by
  obtain ⟨b, m, A, kp, len, tx, cI, rX, pI⟩ := I
  have hm := pI.1
  unfold f_X5_play
  rw [x_t0 X]
  refine x_doC X cI pI hT (fun h1 v em cI1 w8 w7 w9 w0 => ?_)
  have rX1 := RX_c em rX
  obtain ⟨lt3, c4⟩ := runA_lt (tc := tcs tx) (len := len) 61 0 (aqS (A 0))
  rw [gI_t, w8]
  by_cases z : (runA (tcs tx) len 61 0 (aqS (A 0))).1.1 = 0
  · obtain ⟨cq, hv⟩ := w0 z
    obtain ⟨p0, hI0⟩ : ∃ p0, PQ T (aqS (A 0)) ∧ p0 = 0 := by
      obtain ⟨tk, rm, st, hI, -⟩ := pI.2.1 0 (by omega)
      exact ⟨0, (PQ_of (by omega) hI).1, rfl⟩
    have pq := runA_PQ (tc := tcs tx) (len := len) 61 0 T (aqS (A 0)) hI0.1 (by omega)
    have nle := runA_cnt (tc := tcs tx) (len := len) 61 0 (aqS (A 0))
    refine if_y (by rw [z]; rfl) ?_
    refine x_settle X cI1 hm (fun q => absurd q (by rw [hv]; exact nI_pos (by omega))) (fun _ h2 em2 hci => ?_)
    have rX2 := RX_c em2 rX1
    unfold f_X6_play
    dsimp only
    rw [mx_m rX2.1]
    refine r_look X rX2 pI hT (fun h3 rX3 ea v17 v16 => ?_)
    rw [gI_t, v17]
    refine if_y (by rw [z]; decide) ?_
    refine r_know X rX3 hm (fun h4 f X4 ra4 fin => ?_)
    have x4 : MX sh ma (hset h4 (ma 1) f) := mx_h X4
    obtain ⟨q1, q2⟩ := fin f (A 0) ra4
    refine r_goR X x4 pI (by rw [hset_fn]; exact ra4) q1.2.2.2.2.2.1 q1.2.2.2.2.2.2 hT (fun h5 v' F y17 y16 y0 => ?_)
    obtain ⟨⟨os', rma, req⟩, hv'⟩ := y0 z
    rw [hv, hv']
    obtain ⟨rm, hI⟩ := pq
    obtain ⟨W, L, ct, hRW, hRL⟩ := cq
    have hI' := INV_eq hI req
    have pa : PA (T + 99 * 61) ((runA (tcs tx) len 61 0 (aqS (A 0))).2.1.1, (runA (tcs tx) len 61 0 (aqS (A 0))).2.1.2.1, (os', (runA (tcs tx) len 61 0 (aqS (A 0))).2.1.2.2.2), (W, L)) := ⟨_, rm, _, hI', RW_eq hRW req, hRL⟩
    have rr := RX_FY q1 F (a' := ((runA (tcs tx) len 61 0 (aqS (A 0))).2.1.1, (runA (tcs tx) len 61 0 (aqS (A 0))).2.1.2.1, (os', (runA (tcs tx) len 61 0 (aqS (A 0))).2.1.2.2.2), (W, L))) rma (fun i => by omega)
    have cc := CI_m ((ea.tr q2).tr (FY_EQa X F)) (hci ((runA (tcs tx) len 61 0 (aqS (A 0))).2.1.1, (runA (tcs tx) len 61 0 (aqS (A 0))).2.1.2.1, (os', (runA (tcs tx) len 61 0 (aqS (A 0))).2.1.2.2.2), (W, L)) ct)
    refine hk _ _ (MI_mk cc ?_ (PI_T (PI_push pI pa (by omega)) (by omega)))
    have : (fun i => if i = 0 then ((runA (tcs tx) len 61 0 (aqS (A 0))).2.1.1, (runA (tcs tx) len 61 0 (aqS (A 0))).2.1.2.1, (os', (runA (tcs tx) len 61 0 (aqS (A 0))).2.1.2.2.2), (W, L)) else pushA m A (A 0) i) = pushA m A ((runA (tcs tx) len 61 0 (aqS (A 0))).2.1.1, (runA (tcs tx) len 61 0 (aqS (A 0))).2.1.2.1, (os', (runA (tcs tx) len 61 0 (aqS (A 0))).2.1.2.2.2), (W, L)) := by
      funext i
      unfold pushA
      by_cases e : i = 0
      · rw [if_pos e, if_pos e]
      · rw [if_neg e, if_neg e, if_neg e]
    rw [← this]
    exact rr
  · refine if_n (fun e => z (nI_inj (b := 0) (by omega) (by omega) e)) ?_
    refine x_settle X cI1 hm (fun _ => ?_) (fun q => absurd (by decide) q)
    unfold f_X6_play
    dsimp only
    rw [mx_m rX1.1]
    refine r_look X rX1 pI hT (fun h3 rX3 ea v17 v16 => ?_)
    rw [gI_t, v17]
    refine if_n (fun q => ?_) (hk _ _ (MI_T (MI_mk (T := T) (CI_m ea cI1) rX3 pI) (by omega)))
    rw [show (0 : Int32) = nI 0 from rfl, nI_leI (by omega) (by omega)] at q
    omega
end XT

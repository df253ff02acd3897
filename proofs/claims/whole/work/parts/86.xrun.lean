/-! the commands of the text, one after another -/
noncomputable def runA (tc : Nat → Nat) (len : Nat) : Nat → Nat → AQ → (Nat × Nat × Int32) × AQ × Nat
  | 0, p, a => ((0, p, 0), a, 0)
  | d + 1, p, a => if len ≤ p then ((0, p, 0), a, 0) else
    match cmd tc len p with
    | none => ((1, p, -4), a, 0)
    | some q => if (stepA a q.1 q.2.1 q.2.2.1).1 < 0 then ((2, p, (stepA a q.1 q.2.1 q.2.2.1).1), a, 0) else ((runA tc len d q.2.2.2 (stepA a q.1 q.2.1 q.2.2.1).2).1, (runA tc len d q.2.2.2 (stepA a q.1 q.2.1 q.2.2.1).2).2.1, (runA tc len d q.2.2.2 (stepA a q.1 q.2.1 q.2.2.1).2).2.2 + 1)
theorem runA_end {tc : Nat → Nat} {len d p : Nat} {a : AQ} (h : len ≤ p) : runA tc len (d + 1) p a = ((0, p, 0), a, 0) := by
  unfold runA; rw [if_pos h]
theorem runA_none {tc : Nat → Nat} {len d p : Nat} {a : AQ} (h : ¬ len ≤ p) (e : cmd tc len p = none) : runA tc len (d + 1) p a = ((1, p, -4), a, 0) := by
  conv => lhs; unfold runA
  rw [if_neg h, e]
theorem runA_bad {tc : Nat → Nat} {len d p l x y r : Nat} {a : AQ} (h : ¬ len ≤ p) (e : cmd tc len p = some (l, x, y, r)) (hb : (stepA a l x y).1 < 0) : runA tc len (d + 1) p a = ((2, p, (stepA a l x y).1), a, 0) := by
  conv => lhs; unfold runA
  rw [if_neg h, e]
  exact if_pos hb
theorem runA_go {tc : Nat → Nat} {len d p l x y r : Nat} {a : AQ} (h : ¬ len ≤ p) (e : cmd tc len p = some (l, x, y, r)) (hb : ¬ (stepA a l x y).1 < 0) : runA tc len (d + 1) p a = ((runA tc len d r (stepA a l x y).2).1, (runA tc len d r (stepA a l x y).2).2.1, (runA tc len d r (stepA a l x y).2).2.2 + 1) := by
  conv => lhs; unfold runA
  rw [if_neg h, e]
  exact if_neg hb
def FX (ad : Nat → Nat) (B : Nat) (h h' : Hp) : Prop := (∀ q, q ≠ ad 0 → q ≠ ad 590 → (∀ j, j < 84 → q ≠ ad (B + j)) → h'.1 q = h.1 q ∧ h'.2 q = h.2 q) ∧ h'.2 (ad 0) = h.2 (ad 0) ∧ h'.2 (ad 590) = h.2 (ad 590) ∧ (∀ k, k < 7 → gi h' (ad 0) k = gi h (ad 0) k) ∧ ∀ k, k < 2 → gi h' (ad 590) k = gi h (ad 590) k
section XS
variable {sh : Sh} {ad ma : Nat → Nat} {h h' h'' : Hp} {b : Nat → Nat} {m len T : Nat} {A : Nat → AS} {kp : Option AS} {tx : Nat → Int32} {tc : Nat → Nat} {B : Nat}
theorem FX.rf : FX ad B h h := ⟨fun _ _ _ _ => ⟨rfl, rfl⟩, rfl, rfl, fun _ _ => rfl, fun _ _ => rfl⟩
theorem FX.tr (a : FX ad B h h') (c : FX ad B h' h'') : FX ad B h h'' := ⟨fun q q0 q1 q2 => ⟨(c.1 q q0 q1 q2).1.trans (a.1 q q0 q1 q2).1, (c.1 q q0 q1 q2).2.trans (a.1 q q0 q1 q2).2⟩, c.2.1.trans a.2.1, c.2.2.1.trans a.2.2.1, fun k hk => (c.2.2.2.1 k hk).trans (a.2.2.2.1 k hk), fun k hk => (c.2.2.2.2 k hk).trans (a.2.2.2.2 k hk)⟩
theorem FX_FT (hi : inj ad) (a : FT ad h h') : FX ad B h h' := ⟨fun q _ q1 _ => ⟨a.2.1 q q1, by rw [a.1]⟩, by rw [a.1], by rw [a.1], fun k _ => by show h'.1 _ _ = h.1 _ _; rw [a.2.1 _ (ad_ne hi (by omega))], fun k hk => a.2.2 k (by omega)⟩
theorem FX_FB (hi : inj ad) (ho : ∀ j, j < 84 → 0 ≠ B + j ∧ 253 ≠ B + j ∧ 590 ≠ B + j ∧ 591 ≠ B + j) (a : FB ad h h' B) : FX ad B h h' := by
  have e0 := a (ad 0) (fun j hj => ad_ne hi (ho j hj).1)
  have e2 := a (ad 590) (fun j hj => ad_ne hi (ho j hj).2.2.1)
  exact ⟨fun q _ _ q2 => a q q2, e0.2, e2.2, fun k _ => by show h'.1 _ _ = h.1 _ _; rw [e0.1], fun k _ => by show h'.1 _ _ = h.1 _ _; rw [e2.1]⟩
theorem FX_si (hi : inj ad) {k : Nat} {v : Int32} (hk : 7 ≤ k) : FX ad B h (si h (ad 0) k v) := ⟨fun q q0 _ _ => ⟨by show va_up h.1 _ _ q = _; rw [va_up_off q0], rfl⟩, rfl, rfl, fun j hj => gi_si_k (by omega), fun j _ => gi_ad hi (by omega)⟩
theorem TXn_FX (hi : inj ad) (ho : ∀ j, j < 84 → 0 ≠ B + j ∧ 253 ≠ B + j ∧ 590 ≠ B + j ∧ 591 ≠ B + j) (t : TXn h ad len tc) (a : FX ad B h h') : TXn h' ad len tc := by
  obtain ⟨t1, t2, t3, t4⟩ := t
  have e3 := a.1 (ad 591) (ad_ne hi (by omega)) (ad_ne hi (by omega)) (fun j hj => ad_ne hi (ho j hj).2.2.2)
  refine ⟨by rw [a.2.2.2.2 1 (by omega)]; exact t1, by show h'.2 _ _ = _; rw [a.2.2.1]; exact t2, fun i hi2 => ?_, t4⟩
  show h'.1 _ _ = _
  rw [e3.1]
  exact t3 i hi2
theorem CQ_Q {a : AQ} (q : QB ad h h' B) (c : CQ h ad B a) : CQ h' ad B a := by
  obtain ⟨W, L, c1, c2⟩ := c
  exact ⟨W, L, CT_Q q c1, c2⟩
theorem CQ_G {a : AQ} (c : CQ h ad B a) : TG h ad B := by
  obtain ⟨W, L, c1, c2⟩ := c
  exact CT_G c1
theorem QB_FT (hi : inj ad) (ho : ∀ j, j < 84 → 0 ≠ B + j ∧ 253 ≠ B + j ∧ 590 ≠ B + j ∧ 591 ≠ B + j) (a : FT ad h h') : QB ad h h' B := fun j hj => ⟨a.2.1 _ (ad_ne hi (fun z => (ho j hj).2.2.1 z.symm)), by rw [a.1]⟩
theorem QB_si0 (hi : inj ad) (ho : ∀ j, j < 84 → 0 ≠ B + j ∧ 253 ≠ B + j ∧ 590 ≠ B + j ∧ 591 ≠ B + j) {k : Nat} {v : Int32} : QB ad h (si h (ad 0) k v) B := fun j hj => ⟨by show va_up h.1 _ _ _ = _; rw [va_up_off (ad_ne hi (fun z => (ho j hj).1 z.symm))], rfl⟩
theorem c_run (X : WK sh ad ma) (hT1 : TK sh ad B) (ho : ∀ j, j < 84 → 0 ≠ B + j ∧ 253 ≠ B + j ∧ 590 ≠ B + j ∧ 591 ≠ B + j) {K : Int32 → Hp → Prop} : ∀ (d p n T : Nat) (a : AQ) (h : Hp), TXn h ad len tc → CQ h ad B a → PQ T a → T + 99 * d < 2 ^ 29 → p ≤ len → len < p + d → 3 * n ≤ p → gr h (ad 0) 1 = some (ad B) → gr h (ad 0) 6 = some (ad 590) → gi h (ad 0) 8 = 0 →
    (∀ h' v, FX ad B h h' → TG h' ad B → gi h' (ad 0) 8 = nI (runA tc len d p a).1.1 → ((runA tc len d p a).1.1 ≠ 0 → gi h' (ad 0) 7 = nI (runA tc len d p a).1.2.1) → ((runA tc len d p a).1.1 = 2 → gi h' (ad 0) 9 = (runA tc len d p a).1.2.2) → ((runA tc len d p a).1.1 = 0 → CQ h' ad B (runA tc len d p a).2.1 ∧ v = nI (n + (runA tc len d p a).2.2)) → K v h') →
    lp (b_X5_doCommands_20 sh (ad 0) (fun h36 => K (60 : Int32) h36) K) d (nI p, nI n) h := by
  have hi := X.1
  intro d
  induction d with
  | zero => intro p n T a h _ _ _ _ h1 h2; omega
  | succ d ih =>
    intro p n T a h t cq pq hT hp hd hn r1 r6 g8 hk
    have hl := t.2.2.2.1
    show b_X5_doCommands_20 sh (ad 0) (fun h36 => K (60 : Int32) h36) K (lp (b_X5_doCommands_20 sh (ad 0) (fun h36 => K (60 : Int32) h36) K) d) (nI p, nI n) h
    unfold b_X5_doCommands_20
    dsimp only
    rw [if_neg (fun z => by rw [show (60 : Int32) = nI 60 from rfl, nI_leI (by omega) (by omega)] at z; omega), x_t0 X, gR_t r6, x_tt X, gI_t, t.1]
    by_cases c : p < len
    · have nle : ¬ len ≤ p := by omega
      rw [if_pos (by rw [nI_ltI (by omega) (by omega)]; exact c), gR_t r6, x_tt X]
      refine c_read X t c (fun e h1 f1 => ?_) (fun l x y r h1 e f1 i2 i3 i4 i5 => ?_)
      · rw [if_pos rfl]
        unfold f_X5_noteFault
        rw [x_t0 X, pI_t, pI_t, pI_t]
        rw [runA_none nle e] at hk
        refine hk _ _ (((FX_FT hi f1).tr (FX_si hi (by omega))).tr ((FX_si hi (by omega)).tr (FX_si hi (by omega)))) (TG_Q ((QB_FT hi ho f1).tr (((QB_si0 hi ho).tr (QB_si0 hi ho)).tr (QB_si0 hi ho))) (CQ_G cq)) (by rw [gi_si_k (by decide), gi_si]; rfl) (fun _ => by rw [gi_si_k (by decide), gi_si_k (by decide), gi_si]) (fun z => absurd (show (1 : Nat) = 2 from z) (by decide)) (fun z => absurd (show (1 : Nat) = 0 from z) (by decide))
      · obtain ⟨l1, x1, y1, p1, p2⟩ := cmd_ok e
        have s1 : gr h1 (ad 0) 1 = some (ad B) := by show h1.2 _ _ = _; rw [f1.1]; exact r1
        have s6 : gr h1 (ad 0) 6 = some (ad 590) := by show h1.2 _ _ = _; rw [f1.1]; exact r6
        rw [if_neg (by decide), gR_t s1, gR_t s6, x_tt X, gI_t, i2, gR_t s6, x_tt X, gI_t, i3, gR_t s6, x_tt X, gI_t, i4, ct_t0 hT1]
        refine c_obey hT1 hi (CQ_Q (QB_FT hi ho f1) cq) pq (by omega) l1 x1 y1 (fun h2 hneg tg fb => ?_) (fun h2 hpos cq2 fb => ?_)
        · rw [if_neg (fun z => nlt_le.mpr z hneg)]
          unfold f_X5_noteFault
          rw [x_t0 X, pI_t, pI_t, pI_t]
          rw [runA_bad nle e hneg] at hk
          refine hk _ _ (((FX_FT hi f1).tr (FX_FB hi ho fb)).tr (((FX_si hi (by omega)).tr (FX_si hi (by omega))).tr (FX_si hi (by omega)))) (TG_Q (((QB_si0 hi ho).tr (QB_si0 hi ho)).tr (QB_si0 hi ho)) tg) (by rw [gi_si_k (by decide), gi_si]; rfl) (fun _ => by rw [gi_si_k (by decide), gi_si_k (by decide), gi_si]) (fun _ => gi_si) (fun z => absurd (show (2 : Nat) = 0 from z) (by decide))
        · rw [if_pos (nlt_le.mp hpos)]
          have F2 : FX ad B h h2 := (FX_FT hi f1).tr (FX_FB hi ho fb)
          have u1 : gr h2 (ad 0) 1 = some (ad B) := by show h2.2 _ _ = _; rw [F2.2.1]; exact r1
          have u6 : gr h2 (ad 0) 6 = some (ad 590) := by show h2.2 _ _ = _; rw [F2.2.1]; exact r6
          have e590 := fb (ad 590) (fun j hj => ad_ne hi (ho j hj).2.2.1)
          have j5 : gi h2 (ad 590) 5 = nI r := by show h2.1 _ _ = _; rw [e590.1]; exact i5
          have g82 : gi h2 (ad 0) 8 = 0 := by
            have e0 := fb (ad 0) (fun j hj => ad_ne hi (ho j hj).1)
            show h2.1 _ _ = _
            rw [e0.1, f1.2.1 _ (ad_ne hi (by omega))]
            exact g8
          rw [gR_t u6, x_tt X, gI_t, j5, nI_1]
          rw [runA_go nle e hpos] at hk
          refine ih r (n + 1) (T + 99) _ h2 (TXn_FX hi ho t F2) cq2 (step_PQ pq (by omega) (by omega) hpos) (by omega) p2 (by omega) (by omega) u1 u6 g82 (fun h3 v F3 tg3 e8 e7 e9 e0 => ?_)
          refine hk h3 v (F2.tr F3) tg3 e8 e7 e9 (fun z => ?_)
          obtain ⟨w1, w2⟩ := e0 z
          exact ⟨w1, by rw [w2, Nat.add_assoc, Nat.add_comm 1]⟩
    · rw [if_neg (fun z => c (by rw [nI_ltI (by omega) (by omega)] at z; exact z))]
      rw [runA_end (by omega)] at hk
      exact hk h _ FX.rf (CQ_G cq) (by rw [g8]; rfl) (fun z => absurd rfl z) (fun z => absurd (show (0 : Nat) = 2 from z) (by decide)) (fun _ => ⟨cq, rfl⟩)
/-- the reference's rows beside its object's numbers for reading -/
def FY (ma : Nat → Nat) (h h' : Hp) : Prop := h'.2 = h.2 ∧ (∀ q, q ≠ ma 0 → q ≠ ma 1 → h'.1 q = h.1 q) ∧ ∀ k, k < 11 → gi h' (ma 0) k = gi h (ma 0) k
theorem FY.rf : FY ma h h := ⟨rfl, fun _ _ _ => rfl, fun _ _ => rfl⟩
theorem FY.tr (a : FY ma h h') (c : FY ma h' h'') : FY ma h h'' := ⟨c.1.trans a.1, fun q q0 q1 => (c.2.1 q q0 q1).trans (a.2.1 q q0 q1), fun k hk => (c.2.2 k hk).trans (a.2.2 k hk)⟩
theorem FY_FR (a : FR ma h h') : FY ma h h' := ⟨a.1, fun q q0 _ => a.2.1 q q0, fun k hk => a.2.2 k (by omega)⟩
theorem FY_si {k : Nat} {v : Int32} (hk : 11 ≤ k) : FY ma h (si h (ma 0) k v) := ⟨rfl, fun q q0 _ => by show va_up h.1 _ _ q = _; rw [va_up_off q0], fun j hj => gi_si_k (by omega)⟩
theorem FY_hset (x : MX sh ma h) {f : Nat → Int32} : FY ma h (hset h (ma 1) f) := ⟨rfl, fun q _ q1 => by show va_up h.1 _ _ q = _; rw [va_up_off q1], fun j _ => gi_hset_ne (mx_ne x (by omega))⟩
theorem TXm_FY (t : TXm sh ma h len tc) (f : FY ma h h') : TXm sh ma h' len tc := by
  obtain ⟨x, t2, t3, t4⟩ := t
  have x' : MX sh ma h' := by
    obtain ⟨x1, x2, x3, x4, x5, x6, x7, x8, x9, x10, y⟩ := x
    refine ⟨x1, x2, x3, x4, x5, x6, x7, x8, x9, x10, ?_⟩
    have g : ∀ a k, gr h' a k = gr h a k := fun a k => by show h'.2 _ _ = h.2 _ _; rw [f.1]
    simp only [g]
    exact y
  refine ⟨x', by rw [f.2.2 7 (by omega)]; exact t2, fun i hi' => ?_, t4⟩
  show h'.1 _ _ = _
  rw [f.2.1 _ (mx_ne x (by omega)) (mx_ne x (by omega))]
  exact t3 i hi'
theorem r_run (X : MX sh ma h) {K : Int32 → Hp → Prop} : ∀ (d p n T : Nat) (a : AQ) (h : Hp), TXm sh ma h len tc → RQ (gi h (ma 1)) a → PQ T a → T + 99 * d < 2 ^ 29 → p ≤ len → len < p + d → gi h (ma 0) 11 = nI p → gi h (ma 0) 17 = 0 →
    (∀ h' v, FY ma h h' → gi h' (ma 0) 17 = nI (runA tc len d p a).1.1 → ((runA tc len d p a).1.1 ≠ 0 → gi h' (ma 0) 16 = nI (runA tc len d p a).1.2.1 ∧ gi h' (ma 0) 18 = (runA tc len d p a).1.2.2) → ((runA tc len d p a).1.1 = 0 → RQ (gi h' (ma 1)) (runA tc len d p a).2.1 ∧ v = nI (n + (runA tc len d p a).2.2)) → K v h') →
    lp (b_X6_go_12 sh (ma 0) (fun y h => K y h)) (d + 1) (nI n) h := by
  intro d
  induction d with
  | zero => intro p n T a h _ _ _ _ h1 h2; omega
  | succ d ih =>
    intro p n T a h t cq pq hT hp hd g11 g17 hk
    have hl := t.2.2.2.1
    have x := t.1
    show b_X6_go_12 sh (ma 0) (fun y h => K y h) (lp (b_X6_go_12 sh (ma 0) (fun y h => K y h)) (d + 1)) (nI n) h
    unfold b_X6_go_12
    rw [mx_m x, gI_t, g11, gI_t, t.2.1]
    by_cases c : p < len
    · have nle : ¬ len ≤ p := by omega
      rw [if_neg (fun z => by rw [nI_leI (by omega) (by omega)] at z; omega), gI_t, g17, if_pos rfl, gI_t, g11, pI_t]
      have t1 := TXm_FY t (FY_si (v := nI p) (k := 16) (by omega))
      have b11 : gi (si h (ma 0) 16 (nI p)) (ma 0) 11 = nI p := by rw [gi_si_k (by decide)]; exact g11
      have b16 : gi (si h (ma 0) 16 (nI p)) (ma 0) 16 = nI p := gi_si
      have bf : gi (si h (ma 0) 16 (nI p)) (ma 1) = gi h (ma 1) := by funext k; exact gi_si_ne (mx_ne x (by omega))
      have F1 : FY ma h (si h (ma 0) 16 (nI p)) := FY_si (by omega)
      generalize si h (ma 0) 16 (nI p) = h1 at t1 b11 b16 bf F1 ⊢
      -- one more round, where there was a fault
      have stop : ∀ (h' : Hp) (q : Nat), q ≠ 0 → q < 3 → FY ma h h' → gi h' (ma 0) 17 = nI q → (FY ma h h' → K (nI (n + 1)) h') → lp (b_X6_go_12 sh (ma 0) (fun y h => K y h)) (d + 1) (nI (n + 1)) h' := fun h' q q0 q3 F w hK => by
        show b_X6_go_12 sh (ma 0) (fun y h => K y h) (lp (b_X6_go_12 sh (ma 0) (fun y h => K y h)) d) (nI (n + 1)) h'
        unfold b_X6_go_12
        rw [mx_m x, gI_t, gI_t]
        by_cases z : gi h' (ma 0) 7 ≤ gi h' (ma 0) 11
        · rw [if_pos z]; exact hK F
        · rw [if_neg z, gI_t, w]
          refine if_n (fun e => q0 (nI_inj (b := 0) (by omega) (by omega) e)) (hK F)
      refine r_cmd t1 c b11 (fun e h2 f2 w2 => ?_) (fun l x' y r h2 e f2 w2 i13 i14 i15 i11 => ?_)
      · have g16 : gi h2 (ma 0) 16 = nI p := by rw [f2.2.2 16 (by omega)]; exact b16
        rw [gI_t, w2, if_neg (by decide), pI_t, gI_t, gi_si_k (by decide), w2, if_neg (by decide), pI_t, nI_1]
        rw [runA_none nle e] at hk
        refine stop _ 1 (by decide) (by decide) ((F1.tr (FY_FR f2)).tr ((FY_si (by omega)).tr (FY_si (by omega)))) gi_si (fun F => ?_)
        refine hk _ _ F gi_si (fun _ => ⟨by rw [gi_si_k (by decide), gi_si_k (by decide)]; exact g16, by rw [gi_si_k (by decide), gi_si]⟩) (fun z => absurd (show (1 : Nat) = 0 from z) (by decide))
      · obtain ⟨l1, x1, y1, p1, p2⟩ := cmd_ok e
        have g16 : gi h2 (ma 0) 16 = nI p := by rw [f2.2.2 16 (by omega)]; exact b16
        have x2 : MX sh ma h2 := (TXm_FR t1 f2).1
        have n10 : ma 1 ≠ ma 0 := mx_ne x (by omega)
        have bf2 : gi h2 (ma 1) = gi h (ma 1) := by
          rw [← bf]; funext k; show h2.1 _ _ = h1.1 _ _; rw [f2.2.1 _ n10]
        rw [gI_t, w2, if_pos rfl]
        have key : f_X6_does sh (ma 0) (hset h2 (ma 1) (gi h2 (ma 1))) fun r13 h14 => pI h14 (ma 0) 18 r13 fun h15 => gI h15 (ma 0) 12 fun v16 => if v16 = 0 then (gI h15 (ma 0) 18 fun v17 => if 0 ≤ v17 then pI h15 (ma 0) 17 (0 : Int32) fun h18 => lp (b_X6_go_12 sh (ma 0) (fun y h => K y h)) (d + 1) (nI n + (1 : Int32)) h18 else pI h15 (ma 0) 17 (2 : Int32) fun h19 => lp (b_X6_go_12 sh (ma 0) (fun y h => K y h)) (d + 1) (nI n + (1 : Int32)) h19) else pI h15 (ma 0) 17 (1 : Int32) fun h20 => lp (b_X6_go_12 sh (ma 0) (fun y h => K y h)) (d + 1) (nI n + (1 : Int32)) h20 := by
          have o12 : ∀ f' v, gi (si (hset h2 (ma 1) f') (ma 0) 18 v) (ma 0) 12 = 0 := fun f' v => by rw [gi_si_k (by decide), gi_o x2 (by omega)]; exact w2
          refine r_does x2 (by rw [bf2]; exact cq) pq (by omega) l1 x1 y1 i13 i14 i15 (fun f' hneg => ?_) (fun f' hpos rq2 => ?_)
          · rw [pI_t, gI_t, o12, if_pos rfl, gI_t, gi_si, if_neg (fun z => nlt_le.mpr z hneg), pI_t, nI_1]
            rw [runA_bad nle e hneg] at hk
            refine stop _ 2 (by decide) (by decide) (((F1.tr (FY_FR f2)).tr (FY_hset x2)).tr ((FY_si (by omega)).tr (FY_si (by omega)))) gi_si (fun F => ?_)
            refine hk _ _ F gi_si (fun _ => ⟨by rw [gi_si_k (by decide), gi_si_k (by decide), gi_o x2 (by omega)]; exact g16, by rw [gi_si_k (by decide), gi_si]⟩) (fun z => absurd (show (2 : Nat) = 0 from z) (by decide))
          · rw [pI_t, gI_t, o12, if_pos rfl, gI_t, gi_si, if_pos (by decide), pI_t, nI_1]
            rw [runA_go nle e hpos] at hk
            have F3 : FY ma h (si (si (hset h2 (ma 1) f') (ma 0) 18 0) (ma 0) 17 0) := ((F1.tr (FY_FR f2)).tr (FY_hset x2)).tr ((FY_si (by omega)).tr (FY_si (by omega)))
            have efn : gi (si (si (hset h2 (ma 1) f') (ma 0) 18 0) (ma 0) 17 0) (ma 1) = f' := by funext k; rw [gi_si_ne n10, gi_si_ne n10, gi_hset]
            refine ih r (n + 1) (T + 99) _ _ (TXm_FY t F3) (by rw [efn]; exact rq2) (step_PQ pq (by omega) (by omega) hpos) (by omega) p2 (by omega) (by rw [gi_si_k (by decide), gi_si_k (by decide), gi_o x2 (by omega)]; exact i11) gi_si (fun h4 v F4 e17 e16 e0 => ?_)
            refine hk h4 v (F3.tr F4) e17 e16 (fun z => ?_)
            obtain ⟨v1, v2⟩ := e0 z
            exact ⟨v1, by rw [v2, Nat.add_assoc, Nat.add_comm 1]⟩
        rw [hset_self] at key
        exact key
    · rw [if_pos (nI_le (by omega) (by omega))]
      rw [runA_end (by omega)] at hk
      exact hk h _ FY.rf (by rw [g17]; rfl) (fun z => absurd rfl z) (fun _ => ⟨cq, rfl⟩)
end XS

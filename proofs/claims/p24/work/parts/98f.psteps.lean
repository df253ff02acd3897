/-! the class's changes, on its object -/
def PB (T : Nat) (a : AS) : Prop := ∃ tk rm st, INV T (nN a) tk rm st a.1 a.2.1 a.2.2.1.1 a.2.2.1.2 ∧ RW a.2.2.1.1 a.2.2.2.1 ∧ RLt a.2.2.1.2 a.2.2.2.2 st ∧ EX a.1 (nN a) st a.2.1 a.2.2.1.1
def MJ (ad : Nat → Nat) (T m : Nat) (a : AS) (h : Hp) : Prop := ∃ b A kp len tx, CI ad b m A kp len tx h ∧ m ≤ 4 ∧ (∀ i, i ≤ m → PB T (A i)) ∧ A 0 = a
section PS
variable {sh : Sh} {ad ma : Nat → Nat} {h h' : Hp} {b : Nat → Nat} {m len T : Nat} {A : Nat → AS} {a : AS} {kp : Option AS} {tx : Nat → Int32} {K : Int32 → Hp → Prop}
theorem PB_A (h : PB T a) : PA T a := by
  obtain ⟨tk, rm, st, h1, h2, h3, -⟩ := h
  exact ⟨tk, rm, st, h1, h2, h3⟩
theorem PB_T {T' : Nat} (h : PB T a) (hT : T ≤ T') : PB T' a := by
  obtain ⟨tk, rm, st, h1, h2⟩ := h
  exact ⟨tk, rm, st, INV_T h1 hT, h2⟩
theorem MJ_T {T' : Nat} (h1 : MJ ad T m a h) (hT : T ≤ T') : MJ ad T' m a h := by
  obtain ⟨b, A, kp, len, tx, c, hm, p, e⟩ := h1
  exact ⟨b, A, kp, len, tx, c, hm, fun i hi => PB_T (p i hi) hT, e⟩
theorem MJ_push {T' : Nat} {a' : AS} (c : CI ad (pushB m b) (min (m + 1) 4) (pushA m A a') kp len tx h) (hm : m ≤ 4) (p : ∀ i, i ≤ m → PB T (A i)) (ha : PB T' a') (hT : T ≤ T') : MJ ad T' (min (m + 1) 4) a' h := by
  refine ⟨pushB m b, pushA m A a', kp, len, tx, c, by omega, fun i hi => ?_, ?_⟩
  · unfold pushA
    repeat' split
    all_goals first | exact ha | exact PB_T (p _ (by omega)) hT
  · unfold pushA
    rw [if_pos rfl]
theorem t_tick (X : WK sh ad ma) (I : MJ ad T m a h) (hT : T < 2 ^ 29) {w : Nat} (w1 : 1 ≤ w) (w2 : w ≤ 99) (hk : ∀ r h' m' a', ¬ r < 0 → MJ ad (T + 100) m' a' h' → K r h') : f_X5_tick sh (ad 0) (nI w) h K := by
  obtain ⟨b, A, kp, len, tx, cI, hm, pI, rfl⟩ := I
  have hb := cI.1
  have hp0 := pI 0 (by omega)
  obtain ⟨tk, rm, st, hI, hRW, hRL, hX⟩ := pI 0 (by omega)
  have hI0 := hI
  have hT1 := x_T X hb (i := 1) (by omega)
  obtain ⟨⟨ht, ⟨h0, h0', hd⟩, -⟩, hS, -⟩ := hI
  have hN := ht.1
  have htk : tk ≤ T := h0'
  unfold f_X5_tick
  rw [x_t0 X, gR_t cI.2.1.2.1, gR_t cI.2.1.1, x_tb X hb (by omega)]
  refine x_trial X cI (PB_A hp0) (fun h2 ca fb => ?_)
  have cI2 := CI_trial X cI fb (CT_G ca) hm
  rw [gR_t cI2.2.1.2.1, x_tb X hb (by omega)]
  refine c_pass hT1 X.1 ca ht (SI_good hS) h0 (by omega) hd (fun hbad => absurd rfl (hbad w w1 w2)) (fun w' h3 _ _ hx ca3 fb3 => ?_)
  have ew : w' = w := nI_inj (by omega) (by omega) hx.symm
  subst ew
  have cI3 := CI_trial X cI2 fb3 (CT_G ca3) hm
  have hcnt := tkS_cnt (g := (A 0).1) (N := nN (A 0)) w' tk (A 0).2.1
  have hcnt2 : nN (A 0) * w' ≤ 100 * 99 := Nat.mul_le_mul hN w2
  refine x_settle X cI3 hm (fun z => absurd z (nI_pos (by omega))) (fun z h4 em hci => ?_)
  have e1 : va_up (A 0).1 0 (nI (tk + w')) 1 = nI (nN (A 0)) := by rw [va_up_off (by decide)]; exact ht.2.1
  have ca4 : CA h3 ad (b 1) (va_up (A 0).1 0 (nI (tk + w')), (tkS (A 0).1 (nN (A 0)) w' tk (A 0).2.1).1, (A 0).2.2.1, (A 0).2.2.2) := by
    show CT h3 ad (b 1) (nN _) _ _ _ _
    rw [nN_of e1 hN]
    exact ca3
  refine hk _ _ _ _ z (MJ_push (hci _ ca4) hm pI ⟨tk + w', rm, st, ?_, hRW, hRL, ?_⟩ (by omega))
  · rw [nN_of e1 hN]
    exact INV_T (INV_tick hI0 w') (by omega)
  · rw [nN_of e1 hN]
    exact EX_tick hX hS ht
theorem m3_lt {n : Nat} (h : n < 2 ^ 31) : ¬ nI n < (-3 : Int32) := fun z => by
  have h0 := nI_pos h
  rw [Int32.lt_iff_toInt_lt] at z h0
  have e : (-3 : Int32).toInt = -3 := by decide
  have e0 : (0 : Int32).toInt = 0 := by decide
  omega
theorem t_setX (X : WK sh ad ma) (I : MJ ad T m a h) {x y : Int32} (hk : ∀ r h' m' a', ¬ r < (-3 : Int32) → MJ ad T m' a' h' → K r h') : f_X5_set sh (ad 0) x y h K := by
  obtain ⟨b, A, kp, len, tx, cI, hm, pI, rfl⟩ := I
  have hb := cI.1
  have hp0 := pI 0 (by omega)
  obtain ⟨tk, rm, st, hI, hRW, hRL, hX⟩ := pI 0 (by omega)
  have hI0 := hI
  have hT1 := x_T X hb (i := 1) (by omega)
  obtain ⟨⟨ht, ⟨h0, h0', hd⟩, ⟨dl, hdl, hdl2⟩, ⟨hrm, hrm1, hrm8⟩, ⟨hst, hst9⟩, -⟩, hS, hO, hR⟩ := hI
  have hN := ht.1
  unfold f_X5_set
  rw [x_t0 X, gR_t cI.2.1.2.1, gR_t cI.2.1.1, x_tb X hb (by omega)]
  refine x_trial X cI (PB_A hp0) (fun h2 ca fb => ?_)
  have cI2 := CI_trial X cI fb (CT_G ca) hm
  rw [gR_t cI2.2.1.2.1, x_tb X hb (by omega)]
  refine c_adjust hT1 X.1 ca (fun hbad => ?_) (fun v h3 hx v1 hy ca3 fb3 => ?_) (fun v h3 hx v1 v2 hy ca3 fb3 => ?_)
  · exact x_settle X cI2 hm (fun _ => hk _ _ _ _ (by decide) ⟨b, A, kp, len, tx, cI2, hm, pI, rfl⟩) (fun z => absurd (by decide) z)
  · have cI3 := CI_trial X cI2 fb3 (CT_G ca3) hm
    refine x_settle X cI3 hm (fun z => absurd z (by rw [hdl]; exact nI_pos (by omega))) (fun _ h4 em hci => ?_)
    have e1 : va_up (A 0).1 3 (nI v) 1 = nI (nN (A 0)) := by rw [va_up_off (by decide)]; exact ht.2.1
    have ca4 : CA h3 ad (b 1) (va_up (A 0).1 3 (nI v), (A 0).2.1, (A 0).2.2.1, (A 0).2.2.2) := by
      show CT h3 ad (b 1) (nN _) _ _ _ _
      rw [nN_of e1 hN]
      exact ca3
    refine hk _ _ _ _ (by rw [hdl]; exact m3_lt (by omega)) (MJ_push (hci _ ca4) hm pI ⟨tk, rm, st, ?_, hRW, hRL, ?_⟩ (Nat.le_refl _))
    · rw [nN_of e1 hN]
      exact INV_delay hI0 v1
    · rw [nN_of e1 hN]
      exact EX_delay hX
  · have cI3 := CI_trial X cI2 fb3 (CT_G ca3) hm
    refine x_settle X cI3 hm (fun z => absurd z (by rw [hrm]; exact nI_pos (by omega))) (fun _ h4 em hci => ?_)
    have e1 : va_up (A 0).1 4 (nI v) 1 = nI (nN (A 0)) := by rw [va_up_off (by decide)]; exact ht.2.1
    have ca4 : CA h3 ad (b 1) (va_up (A 0).1 4 (nI v), shSN (nI v) (A 0).2.1 4, (A 0).2.2.1, (A 0).2.2.2) := by
      show CT h3 ad (b 1) (nN _) _ _ _ _
      rw [nN_of e1 hN]
      exact ca3
    refine hk _ _ _ _ (by rw [hrm]; exact m3_lt (by omega)) (MJ_push (hci _ ca4) hm pI ⟨tk, v, st, ?_, hRW, hRL, ?_⟩ (Nat.le_refl _))
    · rw [nN_of e1 hN]
      exact INV_room hI0 v1 v2
    · rw [nN_of e1 hN]
      exact EX_room hX
theorem t_alter (X : WK sh ad ma) (I : MJ ad T m a h) (hT : T < 2 ^ 29) {t j : Nat} (t1 : t < 6) (j1 : j < 8)
    (k1 : ∀ h', ((∃ e, pinE a.2.1 (nI t) 4 e ∧ ¬ a.1 (5 + t) ≤ e 1) ∨ a.1 (11 + t) = (1 : Int32) <<< (nI j &&& 31)) → MJ ad T m a h' → K (-2) h')
    (k2 : ∀ h', MJ ad T m a h' → K (-3) h')
    (k3 : ∀ h' m' a', (∀ e, pinE a.2.1 (nI t) 4 e → a.1 (5 + t) ≤ e 1) → ¬ (a.1 (5 + t) + 1) < 0 → a'.1 (11 + t) = a.1 (11 + t) ^^^ ((1 : Int32) <<< (nI j &&& 31)) → MJ ad T m' a' h' → K (a.1 (5 + t) + 1) h') : f_X5_alter sh (ad 0) (nI t) (nI j) h K := by
  obtain ⟨b, A, kp, len, tx, cI, hm, pI, rfl⟩ := I
  have hb := cI.1
  have hp0 := pI 0 (by omega)
  obtain ⟨tk, rm, st, hI, hRW, hRL, hX⟩ := pI 0 (by omega)
  have hI0 := hI
  have hT1 := x_T X hb (i := 1) (by omega)
  obtain ⟨⟨ht, ⟨h0, h0', hd⟩, -, -, ⟨hst, hst9⟩, -⟩, hS, hO, hR⟩ := hI
  have hN := ht.1
  unfold f_X5_alter
  rw [x_t0 X, gR_t cI.2.1.2.1, gR_t cI.2.1.1, x_tb X hb (by omega)]
  refine x_trial X cI (PB_A hp0) (fun h2 ca fb => ?_)
  have cI2 := CI_trial X cI fb (CT_G ca) hm
  rw [gR_t cI2.2.1.2.1, x_tb X hb (by omega)]
  refine c_change hT1 X.1 ca ht (SI_good hS) (SI_vs hS) (fun hbad => absurd ⟨⟨t, t1, rfl⟩, j, j1, rfl⟩ hbad) (fun t' j' t1' hx j1' hy hbad => ?_) (fun t' j' t1' hx j1' hy hok hsh hN1 => ?_) (fun t' j' h3 t1' hx j1' hy hok hsh hN1 ca3 fb3 => ?_)
  · have et : t' = t := nI_inj (by omega) (by omega) hx.symm
    have ej : j' = j := nI_inj (by omega) (by omega) hy.symm
    subst et; subst ej
    exact x_settle X cI2 hm (fun _ => k1 _ hbad ⟨b, A, kp, len, tx, cI2, hm, pI, rfl⟩) (fun z => absurd (by decide) z)
  · exact x_settle X cI2 hm (fun _ => k2 _ ⟨b, A, kp, len, tx, cI2, hm, pI, rfl⟩) (fun z => absurd (by decide) z)
  · have et : t' = t := nI_inj (by omega) (by omega) hx.symm
    have ej : j' = j := nI_inj (by omega) (by omega) hy.symm
    subst et; subst ej
    have cI3 := CI_trial X cI2 fb3 (CT_G ca3) hm
    have hI' := INV_alt (j := j') hI0 hN1 (by omega) t1
    have hok2 : ∀ o ∈ (A 0).2.2.1.1, bitp (o 2) t' → (A 0).1 (5 + t') ≤ o (4 + t') := fun o ho hbt => by
      apply Classical.byContradiction
      intro z
      obtain ⟨e, e1, e2⟩ := (pin_os hS hO t1 (P := fun v => ¬ (A 0).1 (5 + t') ≤ v)).mpr ⟨o, ho, hbt, z⟩
      exact e2 (hok e e1)
    have hX' := EX_alt (j := j') hX hI0 hN1 t1 hok2
    obtain ⟨u, hu, hu2⟩ := hI0.1.2.2.2.2.2 t' t1
    refine x_settle X cI3 hm (fun z => absurd z (by rw [hu, nI_1]; exact nI_pos (by omega))) (fun z h4 em hci => ?_)
    have e1 : altG (A 0).1 t' j' (nN (A 0)) 1 = nI (nN (A 0) + 1) := va_up_self _ _ _
    have ca4 : CA h3 ad (b 1) (altG (A 0).1 t' j' (nN (A 0)), (if (A 0).1 3 = 0 then comeN (altG (A 0).1 t' j' (nN (A 0))) (nN (A 0)) (A 0).2.1 4 else (A 0).2.1), (A 0).2.2.1, (A 0).2.2.2) := by
      show CT h3 ad (b 1) (nN _) _ _ _ _
      rw [nN_of e1 (by omega)]
      exact ca3
    refine k3 _ _ _ hok z ?_ (MJ_push (hci _ ca4) hm pI ⟨tk, rm, st, ?_, hRW, hRL, ?_⟩ (Nat.le_refl _))
    · show altG (A 0).1 t' j' (nN (A 0)) (11 + t') = _
      unfold altG
      rw [va_up_off (by omega), va_up_off (by omega), va_up_off (by omega), va_up_off (by omega), va_up_self]
    · rw [nN_of e1 (by omega)]
      exact hI'
    · rw [nN_of e1 (by omega)]
      exact hX'
theorem t_end (X : WK sh ad ma) (I : MJ ad T m a h) {x : Int32} (hk : ∀ r h' m' a', ¬ r < (-3 : Int32) → MJ ad T m' a' h' → K r h') : f_X5_end sh (ad 0) x h K := by
  obtain ⟨b, A, kp, len, tx, cI, hm, pI, rfl⟩ := I
  have hb := cI.1
  have hp0 := pI 0 (by omega)
  obtain ⟨tk, rm, st, hI, hRW, hRL, hX⟩ := pI 0 (by omega)
  have hI0 := hI
  have hT1 := x_T X hb (i := 1) (by omega)
  obtain ⟨⟨ht, ⟨h0, h0', hd'⟩, -, ⟨hrm, hrm8⟩, ⟨hst, hst9⟩, -⟩, hS, hO, hR⟩ := hI
  have hN := ht.1
  unfold f_X5_end
  rw [x_t0 X, gR_t cI.2.1.2.1, gR_t cI.2.1.1, x_tb X hb (by omega)]
  refine x_trial X cI (PB_A hp0) (fun h2 ca fb => ?_)
  have cI2 := CI_trial X cI fb (CT_G ca) hm
  rw [gR_t cI2.2.1.2.1, x_tb X hb (by omega)]
  refine c_finish hT1 X.1 ca (SI_0 hS) (fun hx => ?_) (fun hx hno => ?_) (fun n j r h3 hx hn hj hw hr ca3 fb3 => ?_)
  · exact x_settle X cI2 hm (fun _ => hk _ _ _ _ (by decide) ⟨b, A, kp, len, tx, cI2, hm, pI, rfl⟩) (fun z => absurd (by decide) z)
  · exact x_settle X cI2 hm (fun _ => hk _ _ _ _ (by decide) ⟨b, A, kp, len, tx, cI2, hm, pI, rfl⟩) (fun z => absurd (by decide) z)
  · have cI3 := CI_trial X cI2 fb3 (CT_G ca3) hm
    have hl8 := SI_8 hS hn
    have hlF : (((A 0).2.1 n).2.filterMap (rq ((A 0).2.2.2.1 n j))).length ≤ ((A 0).2.1 n).2.length := List.length_filterMap_le _ _
    have hsl := shr_len ((A 0).1 4) (((A 0).2.1 n).2.filterMap (rq ((A 0).2.2.2.1 n j))).length (((A 0).2.1 n).2.filterMap (rq ((A 0).2.2.2.1 n j))) (by omega)
    rw [← hr] at hsl
    have hres : nI ((A 0).2.1 n).2.length - nI r.1.length = nI (((A 0).2.1 n).2.length - r.1.length) := nI_sub (by omega)
    refine x_settle X cI3 hm (fun z => absurd z (by rw [hres]; exact nI_pos (by omega))) (fun _ h4 em hci => ?_)
    have hex : ∃ p, p < (A 0).2.2.1.1.length ∧ hd (A 0).2.2.1.1 p 0 = x := by
      rcases hRW.2.1 n j hn hj with q | ⟨o, o1, o2, o3⟩
      · rw [hw] at q
        rw [q] at hx
        exact absurd hx (by decide)
      · obtain ⟨i, i1, rfl⟩ := mem_hd o1
        exact ⟨i, i1, o3.1.symm.trans hw⟩
    obtain ⟨p, p1, p2⟩ := hex
    obtain ⟨ho1, hsm⟩ := RW_row hRW hO hst9 hn hj p1 (p2.trans hw.symm)
    have ca4 : CA h3 ad (b 1) ((A 0).1, va_up (A 0).2.1 n (va_up ((A 0).2.1 n).1 3 (((A 0).2.1 n).1 3 + nI r.2), r.1), ((A 0).2.2.1.1.eraseIdx p, (A 0).2.2.1.2), (va_up (A 0).2.2.2.1 n (va_up ((A 0).2.2.2.1 n) j (va_up ((A 0).2.2.2.1 n j) 0 (-1))), (A 0).2.2.2.2)) := ca3
    refine hk _ _ _ _ (by rw [hres]; exact m3_lt (by omega)) (MJ_push (hci _ ca4) hm pI ⟨tk, rm, st, ?_, ?_, hRL, ?_⟩ (Nat.le_refl _))
    · have := INV_end hI0 hn p1 ho1 hsm
      rw [← hr] at this
      exact this
    · exact RW_erase hRW hO hst9 hn hj p1 ho1 (p2.trans hw.symm)
    · have := EX_end (p := p) (w := (A 0).2.2.2.1 n j) (x := ((A 0).2.1 n).1 3 + nI r.2) (rm' := (A 0).1 4) hX hn
      rw [← hr] at this
      exact this
/-- what a start answers, and what it leaves -/
def noSt (a : AS) (n st kn s : Nat) : Prop := (∀ j, j < 4 → a.2.2.2.1 n j 0 ≠ -1) ∨ st = 999 ∨ uAll a.1 (nI st) (nI s) 6 0 (askC (nN a) kn (a.2.1 n).1) (askL a.1 (nN a) kn (a.2.1 n).2) = none
def stA (a : AS) (n st s : Nat) (r : (Nat → Int32) × List En × (Nat → Int32)) (w' : Nat → En) : AS := (va_up a.1 2 (nI (st + 1)), va_up a.2.1 n (r.1, r.2.1), (a.2.2.1.1 ++ [rowC (nI st) (nI n) (nI s) (a.1 0) r.2.2], rem12 a.2.2.1.2 (nI n, nI s)), (va_up a.2.2.2.1 n w', va_up a.2.2.2.2 (st % 12) (nI n, nI s)))
theorem t_start (X : WK sh ad ma) (I : MJ ad T m a h) {n s st kn : Nat} (hn : n < 4) (s1 : 1 ≤ s) (s2 : s ≤ 63) (hst : a.1 2 = nI st) (hst9 : st ≤ 999) (hc0 : (a.2.1 n).1 0 = nI kn) (hkn : kn ≤ nN a)
    (k1 : ∀ h', noSt a n st kn s → MJ ad T m a h' → K (-3) h')
    (k2 : ∀ h' j r w', j < 4 → a.2.2.2.1 n j 0 = -1 → st < 999 → uAll a.1 (nI st) (nI s) 6 0 (askC (nN a) kn (a.2.1 n).1) (askL a.1 (nN a) kn (a.2.1 n).2) = some r → w' j 0 = nI st → w' j 1 = nI s → w' j 2 = a.1 0 → (∀ t, t < 6 → bitp (nI s) t → w' j (3 + t) = r.2.2 t) → MJ ad T (min (m + 1) 4) (stA a n st s r w') h' → K (nI st) h') : f_X5_start sh (ad 0) (nI n) (nI s) h K := by
  obtain ⟨b, A, kp, len, tx, cI, hm, pI, rfl⟩ := I
  have hb := cI.1
  have hp0 := pI 0 (by omega)
  obtain ⟨tk, rm, st0, hI, hRW, hRL, hX⟩ := pI 0 (by omega)
  have hI0 := hI
  have hT1 := x_T X hb (i := 1) (by omega)
  obtain ⟨⟨ht, ⟨h0, h0', hd⟩, -, ⟨hrm, hrm8⟩, ⟨hst', hst9'⟩, -⟩, hS, hO, hR⟩ := hI
  have est : st0 = st := nI_inj (by omega) (by omega) (hst'.symm.trans hst)
  subst est
  have hN := ht.1
  unfold f_X5_start
  rw [x_t0 X, gR_t cI.2.1.2.1, gR_t cI.2.1.1, x_tb X hb (by omega)]
  refine x_trial X cI (PB_A hp0) (fun h2 ca fb => ?_)
  have cI2 := CI_trial X cI fb (CT_G ca) hm
  rw [gR_t cI2.2.1.2.1, x_tb X hb (by omega)]
  refine c_begin hT1 X.1 ca ht (SI_good hS) hrm hrm8 hst hst9 (SI_HU hS) (fun hbad => absurd ⟨⟨n, hn, rfl⟩, s, s1, s2, rfl⟩ hbad) (fun n' kn' h3 hn' hx hy hkn' hc0' hno tg3 fb3 => ?_) (fun n' kn' j r h3 w' hn' hx hy hkn' hc0' hj hidle hst2 hu ca3 fb3 w1 w2 w3 w4 w5 => ?_)
  · have en : n' = n := nI_inj (by omega) (by omega) hx.symm
    subst en
    have ekn : kn' = kn := nI_inj (by omega) (by omega) (hc0'.symm.trans hc0)
    subst ekn
    have cI3 := CI_trial X cI2 fb3 tg3 hm
    exact x_settle X cI3 hm (fun _ => k1 _ hno ⟨b, A, kp, len, tx, cI3, hm, pI, rfl⟩) (fun z => absurd (by decide) z)
  · have en : n' = n := nI_inj (by omega) (by omega) hx.symm
    subst en
    have ekn : kn' = kn := nI_inj (by omega) (by omega) (hc0'.symm.trans hc0)
    subst ekn
    have cI3 := CI_trial X cI2 fb3 (CT_G ca3) hm
    have e1 : va_up (A 0).1 2 (nI (st0 + 1)) 1 = nI (nN (A 0)) := by rw [va_up_off (by decide)]; exact ht.2.1
    refine x_settle X cI3 hm (fun z => absurd z (nI_pos (by omega))) (fun _ h4 em hci => ?_)
    have q5 : pcn (A 0).2.2.1.1 n' ≠ 4 := fun z => (RW_full hRW hO hst9 hn).mp z j hj hidle
    have ca4 : CA h3 ad (b 1) (stA (A 0) n' st0 s r w') := by
      show CT h3 ad (b 1) (nN (stA (A 0) n' st0 s r w')) _ _ _ _
      unfold stA
      rw [nN_of e1 hN]
      exact ca3
    refine k2 _ j r w' hj hidle hst2 hu w2 w3 w4 w5 (MJ_push (hci _ ca4) hm pI ⟨tk, rm, st0 + 1, ?_, ?_, ?_, ?_⟩ (Nat.le_refl _))
    · unfold stA
      rw [nN_of e1 hN]
      exact INV_start hI0 hn hkn hc0 s1 s2 hst2 q5 hu rfl rfl rfl (fun t _ _ => rowC_v)
    · exact RW_push hRW hO hst2 hn hj hidle w1 rfl rfl ⟨w2, w3, w4, fun t ht hbt => by rw [rowC_v]; exact w5 t ht hbt⟩
    · exact RLt_push hRL hR.1
    · unfold stA
      rw [nN_of e1 hN]
      exact EX_start hI0 hX hn hkn hc0 hu rfl (fun t _ _ => rowC_v)
def wAt (q : Nat) : Nat := if q = 3 then 0 else q + 1
theorem t_would (X : WK sh ad ma) (I : MJ ad T m a h) {n s st kn q : Nat} (hn : n < 4) (s1 : 1 ≤ s) (s2 : s ≤ 63) (hst : a.1 2 = nI st) (hst9 : st ≤ 999) (hc0 : (a.2.1 n).1 0 = nI kn) (hkn : kn ≤ nN a) (hq : q < 4)
    (k1 : ∀ h', noSt a n st kn s → MJ ad T m a h' → K (-3) h')
    (k2 : ∀ h' r, ¬ noSt a n st kn s → uAll a.1 (nI st) (nI s) 6 0 (askC (nN a) kn (a.2.1 n).1) (askL a.1 (nN a) kn (a.2.1 n).2) = some r → MJ ad T m a h' → K (r.1 (wAt q) - (a.2.1 n).1 (wAt q)) h') : f_X5_would sh (ad 0) (nI n) (nI s) (nI q) h K := by
  obtain ⟨b, A, kp, len, tx, cI, hm, pI, rfl⟩ := I
  have hb := cI.1
  have hp0 := pI 0 (by omega)
  obtain ⟨tk, rm, st0, hI, hRW, hRL, hX⟩ := pI 0 (by omega)
  have hI0 := hI
  have hT1 := x_T X hb (i := 1) (by omega)
  have hT0 := x_T X hb (i := 0) (by omega)
  obtain ⟨⟨ht, ⟨h0, h0', hd⟩, -, ⟨hrm, hrm8⟩, ⟨hst', hst9'⟩, -⟩, hS, hO, hR⟩ := hI
  have hN := ht.1
  unfold f_X5_would
  rw [if_neg (nI_pos (by omega)), if_neg (lt4 hn), if_neg (nI_pos (by omega)), if_pos (by rw [show (3 : Int32) = nI 3 from rfl, nI_leI (by omega) (by omega)]; omega), x_t0 X, gR_t cI.2.1.2.1, gR_t cI.2.1.1, x_tb X hb (by omega)]
  refine x_trial X cI (PB_A hp0) (fun h2 ca fb => ?_)
  have cI2 := CI_trial X cI fb (CT_G ca) hm
  rw [gR_t cI2.2.1.2.1, x_tb X hb (by omega)]
  refine c_begin hT1 X.1 ca ht (SI_good hS) hrm hrm8 hst hst9 (SI_HU hS) (fun hbad => absurd ⟨⟨n, hn, rfl⟩, s, s1, s2, rfl⟩ hbad) (fun n' kn' h3 hn' hx hy hkn' hc0' hno tg3 fb3 => ?_) (fun n' kn' j r h3 w' hn' hx hy hkn' hc0' hj hidle hst2 hu ca3 fb3 w1 w2 w3 w4 w5 => ?_)
  · have en : n' = n := nI_inj (by omega) (by omega) hx.symm
    subst en
    have ekn : kn' = kn := nI_inj (by omega) (by omega) (hc0'.symm.trans hc0)
    subst ekn
    have cI3 := CI_trial X cI2 fb3 tg3 hm
    exact if_n (by decide) (k1 _ hno ⟨b, A, kp, len, tx, cI3, hm, pI, rfl⟩)
  · have en : n' = n := nI_inj (by omega) (by omega) hx.symm
    subst en
    have ekn : kn' = kn := nI_inj (by omega) (by omega) (hc0'.symm.trans hc0)
    subst ekn
    have cI3 := CI_trial X cI2 fb3 (CT_G ca3) hm
    have fin := k2 h3 r (fun z => by
      rcases z with z | z | z
      · exact z j hj hidle
      · omega
      · rw [hu] at z; cases z) hu ⟨b, A, kp, len, tx, cI3, hm, pI, rfl⟩
    have e0 := cI3.2.2.2.1
    have es := e0.2.2.2.2.2 n' hn
    have et := ca3.2.2.2.2.2 n' hn
    rw [va_up_self, va_up_self] at et
    refine if_y (nI_pos' (by omega)) ?_
    rw [gR_t cI3.2.1.1, x_tb X hb (by omega), tp_ses hT0 e0.1 hn, gR_t cI3.2.1.2.1, x_tb X hb (by omega), tp_ses hT1 ca3.1 hn]
    match q, hq with
    | 0, _ =>
      refine if_y rfl ?_
      rw [cs_t0 (ct_SK hT1 hn), gI_t, cs_t0 (ct_SK hT0 hn), gI_t, et.2.1 1 (by omega), es.2.1 1 (by omega)]
      exact fin
    | 1, _ =>
      refine if_n (by decide) (if_y rfl ?_)
      rw [cs_t0 (ct_SK hT1 hn), gI_t, cs_t0 (ct_SK hT0 hn), gI_t, et.2.1 2 (by omega), es.2.1 2 (by omega)]
      exact fin
    | 2, _ =>
      refine if_n (by decide) (if_n (by decide) (if_y rfl ?_))
      rw [cs_t0 (ct_SK hT1 hn), gI_t, cs_t0 (ct_SK hT0 hn), gI_t, et.2.1 3 (by omega), es.2.1 3 (by omega)]
      exact fin
    | 3, _ =>
      refine if_n (by decide) (if_n (by decide) (if_n (by decide) ?_))
      rw [cs_t0 (ct_SK hT1 hn), gI_t, cs_t0 (ct_SK hT0 hn), gI_t, et.2.1 0 (by omega), es.2.1 0 (by omega)]
      exact fin
theorem t_undo (X : WK sh ad ma) (I : MJ ad T m a h) (hm1 : 1 ≤ m) (hk : ∀ r h' a', ¬ r < 0 → MJ ad T (m - 1) a' h' → K r h') : f_X5_undo sh (ad 0) h K := by

  have hi := X.1
  obtain ⟨b, A, kp, len, tx, cI, hm, pI, rfl⟩ := I
  have cI0 := cI
  obtain ⟨c1, ⟨x1, x2, x3, x4, x5, x6, x7⟩, c3, c4, c5, c6, c7, c8, c9, c10⟩ := cI
  have n03 : ad 253 ≠ ad 0 := ad_ne hi (by omega)
  unfold f_X5_undo
  rw [x_t0 X, gI_t, c3]
  obtain ⟨p, rfl⟩ : ∃ p, m = p + 1 := ⟨m - 1, by omega⟩
  rw [if_pos (by rw [show (0 : Int32) = nI 0 from rfl, nI_ltI (by omega) (by omega)]; omega), gI_t, c3, pI_t, show (1 : Int32) = nI 1 from rfl, nI_sub (by omega), Nat.add_sub_cancel]
  have i5 : gi (si h (ad 0) 5 (nI p)) (ad 0) 5 = nI p := gi_si
  rw [gR_s x4, gI_t, i5, x_th X, x_lh X (by omega) (show gr (si h (ad 0) 5 (nI p)) (ad 253) p = some (ad (b (2 + p))) from x6 p (by omega)), gR_s x4, gI_t, i5, gR_s x1, x_th X, x_tb X c1 (by omega), x_sh X (by omega), pR_t, gI_t]
  have i5' : gi (sr (sr (si h (ad 0) 5 (nI p)) (ad 253) p (some (ad (b 0)))) (ad 0) 0 (some (ad (b (2 + p))))) (ad 0) 5 = nI p := i5
  rw [i5']
  have ho : ∀ q, q ≠ ad 0 → q ≠ ad 253 → (sr (sr (si h (ad 0) 5 (nI p)) (ad 253) p (some (ad (b 0)))) (ad 0) 0 (some (ad (b (2 + p))))).1 q = h.1 q ∧ (sr (sr (si h (ad 0) 5 (nI p)) (ad 253) p (some (ad (b 0)))) (ad 0) 0 (some (ad (b (2 + p))))).2 q = h.2 q := fun q q0 q1 => by
    refine ⟨?_, ?_⟩
    · show va_up h.1 _ _ q = h.1 q
      rw [va_up_off q0]
    · show va_up (va_up h.2 _ _) _ _ q = h.2 q
      rw [va_up_off q0, va_up_off q1]
  have em : EQm ma h (sr (sr (si h (ad 0) 5 (nI p)) (ad 253) p (some (ad (b 0)))) (ad 0) 0 (some (ad (b (2 + p))))) := fun q => ho _ (fun z => X.2.1 0 q z.symm) (fun z => X.2.1 253 q z.symm)
  have qb : ∀ i, i < 6 → QB ad h (sr (sr (si h (ad 0) 5 (nI p)) (ad 253) p (some (ad (b 0)))) (ad 0) 0 (some (ad (b (2 + p))))) (b i) := fun i i1 j hj => ho _ (ad_ne hi (fun z => (outB c1 i1 j hj).1 z.symm)) (ad_ne hi (fun z => (outB c1 i1 j hj).2.1 z.symm))
  have qk : QB ad h (sr (sr (si h (ad 0) 5 (nI p)) (ad 253) p (some (ad (b 0)))) (ad 0) 0 (some (ad (b (2 + p))))) 169 := fun j hj => ho _ (ad_ne hi (by omega)) (ad_ne hi (by omega))
  have e2 := ho (ad 590) (ad_ne hi (by omega)) (ad_ne hi (by omega))
  have e3 := ho (ad 591) (ad_ne hi (by omega)) (ad_ne hi (by omega))
  have cI2 : CI ad (fun i => if i = 0 then b (2 + p) else if i = 2 + p then b 0 else b i) p (fun i => if i = 0 then A (1 + p) else A i) kp len tx (sr (sr (si h (ad 0) 5 (nI p)) (ad 253) p (some (ad (b 0)))) (ad 0) 0 (some (ad (b (2 + p))))) := by
    have bs : BS (fun i => if i = 0 then b (2 + p) else if i = 2 + p then b 0 else b i) := by
      refine ⟨fun i i1 => ?_, fun i j i1 j1 e => ?_⟩
      · dsimp only
        repeat' split
        all_goals exact c1.1 _ (by omega)
      · dsimp only at e
        repeat' split at e
        all_goals (have := c1.2 _ _ (by omega) (by omega) e; omega)
    refine ⟨bs, ⟨?_, ?_, ?_, ?_, ?_, fun i i1 => ?_, ?_⟩, i5', CA_Q (qb (2 + p) (by omega)) (c6 p (by omega)), ?_, fun i i1 => ?_, fun i i1 => ?_, ?_, TG_Q qk c9, ?_, fun i i1 => ?_⟩
    · rw [sr_at, if_pos rfl]; rfl
    · rw [sr_at, if_neg (by omega), sr_off (Ne.symm n03)]; show gr h (ad 0) 1 = _; rw [x2]; dsimp only; rw [if_neg (by omega), if_neg (by omega)]
    · rw [sr_at, if_neg (by omega), sr_off (Ne.symm n03)]; exact x3
    · rw [sr_at, if_neg (by omega), sr_off (Ne.symm n03)]; exact x4
    · rw [sr_at, if_neg (by omega), sr_off (Ne.symm n03)]; exact x5
    · rw [sr_off n03, sr_at]
      dsimp only
      by_cases z : i = p
      · rw [if_pos z, if_neg (by omega), if_pos (by omega)]
      · rw [if_neg z, if_neg (by omega), if_neg (by omega)]
        exact x6 i i1
    · show (sr (sr (si h (ad 0) 5 (nI p)) (ad 253) p (some (ad (b 0)))) (ad 0) 0 (some (ad (b (2 + p))))).2 (ad 590) 0 = _
      rw [e2.2]; exact x7
    · dsimp only
      rw [if_neg (by omega), if_neg (by omega)]
      exact TG_Q (qb 1 (by omega)) c5
    · dsimp only
      rw [if_neg (by omega), if_neg (by omega), if_neg (by omega)]
      exact CA_Q (qb _ (by omega)) (c6 i (by omega))
    · dsimp only
      rw [if_neg (by omega)]
      split
      · exact TG_Q (qb 0 (by omega)) (CT_G c4)
      · exact TG_Q (qb _ (by omega)) (c7 i i1)
    · have e5 : gi (sr (sr (si h (ad 0) 5 (nI p)) (ad 253) p (some (ad (b 0)))) (ad 0) 0 (some (ad (b (2 + p))))) (ad 0) 3 = gi h (ad 0) 3 := gi_si_k (h := h) (by decide)
      rcases c8 with ⟨z1, z2⟩ | ⟨a, z1, z2, z3⟩
      · exact Or.inl ⟨z1, by rw [e5]; exact z2⟩
      · exact Or.inr ⟨a, z1, by rw [e5]; exact z2, CA_Q qk z3⟩
    · show (sr (sr (si h (ad 0) 5 (nI p)) (ad 253) p (some (ad (b 0)))) (ad 0) 0 (some (ad (b (2 + p))))).1 (ad 590) 1 = _
      rw [e2.1]; exact c10.1
    · show (sr (sr (si h (ad 0) 5 (nI p)) (ad 253) p (some (ad (b 0)))) (ad 0) 0 (some (ad (b (2 + p))))).1 (ad 591) i = _
      rw [e3.1]; exact c10.2 i i1
  refine hk _ _ _ (nI_pos (by omega)) ⟨_, _, kp, len, tx, cI2, by omega, fun i i1 => ?_, rfl⟩
  show PB T (if i = 0 then A (1 + p) else A i)
  split
  · exact pI _ (by omega)
  · exact pI _ (by omega)
end PS

/-! the law's look at all hands: the sessions, the tables -/
theorem hcN_s {S : Nat → Ses} {t n : Nat} : hcN S t (n + 1) = hcN S t n + fcN t (S n).2 (S n).2.length := rfl
theorem hcN_le {S : Nat → Ses} {t : Nat} (h8 : ∀ n, n < 4 → (S n).2.length ≤ 8) : ∀ n, n ≤ 4 → hcN S t n ≤ 8 * n := by
  intro n
  induction n with
  | zero => intro _; exact Nat.le_refl _
  | succ n ih =>
    intro hn
    have := ih (by omega)
    have := h8 n (by omega)
    have := fcN_le (t := t) (l := (S n).2) (S n).2.length
    rw [hcN_s]
    omega
section PT
variable {sh : Sh} {ad ma : Nat → Nat} {h : Hp} {b : Nat → Nat} {m len T : Nat} {A : Nat → AS} {kp : Option AS} {tx : Nat → Int32} {x3 x4 : Nat} {tk rm st : Nat}
theorem hands_out (X : WK sh ad ma) (c : CI ad b m A kp len tx h) (hI : INV T (nN (A 0)) tk rm st (A 0).1 (A 0).2.1 (A 0).2.2.1.1 (A 0).2.2.1.2) (hRW : RW (A 0).2.2.1.1 (A 0).2.2.2.1) (hX : EX (A 0).1 (nN (A 0)) st (A 0).2.1 (A 0).2.2.1.1) (s3 : sh x3 = (7, 6)) (s4 : sh x4 = (7, 6)) (n34 : x3 ≠ x4) (o3 : ∀ p, ad p ≠ x3) (o4 : ∀ p, ad p ≠ x4)
    (hH : ∀ t, t < 6 → gi h x3 t = 0) (hM : ∀ t, t < 6 → gi h x4 t = 9999) {Xc : Int32 → Int32 → Hp → Prop} {K : Int32 → Hp → Prop}
    (hx : ∀ h', CI ad b m A kp len tx h' → (∀ t, t < 6 → gi h' x3 t = nI (hcN (A 0).2.1 t 4)) → (∀ t, t < 6 → mn (pinE (A 0).2.1 (nI t) 4) (fun e => e 1) 9999 (gi h' x4 t)) → Xc (nI (satN (A 0).2.2.2.1 4)) (ldN (A 0).2.1 4) h') :
    lo (b_L_areHandsSo_42 sh (ad 0) x3 x4 Xc K) ((0 : Int32), (0 : Int32), (0 : Int32)) h := by
  have h8 : ∀ n, n < 4 → ((A 0).2.1 n).2.length ≤ 8 := fun n hn => SI_8 hI.2.1 hn
  refine lo_ind (fun d s h' => ∃ n, n + d = 5 ∧ n ≤ 4 ∧ s = (nI (satN (A 0).2.2.2.1 n), ldN (A 0).2.1 n, nI n) ∧ CI ad b m A kp len tx h' ∧ (∀ t, t < 6 → gi h' x3 t = nI (hcN (A 0).2.1 t n)) ∧ (∀ t, t < 6 → mn (pinE (A 0).2.1 (nI t) n) (fun e => e 1) 9999 (gi h' x4 t))) ?_ ?_ (d := 5) ⟨0, by omega, by omega, rfl, c, hH, fun t ht => Or.inl ⟨hM t ht, fun e ⟨n, n1, _⟩ => absurd n1 (Nat.not_lt_zero n)⟩⟩
  · rintro s h' ⟨n, h1, h2, -⟩
    omega
  · rintro d rec hrec s h' ⟨n, h1, h2, rfl, c', hH', hM'⟩
    unfold b_L_areHandsSo_42
    dsimp only
    by_cases hz : n = 4
    · subst hz
      rw [if_pos ge4]
      exact hx h' c' hH' hM'
    · have hn : n < 4 := by omega
      have hl8 := h8 n hn
      rw [if_neg (lt4 hn), x_t0 X]
      refine t_ses2 X c' hn ?_
      refine t_ses4 X c' hn ?_
      refine t_ses6 X c' hn ?_
      refine hands_in X c' hI hX hn s3 s4 n34 o3 o4 hH' hM' (fun w h2 c2 hw hH2 hM2 => ?_)
      refine t_ses3 X c2 hn (fun i hi => SI_5 hI.2.1 n hn i hi) ?_
      refine if_y rfl ?_
      refine t_entE X c2 hn ?_
      refine if_y rfl ?_
      have hrm := hI.1.2.2.2.1
      obtain ⟨hrm1, hrm2⟩ := hrm
      have g4 : (A 0).1 4 = nI rm := hrm1
      have next : rec (nI (satN (A 0).2.2.2.1 n) + nI (cntW ((A 0).2.2.2.1 n) 4), ldN (A 0).2.1 n + ((A 0).2.1 n).1 2, nI n + (1 : Int32)) h2 := by
        rw [nI_1, nI_add]
        refine hrec _ _ ⟨n + 1, by omega, by omega, rfl, c2, fun t ht => by rw [hH2 t ht]; rfl, fun t ht => mn_iff (hM2 t ht) (fun x => pinE_s)⟩
      have tail_ : (f_X5_sessionOf sh (ad 0) (nI n) (4 : Int32) h2 fun r112 h113 => if (4 : Int32) < r112 then K (0 : Int32) h113 else f_X5_sessionOf sh (ad 0) (nI n) (0 : Int32) h113 fun r114 h115 => f_X5_count sh (ad 0) (1 : Int32) h115 fun r116 h117 => if r114 ≤ r116 then rec (nI (satN (A 0).2.2.2.1 n) + nI (cntW ((A 0).2.2.2.1 n) 4), ldN (A 0).2.1 n + ((A 0).2.1 n).1 2, nI n + (1 : Int32)) h117 else K (0 : Int32) h117) := by
        refine t_ses4 X c2 hn ?_
        have hle := cntW_le (w := (A 0).2.2.2.1 n)
        refine if_n (fun z => by rw [show (4 : Int32) = nI 4 from rfl, nI_ltI (by omega) (by omega)] at z; omega) ?_
        refine t_ses0 X c2 hn ?_
        refine t_cnt1 X c2 ?_
        obtain ⟨kn, k1, k2⟩ := (hI.2.1 n hn).2
        have hN := hI.1.1.1
        rw [k2, hI.1.1.2.1]
        exact if_y (nI_le k1 (by omega)) next
      refine t_cnt21 X c2 ?_
      rw [g4]
      by_cases cm : nI ((A 0).2.1 n).2.length ≤ nI rm
      · exact if_y cm tail_
      · refine if_n cm ?_
        have hf := (hI.2.1 n hn).1.2
        have hw1 : w = 1 := by
          rcases hf with hf | hf
          · exact absurd (nI_le hf (by omega)) cm
          · exact hw (fun i hi => hf _ (hd_mem hi))
        rw [hw1]
        exact if_n (by decide) tail_
/-- the entries by which statements work by an old version, and the places -/
theorem beh_pin (hI : INV T (nN (A 0)) tk rm st (A 0).1 (A 0).2.1 (A 0).2.2.1.1 (A 0).2.2.1.2) (hRW : RW (A 0).2.2.1.1 (A 0).2.2.2.1) {t : Nat} (ht : t < 6) : (∃ e, behW (A 0).2.2.2.1 ((A 0).1 (5 + t)) t 4 e) ↔ ∃ e, pinE (A 0).2.1 (nI t) 4 e ∧ ¬ (A 0).1 (5 + t) ≤ e 1 := by
  have hO := hI.2.2.1
  have hst9 : st ≤ 999 := hI.1.2.2.2.2.1.2
  rw [pin_os hI.2.1 hO ht (P := fun v => ¬ (A 0).1 (5 + t) ≤ v)]
  constructor
  · rintro ⟨e, n, hn, j, hj, ew, e1, e2, e3⟩
    subst ew
    rcases hRW.2.1 n j hn hj with w | ⟨o, o1, o2, o3⟩
    · rw [w] at e1; exact absurd (by decide) e1
    · rw [o3.2.1] at e2
      exact ⟨o, o1, e2, by rw [← o3.2.2.2 t ht e2]; exact e3⟩
  · rintro ⟨o, o1, o2, o3⟩
    obtain ⟨n, j, w1, w2, w3, w4⟩ := hRW.1 o o1
    obtain ⟨⟨q, q1, q2⟩, -⟩ := hO.1 o o1
    exact ⟨_, n, w1, j, w2, rfl, by rw [w4.1, q2]; exact nI_pos (by omega), by rw [w4.2.1]; exact o2, by rw [w4.2.2.2 t ht o2]; exact o3⟩
theorem m4_neg : ∀ {x : Int32}, ¬ x < 0 → x ≠ -4 := fun h z => h (by rw [z]; decide)
/-- what is told of the least version at work -/
theorem low_f (hI : INV T (nN (A 0)) tk rm st (A 0).1 (A 0).2.1 (A 0).2.2.1.1 (A 0).2.2.1.2) (hX : EX (A 0).1 (nN (A 0)) st (A 0).2.1 (A 0).2.2.1.1) {t : Nat} (ht : t < 6) {r d : Int32} (hr : mn (pinE (A 0).2.1 (nI t) 4) (fun e => e 1) d r) : (r = d ∧ ∀ e, ¬ pinE (A 0).2.1 (nI t) 4 e) ∨ ∃ v u, r = nI v ∧ (A 0).1 (5 + t) = nI u ∧ v ≤ u ∧ u ≤ 100 ∧ u ≤ v + 1 := by
  rcases hr with z | ⟨⟨e, e1, e2⟩, -⟩
  · exact Or.inl z
  · right
    have e1' := e1
    obtain ⟨n, hn, m1, m2, m3⟩ := e1
    obtain ⟨t', v, u, u1, u2, u3, u4, u5, u6, -⟩ := (hI.2.1 n hn).1.1.1 e m1
    have et : t' = t := nI_inj (by omega) (by omega) (u2.symm.trans m2)
    subst et
    obtain ⟨o, o1, o2, o3⟩ := (pin_os hI.2.1 hI.2.2.1 ht (P := fun v => v = e 1)).mp ⟨e, e1', rfl⟩
    exact ⟨v, u, by rw [← e2]; exact u3, u4, u6, u5, hX.2 o o1 t' ht o2 u v u4 (o3.trans u3) u5 (by omega)⟩
theorem hands_tab (X : WK sh ad ma) (c : CI ad b m A kp len tx h) (hI : INV T (nN (A 0)) tk rm st (A 0).1 (A 0).2.1 (A 0).2.2.1.1 (A 0).2.2.1.2) (hRW : RW (A 0).2.2.1.1 (A 0).2.2.2.1) (hX : EX (A 0).1 (nN (A 0)) st (A 0).2.1 (A 0).2.2.1.1) (s3 : sh x3 = (7, 6)) (s4 : sh x4 = (7, 6))
    (hH : ∀ t, t < 6 → gi h x3 t = nI (hcN (A 0).2.1 t 4)) (hM : ∀ t, t < 6 → mn (pinE (A 0).2.1 (nI t) 4) (fun e => e 1) 9999 (gi h x4 t)) {Xc : Int32 → Hp → Prop} (hx : Xc 1 h) :
    lo (b_L_areHandsSo_470 sh (ad 0) x3 x4 Xc) ((1 : Int32), (0 : Int32)) h := by
  have h8 : ∀ n, n < 4 → ((A 0).2.1 n).2.length ≤ 8 := fun n hn => SI_8 hI.2.1 hn
  have hst9 : st ≤ 999 := hI.1.2.2.2.2.1.2
  refine lo_ind (fun d s h' => ∃ t, t + d = 7 ∧ t ≤ 6 ∧ s = ((1 : Int32), nI t) ∧ h' = h) ?_ ?_ (d := 7) ⟨0, by omega, by omega, rfl, rfl⟩
  · rintro s h' ⟨n, h1, h2, -⟩
    omega
  · rintro d rec hrec s h' ⟨t, h1, h2, rfl, rfl⟩
    unfold b_L_areHandsSo_470
    dsimp only
    by_cases hz : t = 6
    · subst hz
      rw [if_pos ge6]
      exact hx
    · have ht : t < 6 := by omega
      have hv := SI_vs hI.2.1 t ht
      rw [if_neg (lt6 ht), x_t0 X]
      refine t_tab2 X c ht hv (fun r135 hlow => ?_)
      refine t_way X c ht (fun r138 hway => ?_)
      have lo_ := low_f hI hX ht hlow
      -- the counts and the least version
      refine dj_i (1 : Int32) h' ?_ (fun J hJ => ?_)
      · refine dj_i (1 : Int32) h' ?_ (fun J hJ => ?_)
        · rw [nI_1]
          exact hrec _ _ ⟨t + 1, by omega, by omega, rfl, rfl⟩
        · refine if_n (by decide) ?_
          -- who stands in the way
          have wayP : ∀ e, behW (A 0).2.2.2.1 ((A 0).1 (5 + t)) t 4 e → ¬ e 0 < 0 := fun e ⟨n, n1, j, j1, e1, e2, _⟩ => e2
          by_cases can : ∀ e, pinE (A 0).2.1 (nI t) 4 e → (A 0).1 (5 + t) ≤ e 1
          · have nob : ∀ e, ¬ behW (A 0).2.2.2.1 ((A 0).1 (5 + t)) t 4 e := fun e z => by
              obtain ⟨e', q1, q2⟩ := (beh_pin hI hRW ht).mp ⟨e, z⟩
              exact q2 (can e' q1)
            have hw4 : r138 = -4 := hway.elim (fun z => z.1) (fun ⟨⟨e, e1, _⟩, _⟩ => absurd e1 (nob e))
            subst hw4
            refine dj_i (1 : Int32) h' ?_ (fun J' hJ' => if_y rfl hJ')
            refine t_tab4 X c ht hv (fun _ => ?_) (fun ⟨e, z1, z2⟩ => absurd (can e z1) z2)
            refine dj_i (1 : Int32) h' ?_ (fun J' hJ' => if_y rfl hJ')
            refine if_y rfl ?_
            refine t_cnt7 X c (SI_vs hI.2.1) ?_
            refine t_tab4 X c ht hv (fun _ => ?_) (fun ⟨e, z1, z2⟩ => absurd (can e z1) z2)
            refine if_y (tcS_b1 ht can) ?_
            refine dj_i (0 : Int32) h' ?_ (fun J' hJ' => ?_)
            · refine dj_i (0 : Int32) h' ?_ (fun J' hJ' => if_y (by decide) hJ')
              refine if_y rfl (if_y (by decide) hJ)
            · by_cases c0 : r135 < 0
              · exact if_y c0 hJ'
              · refine if_n c0 ?_
                refine t_tab0 X c ht ?_
                refine if_y ?_ hJ'
                rcases hlow with ⟨z, -⟩ | ⟨⟨e, e1, e2⟩, -⟩
                · exact absurd z (m4_neg c0)
                · rw [← e2]; exact can e e1
          · have hex : ∃ e, pinE (A 0).2.1 (nI t) 4 e ∧ ¬ (A 0).1 (5 + t) ≤ e 1 := by
              apply Classical.byContradiction
              intro z
              exact can (fun e e1 => Classical.byContradiction (fun y => z ⟨e, e1, y⟩))
            obtain ⟨wb, hwb⟩ := (beh_pin hI hRW ht).mpr hex
            obtain ⟨e, e1, e2⟩ : ∃ e, behW (A 0).2.2.2.1 ((A 0).1 (5 + t)) t 4 e ∧ e 0 = r138 := hway.elim (fun z => absurd hwb (z.2 wb)) (fun z => z.1)
            have hneg : ¬ r138 < 0 := by rw [← e2]; exact wayP e e1
            refine dj_i (0 : Int32) h' ?_ (fun J' hJ' => if_n (m4_neg hneg) hJ')
            refine t_tab4 X c ht hv (fun z => absurd z can) (fun _ => ?_)
            refine dj_i (0 : Int32) h' ?_ (fun J' hJ' => if_n (by decide) hJ')
            refine if_y rfl ?_
            refine t_cnt7 X c (SI_vs hI.2.1) ?_
            refine t_tab4 X c ht hv (fun z => absurd z can) (fun _ => ?_)
            refine if_y (tcS_b0 ht can) ?_
            have hlt : ¬ r135 < 0 ∧ ¬ (A 0).1 (5 + t) ≤ r135 := by
              obtain ⟨e', p1, p2⟩ := hex
              rcases hlow with ⟨-, z⟩ | ⟨-, z⟩
              · exact absurd p1 (z e')
              · refine ⟨?_, fun y => p2 (Int32.le_trans y (z e' p1))⟩
                rcases lo_ with ⟨-, y⟩ | ⟨v, u, y1, y2, y3, y4, y5⟩
                · exact absurd p1 (y e')
                · rw [y1]; exact nI_pos (by omega)
            refine dj_i (1 : Int32) h' ?_ (fun J' hJ' => if_n hlt.1 (t_tab0 X c ht (if_n hlt.2 hJ')))
            refine dj_i (1 : Int32) h' ?_ (fun J' hJ' => if_n hneg hJ')
            refine if_y rfl (if_n hneg ?_)
            obtain ⟨n, hn, j, hj, ew, w1, w2, w3⟩ := e1
            subst ew
            refine t_stmt X c hn hj (q := 3) (nlt_le.mp hneg) e2 (by omega) (fun n' j' a1 a2 a3 => ?_) (fun z => absurd z (by decide)) (fun z => absurd z (by decide)) (fun z => absurd z (by decide)) (fun _ => ?_)
            · exact hRW.2.2.1 n' j' n j a1 a2 hn hj (a3.trans e2.symm) (fun z => by rw [a3] at z; exact hneg (by rw [z]; decide))
            · rw [olN_tcS]
              exact if_y (tcS_b1 (P := fun t => bitp ((A 0).2.2.2.1 n j 1) t ∧ ¬ (A 0).1 (5 + t) ≤ (A 0).2.2.2.1 n j (3 + t)) ht ⟨w2, w3⟩) hJ
      · refine if_n (by decide) ?_
        rw [ty_t (by rw [s3]), lI_t (by rw [s3]; exact ht) (by rw [s3]; decide), hH t ht]
        refine t_tab3 X c ht (SI_uq hI.2.1 ht) ?_
        rw [hcN_hwN (SI_uq hI.2.1 ht) h8 4 (Nat.le_refl _)]
        refine if_y rfl ?_
        have rd : ∀ {P : Int32 → Prop}, lI sh h' x4 (nI t) P = P (gi h' x4 t) := lI_t (by rw [s4]; exact ht) (by rw [s4]; decide)
        rw [ty_t (by rw [s4]), rd]
        have hm := hM t ht
        have fin : r135 = r135 → (if r135 < 0 then J (1 : Int32) h' else f_X5_tableOf sh (ad 0) (nI t) (0 : Int32) h' fun r156 h157 => if r135 < (r156 - (1 : Int32)) then J (0 : Int32) h157 else J (1 : Int32) h157) := fun _ => by
          by_cases c0 : r135 < 0
          · exact if_y c0 hJ
          · refine if_n c0 (t_tab0 X c ht (if_n ?_ hJ))
            rcases lo_ with ⟨z, -⟩ | ⟨v, u, y1, y2, y3, y4, y5⟩
            · exact absurd z (m4_neg c0)
            · rw [y1, y2]
              intro z
              by_cases u0 : u = 0
              · subst u0
                rw [show nI 0 - (1 : Int32) = -1 from rfl] at z
                have := nI_pos (n := v) (by omega)
                rw [Int32.lt_iff_toInt_lt] at z this
                have e : (-1 : Int32).toInt = -1 := by decide
                have e0 : (0 : Int32).toInt = 0 := by decide
                omega
              · rw [show (1 : Int32) = nI 1 from rfl, nI_sub (by omega), nI_ltI (by omega) (by omega)] at z
                omega
        refine dj_i r135 h' (if_y rfl (fin rfl)) (fun J' hJ' => ?_)
        rcases hm with ⟨z1, z2⟩ | ⟨⟨e, e1, e2⟩, z2⟩
        · rw [z1]
          refine if_y rfl ?_
          have : r135 = -4 := hlow.elim (fun z => z.1) (fun ⟨⟨e, e1, _⟩, _⟩ => absurd e1 (z2 e))
          rw [this] at hJ'
          exact hJ'
        · have er : gi h' x4 t = r135 := by
            rcases hlow with ⟨-, y⟩ | ⟨⟨e', p1, p2⟩, y⟩
            · exact absurd e1 (y e)
            · have a1 : gi h' x4 t ≤ e' 1 := z2 e' p1
              have a2 : r135 ≤ e 1 := y e e1
              have b1 : e 1 = gi h' x4 t := e2
              have b2 : e' 1 = r135 := p2
              rw [b2] at a1
              rw [b1] at a2
              rw [Int32.le_iff_toInt_le] at a1 a2
              apply Int32.toInt_inj.mp
              omega
          rw [er]
          refine if_n (fun z => ?_) (by rw [rd, er]; exact hJ')
          rcases lo_ with ⟨-, y⟩ | ⟨v, u, y1, y2, y3, y4, y5⟩
          · exact absurd e1 (y e)
          · rw [y1] at z
            have := nI_inj (b := 9999) (by omega) (by omega) z
            omega
/-- the look at all hands is always so -/
theorem hands_g (X : WK sh ad ma) (c : CI ad b m A kp len tx h) (hI : INV T (nN (A 0)) tk rm st (A 0).1 (A 0).2.1 (A 0).2.2.1.1 (A 0).2.2.1.2) (hRW : RW (A 0).2.2.1.1 (A 0).2.2.2.1) (hX : EX (A 0).1 (nN (A 0)) st (A 0).2.1 (A 0).2.2.1.1) (s3 : sh x3 = (7, 6)) (s4 : sh x4 = (7, 6)) (n34 : x3 ≠ x4) (o3 : ∀ p, ad p ≠ x3) (o4 : ∀ p, ad p ≠ x4) (hH : ∀ t, t < 6 → gi h x3 t = 0) {K : Int32 → Hp → Prop} (hk : ∀ h', CI ad b m A kp len tx h' → K 1 h') : g_L_areHandsSo sh (ad 0) x3 x4 h K := by
  unfold g_L_areHandsSo
  refine lo_ind (fun d s h' => ∃ k, k + d = 7 ∧ k ≤ 6 ∧ s = nI k ∧ CI ad b m A kp len tx h' ∧ (∀ t, t < 6 → gi h' x3 t = 0) ∧ ∀ t, t < k → gi h' x4 t = 9999) ?_ ?_ (d := 7) ⟨0, by omega, by omega, rfl, c, hH, fun t ht => absurd ht (Nat.not_lt_zero t)⟩
  · rintro s h' ⟨k, h1, h2, -⟩
    omega
  · rintro d rec hrec s h' ⟨k, h1, h2, rfl, c', hH', hM'⟩
    unfold b_L_areHandsSo_18
    by_cases hz : k = 6
    · subst hz
      rw [if_pos ge6]
      refine hands_out X c' hI hRW hX s3 s4 n34 o3 o4 hH' hM' (fun h2 c2 hH2 hM2 => ?_)
      rw [x_t0 X]
      refine t_cnt3 X c2 ?_
      refine dj_i (1 : Int32) h2 ?_ (fun J hJ => if_y rfl (t_cnt8 X c2 (if_y rfl hJ)))
      refine hands_tab X c2 hI hRW hX s3 s4 hH2 hM2 ?_
      exact ⟨Or.inr rfl, hk h2 c2⟩
    · have hk6 : k < 6 := by omega
      rw [if_neg (lt6 hk6), ty_t (by rw [s4]), sI_t (by rw [s4]; exact hk6) (by rw [s4]; decide), nI_1]
      refine hrec _ _ ⟨k + 1, by omega, by omega, rfl, CI_m (EQa_x o4) c', fun t ht => by rw [gi_si_ne n34]; exact hH' t ht, fun t ht => ?_⟩
      by_cases e : t = k
      · subst e; rw [gi_si]
      · rw [gi_si_k e]; exact hM' t (by omega)
end PT

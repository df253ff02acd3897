/-! what the class answers, by the state that it holds -/
section PR
variable {sh : Sh} {ad ma : Nat → Nat} {h : Hp} {b : Nat → Nat} {m len : Nat} {A : Nat → AS} {kp : Option AS} {tx : Nat → Int32} {n t : Nat} {K : Int32 → Hp → Prop}
theorem t_tab0 (X : WK sh ad ma) (c : CI ad b m A kp len tx h) (ht : t < 6) (hk : K ((A 0).1 (5 + t)) h) : f_X5_tableOf sh (ad 0) (nI t) (0 : Int32) h K := by
  have hb := c.1
  have hT := x_T X hb (i := 0) (by omega)
  have c0 := c.2.2.2.1
  unfold f_X5_tableOf
  rw [if_neg (nI_pos (by omega)), if_pos (by rw [show (6 : Int32) = nI 6 from rfl, nI_ltI (by omega) (by omega)]; exact ht)]
  refine if_y rfl ?_
  rw [x_t0 X, gR_t c.2.1.1, x_tb X hb (by omega), gR_t c0.1.1, ct_t1 hT, ct_l1 hT ht, (c0.2.2.1 t ht).1]
  exact hk
theorem t_tab1 (X : WK sh ad ma) (c : CI ad b m A kp len tx h) (ht : t < 6) (hk : K ((A 0).1 (11 + t)) h) : f_X5_tableOf sh (ad 0) (nI t) (1 : Int32) h K := by
  have hb := c.1
  have hT := x_T X hb (i := 0) (by omega)
  have c0 := c.2.2.2.1
  unfold f_X5_tableOf
  rw [if_neg (nI_pos (by omega)), if_pos (by rw [show (6 : Int32) = nI 6 from rfl, nI_ltI (by omega) (by omega)]; exact ht)]
  refine if_n (by decide) (if_y rfl ?_)
  rw [x_t0 X, gR_t c.2.1.1, x_tb X hb (by omega), gR_t c0.1.2.1, ct_t2 hT, ct_l2 hT ht, (c0.2.2.1 t ht).2]
  exact hk
theorem t_tab2 (X : WK sh ad ma) (c : CI ad b m A kp len tx h) (ht : t < 6) (hv : ∀ n, n < 4 → vsrt (nI t) ((A 0).2.1 n).2) (hk : ∀ r, mn (pinE (A 0).2.1 (nI t) 4) (fun e => e 1) (-4) r → K r h) : f_X5_tableOf sh (ad 0) (nI t) (2 : Int32) h K := by
  have hb := c.1
  have hT := x_T X hb (i := 0) (by omega)
  have c0 := c.2.2.2.1
  unfold f_X5_tableOf
  rw [if_neg (nI_pos (by omega)), if_pos (by rw [show (6 : Int32) = nI 6 from rfl, nI_ltI (by omega) (by omega)]; exact ht)]
  refine if_n (by decide) (if_n (by decide) (if_y rfl ?_))
  rw [x_t0 X, gR_t c.2.1.1, x_tb X hb (by omega)]
  exact c_leastVT hT c0 hv hk
theorem t_tab3 (X : WK sh ad ma) (c : CI ad b m A kp len tx h) (ht : t < 6) (hu : ∀ n, n < 4 → uniqF (nI t) ((A 0).2.1 n).2) (hk : K (nI (hwN (A 0).2.1 (nI t) 4)) h) : f_X5_tableOf sh (ad 0) (nI t) (3 : Int32) h K := by
  have hb := c.1
  have hT := x_T X hb (i := 0) (by omega)
  have c0 := c.2.2.2.1
  unfold f_X5_tableOf
  rw [if_neg (nI_pos (by omega)), if_pos (by rw [show (6 : Int32) = nI 6 from rfl, nI_ltI (by omega) (by omega)]; exact ht)]
  refine if_n (by decide) (if_n (by decide) (if_n (by decide) (if_y rfl ?_)))
  rw [x_t0 X, gR_t c.2.1.1, x_tb X hb (by omega)]
  exact c_handsWith hT c0 hu hk
theorem t_tab4 (X : WK sh ad ma) (c : CI ad b m A kp len tx h) (ht : t < 6) (hv : ∀ n, n < 4 → vsrt (nI t) ((A 0).2.1 n).2) (k1 : (∀ e, pinE (A 0).2.1 (nI t) 4 e → (A 0).1 (5 + t) ≤ e 1) → K 1 h) (k0 : (∃ e, pinE (A 0).2.1 (nI t) 4 e ∧ ¬ (A 0).1 (5 + t) ≤ e 1) → K 0 h) : f_X5_tableOf sh (ad 0) (nI t) (4 : Int32) h K := by
  have hb := c.1
  have hT := x_T X hb (i := 0) (by omega)
  have c0 := c.2.2.2.1
  unfold f_X5_tableOf
  rw [if_neg (nI_pos (by omega)), if_pos (by rw [show (6 : Int32) = nI 6 from rfl, nI_ltI (by omega) (by omega)]; exact ht)]
  refine if_n (by decide) (if_n (by decide) (if_n (by decide) (if_n (by decide) (if_y rfl ?_))))
  rw [x_t0 X, gR_t c.2.1.1, x_tb X hb (by omega)]
  refine c_canChange hT c0 ht hv (fun z => ?_) (fun z => ?_)
  · exact if_n (by decide) (k1 z)
  · exact if_y rfl (k0 z)
theorem t_ses0 (X : WK sh ad ma) (c : CI ad b m A kp len tx h) (hn : n < 4) (hk : K (((A 0).2.1 n).1 0) h) : f_X5_sessionOf sh (ad 0) (nI n) (0 : Int32) h K := by
  have hb := c.1
  have hT := x_T X hb (i := 0) (by omega)
  have c0 := c.2.2.2.1
  have hcs := c0.2.2.2.2.2 n hn
  have X1 := ct_SK hT hn
  unfold f_X5_sessionOf
  rw [if_neg (nI_pos (by omega)), if_pos (by rw [show (4 : Int32) = nI 4 from rfl, nI_ltI (by omega) (by omega)]; exact hn), x_t0 X, gR_t c.2.1.1, x_tb X hb (by omega), tp_ses hT c0.1 hn]
  refine if_y rfl ?_
  rw [cs_t0 X1, gI_t, hcs.2.1 0 (by omega)]
  exact hk
theorem t_ses2 (X : WK sh ad ma) (c : CI ad b m A kp len tx h) (hn : n < 4) (hk : K (nI ((A 0).2.1 n).2.length) h) : f_X5_sessionOf sh (ad 0) (nI n) (2 : Int32) h K := by
  have hb := c.1
  have hT := x_T X hb (i := 0) (by omega)
  have c0 := c.2.2.2.1
  have hcs := c0.2.2.2.2.2 n hn
  have X1 := ct_SK hT hn
  unfold f_X5_sessionOf
  rw [if_neg (nI_pos (by omega)), if_pos (by rw [show (4 : Int32) = nI 4 from rfl, nI_ltI (by omega) (by omega)]; exact hn), x_t0 X, gR_t c.2.1.1, x_tb X hb (by omega), tp_ses hT c0.1 hn]
  refine if_n (by decide) (if_n (by decide) (if_y rfl ?_))
  rw [cs_t0 X1, gI_t, hcs.2.2.1]
  exact hk
theorem t_ses3 (X : WK sh ad ma) (c : CI ad b m A kp len tx h) (hn : n < 4) (h5 : ∀ i, i < ((A 0).2.1 n).2.length → hd ((A 0).2.1 n).2 i 5 = 0 ∨ hd ((A 0).2.1 n).2 i 5 = 1) (hk : K (sum5 ((A 0).2.1 n).2 ((A 0).2.1 n).2.length) h) : f_X5_sessionOf sh (ad 0) (nI n) (3 : Int32) h K := by
  have hb := c.1
  have hT := x_T X hb (i := 0) (by omega)
  have c0 := c.2.2.2.1
  have hcs := c0.2.2.2.2.2 n hn
  have X1 := ct_SK hT hn
  unfold f_X5_sessionOf
  rw [if_neg (nI_pos (by omega)), if_pos (by rw [show (4 : Int32) = nI 4 from rfl, nI_ltI (by omega) (by omega)]; exact hn), x_t0 X, gR_t c.2.1.1, x_tb X hb (by omega), tp_ses hT c0.1 hn]
  refine if_n (by decide) (if_n (by decide) (if_n (by decide) (if_y rfl ?_)))
  rw [cs_t0 X1]
  exact c_stale X1 hcs h5 hk
theorem t_ses4 (X : WK sh ad ma) (c : CI ad b m A kp len tx h) (hn : n < 4) (hk : K (nI (cntW ((A 0).2.2.2.1 n) 4)) h) : f_X5_sessionOf sh (ad 0) (nI n) (4 : Int32) h K := by
  have hb := c.1
  have hT := x_T X hb (i := 0) (by omega)
  have c0 := c.2.2.2.1
  have hcs := c0.2.2.2.2.2 n hn
  have X1 := ct_SK hT hn
  unfold f_X5_sessionOf
  rw [if_neg (nI_pos (by omega)), if_pos (by rw [show (4 : Int32) = nI 4 from rfl, nI_ltI (by omega) (by omega)]; exact hn), x_t0 X, gR_t c.2.1.1, x_tb X hb (by omega), tp_ses hT c0.1 hn]
  refine if_n (by decide) (if_n (by decide) (if_n (by decide) (if_n (by decide) (if_y rfl ?_))))
  rw [cs_t0 X1]
  exact c_atWork X1 hcs hk
theorem t_ses5 (X : WK sh ad ma) (c : CI ad b m A kp len tx h) (hn : n < 4) (hk : K (((A 0).2.1 n).1 1) h) : f_X5_sessionOf sh (ad 0) (nI n) (5 : Int32) h K := by
  have hb := c.1
  have hT := x_T X hb (i := 0) (by omega)
  have c0 := c.2.2.2.1
  have hcs := c0.2.2.2.2.2 n hn
  have X1 := ct_SK hT hn
  unfold f_X5_sessionOf
  rw [if_neg (nI_pos (by omega)), if_pos (by rw [show (4 : Int32) = nI 4 from rfl, nI_ltI (by omega) (by omega)]; exact hn), x_t0 X, gR_t c.2.1.1, x_tb X hb (by omega), tp_ses hT c0.1 hn]
  refine if_n (by decide) (if_n (by decide) (if_n (by decide) (if_n (by decide) (if_n (by decide) (if_y rfl ?_)))))
  rw [cs_t0 X1, gI_t, hcs.2.1 1 (by omega)]
  exact hk
theorem t_ses6 (X : WK sh ad ma) (c : CI ad b m A kp len tx h) (hn : n < 4) (hk : K (((A 0).2.1 n).1 2) h) : f_X5_sessionOf sh (ad 0) (nI n) (6 : Int32) h K := by
  have hb := c.1
  have hT := x_T X hb (i := 0) (by omega)
  have c0 := c.2.2.2.1
  have hcs := c0.2.2.2.2.2 n hn
  have X1 := ct_SK hT hn
  unfold f_X5_sessionOf
  rw [if_neg (nI_pos (by omega)), if_pos (by rw [show (4 : Int32) = nI 4 from rfl, nI_ltI (by omega) (by omega)]; exact hn), x_t0 X, gR_t c.2.1.1, x_tb X hb (by omega), tp_ses hT c0.1 hn]
  refine if_n (by decide) (if_n (by decide) (if_n (by decide) (if_n (by decide) (if_n (by decide) (if_n (by decide) (if_y rfl ?_))))))
  rw [cs_t0 X1, gI_t, hcs.2.1 2 (by omega)]
  exact hk
theorem t_ses7 (X : WK sh ad ma) (c : CI ad b m A kp len tx h) (hn : n < 4) (hk : K (((A 0).2.1 n).1 3) h) : f_X5_sessionOf sh (ad 0) (nI n) (7 : Int32) h K := by
  have hb := c.1
  have hT := x_T X hb (i := 0) (by omega)
  have c0 := c.2.2.2.1
  have hcs := c0.2.2.2.2.2 n hn
  have X1 := ct_SK hT hn
  unfold f_X5_sessionOf
  rw [if_neg (nI_pos (by omega)), if_pos (by rw [show (4 : Int32) = nI 4 from rfl, nI_ltI (by omega) (by omega)]; exact hn), x_t0 X, gR_t c.2.1.1, x_tb X hb (by omega), tp_ses hT c0.1 hn]
  refine if_n (by decide) (if_n (by decide) (if_n (by decide) (if_n (by decide) (if_n (by decide) (if_n (by decide) (if_n (by decide) (if_y rfl ?_)))))))
  rw [cs_t0 X1, gI_t, hcs.2.1 3 (by omega)]
  exact hk
/-- an entry -/
theorem t_ent (X : WK sh ad ma) (c : CI ad b m A kp len tx h) (hn : n < 4) {i q : Nat} (hi : i < ((A 0).2.1 n).2.length) (hq : q < 6) (h5 : hd ((A 0).2.1 n).2 i 5 = 0 ∨ hd ((A 0).2.1 n).2 i 5 = 1) (hk : K (hd ((A 0).2.1 n).2 i q) h) : f_X5_entry sh (ad 0) (nI n) (nI i) (nI q) h K := by
  have hb := c.1
  have hT := x_T X hb (i := 0) (by omega)
  have c0 := c.2.2.2.1
  have hcs := c0.2.2.2.2.2 n hn
  have X1 := ct_SK hT hn
  obtain ⟨pm, hp⟩ := CS_p hcs
  obtain ⟨⟨p7, p8, p10⟩, m1, m6, m8, ⟨w1, w2, w3⟩, w4, m9⟩ := hp
  unfold f_X5_entry
  rw [if_neg (nI_pos (by omega)), if_neg (lt4 hn), if_neg (nI_pos (by omega)), if_neg (nI_pos (by omega)), if_pos (by rw [show (5 : Int32) = nI 5 from rfl, nI_leI (by omega) (by omega)]; omega), x_t0 X, gR_t c.2.1.1, x_tb X hb (by omega), tp_ses hT c0.1 hn, cs_t0 X1, gI_t, m6]
  rw [if_pos (by rw [nI_ltI (by omega) (by omega)]; exact hi), gR_t p7, cs_t1 X1, cs_lR1 X1 (by omega) (w3 i (by omega))]
  have rd : ∀ k, k < 6 → gi h (ad (b 0 + 8 + 19 * n + 2 + pm i)) k = hd ((A 0).2.1 n).2 i k := fun k hk => w4 i hi k hk
  have t2 : ∀ {P : Prop}, ty sh (ad (b 0 + 8 + 19 * n + 2 + pm i)) 0 P = P := cs_t2 X1 (w1 i (by omega))
  match q, hq with
  | 0, _ => refine if_y rfl ?_; rw [t2, gI_t, rd 0 (by omega)]; exact hk
  | 1, _ => refine if_n (by decide) (if_y rfl ?_); rw [t2, gI_t, rd 1 (by omega)]; exact hk
  | 2, _ => refine if_n (by decide) (if_n (by decide) (if_y rfl ?_)); rw [t2, gI_t, rd 2 (by omega)]; exact hk
  | 3, _ => refine if_n (by decide) (if_n (by decide) (if_n (by decide) (if_y rfl ?_))); rw [t2, gI_t, rd 3 (by omega)]; exact hk
  | 4, _ => refine if_n (by decide) (if_n (by decide) (if_n (by decide) (if_n (by decide) (if_y rfl ?_)))); rw [t2, gI_t, rd 4 (by omega)]; exact hk
  | 5, _ =>
    refine if_n (by decide) (if_n (by decide) (if_n (by decide) (if_n (by decide) (if_n (by decide) ?_))))
    rw [t2, gI_t, rd 5 (by omega)]
    rcases h5 with e | e
    · rw [if_pos e, ← e]; exact hk
    · rw [if_neg (by rw [e]; decide), ← e]; exact hk
theorem t_entE (X : WK sh ad ma) (c : CI ad b m A kp len tx h) (hn : n < 4) (hk : K (-4) h) : f_X5_entry sh (ad 0) (nI n) (nI ((A 0).2.1 n).2.length) (0 : Int32) h K := by
  have hb := c.1
  have hT := x_T X hb (i := 0) (by omega)
  have c0 := c.2.2.2.1
  have hcs := c0.2.2.2.2.2 n hn
  have X1 := ct_SK hT hn
  have h8 := hcs.2.2.2.1
  unfold f_X5_entry
  rw [if_neg (nI_pos (by omega)), if_neg (lt4 hn), if_neg (nI_pos (by omega)), if_neg (by decide), if_pos (by decide), x_t0 X, gR_t c.2.1.1, x_tb X hb (by omega), tp_ses hT c0.1 hn, cs_t0 X1, gI_t, hcs.2.2.1]
  exact if_n ilt_irr hk
theorem t_cnt0 (X : WK sh ad ma) (c : CI ad b m A kp len tx h) (hk : K ((A 0).1 0) h) : f_X5_count sh (ad 0) (0 : Int32) h K := by
  unfold f_X5_count
  refine if_y rfl ?_
  rw [x_t0 X, gR_t c.2.1.1, x_tb X c.1 (by omega), gI_t, c.2.2.2.1.2.1.1]
  exact hk
theorem t_cnt1 (X : WK sh ad ma) (c : CI ad b m A kp len tx h) (hk : K ((A 0).1 1) h) : f_X5_count sh (ad 0) (1 : Int32) h K := by
  unfold f_X5_count
  refine if_n (by decide) (if_y rfl ?_)
  rw [x_t0 X, gR_t c.2.1.1, x_tb X c.1 (by omega), gI_t, c.2.2.2.1.2.1.2.2.2.1]
  exact hk
theorem t_cnt2 (X : WK sh ad ma) (c : CI ad b m A kp len tx h) (hk : K ((A 0).1 2) h) : f_X5_count sh (ad 0) (2 : Int32) h K := by
  unfold f_X5_count
  refine if_n (by decide) (if_n (by decide) (if_y rfl ?_))
  rw [x_t0 X, gR_t c.2.1.1, x_tb X c.1 (by omega), gI_t, c.2.2.2.1.2.1.2.2.2.2]
  exact hk
theorem t_cnt3 (X : WK sh ad ma) (c : CI ad b m A kp len tx h) (hk : K (nI (satN (A 0).2.2.2.1 4)) h) : f_X5_count sh (ad 0) (3 : Int32) h K := by
  have hT := x_T X c.1 (i := 0) (by omega)
  unfold f_X5_count
  refine if_n (by decide) (if_n (by decide) (if_n (by decide) (if_y rfl ?_)))
  rw [x_t0 X, gR_t c.2.1.1, x_tb X c.1 (by omega)]
  exact c_stAtWork hT c.2.2.2.1 hk
theorem t_cnt7 (X : WK sh ad ma) (c : CI ad b m A kp len tx h) (hv : ∀ t, t < 6 → ∀ n, n < 4 → vsrt (nI t) ((A 0).2.1 n).2) (hk : K (tcS (fun t => ∀ e, pinE (A 0).2.1 (nI t) 4 e → (A 0).1 (5 + t) ≤ e 1) 6) h) : f_X5_count sh (ad 0) (7 : Int32) h K := by
  have hT := x_T X c.1 (i := 0) (by omega)
  unfold f_X5_count
  refine if_n (by decide) (if_n (by decide) (if_n (by decide) (if_n (by decide) (if_n (by decide) (if_n (by decide) (if_n (by decide) (if_y rfl ?_)))))))
  rw [x_t0 X, gR_t c.2.1.1, x_tb X c.1 (by omega)]
  exact c_tablesCC hT c.2.2.2.1 hv hk
theorem t_cnt8 (X : WK sh ad ma) (c : CI ad b m A kp len tx h) (hk : K (ldN (A 0).2.1 4) h) : f_X5_count sh (ad 0) (8 : Int32) h K := by
  have hT := x_T X c.1 (i := 0) (by omega)
  unfold f_X5_count
  refine if_n (by decide) (if_n (by decide) (if_n (by decide) (if_n (by decide) (if_n (by decide) (if_n (by decide) (if_n (by decide) (if_n (by decide) (if_y rfl ?_))))))))
  rw [x_t0 X, gR_t c.2.1.1, x_tb X c.1 (by omega)]
  exact c_loadsOfAll hT c.2.2.2.1 hk
theorem t_cnt21 (X : WK sh ad ma) (c : CI ad b m A kp len tx h) (hk : K ((A 0).1 4) h) : f_X5_count sh (ad 0) (21 : Int32) h K := by
  unfold f_X5_count
  refine if_n (by decide) (if_n (by decide) (if_n (by decide) (if_n (by decide) (if_n (by decide) (if_n (by decide) (if_n (by decide) (if_n (by decide) (if_n (by decide) (if_n (by decide) (if_n (by decide) (if_n (by decide) (if_n (by decide) (if_n (by decide) (if_n (by decide) (if_n (by decide) (if_n (by decide) (if_n (by decide) (if_n (by decide) (if_n (by decide) (if_n (by decide) (if_y rfl ?_)))))))))))))))))))))
  rw [x_t0 X, gR_t c.2.1.1, x_tb X c.1 (by omega), gI_t, c.2.2.2.1.2.1.2.2.1]
  exact hk
/-- the statement at a place -/
theorem t_stmt (X : WK sh ad ma) (c : CI ad b m A kp len tx h) (hn : n < 4) {j q : Nat} (hj : j < 4) {x : Int32} (hx : 0 ≤ x) (hw : (A 0).2.2.2.1 n j 0 = x) (hq : q < 4) (hu : ∀ n' j', n' < 4 → j' < 4 → (A 0).2.2.2.1 n' j' 0 = x → n' = n ∧ j' = j) (k0 : q = 0 → K (nI n) h) (k1 : q = 1 → K ((A 0).2.2.2.1 n j 1) h) (k2 : q = 2 → K ((A 0).2.2.2.1 n j 2) h) (k3 : q = 3 → K (olN ((A 0).2.2.2.1 n j 1) (fun t => (A 0).2.2.2.1 n j (3 + t)) (A 0).1 6) h) : f_X5_statement sh (ad 0) x (nI q) h K := by
  have hb := c.1
  have hT := x_T X hb (i := 0) (by omega)
  have c0 := c.2.2.2.1
  have X1 := ct_SK hT hn
  have hcs := c0.2.2.2.2.2 n hn
  unfold f_X5_statement
  rw [if_neg (nlt_le.mpr hx), if_neg (nI_pos (by omega)), if_pos (by rw [show (3 : Int32) = nI 3 from rfl, nI_leI (by omega) (by omega)]; omega), x_t0 X, gR_t c.2.1.1, x_tb X hb (by omega)]
  refine c_sesWith hT c0 hx (fun n' j' n1 j1 e _ => ?_) (fun z => absurd hw (z n j hn hj))
  obtain ⟨en, ej⟩ := hu n' j' n1 j1 e
  subst en; subst ej
  rw [if_neg (nI_pos (by omega)), if_pos (by rw [show (4 : Int32) = nI 4 from rfl, nI_ltI (by omega) (by omega)]; exact hn), gR_t c.2.1.1, x_tb X hb (by omega), tp_ses hT c0.1 hn, cs_t0 X1]
  refine c_workOf X1 hcs (fun _ j2 j3 e2 _ => ⟨fun z => absurd z (by simp), fun q15 z => ?_⟩) (fun z => absurd hw (z hx j' hj))
  cases z
  obtain ⟨-, e3⟩ := hu n' j2 hn j3 e2
  subst e3
  match q, hq with
  | 0, _ => exact if_y rfl (k0 rfl)
  | 1, _ => refine if_n (by decide) (if_y rfl ?_); rw [cs_t11 X1 hj, gI_t, cs_w hcs hj (by omega)]; exact k1 rfl
  | 2, _ => refine if_n (by decide) (if_n (by decide) (if_y rfl ?_)); rw [cs_t11 X1 hj, gI_t, cs_w hcs hj (by omega)]; exact k2 rfl
  | 3, _ =>
    refine if_n (by decide) (if_n (by decide) (if_n (by decide) ?_))
    rw [gR_t c.2.1.1, x_tb X hb (by omega), gR_t c0.1.1, cs_t11 X1 hj]
    exact c_outrun hT c0 hn hj (k3 rfl)
/-- who stands in the way -/
theorem t_way (X : WK sh ad ma) (c : CI ad b m A kp len tx h) (ht : t < 6) (hk : ∀ r, mn (behW (A 0).2.2.2.1 ((A 0).1 (5 + t)) t 4) (fun e => e 0) (-4) r → K r h) : f_X5_inTheWay sh (ad 0) (nI t) h K := by
  have hb := c.1
  have hT := x_T X hb (i := 0) (by omega)
  have c0 := c.2.2.2.1
  unfold f_X5_inTheWay
  rw [if_neg (nI_pos (by omega)), if_pos (by rw [show (6 : Int32) = nI 6 from rfl, nI_ltI (by omega) (by omega)]; exact ht)]
  refine lo_ind (fun d s' h' => ∃ k r, k + d = 5 ∧ k ≤ 4 ∧ s' = (r, nI k) ∧ h' = h ∧ mn (behW (A 0).2.2.2.1 ((A 0).1 (5 + t)) t k) (fun e => e 0) (-4) r) ?_ ?_ (d := 5) ⟨0, -4, by omega, by omega, rfl, rfl, mn_iff mn_none (fun x => ⟨fun z => z.elim, fun ⟨n, n1, _⟩ => absurd n1 (Nat.not_lt_zero n)⟩)⟩
  · rintro s' h' ⟨k, r, h1, h2, -⟩
    omega
  · rintro d rec hrec s' h' ⟨k, r, h1, h2, rfl, rfl, h3⟩
    unfold b_X5_inTheWay_17
    dsimp only
    by_cases hz : k = 4
    · subst hz
      rw [if_pos ge4]
      exact hk r h3
    · have hk4 : k < 4 := by omega
      have nx := fun v z => hrec (v, nI (k + 1)) h' ⟨k + 1, v, by omega, by omega, rfl, rfl, mn_iff z (fun x => behW_s)⟩
      rw [if_neg (lt4 hk4), x_t0 X, gR_t c.2.1.1, x_tb X hb (by omega), tp_ses hT c0.1 hk4, gR_t c.2.1.1, x_tb X hb (by omega), gR_t c0.1.1, ct_t1 hT, ct_l1 hT ht, (c0.2.2.1 t ht).1, cs_t0 (ct_SK hT hk4), nI_1]
      refine c_lowest (ct_SK hT hk4) (c0.2.2.2.2.2 k hk4) ht (fun r2 hr2 => ?_)
      have hr2 := mn_of hr2
      have p2 : ∀ e, (e ∈ (List.range 4).map ((A 0).2.2.2.1 k) ∧ ¬ e 0 < 0 ∧ bitp (e 1) t ∧ ¬ (A 0).1 (5 + t) ≤ e (3 + t)) → ¬ e 0 < 0 := fun e q => q.2.1
      have p1 : ∀ e, behW (A 0).2.2.2.1 ((A 0).1 (5 + t)) t k e → ¬ e 0 < 0 := fun e ⟨n, n1, j, j1, e1, e2, _⟩ => e2
      by_cases z2 : r2 < 0
      · rw [if_pos z2]
        exact nx r (mn_j1 (val := fun e => e 0) h3 hr2 p2 z2)
      · rw [if_neg z2]
        by_cases z1 : r < 0
        · rw [if_pos z1]
          exact nx r2 (mn_j2 (val := fun e => e 0) h3 hr2 p1 z2 z1)
        · rw [if_neg z1]
          by_cases hle : r ≤ r2
          · rw [if_pos hle]
            exact nx r (mn_j3 h3 hr2 z2 z1 hle)
          · rw [if_neg hle]
            exact nx r2 (mn_j4 h3 hr2 z2 z1 hle)
end PR

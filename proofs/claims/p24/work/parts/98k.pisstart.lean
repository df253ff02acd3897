/-! the law's trial of a start: it brings what would tells, and it is undone -/
section PQ1
variable {sh : Sh} {ad ma : Nat → Nat} {h : Hp} {m T : Nat} {a : AS} {K : Int32 → Hp → Prop}
theorem i32_ac {c x : Int32} : (c + x) - c = x := by rw [Int32.add_comm, Int32.add_sub_cancel]
theorem uAll_ex {n st kn s : Nat} (h : ¬ noSt a n st kn s) : ∃ r, uAll a.1 (nI st) (nI s) 6 0 (askC (nN a) kn (a.2.1 n).1) (askL a.1 (nN a) kn (a.2.1 n).2) = some r := by
  cases e : uAll a.1 (nI st) (nI s) 6 0 (askC (nN a) kn (a.2.1 n).1) (askL a.1 (nN a) kn (a.2.1 n).2) with
  | none => exact absurd (Or.inr (Or.inr e)) h
  | some r => exact ⟨r, rfl⟩
/-- the tables found in the hand, used last by the statement -/
theorem found_i (X : WK sh ad ma) {n st s : Nat} {g : Nat → Int32} (I : MJ ad T m a h) (hn : n < 4) (hs : s ≤ 63) {os0 : List En} {row : En} (hos : a.2.2.1.1 = os0 ++ [row]) (r1 : row 1 = nI n) (r2 : row 2 = nI s) (r4 : ∀ t, t < 6 → bitp (nI s) t → row (4 + t) = g (5 + t)) (hg : ∀ k, 5 ≤ k → k < 17 → a.1 k = g k) (hst : st < 999)
    (hL : LU g st (nI s) 6 (a.2.1 n).2) (hS : SHP g (a.2.1 n).2) {x13 : Int32} {Xc : Int32 → Hp → Prop} (hx : Xc (nI s) h) : lo (b_L_isStartSo_299 sh (ad 0) (nI n) (nI s) (nI st) x13 Xc) ((0 : Int32), (0 : Int32)) h := by
  have I0 := I
  obtain ⟨b, A, kp, len, tx, cI, hm, pI, eA⟩ := I
  obtain ⟨tk, rm, st1, hI, hRW, hRL, hX⟩ := pI 0 (by omega)
  rw [eA] at hI hRW hRL hX
  have hl8 := SI_8 hI.2.1 hn
  obtain ⟨⟨hH, -⟩, -⟩ := hI.2.1 n hn
  have rowm : row ∈ a.2.2.1.1 := by rw [hos]; exact List.mem_append_right _ (List.mem_singleton.mpr rfl)
  refine lo_ind (fun d z h' => ∃ k, k + d = (a.2.1 n).2.length + 1 ∧ k ≤ (a.2.1 n).2.length ∧ z = (tcS (fun t => t < 6 ∧ ∃ i, i < k ∧ hd (a.2.1 n).2 i 4 = nI st ∧ hd (a.2.1 n).2 i 0 = nI t) 6, nI k) ∧ h' = h) ?_ ?_ (d := (a.2.1 n).2.length + 1) ⟨0, by omega, by omega, by rw [tcS_none (P := fun t => t < 6 ∧ ∃ i, i < 0 ∧ hd (a.2.1 n).2 i 4 = nI st ∧ hd (a.2.1 n).2 i 0 = nI t) (fun t _ ⟨_, i, i1, _⟩ => absurd i1 (Nat.not_lt_zero i))]; rfl, rfl⟩
  · rintro z h' ⟨k, h1, h2, -⟩
    omega
  · rintro d rec hrec z h' ⟨k, h1, h2, rfl, rfl⟩
    unfold b_L_isStartSo_299
    dsimp only
    rw [x_t0 X]
    refine j_ses2 X I0 hn ?_
    by_cases hz : k = (a.2.1 n).2.length
    · rw [hz]
      refine if_y (nI_le (Nat.le_refl _) (by omega)) ?_
      have e : tcS (fun t => t < 6 ∧ ∃ i, i < (a.2.1 n).2.length ∧ hd (a.2.1 n).2 i 4 = nI st ∧ hd (a.2.1 n).2 i 0 = nI t) 6 = nI s := by
        rw [← tcS_set hs]
        refine tcS_cg (fun t ht => ⟨fun ⟨_, i, i1, i2, i3⟩ => ?_, fun hb => ?_⟩)
        · rcases hL _ (hd_mem i1) with ⟨⟨q, q1, q2⟩, -⟩ | ⟨-, t', t1, t2, t3, t4, -⟩
          · rw [i2] at q2
            have := nI_inj (by omega) (by omega) q2
            omega
          · have : t = t' := nI_inj (by omega) (by omega) (i3.symm.trans t4)
            subst this
            exact t3
        · obtain ⟨e, e1, e2, e3⟩ := hH.2.2.2.1 t (row (4 + t)) ht (pc_pos.mpr ⟨row, rowm, r1, by rw [r2]; exact hb, rfl⟩)
          obtain ⟨i, i1, rfl⟩ := mem_hd e1
          rcases hL _ (hd_mem i1) with ⟨-, q⟩ | ⟨q, -⟩
          · exact absurd ⟨e2, by rw [e3]; exact r4 t ht hb⟩ (q t ht hb)
          · exact ⟨ht, i, i1, q, e2⟩
      rw [e]
      exact hx
    · have hk : k < (a.2.1 n).2.length := by omega
      refine if_n (nI_ge (by omega) (by omega)) ?_
      refine j_ent X I0 (q := 0) hn hk (by omega) ?_
      refine j_ent X I0 (q := 4) hn hk (by omega) ?_
      rw [nI_1]
      rcases hL _ (hd_mem hk) with ⟨⟨q, q1, q2⟩, -⟩ | ⟨q4, t, t1, t2, t3, t4, t5⟩
      · have hne : ¬ hd (a.2.1 n).2 k 4 = nI st := fun z => by
          rw [q2] at z
          have := nI_inj (by omega) (by omega) z
          omega
        refine dj_i (0 : Int32) h' ?_ (fun J hJ => if_n hne hJ)
        rw [Int32.or_zero]
        refine hrec _ _ ⟨k + 1, by omega, by omega, ?_, rfl⟩
        congr 1
        refine tcS_cg (fun t ht => ⟨fun ⟨_, i, i1, i2⟩ => ⟨ht, i, by omega, i2⟩, fun ⟨_, i, i1, i2⟩ => ⟨ht, i, ?_, i2⟩⟩)
        by_cases ei : i = k
        · subst ei; exact absurd i2.1 hne
        · omega
      · rw [t4]
        refine dj_i ((1 : Int32) <<< (nI t &&& 31)) h' ?_ (fun J hJ => ?_)
        · rw [tcS_add t2 (Q := fun t => t < 6 ∧ ∃ i, i < k + 1 ∧ hd (a.2.1 n).2 i 4 = nI st ∧ hd (a.2.1 n).2 i 0 = nI t) (fun q => ⟨fun ⟨i0, i, i1, i2, i3⟩ => ?_, fun z => z.elim (fun ⟨i0, i, i1, i2⟩ => ⟨i0, i, by omega, i2⟩) (fun z => ⟨by rw [z]; exact t2, k, by omega, q4, by rw [z]; exact t4⟩)⟩)]
          · exact hrec _ _ ⟨k + 1, by omega, by omega, rfl, rfl⟩
          · by_cases ei : i = k
            · subst ei
              exact Or.inr (nI_inj (by omega) (by omega) (i3.symm.trans t4))
            · exact Or.inl ⟨i0, i, by omega, i2, i3⟩
        · refine if_y q4 ?_
          refine j_ent X I0 (q := 1) hn hk (by omega) ?_
          refine j_tab0 X I0 t2 ?_
          rw [hg (5 + t) (by omega) (by omega)]
          refine if_y t5 ?_
          refine j_ent X I0 (q := 2) hn hk (by omega) ?_
          refine j_tab1 X I0 t2 ?_
          rw [hg (11 + t) (by omega) (by omega)]
          refine if_y (hS _ (hd_mem hk) t t2 t4 t5) ?_
          refine j_ent X I0 (q := 3) hn hk (by omega) ?_
          obtain ⟨t', v, u, u1, u2, u3, u4, u5, u6, u7, u8, u9⟩ := hH.1 _ (hd_mem hk)
          have et : t' = t := nI_inj (by omega) (by omega) (u2.symm.trans t4)
          subst et
          have hp : 0 < pc a.2.2.1.1 n t' (hd (a.2.1 n).2 k 1) := pc_pos.mpr ⟨row, rowm, r1, by rw [r2]; exact t3, by rw [t5]; exact r4 t' t2 t3⟩
          have hc := hH.2.2.2.2.2.1 t' (hd (a.2.1 n).2 k 1) t2
          rw [u8]
          exact if_n (fun z => by rw [show (0 : Int32) = nI 0 from rfl, nI_leI (by omega) (by omega)] at z; omega) hJ
theorem k_isStart (X : WK sh ad ma) (I : MJ ad T m a h) {n s : Nat} (hn : n < 4) (s1 : 1 ≤ s) (s2 : s ≤ 63) (hk : ∀ h' m' a', MJ ad T m' a' h' → K 1 h') : f_L_isStartSo sh (ad 0) (nI n) (nI s) h K := by
  have I0 := I
  obtain ⟨b, A, kp, len, tx, cI, hm, pI, eA⟩ := I
  obtain ⟨tk, rm, st, hI, hRW, hRL, hX⟩ := pI 0 (by omega)
  rw [eA] at hI hRW hRL hX
  obtain ⟨⟨ht, -, -, -, ⟨hst, hst9⟩, -⟩, hS, -⟩ := hI.1, hI.2.1, hI.2.2
  obtain ⟨kn, hkn, hc0⟩ := (hI.2.1 n hn).2
  unfold f_L_isStartSo
  rw [x_t0 X]
  by_cases hno : noSt a n st kn s
  · refine t_would X I0 (q := 0) hn s1 s2 hst hst9 hc0 hkn (by omega) (fun h2 _ I2 => ?_) (fun h2 r z _ _ => absurd hno z)
    refine t_would X I2 (q := 1) hn s1 s2 hst hst9 hc0 hkn (by omega) (fun h3 _ I3 => ?_) (fun h2 r z _ _ => absurd hno z)
    refine t_would X I3 (q := 2) hn s1 s2 hst hst9 hc0 hkn (by omega) (fun h4 _ I4 => ?_) (fun h2 r z _ _ => absurd hno z)
    refine t_would X I4 (q := 3) hn s1 s2 hst hst9 hc0 hkn (by omega) (fun h5 _ I5 => ?_) (fun h2 r z _ _ => absurd hno z)
    refine j_ses5 X I5 hn ?_
    refine j_ses6 X I5 hn ?_
    refine j_ses7 X I5 hn ?_
    refine j_ses0 X I5 hn ?_
    refine j_cnt2 X I5 ?_
    refine t_start X I5 hn s1 s2 hst hst9 hc0 hkn (fun h6 _ I6 => ?_) (fun h6 j r w' hj hid hst2 hu _ _ _ _ _ => ?_)
    · refine if_n (by decide) ?_
      refine dj_i (1 : Int32) h6 ⟨Or.inr rfl, hk _ _ _ I6⟩ (fun J hJ => ?_)
      refine if_y rfl (if_y rfl (if_y rfl (if_y rfl (if_y rfl ?_))))
      refine j_cnt2 X I6 ?_
      exact if_y rfl hJ
    · exfalso
      rcases hno with z | z | z
      · exact z j hj hid
      · omega
      · rw [hu] at z; cases z
  · obtain ⟨r, hu⟩ := uAll_ex hno
    obtain ⟨y1, y2, y3, y4, ⟨x, y, y5, y6, y7⟩, y8⟩ := start_x hI hX hn hkn hc0 hu
    refine t_would X I0 (q := 0) hn s1 s2 hst hst9 hc0 hkn (by omega) (fun h2 z _ => absurd z hno) (fun h2 r' _ hu' I2 => ?_)
    rw [hu] at hu'; cases hu'
    refine t_would X I2 (q := 1) hn s1 s2 hst hst9 hc0 hkn (by omega) (fun h2 z _ => absurd z hno) (fun h3 r' _ hu' I3 => ?_)
    rw [hu] at hu'; cases hu'
    refine t_would X I3 (q := 2) hn s1 s2 hst hst9 hc0 hkn (by omega) (fun h2 z _ => absurd z hno) (fun h4 r' _ hu' I4 => ?_)
    rw [hu] at hu'; cases hu'
    refine t_would X I4 (q := 3) hn s1 s2 hst hst9 hc0 hkn (by omega) (fun h2 z _ => absurd z hno) (fun h5 r' _ hu' I5 => ?_)
    rw [hu] at hu'; cases hu'
    refine j_ses5 X I5 hn ?_
    refine j_ses6 X I5 hn ?_
    refine j_ses7 X I5 hn ?_
    refine j_ses0 X I5 hn ?_
    refine j_cnt2 X I5 ?_
    refine t_start X I5 hn s1 s2 hst hst9 hc0 hkn (fun h6 z _ => absurd z hno) (fun h6 j r' w' hj hid hst2 hu' w1 w2 w3 w4 I6 => ?_)
    rw [hu] at hu'; cases hu'
    rw [hst]
    refine if_y (nI_pos' (by omega)) ?_
    have eS : (stA a n st s r w').2.1 n = (r.1, r.2.1) := va_up_self _ _ _
    have eW : (stA a n st s r w').2.2.2.1 n = w' := va_up_self _ _ _
    have eg : ∀ k, k ≠ 2 → (stA a n st s r w').1 k = a.1 k := fun k hk => va_up_off hk
    have a1 : a.1 1 = nI (nN a) := ht.2.1
    refine dj_i (1 : Int32) h6 ?_ (fun J hJ => ?_)
    · refine dj_i (1 : Int32) h6 ?_ (fun J hJ => ?_)
      · refine found_i X (st := st) (g := a.1) I6 hn s2 (os0 := a.2.2.1.1) rfl rfl rfl (fun t ht hb => by rw [rowC_v]; exact y4 t ht hb) (fun k k1 k2 => eg k (by omega)) hst2 (by rw [eS]; exact y2) (by rw [eS]; exact y3) ?_
        refine t_undo X I6 (by omega) (fun r74 h7 a7 hr74 I7 => ?_)
        refine dj_i (1 : Int32) h7 ⟨Or.inr rfl, hk _ _ _ I7⟩ (fun J hJ => ?_)
        exact if_n (by decide) (if_y rfl (if_n hr74 hJ))
      · refine if_n (by decide) ?_
        have hw0 : (stA a n st s r w').2.2.2.1 n j 0 = nI st := by rw [eW]; exact w1
        refine j_stmt X I6 (q := 0) hn hj (nI_pos' (by omega)) hw0 (by omega) (fun _ => ?_) (fun z => absurd z (by decide)) (fun z => absurd z (by decide)) (fun z => absurd z (by decide))
        refine if_y rfl ?_
        refine j_stmt X I6 (q := 1) hn hj (nI_pos' (by omega)) hw0 (by omega) (fun z => absurd z (by decide)) (fun _ => ?_) (fun z => absurd z (by decide)) (fun z => absurd z (by decide))
        rw [eW, w2]
        refine if_y rfl ?_
        refine j_stmt X I6 (q := 2) hn hj (nI_pos' (by omega)) hw0 (by omega) (fun z => absurd z (by decide)) (fun z => absurd z (by decide)) (fun _ => ?_) (fun z => absurd z (by decide))
        refine j_cnt0 X I6 ?_
        rw [eW, w3, eg 0 (by decide)]
        refine if_y rfl ?_
        refine j_stmt X I6 (q := 3) hn hj (nI_pos' (by omega)) hw0 (by omega) (fun z => absurd z (by decide)) (fun z => absurd z (by decide)) (fun z => absurd z (by decide)) (fun _ => ?_)
        rw [olN_tcS, tcS_none (P := fun t => bitp ((stA a n st s r w').2.2.2.1 n j 1) t ∧ ¬ (stA a n st s r w').1 (5 + t) ≤ (stA a n st s r w').2.2.2.1 n j (3 + t)) (fun t ht ⟨z1, z2⟩ => z2 (by
          rw [eW, w2] at z1
          rw [eW, w4 t ht z1, y4 t ht z1, eg (5 + t) (by omega)]
          exact Int32.le_refl _))]
        exact if_y rfl hJ
    · refine if_y rfl ?_
      refine ones_i s2 ?_
      have d1 : r.1 (wAt 0) - (a.2.1 n).1 (wAt 0) = nI x := by
        show r.1 1 - (a.2.1 n).1 1 = _
        rw [y5, i32_ac]
      have d2 : r.1 (wAt 1) - (a.2.1 n).1 (wAt 1) = nI y := by
        show r.1 2 - (a.2.1 n).1 2 = _
        rw [y6, i32_ac]
      refine if_y (by rw [d1, d2, nI_add, y7]) ?_
      refine j_ses5 X I6 hn ?_
      rw [eS]
      refine if_y rfl ?_
      refine j_ses6 X I6 hn ?_
      rw [eS]
      refine if_y rfl ?_
      refine j_ses7 X I6 hn ?_
      rw [eS]
      refine if_y rfl ?_
      refine j_ses0 X I6 hn ?_
      refine j_cnt1 X I6 ?_
      rw [eS, eg 1 (by decide), a1]
      refine if_y y8 ?_
      refine j_cnt1 X I6 ?_
      rw [eg 1 (by decide), a1]
      refine if_y ?_ hJ
      show nI (nN a) - (a.2.1 n).1 0 = r.1 0 - (a.2.1 n).1 0
      rw [y8]
end PQ1

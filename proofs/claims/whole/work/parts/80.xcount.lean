/-! a call on both sides: count -/
section XL
variable {sh : Sh} {ad ma : Nat → Nat} {h h' : Hp} {T : Nat}
theorem satN_os {os : List En} {W : Slots} {st : Nat} (hRW : RW os W) (hO : OI st os) : satN W 4 = os.length := by
  rw [pcn_sum (fun o ho => (hO.1 o ho).2), hRW.2.2.2 0 (by omega), hRW.2.2.2 1 (by omega), hRW.2.2.2 2 (by omega), hRW.2.2.2 3 (by omega)]
  show 0 + cntW (W 0) 4 + cntW (W 1) 4 + cntW (W 2) 4 + cntW (W 3) 4 = _
  omega
theorem s_count (X : WK sh ad ma) (I : MI sh ad ma T h) {x : Int32} {K : Int32 → Int32 → Hp → Prop} (hk : ∀ r, K r r h) : f_X5_count sh (ad 0) x h (fun r1 h1 => f_X6_count sh (ma 0) x h1 (fun r2 h2 => K r1 r2 h2)) := by
  obtain ⟨b, m, A, kp, len, tx, cI, rX, pI⟩ := I
  have hb := cI.1
  obtain ⟨tk, rm, st, hI, hRW, hRL⟩ := pI.2.1 0 (by omega)
  have hT0 := x_T X hb (i := 0) (by omega)
  obtain ⟨⟨ht, -, -, -, ⟨hst, hst9⟩, hv⟩, hS, hO, hR⟩ := hI
  have c0 := cI.2.2.2.1
  have hh : hset h (ma 1) (gi h (ma 1)) = h := hset_self
  have ra := rX.2.2.1
  have X3 := rX.1
  have rd : ∀ v k, k < 623 → v = gi h (ma 1) k → (ty sh (ma 0) 6 <| gR h (ma 0) 0 fun q2 => ty sh q2 7 <| lI sh h q2 (nI k) fun v4 => K v v4 h) := fun v k hk' e => by
    have key : ty sh (ma 0) 6 <| gR (hset h (ma 1) (gi h (ma 1))) (ma 0) 0 fun q2 => ty sh q2 7 <| lI sh (hset h (ma 1) (gi h (ma 1))) q2 (nI k) fun v4 => K v v4 h := by
      rw [mx_m X3, mx_r0 X3, mx_t1 X3, mx_ld X3 hk', ← e]
      exact hk _
    rw [hh] at key
    exact key
  unfold f_X5_count f_X6_count
  dsimp only
  by_cases y0 : x = 0
  · rw [if_pos y0, x_t0 X, gR_t cI.2.1.1, x_tb X hb (by omega), gI_t, c0.2.1.1]
    refine if_y y0 ?_
    rw [y0]
    exact rd _ 0 (by omega) (ra.1 0 (by omega)).symm
  rw [if_neg y0]
  by_cases y1 : x = 1
  · rw [if_pos y1, x_t0 X, gR_t cI.2.1.1, x_tb X hb (by omega), gI_t, c0.2.1.2.2.2.1]
    refine if_n y0 (if_y y1 ?_)
    rw [y1]
    exact rd _ 1 (by omega) (ra.1 1 (by omega)).symm
  rw [if_neg y1]
  by_cases y2 : x = 2
  · rw [if_pos y2, x_t0 X, gR_t cI.2.1.1, x_tb X hb (by omega), gI_t, c0.2.1.2.2.2.2]
    refine if_n y0 (if_n y1 (if_y y2 ?_))
    rw [y2]
    exact rd _ 2 (by omega) (ra.1 2 (by omega)).symm
  rw [if_neg y2]
  by_cases y3 : x = 3
  · rw [if_pos y3, x_t0 X, gR_t cI.2.1.1, x_tb X hb (by omega)]
    refine c_stAtWork hT0 c0 ?_
    refine if_n y0 (if_n y1 (if_n y2 (if_y y3 ?_)))
    rw [satN_os hRW hO]
    exact rd _ 437 (by omega) ra.2.2.1.1.symm
  rw [if_neg y3]
  by_cases y4 : x = 4
  · rw [if_pos y4, x_t0 X, gI_t, cI.2.2.1]
    refine if_n y0 (if_n y1 (if_n y2 (if_n y3 (if_y y4 ?_))))
    rw [mx_m X3, gI_t, rX.2.1]
    exact hk _
  rw [if_neg y4]
  by_cases y5 : x = 5
  · rw [if_pos y5, x_t0 X, gR_t cI.2.1.2.2.2.2.1, x_tt X, gI_t, cI.2.2.2.2.2.2.2.2.2.1]
    refine if_n y0 (if_n y1 (if_n y2 (if_n y3 (if_n y4 (if_y y5 ?_)))))
    rw [mx_m X3, gI_t, rX.2.2.2.2.2.1]
    exact hk _
  rw [if_neg y5]
  by_cases y6 : x = 6
  · rw [if_pos y6, x_t0 X, gI_t]
    rcases cI.2.2.2.2.2.2.2.1 with ⟨z1, z2⟩ | ⟨a, z1, z2, z3⟩
    · rcases rX.2.2.2.2.1 with ⟨w1, w2⟩ | ⟨a, w1, w2, w3⟩
      · rw [z2, if_pos rfl]
        refine if_n y0 (if_n y1 (if_n y2 (if_n y3 (if_n y4 (if_n y5 (if_y y6 ?_))))))
        rw [mx_m X3, gI_t, w2, if_pos rfl]
        exact hk _
      · rw [z1] at w1; cases w1
    · rcases rX.2.2.2.2.1 with ⟨w1, w2⟩ | ⟨a', w1, w2, w3⟩
      · rw [z1] at w1; cases w1
      · rw [z2, if_neg (by decide)]
        refine if_n y0 (if_n y1 (if_n y2 (if_n y3 (if_n y4 (if_n y5 (if_y y6 ?_))))))
        rw [mx_m X3, gI_t, w2, if_neg (by decide)]
        exact hk _
  rw [if_neg y6]
  by_cases y7 : x = 7
  · rw [if_pos y7, x_t0 X, gR_t cI.2.1.1, x_tb X hb (by omega)]
    refine c_tablesCC hT0 c0 (SI_vs hS) ?_
    refine if_n y0 (if_n y1 (if_n y2 (if_n y3 (if_n y4 (if_n y5 (if_n y6 (if_y y7 ?_)))))))
    rw [mx_m X3]
    have e : tcS (fun t => ∀ e, pinE (A 0).2.1 (nI t) 4 e → (A 0).1 (5 + t) ≤ e 1) 6 = tcS (fun t => ∀ o ∈ (A 0).2.2.1.1, ¬ (bitp (o 2) t ∧ ¬ (A 0).1 (5 + t) ≤ o (4 + t))) 6 := tcS_congr 6 (fun t ht => by
      constructor
      · intro z o ho ⟨o2, o3⟩
        obtain ⟨e, e1, e2⟩ := (pin_os hS hO ht (P := fun v => ¬ (A 0).1 (5 + t) ≤ v)).mpr ⟨o, ho, o2, o3⟩
        exact e2 (z e e1)
      · intro z e he
        apply Classical.byContradiction
        intro q
        obtain ⟨o, o1, o2, o3⟩ := (pin_os hS hO ht (P := fun v => ¬ (A 0).1 (5 + t) ≤ v)).mp ⟨e, he, q⟩
        exact z o o1 ⟨o2, o3⟩)
    rw [e]
    have key : f_X6_canChange sh (ma 0) (hset h (ma 1) (gi h (ma 1))) fun r28 h29 => K (tcS (fun t => ∀ o ∈ (A 0).2.2.1.1, ¬ (bitp (o 2) t ∧ ¬ (A 0).1 (5 + t) ≤ o (4 + t))) 6) r28 h29 := by
      refine m_canChange X3 ra (OI_nn hO hst9) ?_
      rw [hh]; exact hk _
    rw [hh] at key
    exact key
  rw [if_neg y7]
  by_cases y8 : x = 8
  · rw [if_pos y8, x_t0 X, gR_t cI.2.1.1, x_tb X hb (by omega)]
    refine c_loadsOfAll hT0 c0 ?_
    refine if_n y0 (if_n y1 (if_n y2 (if_n y3 (if_n y4 (if_n y5 (if_n y6 (if_n y7 (if_y y8 ?_))))))))
    rw [mx_m X3]
    have key : f_X6_allLoads sh (ma 0) (hset h (ma 1) (gi h (ma 1))) fun r28 h29 => K (ldN (A 0).2.1 4) r28 h29 := by
      refine m_allLoads X3 ra ?_
      rw [hh]; exact hk _
    rw [hh] at key
    exact key
  rw [if_neg y8]
  by_cases y20 : x = 20
  · subst y20
    refine if_n (by decide) (if_n (by decide) (if_n (by decide) (if_n (by decide) (if_n (by decide) (if_n (by decide) (if_n (by decide) (if_n (by decide) (if_n (by decide) (if_n (by decide) (if_n (by decide) (if_y rfl ?_)))))))))))
    rw [x_t0 X, gR_t cI.2.1.1, x_tb X hb (by omega), gI_t, c0.2.1.2.1]
    refine if_n (by decide) (if_n (by decide) (if_n (by decide) (if_n (by decide) (if_n (by decide) (if_n (by decide) (if_n (by decide) (if_n (by decide) (if_n (by decide) (if_n (by decide) (if_n (by decide) (if_n (by decide) (if_n (by decide) (if_n (by decide) (if_n (by decide) (if_n (by decide) (if_n (by decide) (if_n (by decide) (if_n (by decide) (if_n (by decide) (if_y rfl ?_))))))))))))))))))))
    exact rd _ 3 (by omega) (ra.1 3 (by omega)).symm
  by_cases y21 : x = 21
  · subst y21
    refine if_n (by decide) (if_n (by decide) (if_n (by decide) (if_n (by decide) (if_n (by decide) (if_n (by decide) (if_n (by decide) (if_n (by decide) (if_n (by decide) (if_n (by decide) (if_n (by decide) (if_n (by decide) (if_y rfl ?_))))))))))))
    rw [x_t0 X, gR_t cI.2.1.1, x_tb X hb (by omega), gI_t, c0.2.1.2.2.1]
    refine if_n (by decide) (if_n (by decide) (if_n (by decide) (if_n (by decide) (if_n (by decide) (if_n (by decide) (if_n (by decide) (if_n (by decide) (if_n (by decide) (if_n (by decide) (if_n (by decide) (if_n (by decide) (if_n (by decide) (if_n (by decide) (if_n (by decide) (if_n (by decide) (if_n (by decide) (if_n (by decide) (if_n (by decide) (if_n (by decide) (if_n (by decide) (if_y rfl ?_)))))))))))))))))))))
    exact rd _ 4 (by omega) (ra.1 4 (by omega)).symm
  simp only [if_neg y0, if_neg y1, if_neg y2, if_neg y3, if_neg y4, if_neg y5, if_neg y6, if_neg y7, if_neg y8, if_neg y20, if_neg y21, ite_self]
  exact hk _
end XL

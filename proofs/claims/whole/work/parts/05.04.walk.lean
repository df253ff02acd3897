set_option maxHeartbeats 4000000 in
set_option maxRecDepth 100000 in
theorem c_X6_count (l : Launch) (D : va_G) (cA : Nat → ClassId) (L : List Nat) (sh : Sh) (a0 : Nat) (p1 : Int32) (h : Hp) (K : Int32 → Hp → Prop) (hf : f_X6_count sh a0 p1 h K) : Met l yX6_count (wM yX6_count cX6_count 2 (some .int)) ({ frames := 3, cells := 0, slots := 0, locals := 67 } : Room) (PreM D cA L sh h [.ref a0, .int p1]) (QI D cA L sh K) 0 0 (fun q => q ∈ L) := by
  refine met_v (cc := cX6_count) (nL := 2) (ret := (some .int)) [(0, .ref a0), (1, .int p1)] (by decide) rfl (Nat.le_of_ble_eq_true rfl) rfl ?_
  intro p e s0 m below meth c X hr hlk
  have k7 := X.ht _ (inM _ q_485)
  have k42 := X.ht _ (inM _ q_488)
  have k145 := X.ht _ (inM _ q_492)
  have k148 := X.ht _ (inM _ q_490)
  unfold f_X6_count at hf
  refine v_iload_n (pc := 0) X 1 dX6_count_0 rfl rfl ?_
  by_cases c0 : p1 = (0 : Int32)
  · replace hf := if_t c0 hf
    refine v_tableIn (pc := 1) X (off := 103) 104 dX6_count_1 (by rw [c0]; decide) (by rw [c0]; decide) (by rw [c0]; decide) (by decide) ?_
    refine v_aload_n (pc := 104) X 0 dX6_count_104 rfl rfl ?_
    obtain ⟨t1, hf⟩ := hf
    obtain ⟨q2, e_q2, hf⟩ := hf
    refine ge_6_0 (pc := 105) X (fun w h => inM w (inG6 w h)) k7 t1 e_q2 dX6_count_105 ?_
    refine v_iload_n (pc := 108) X 1 dX6_count_108 rfl rfl ?_
    obtain ⟨t3, hf⟩ := hf
    obtain ⟨b5, v4, e_v4, hf⟩ := hf
    refine v_iald (pc := 109) X t3 b5 e_v4 dX6_count_109 ?_
    exact v_iret (pc := 110) X hr hlk dX6_count_110 hf
  replace hf := if_f c0 hf
  by_cases c1 : p1 = (1 : Int32)
  · replace hf := if_t c1 hf
    refine v_tableIn (pc := 1) X (off := 103) 104 dX6_count_1 (by rw [c1]; decide) (by rw [c1]; decide) (by rw [c1]; decide) (by decide) ?_
    refine v_aload_n (pc := 104) X 0 dX6_count_104 rfl rfl ?_
    obtain ⟨t6, hf⟩ := hf
    obtain ⟨q7, e_q7, hf⟩ := hf
    refine ge_6_0 (pc := 105) X (fun w h => inM w (inG6 w h)) k7 t6 e_q7 dX6_count_105 ?_
    refine v_iload_n (pc := 108) X 1 dX6_count_108 rfl rfl ?_
    obtain ⟨t8, hf⟩ := hf
    obtain ⟨b10, v9, e_v9, hf⟩ := hf
    refine v_iald (pc := 109) X t8 b10 e_v9 dX6_count_109 ?_
    exact v_iret (pc := 110) X hr hlk dX6_count_110 hf
  replace hf := if_f c1 hf
  by_cases c2 : p1 = (2 : Int32)
  · replace hf := if_t c2 hf
    refine v_tableIn (pc := 1) X (off := 103) 104 dX6_count_1 (by rw [c2]; decide) (by rw [c2]; decide) (by rw [c2]; decide) (by decide) ?_
    refine v_aload_n (pc := 104) X 0 dX6_count_104 rfl rfl ?_
    obtain ⟨t11, hf⟩ := hf
    obtain ⟨q12, e_q12, hf⟩ := hf
    refine ge_6_0 (pc := 105) X (fun w h => inM w (inG6 w h)) k7 t11 e_q12 dX6_count_105 ?_
    refine v_iload_n (pc := 108) X 1 dX6_count_108 rfl rfl ?_
    obtain ⟨t13, hf⟩ := hf
    obtain ⟨b15, v14, e_v14, hf⟩ := hf
    refine v_iald (pc := 109) X t13 b15 e_v14 dX6_count_109 ?_
    exact v_iret (pc := 110) X hr hlk dX6_count_110 hf
  replace hf := if_f c2 hf
  by_cases c3 : p1 = (3 : Int32)
  · replace hf := if_t c3 hf
    refine v_tableIn (pc := 1) X (off := 110) 111 dX6_count_1 (by rw [c3]; decide) (by rw [c3]; decide) (by rw [c3]; decide) (by decide) ?_
    refine v_aload_n (pc := 111) X 0 dX6_count_111 rfl rfl ?_
    obtain ⟨t16, hf⟩ := hf
    obtain ⟨q17, e_q17, hf⟩ := hf
    refine ge_6_0 (pc := 112) X (fun w h => inM w (inG6 w h)) k7 t16 e_q17 dX6_count_112 ?_
    refine v_sipush (pc := 115) X (v := (437 : Int32)) dX6_count_115 (by decide) ?_
    obtain ⟨t18, hf⟩ := hf
    obtain ⟨b20, v19, e_v19, hf⟩ := hf
    refine v_iald (pc := 118) X t18 b20 e_v19 dX6_count_118 ?_
    exact v_iret (pc := 119) X hr hlk dX6_count_119 hf
  replace hf := if_f c3 hf
  by_cases c4 : p1 = (4 : Int32)
  · replace hf := if_t c4 hf
    refine v_tableIn (pc := 1) X (off := 119) 120 dX6_count_1 (by rw [c4]; decide) (by rw [c4]; decide) (by rw [c4]; decide) (by decide) ?_
    refine v_aload_n (pc := 120) X 0 dX6_count_120 rfl rfl ?_
    obtain ⟨t21, hf⟩ := hf
    obtain ⟨v22, e_v22, hf⟩ := hf
    refine ge_6_3 (pc := 121) X (fun w h => inM w (inG6 w h)) k42 t21 e_v22 dX6_count_121 ?_
    exact v_iret (pc := 124) X hr hlk dX6_count_124 hf
  replace hf := if_f c4 hf
  by_cases c5 : p1 = (5 : Int32)
  · replace hf := if_t c5 hf
    refine v_tableIn (pc := 1) X (off := 124) 125 dX6_count_1 (by rw [c5]; decide) (by rw [c5]; decide) (by rw [c5]; decide) (by decide) ?_
    refine v_aload_n (pc := 125) X 0 dX6_count_125 rfl rfl ?_
    obtain ⟨t23, hf⟩ := hf
    obtain ⟨v24, e_v24, hf⟩ := hf
    refine ge_6_7 (pc := 126) X (fun w h => inM w (inG6 w h)) k145 t23 e_v24 dX6_count_126 ?_
    exact v_iret (pc := 129) X hr hlk dX6_count_129 hf
  replace hf := if_f c5 hf
  by_cases c6 : p1 = (6 : Int32)
  · replace hf := if_t c6 hf
    refine v_tableIn (pc := 1) X (off := 129) 130 dX6_count_1 (by rw [c6]; decide) (by rw [c6]; decide) (by rw [c6]; decide) (by decide) ?_
    refine v_aload_n (pc := 130) X 0 dX6_count_130 rfl rfl ?_
    obtain ⟨t25, hf⟩ := hf
    obtain ⟨v26, e_v26, hf⟩ := hf
    refine ge_6_5 (pc := 131) X (fun w h => inM w (inG6 w h)) k148 t25 e_v26 dX6_count_131 ?_
    refine v_if_eq (pc := 134) X 141 dX6_count_134 (by decide) (fun c => ?_) (fun c => ?_)
    · replace hf := if_t c hf
      refine v_iconst (pc := 141) X (v := (0 : Int32)) dX6_count_141 (by decide) ?_
      exact v_iret (pc := 142) X hr hlk dX6_count_142 hf
    · replace hf := if_f c hf
      refine v_iconst (pc := 137) X (v := (1 : Int32)) dX6_count_137 (by decide) ?_
      refine v_goto (pc := 138) X 142 dX6_count_138 (by decide) ?_
      exact v_iret (pc := 142) X hr hlk dX6_count_142 hf
  replace hf := if_f c6 hf
  by_cases c7 : p1 = (7 : Int32)
  · replace hf := if_t c7 hf
    refine v_tableIn (pc := 1) X (off := 142) 143 dX6_count_1 (by rw [c7]; decide) (by rw [c7]; decide) (by rw [c7]; decide) (by decide) ?_
    refine v_aload_n (pc := 143) X 0 dX6_count_143 rfl rfl ?_
    obtain ⟨t27, hf⟩ := hf
    refine v_callVI (pc := 144) X (As := []) (rest := []) (c_X6_canChange l D cA L sh a0 h _ hf) (cwV 0 X.ht (gwV inM q_666 q_667 q_775 q_7 q_668) rfl rfl rfl (by decide +kernel) ⟨Nat.le_of_ble_eq_true rfl, Nat.le_of_ble_eq_true rfl⟩) rfl (by decide) t27 (ent_6 t27) rfl rfl (Nat.le_of_ble_eq_true rfl) ⟨Nat.zero_le _, Nat.zero_le _⟩ dX6_count_144 (fun r28 h29 hf => ?_)
    exact v_iret (pc := 147) X hr hlk dX6_count_147 hf
  replace hf := if_f c7 hf
  by_cases c8 : p1 = (8 : Int32)
  · replace hf := if_t c8 hf
    refine v_tableIn (pc := 1) X (off := 147) 148 dX6_count_1 (by rw [c8]; decide) (by rw [c8]; decide) (by rw [c8]; decide) (by decide) ?_
    refine v_aload_n (pc := 148) X 0 dX6_count_148 rfl rfl ?_
    obtain ⟨t30, hf⟩ := hf
    refine v_callVI (pc := 149) X (As := []) (rest := []) (c_X6_allLoads l D cA L sh a0 h _ hf) (cwV 0 X.ht (gwV inM q_669 q_670 q_776 q_7 q_671) rfl rfl rfl (by decide +kernel) ⟨Nat.le_of_ble_eq_true rfl, Nat.le_of_ble_eq_true rfl⟩) rfl (by decide) t30 (ent_6 t30) rfl rfl (Nat.le_of_ble_eq_true rfl) ⟨Nat.zero_le _, Nat.zero_le _⟩ dX6_count_149 (fun r31 h32 hf => ?_)
    exact v_iret (pc := 152) X hr hlk dX6_count_152 hf
  replace hf := if_f c8 hf
  by_cases c9 : p1 = (9 : Int32)
  · replace hf := if_t c9 hf
    refine v_tableIn (pc := 1) X (off := 164) 165 dX6_count_1 (by rw [c9]; decide) (by rw [c9]; decide) (by rw [c9]; decide) (by decide) ?_
    refine v_iconst (pc := 165) X (v := (-1 : Int32)) dX6_count_165 (by decide) ?_
    exact v_iret (pc := 166) X hr hlk dX6_count_166 hf
  replace hf := if_f c9 hf
  by_cases c10 : p1 = (10 : Int32)
  · replace hf := if_t c10 hf
    refine v_tableIn (pc := 1) X (off := 164) 165 dX6_count_1 (by rw [c10]; decide) (by rw [c10]; decide) (by rw [c10]; decide) (by decide) ?_
    refine v_iconst (pc := 165) X (v := (-1 : Int32)) dX6_count_165 (by decide) ?_
    exact v_iret (pc := 166) X hr hlk dX6_count_166 hf
  replace hf := if_f c10 hf
  by_cases c11 : p1 = (11 : Int32)
  · replace hf := if_t c11 hf
    refine v_tableIn (pc := 1) X (off := 164) 165 dX6_count_1 (by rw [c11]; decide) (by rw [c11]; decide) (by rw [c11]; decide) (by decide) ?_
    refine v_iconst (pc := 165) X (v := (-1 : Int32)) dX6_count_165 (by decide) ?_
    exact v_iret (pc := 166) X hr hlk dX6_count_166 hf
  replace hf := if_f c11 hf
  by_cases c12 : p1 = (12 : Int32)
  · replace hf := if_t c12 hf
    refine v_tableIn (pc := 1) X (off := 164) 165 dX6_count_1 (by rw [c12]; decide) (by rw [c12]; decide) (by rw [c12]; decide) (by decide) ?_
    refine v_iconst (pc := 165) X (v := (-1 : Int32)) dX6_count_165 (by decide) ?_
    exact v_iret (pc := 166) X hr hlk dX6_count_166 hf
  replace hf := if_f c12 hf
  by_cases c13 : p1 = (13 : Int32)
  · replace hf := if_t c13 hf
    refine v_tableIn (pc := 1) X (off := 164) 165 dX6_count_1 (by rw [c13]; decide) (by rw [c13]; decide) (by rw [c13]; decide) (by decide) ?_
    refine v_iconst (pc := 165) X (v := (-1 : Int32)) dX6_count_165 (by decide) ?_
    exact v_iret (pc := 166) X hr hlk dX6_count_166 hf
  replace hf := if_f c13 hf
  by_cases c14 : p1 = (14 : Int32)
  · replace hf := if_t c14 hf
    refine v_tableIn (pc := 1) X (off := 164) 165 dX6_count_1 (by rw [c14]; decide) (by rw [c14]; decide) (by rw [c14]; decide) (by decide) ?_
    refine v_iconst (pc := 165) X (v := (-1 : Int32)) dX6_count_165 (by decide) ?_
    exact v_iret (pc := 166) X hr hlk dX6_count_166 hf
  replace hf := if_f c14 hf
  by_cases c15 : p1 = (15 : Int32)
  · replace hf := if_t c15 hf
    refine v_tableIn (pc := 1) X (off := 164) 165 dX6_count_1 (by rw [c15]; decide) (by rw [c15]; decide) (by rw [c15]; decide) (by decide) ?_
    refine v_iconst (pc := 165) X (v := (-1 : Int32)) dX6_count_165 (by decide) ?_
    exact v_iret (pc := 166) X hr hlk dX6_count_166 hf
  replace hf := if_f c15 hf
  by_cases c16 : p1 = (16 : Int32)
  · replace hf := if_t c16 hf
    refine v_tableIn (pc := 1) X (off := 164) 165 dX6_count_1 (by rw [c16]; decide) (by rw [c16]; decide) (by rw [c16]; decide) (by decide) ?_
    refine v_iconst (pc := 165) X (v := (-1 : Int32)) dX6_count_165 (by decide) ?_
    exact v_iret (pc := 166) X hr hlk dX6_count_166 hf
  replace hf := if_f c16 hf
  by_cases c17 : p1 = (17 : Int32)
  · replace hf := if_t c17 hf
    refine v_tableIn (pc := 1) X (off := 164) 165 dX6_count_1 (by rw [c17]; decide) (by rw [c17]; decide) (by rw [c17]; decide) (by decide) ?_
    refine v_iconst (pc := 165) X (v := (-1 : Int32)) dX6_count_165 (by decide) ?_
    exact v_iret (pc := 166) X hr hlk dX6_count_166 hf
  replace hf := if_f c17 hf
  by_cases c18 : p1 = (18 : Int32)
  · replace hf := if_t c18 hf
    refine v_tableIn (pc := 1) X (off := 164) 165 dX6_count_1 (by rw [c18]; decide) (by rw [c18]; decide) (by rw [c18]; decide) (by decide) ?_
    refine v_iconst (pc := 165) X (v := (-1 : Int32)) dX6_count_165 (by decide) ?_
    exact v_iret (pc := 166) X hr hlk dX6_count_166 hf
  replace hf := if_f c18 hf
  by_cases c19 : p1 = (19 : Int32)
  · replace hf := if_t c19 hf
    refine v_tableIn (pc := 1) X (off := 164) 165 dX6_count_1 (by rw [c19]; decide) (by rw [c19]; decide) (by rw [c19]; decide) (by decide) ?_
    refine v_iconst (pc := 165) X (v := (-1 : Int32)) dX6_count_165 (by decide) ?_
    exact v_iret (pc := 166) X hr hlk dX6_count_166 hf
  replace hf := if_f c19 hf
  by_cases c20 : p1 = (20 : Int32)
  · replace hf := if_t c20 hf
    refine v_tableIn (pc := 1) X (off := 152) 153 dX6_count_1 (by rw [c20]; decide) (by rw [c20]; decide) (by rw [c20]; decide) (by decide) ?_
    refine v_aload_n (pc := 153) X 0 dX6_count_153 rfl rfl ?_
    obtain ⟨t33, hf⟩ := hf
    obtain ⟨q34, e_q34, hf⟩ := hf
    refine ge_6_0 (pc := 154) X (fun w h => inM w (inG6 w h)) k7 t33 e_q34 dX6_count_154 ?_
    refine v_iconst (pc := 157) X (v := (3 : Int32)) dX6_count_157 (by decide) ?_
    refine v_iload_n (pc := 158) X 1 dX6_count_158 rfl rfl ?_
    refine v_iadd (pc := 159) X dX6_count_159 ?_
    refine v_bipush (pc := 160) X (v := (20 : Int32)) dX6_count_160 (by decide) ?_
    refine v_isub (pc := 162) X dX6_count_162 ?_
    obtain ⟨t35, hf⟩ := hf
    obtain ⟨b37, v36, e_v36, hf⟩ := hf
    refine v_iald (pc := 163) X t35 b37 e_v36 dX6_count_163 ?_
    exact v_iret (pc := 164) X hr hlk dX6_count_164 hf
  replace hf := if_f c20 hf
  by_cases c21 : p1 = (21 : Int32)
  · replace hf := if_t c21 hf
    refine v_tableIn (pc := 1) X (off := 152) 153 dX6_count_1 (by rw [c21]; decide) (by rw [c21]; decide) (by rw [c21]; decide) (by decide) ?_
    refine v_aload_n (pc := 153) X 0 dX6_count_153 rfl rfl ?_
    obtain ⟨t38, hf⟩ := hf
    obtain ⟨q39, e_q39, hf⟩ := hf
    refine ge_6_0 (pc := 154) X (fun w h => inM w (inG6 w h)) k7 t38 e_q39 dX6_count_154 ?_
    refine v_iconst (pc := 157) X (v := (3 : Int32)) dX6_count_157 (by decide) ?_
    refine v_iload_n (pc := 158) X 1 dX6_count_158 rfl rfl ?_
    refine v_iadd (pc := 159) X dX6_count_159 ?_
    refine v_bipush (pc := 160) X (v := (20 : Int32)) dX6_count_160 (by decide) ?_
    refine v_isub (pc := 162) X dX6_count_162 ?_
    obtain ⟨t40, hf⟩ := hf
    obtain ⟨b42, v41, e_v41, hf⟩ := hf
    refine v_iald (pc := 163) X t40 b42 e_v41 dX6_count_163 ?_
    exact v_iret (pc := 164) X hr hlk dX6_count_164 hf
  replace hf := if_f c21 hf
  refine v_tableOut (pc := 1) X 165 dX6_count_1 (tab_out_0_21 c0 c1 c2 c3 c4 c5 c6 c7 c8 c9 c10 c11 c12 c13 c14 c15 c16 c17 c18 c19 c20 c21) (by decide) ?_
  refine v_iconst (pc := 165) X (v := (-1 : Int32)) dX6_count_165 (by decide) ?_
  exact v_iret (pc := 166) X hr hlk dX6_count_166 hf
set_option maxHeartbeats 4000000 in
set_option maxRecDepth 100000 in
theorem c_X6_isSession (l : Launch) (D : va_G) (cA : Nat → ClassId) (L : List Nat) (sh : Sh) (p0 : Int32) (h : Hp) (K : Int32 → Hp → Prop) (hf : f_X6_isSession sh p0 h K) : Met l yX6_isSession (wM yX6_isSession cX6_isSession 1 (some .boolean)) ({ frames := 1, cells := 0, slots := 0, locals := 22 } : Room) (PreM D cA L sh h [.int p0]) (QI D cA L sh K) 0 0 (fun q => q ∈ L) := by
  refine met_v (cc := cX6_isSession) (nL := 1) (ret := (some .boolean)) [(0, .int p0)] (by decide) rfl (Nat.le_of_ble_eq_true rfl) rfl ?_
  intro p e s0 m below meth c X hr hlk
  unfold f_X6_isSession at hf
  refine v_iload_n (pc := 0) X 0 dX6_isSession_0 rfl rfl ?_
  refine v_iconst (pc := 1) X (v := (0 : Int32)) dX6_isSession_1 (by decide) ?_
  refine v_iconst (pc := 2) X (v := (3 : Int32)) dX6_isSession_2 (by decide) ?_
  refine v_callSI (pc := 3) X (As := [.int p0, .int (0 : Int32), .int (3 : Int32)]) (rest := []) (c_X6_in l D cA L sh p0 (0 : Int32) (3 : Int32) h _ hf) (va_cwS 3 X.ht (gwS inM q_533 q_534 q_7 q_535) rfl rfl rfl (by decide +kernel) ⟨Nat.le_of_ble_eq_true rfl, Nat.le_of_ble_eq_true rfl⟩) rfl rfl (Nat.le_of_ble_eq_true rfl) ⟨Nat.zero_le _, Nat.zero_le _⟩ dX6_isSession_3 (fun r1 h2 hf => ?_)
  obtain ⟨z3, hf⟩ := hf
  exact v_zret (pc := 6) X hr hlk dX6_isSession_6 z3 hf
set_option maxHeartbeats 4000000 in
set_option maxRecDepth 100000 in
theorem w_X6_opensOf_4 {p : Program} {l : Launch} {e : Env} {s0 : State} {m : MethodId} {args : Array Value} {below : List Frame} {meth : Method} {c : Code} {D : va_G} {cA : Nat → ClassId} {L : List Nat} {sh : Sh} (X : Cx p s0 m c args cX6_opensOf 4 (wM yX6_opensOf cX6_opensOf 4 (some .int)) RX6 (fun q => q ∈ L) D cA L sh) (hr : meth.sig.returnType = (some .int)) (hlk : meth.locks = false) (x0 : Nat) (x1 : Int32) (Xc : Int32 → Hp → Prop) (K : Int32 → Hp → Prop) (hx : ∀ (y2 : Int32) (h1 : Hp), Xc y2 h1 → V p l e (headSpec (wM yX6_opensOf cX6_opensOf 4 (some .int)) ({ frames := 1, cells := 0, slots := 0, locals := 21 } : Room)).room s0 m args below meth c (MQ below (QI D cA L sh K) args s0 0 0 (fun q => q ∈ L)) (fun q => q ∈ L) 0 0 D cA L sh 4 h1 44 [(2, .int y2)] []) : ∀ (n : Nat) (s : Int32 × Int32) (h : Hp), lp (b_X6_opensOf_4 sh x0 x1 Xc) n s h → V p l e (headSpec (wM yX6_opensOf cX6_opensOf 4 (some .int)) ({ frames := 1, cells := 0, slots := 0, locals := 21 } : Room)).room s0 m args below meth c (MQ below (QI D cA L sh K) args s0 0 0 (fun q => q ∈ L)) (fun q => q ∈ L) 0 0 D cA L sh 4 h 4 [(0, .ref x0), (1, .int x1), (2, .int s.1), (3, .int s.2)] [] := by
  have k7 := X.ht _ (inM _ q_485)
  intro n
  induction n with
  | zero => intro s h hf; exact hf.elim
  | succ n ih =>
    intro s h hf
    replace hf : b_X6_opensOf_4 sh x0 x1 Xc (lp (b_X6_opensOf_4 sh x0 x1 Xc) n) s h := hf
    unfold b_X6_opensOf_4 at hf
    refine v_iload_n (pc := 4) X 3 dX6_opensOf_4 rfl rfl ?_
    refine v_aload_n (pc := 5) X 0 dX6_opensOf_5 rfl rfl ?_
    obtain ⟨t1, hf⟩ := hf
    obtain ⟨q2, e_q2, hf⟩ := hf
    refine ge_6_0 (pc := 6) X (fun w h => inM w (inG6 w h)) k7 t1 e_q2 dX6_opensOf_6 ?_
    refine v_sipush (pc := 9) X (v := (437 : Int32)) dX6_opensOf_9 (by decide) ?_
    obtain ⟨t3, hf⟩ := hf
    obtain ⟨b5, v4, e_v4, hf⟩ := hf
    refine v_iald (pc := 12) X t3 b5 e_v4 dX6_opensOf_12 ?_
    refine v_icmp_ge (pc := 13) X 44 dX6_opensOf_13 (by decide) (fun c => ?_) (fun c => ?_)
    · replace hf := if_t c hf
      refine v_sub [2] rfl ?_
      exact hx s.1 h hf
    · replace hf := if_f c hf
      refine v_iload_n (pc := 16) X 2 dX6_opensOf_16 rfl rfl ?_
      refine v_aload_n (pc := 17) X 0 dX6_opensOf_17 rfl rfl ?_
      obtain ⟨q6, e_q6, hf⟩ := hf
      refine ge_6_0 (pc := 18) X (fun w h => inM w (inG6 w h)) k7 t1 e_q6 dX6_opensOf_18 ?_
      refine v_iload_n (pc := 21) X 3 dX6_opensOf_21 rfl rfl ?_
      refine v_iconst (pc := 22) X (v := (1 : Int32)) dX6_opensOf_22 (by decide) ?_
      refine v_callSI (pc := 23) X (As := [.int s.2, .int (1 : Int32)]) (rest := [.ref q6, .int s.1]) (c_X6_ofOpen l D cA L sh s.2 (1 : Int32) h _ hf) (va_cwS 2 X.ht (gwS inM q_539 q_540 q_7 q_541) rfl rfl rfl (by decide +kernel) ⟨Nat.le_of_ble_eq_true rfl, Nat.le_of_ble_eq_true rfl⟩) rfl rfl (Nat.le_of_ble_eq_true rfl) ⟨Nat.zero_le _, Nat.zero_le _⟩ dX6_opensOf_23 (fun r7 h8 hf => ?_)
      obtain ⟨t9, hf⟩ := hf
      obtain ⟨b11, v10, e_v10, hf⟩ := hf
      refine v_iald (pc := 26) X t9 b11 e_v10 dX6_opensOf_26 ?_
      refine v_iload_n (pc := 27) X 1 dX6_opensOf_27 rfl rfl ?_
      refine v_icmp_ne (pc := 28) X 35 dX6_opensOf_28 (by decide) (fun c => ?_) (fun c => ?_)
      · replace hf := if_f c hf
        refine v_iconst (pc := 35) X (v := (0 : Int32)) dX6_opensOf_35 (by decide) ?_
        refine v_iadd (pc := 36) X dX6_opensOf_36 ?_
        refine v_istore_n (pc := 37) X (i := 2) (lv' := [(2, .int (s.1 + (0 : Int32))), (0, .ref x0), (1, .int x1), (3, .int s.2)]) dX6_opensOf_37 rfl (Nat.le_of_ble_eq_true rfl) rfl ?_
        refine v_iinc (pc := 38) X 3 (v := s.2 + (1 : Int32)) (lv' := [(3, .int (s.2 + (1 : Int32))), (2, .int (s.1 + (0 : Int32))), (0, .ref x0), (1, .int x1)]) dX6_opensOf_38 rfl rfl (Nat.le_of_ble_eq_true rfl) rfl ?_
        refine v_goto (pc := 41) X 4 dX6_opensOf_41 (by decide) ?_
        refine v_sub [2, 3, 1, 0] rfl ?_
        exact ih (s.1 + (0 : Int32), s.2 + (1 : Int32)) h8 hf
      · replace hf := if_t c hf
        refine v_iconst (pc := 31) X (v := (1 : Int32)) dX6_opensOf_31 (by decide) ?_
        refine v_goto (pc := 32) X 36 dX6_opensOf_32 (by decide) ?_
        refine v_iadd (pc := 36) X dX6_opensOf_36 ?_
        refine v_istore_n (pc := 37) X (i := 2) (lv' := [(2, .int (s.1 + (1 : Int32))), (0, .ref x0), (1, .int x1), (3, .int s.2)]) dX6_opensOf_37 rfl (Nat.le_of_ble_eq_true rfl) rfl ?_
        refine v_iinc (pc := 38) X 3 (v := s.2 + (1 : Int32)) (lv' := [(3, .int (s.2 + (1 : Int32))), (2, .int (s.1 + (1 : Int32))), (0, .ref x0), (1, .int x1)]) dX6_opensOf_38 rfl rfl (Nat.le_of_ble_eq_true rfl) rfl ?_
        refine v_goto (pc := 41) X 4 dX6_opensOf_41 (by decide) ?_
        refine v_sub [2, 3, 1, 0] rfl ?_
        exact ih (s.1 + (1 : Int32), s.2 + (1 : Int32)) h8 hf

set_option maxHeartbeats 4000000 in
set_option maxRecDepth 100000 in
theorem c_X6_opensOf (l : Launch) (D : va_G) (cA : Nat → ClassId) (L : List Nat) (sh : Sh) (a0 : Nat) (p1 : Int32) (h : Hp) (K : Int32 → Hp → Prop) (hf : f_X6_opensOf sh a0 p1 h K) : Met l yX6_opensOf (wM yX6_opensOf cX6_opensOf 4 (some .int)) ({ frames := 1, cells := 0, slots := 0, locals := 21 } : Room) (PreM D cA L sh h [.ref a0, .int p1]) (QI D cA L sh K) 0 0 (fun q => q ∈ L) := by
  refine met_v (cc := cX6_opensOf) (nL := 4) (ret := (some .int)) [(0, .ref a0), (1, .int p1)] (by decide) rfl (Nat.le_of_ble_eq_true rfl) rfl ?_
  intro p e s0 m below meth c X hr hlk
  have k7 := X.ht _ (inM _ q_485)
  unfold f_X6_opensOf at hf
  refine v_iconst (pc := 0) X (v := (0 : Int32)) dX6_opensOf_0 (by decide) ?_
  refine v_istore_n (pc := 1) X (i := 2) (lv' := [(2, .int (0 : Int32)), (0, .ref a0), (1, .int p1)]) dX6_opensOf_1 rfl (Nat.le_of_ble_eq_true rfl) rfl ?_
  refine v_iconst (pc := 2) X (v := (0 : Int32)) dX6_opensOf_2 (by decide) ?_
  refine v_istore_n (pc := 3) X (i := 3) (lv' := [(3, .int (0 : Int32)), (2, .int (0 : Int32)), (0, .ref a0), (1, .int p1)]) dX6_opensOf_3 rfl (Nat.le_of_ble_eq_true rfl) rfl ?_
  obtain ⟨n, hf⟩ := hf
  refine v_sub [2, 3, 1, 0] rfl ?_
  refine w_X6_opensOf_4 X hr hlk a0 p1 _ K (fun y12 h13 hf => ?_) n ((0 : Int32), (0 : Int32)) h hf
  refine v_iload_n (pc := 44) X 0 dX6_opensOf_44 rfl rfl ?_
  exact v_iret (pc := 45) X hr hlk dX6_opensOf_45 hf
set_option maxHeartbeats 4000000 in
set_option maxRecDepth 100000 in
theorem w_X6_entryOf_6 {p : Program} {l : Launch} {e : Env} {s0 : State} {m : MethodId} {args : Array Value} {below : List Frame} {meth : Method} {c : Code} {D : va_G} {cA : Nat → ClassId} {L : List Nat} {sh : Sh} (X : Cx p s0 m c args cX6_entryOf 7 (wM yX6_entryOf cX6_entryOf 7 (some .int)) RX6 (fun q => q ∈ L) D cA L sh) (hr : meth.sig.returnType = (some .int)) (hlk : meth.locks = false) (x0 : Nat) (x1 : Int32) (x2 : Int32) (x3 : Int32) (Xc : Int32 → Hp → Prop) (K : Int32 → Hp → Prop) (hx : ∀ (y4 : Int32) (h1 : Hp), Xc y4 h1 → V p l e (headSpec (wM yX6_entryOf cX6_entryOf 7 (some .int)) ({ frames := 2, cells := 0, slots := 0, locals := 43 } : Room)).room s0 m args below meth c (MQ below (QI D cA L sh K) args s0 0 0 (fun q => q ∈ L)) (fun q => q ∈ L) 0 0 D cA L sh 7 h1 108 [(4, .int y4)] []) : ∀ (n : Nat) (s : Int32 × Int32) (h : Hp), lp (b_X6_entryOf_6 sh x0 x1 x2 x3 Xc) n s h → V p l e (headSpec (wM yX6_entryOf cX6_entryOf 7 (some .int)) ({ frames := 2, cells := 0, slots := 0, locals := 43 } : Room)).room s0 m args below meth c (MQ below (QI D cA L sh K) args s0 0 0 (fun q => q ∈ L)) (fun q => q ∈ L) 0 0 D cA L sh 7 h 6 [(0, .ref x0), (1, .int x1), (2, .int x2), (3, .int x3), (4, .int s.1), (5, .int s.2)] [] := by
  have k7 := X.ht _ (inM _ q_485)
  intro n
  induction n with
  | zero => intro s h hf; exact hf.elim
  | succ n ih =>
    intro s h hf
    replace hf : b_X6_entryOf_6 sh x0 x1 x2 x3 Xc (lp (b_X6_entryOf_6 sh x0 x1 x2 x3 Xc) n) s h := hf
    unfold b_X6_entryOf_6 at hf
    refine v_iload (pc := 6) X 5 dX6_entryOf_6 rfl ?_
    refine v_aload_n (pc := 8) X 0 dX6_entryOf_8 rfl rfl ?_
    obtain ⟨t1, hf⟩ := hf
    obtain ⟨q2, e_q2, hf⟩ := hf
    refine ge_6_0 (pc := 9) X (fun w h => inM w (inG6 w h)) k7 t1 e_q2 dX6_entryOf_9 ?_
    refine v_iload_n (pc := 12) X 1 dX6_entryOf_12 rfl rfl ?_
    refine v_bipush (pc := 13) X (v := (6 : Int32)) dX6_entryOf_13 (by decide) ?_
    refine v_callSI (pc := 15) X (As := [.int x1, .int (6 : Int32)]) (rest := [.ref q2, .int s.2]) (c_X6_of l D cA L sh x1 (6 : Int32) h _ hf) (va_cwS 2 X.ht (gwS inM q_551 q_552 q_7 q_553) rfl rfl rfl (by decide +kernel) ⟨Nat.le_of_ble_eq_true rfl, Nat.le_of_ble_eq_true rfl⟩) rfl rfl (Nat.le_of_ble_eq_true rfl) ⟨Nat.zero_le _, Nat.zero_le _⟩ dX6_entryOf_15 (fun r3 h4 hf => ?_)
    obtain ⟨t5, hf⟩ := hf
    obtain ⟨b7, v6, e_v6, hf⟩ := hf
    refine v_iald (pc := 18) X t5 b7 e_v6 dX6_entryOf_18 ?_
    refine v_icmp_ge (pc := 19) X 108 dX6_entryOf_19 (by decide) (fun c => ?_) (fun c => ?_)
    · replace hf := if_t c hf
      refine v_sub [4] rfl ?_
      exact hx s.1 h4 hf
    · replace hf := if_f c hf
      refine v_iload_n (pc := 22) X 3 dX6_entryOf_22 rfl rfl ?_
      refine v_if_ge (pc := 23) X 49 dX6_entryOf_23 (by decide) (fun c => ?_) (fun c => ?_)
      · replace hf := if_t c hf
        refine v_aload_n (pc := 49) X 0 dX6_entryOf_49 rfl rfl ?_
        obtain ⟨q8, e_q8, hf⟩ := hf
        refine ge_6_0 (pc := 50) X (fun w h => inM w (inG6 w h)) k7 t1 e_q8 dX6_entryOf_50 ?_
        refine v_iload_n (pc := 53) X 1 dX6_entryOf_53 rfl rfl ?_
        refine v_iload (pc := 54) X 5 dX6_entryOf_54 rfl ?_
        refine v_iconst (pc := 56) X (v := (1 : Int32)) dX6_entryOf_56 (by decide) ?_
        refine v_callSI (pc := 57) X (As := [.int x1, .int s.2, .int (1 : Int32)]) (rest := [.ref q8]) (c_X6_ofEntry l D cA L sh x1 s.2 (1 : Int32) h4 _ hf) (va_cwS 3 X.ht (gwS inM q_557 q_558 q_7 q_559) rfl rfl rfl (by decide +kernel) ⟨Nat.le_of_ble_eq_true rfl, Nat.le_of_ble_eq_true rfl⟩) rfl rfl (Nat.le_of_ble_eq_true rfl) ⟨Nat.zero_le _, Nat.zero_le _⟩ dX6_entryOf_57 (fun r9 h10 hf => ?_)
        obtain ⟨t11, hf⟩ := hf
        obtain ⟨b13, v12, e_v12, hf⟩ := hf
        refine v_iald (pc := 60) X t11 b13 e_v12 dX6_entryOf_60 ?_
        refine v_iload_n (pc := 61) X 3 dX6_entryOf_61 rfl rfl ?_
        refine v_icmp_ne (pc := 62) X 69 dX6_entryOf_62 (by decide) (fun c => ?_) (fun c => ?_)
        · replace hf := if_f c hf
          refine v_iconst (pc := 69) X (v := (0 : Int32)) dX6_entryOf_69 (by decide) ?_
          refine v_istore (pc := 70) X (i := 6) (lv' := [(6, .int (0 : Int32)), (0, .ref x0), (1, .int x1), (2, .int x2), (3, .int x3), (4, .int s.1), (5, .int s.2)]) dX6_entryOf_70 (Nat.le_of_ble_eq_true rfl) rfl ?_
          refine v_iload (pc := 72) X 0 dX6_entryOf_72 rfl ?_
          refine v_if_eq (pc := 74) X 98 dX6_entryOf_74 (by decide) (fun _ => ?_) (fun c => absurd c (by decide))
          refine v_iload (pc := 98) X 5 dX6_entryOf_98 rfl ?_
          refine v_istore (pc := 100) X (i := 4) (lv' := [(4, .int s.1), (6, .int (0 : Int32)), (0, .ref x0), (1, .int x1), (2, .int x2), (3, .int x3), (5, .int s.2)]) dX6_entryOf_100 (Nat.le_of_ble_eq_true rfl) rfl ?_
          refine v_iinc (pc := 102) X 6 (v := s.2 + (1 : Int32)) (lv' := [(5, .int (s.2 + (1 : Int32))), (4, .int s.1), (6, .int (0 : Int32)), (0, .ref x0), (1, .int x1), (2, .int x2), (3, .int x3)]) dX6_entryOf_102 rfl rfl (Nat.le_of_ble_eq_true rfl) rfl ?_
          refine v_goto (pc := 105) X 6 dX6_entryOf_105 (by decide) ?_
          refine v_sub [3, 4, 5, 6, 1, 0] rfl ?_
          exact ih (s.1, s.2 + (1 : Int32)) h10 hf
        · replace hf := if_t c hf
          refine v_iconst (pc := 65) X (v := (1 : Int32)) dX6_entryOf_65 (by decide) ?_
          refine v_goto (pc := 66) X 70 dX6_entryOf_66 (by decide) ?_
          refine v_istore (pc := 70) X (i := 6) (lv' := [(6, .int (1 : Int32)), (0, .ref x0), (1, .int x1), (2, .int x2), (3, .int x3), (4, .int s.1), (5, .int s.2)]) dX6_entryOf_70 (Nat.le_of_ble_eq_true rfl) rfl ?_
          refine v_iload (pc := 72) X 0 dX6_entryOf_72 rfl ?_
          refine v_if_eq (pc := 74) X 98 dX6_entryOf_74 (by decide) (fun c => absurd c (by decide)) (fun _ => ?_)
          refine v_aload_n (pc := 77) X 1 dX6_entryOf_77 rfl rfl ?_
          obtain ⟨q14, e_q14, hf⟩ := hf
          refine ge_6_0 (pc := 78) X (fun w h => inM w (inG6 w h)) k7 t1 e_q14 dX6_entryOf_78 ?_
          refine v_iload_n (pc := 81) X 2 dX6_entryOf_81 rfl rfl ?_
          refine v_iload (pc := 82) X 6 dX6_entryOf_82 rfl ?_
          refine v_iconst (pc := 84) X (v := (0 : Int32)) dX6_entryOf_84 (by decide) ?_
          refine v_callSI (pc := 85) X (As := [.int x1, .int s.2, .int (0 : Int32)]) (rest := [.ref q14]) (c_X6_ofEntry l D cA L sh x1 s.2 (0 : Int32) h10 _ hf) (va_cwS 3 X.ht (gwS inM q_557 q_558 q_7 q_559) rfl rfl rfl (by decide +kernel) ⟨Nat.le_of_ble_eq_true rfl, Nat.le_of_ble_eq_true rfl⟩) rfl rfl (Nat.le_of_ble_eq_true rfl) ⟨Nat.zero_le _, Nat.zero_le _⟩ dX6_entryOf_85 (fun r15 h16 hf => ?_)
          obtain ⟨t17, hf⟩ := hf
          obtain ⟨b19, v18, e_v18, hf⟩ := hf
          refine v_iald (pc := 88) X t17 b19 e_v18 dX6_entryOf_88 ?_
          refine v_iload_n (pc := 89) X 3 dX6_entryOf_89 rfl rfl ?_
          refine v_icmp_ne (pc := 90) X 98 dX6_entryOf_90 (by decide) (fun c => ?_) (fun c => ?_)
          · replace hf := if_f c hf
            refine v_iload (pc := 98) X 5 dX6_entryOf_98 rfl ?_
            refine v_istore (pc := 100) X (i := 4) (lv' := [(4, .int s.1), (6, .int (1 : Int32)), (0, .ref x0), (1, .int x1), (2, .int x2), (3, .int x3), (5, .int s.2)]) dX6_entryOf_100 (Nat.le_of_ble_eq_true rfl) rfl ?_
            refine v_iinc (pc := 102) X 6 (v := s.2 + (1 : Int32)) (lv' := [(5, .int (s.2 + (1 : Int32))), (4, .int s.1), (6, .int (1 : Int32)), (0, .ref x0), (1, .int x1), (2, .int x2), (3, .int x3)]) dX6_entryOf_102 rfl rfl (Nat.le_of_ble_eq_true rfl) rfl ?_
            refine v_goto (pc := 105) X 6 dX6_entryOf_105 (by decide) ?_
            refine v_sub [3, 4, 5, 6, 1, 0] rfl ?_
            exact ih (s.1, s.2 + (1 : Int32)) h16 hf
          · replace hf := if_t c hf
            refine v_iload (pc := 93) X 6 dX6_entryOf_93 rfl ?_
            refine v_goto (pc := 95) X 100 dX6_entryOf_95 (by decide) ?_
            refine v_istore (pc := 100) X (i := 4) (lv' := [(4, .int s.2), (6, .int (1 : Int32)), (0, .ref x0), (1, .int x1), (2, .int x2), (3, .int x3), (5, .int s.2)]) dX6_entryOf_100 (Nat.le_of_ble_eq_true rfl) rfl ?_
            refine v_iinc (pc := 102) X 6 (v := s.2 + (1 : Int32)) (lv' := [(5, .int (s.2 + (1 : Int32))), (4, .int s.2), (6, .int (1 : Int32)), (0, .ref x0), (1, .int x1), (2, .int x2), (3, .int x3)]) dX6_entryOf_102 rfl rfl (Nat.le_of_ble_eq_true rfl) rfl ?_
            refine v_goto (pc := 105) X 6 dX6_entryOf_105 (by decide) ?_
            refine v_sub [3, 4, 5, 6, 1, 0] rfl ?_
            exact ih (s.2, s.2 + (1 : Int32)) h16 hf
      · replace hf := if_f c hf
        refine v_aload_n (pc := 26) X 0 dX6_entryOf_26 rfl rfl ?_
        obtain ⟨q20, e_q20, hf⟩ := hf
        refine ge_6_0 (pc := 27) X (fun w h => inM w (inG6 w h)) k7 t1 e_q20 dX6_entryOf_27 ?_
        refine v_iload_n (pc := 30) X 1 dX6_entryOf_30 rfl rfl ?_
        refine v_iload (pc := 31) X 5 dX6_entryOf_31 rfl ?_
        refine v_iconst (pc := 33) X (v := (5 : Int32)) dX6_entryOf_33 (by decide) ?_
        refine v_callSI (pc := 34) X (As := [.int x1, .int s.2, .int (5 : Int32)]) (rest := [.ref q20]) (c_X6_ofEntry l D cA L sh x1 s.2 (5 : Int32) h4 _ hf) (va_cwS 3 X.ht (gwS inM q_557 q_558 q_7 q_559) rfl rfl rfl (by decide +kernel) ⟨Nat.le_of_ble_eq_true rfl, Nat.le_of_ble_eq_true rfl⟩) rfl rfl (Nat.le_of_ble_eq_true rfl) ⟨Nat.zero_le _, Nat.zero_le _⟩ dX6_entryOf_34 (fun r21 h22 hf => ?_)
        obtain ⟨t23, hf⟩ := hf
        obtain ⟨b25, v24, e_v24, hf⟩ := hf
        refine v_iald (pc := 37) X t23 b25 e_v24 dX6_entryOf_37 ?_
        refine v_if_ne (pc := 38) X 45 dX6_entryOf_38 (by decide) (fun c => ?_) (fun c => ?_)
        · replace hf := if_f c hf
          refine v_iconst (pc := 45) X (v := (0 : Int32)) dX6_entryOf_45 (by decide) ?_
          refine v_goto (pc := 46) X 70 dX6_entryOf_46 (by decide) ?_
          refine v_istore (pc := 70) X (i := 6) (lv' := [(6, .int (0 : Int32)), (0, .ref x0), (1, .int x1), (2, .int x2), (3, .int x3), (4, .int s.1), (5, .int s.2)]) dX6_entryOf_70 (Nat.le_of_ble_eq_true rfl) rfl ?_
          refine v_iload (pc := 72) X 0 dX6_entryOf_72 rfl ?_
          refine v_if_eq (pc := 74) X 98 dX6_entryOf_74 (by decide) (fun _ => ?_) (fun c => absurd c (by decide))
          refine v_iload (pc := 98) X 5 dX6_entryOf_98 rfl ?_
          refine v_istore (pc := 100) X (i := 4) (lv' := [(4, .int s.1), (6, .int (0 : Int32)), (0, .ref x0), (1, .int x1), (2, .int x2), (3, .int x3), (5, .int s.2)]) dX6_entryOf_100 (Nat.le_of_ble_eq_true rfl) rfl ?_
          refine v_iinc (pc := 102) X 6 (v := s.2 + (1 : Int32)) (lv' := [(5, .int (s.2 + (1 : Int32))), (4, .int s.1), (6, .int (0 : Int32)), (0, .ref x0), (1, .int x1), (2, .int x2), (3, .int x3)]) dX6_entryOf_102 rfl rfl (Nat.le_of_ble_eq_true rfl) rfl ?_
          refine v_goto (pc := 105) X 6 dX6_entryOf_105 (by decide) ?_
          refine v_sub [3, 4, 5, 6, 1, 0] rfl ?_
          exact ih (s.1, s.2 + (1 : Int32)) h22 hf
        · replace hf := if_t c hf
          refine v_iconst (pc := 41) X (v := (1 : Int32)) dX6_entryOf_41 (by decide) ?_
          refine v_goto (pc := 42) X 70 dX6_entryOf_42 (by decide) ?_
          refine v_istore (pc := 70) X (i := 6) (lv' := [(6, .int (1 : Int32)), (0, .ref x0), (1, .int x1), (2, .int x2), (3, .int x3), (4, .int s.1), (5, .int s.2)]) dX6_entryOf_70 (Nat.le_of_ble_eq_true rfl) rfl ?_
          refine v_iload (pc := 72) X 0 dX6_entryOf_72 rfl ?_
          refine v_if_eq (pc := 74) X 98 dX6_entryOf_74 (by decide) (fun c => absurd c (by decide)) (fun _ => ?_)
          refine v_aload_n (pc := 77) X 1 dX6_entryOf_77 rfl rfl ?_
          obtain ⟨q26, e_q26, hf⟩ := hf
          refine ge_6_0 (pc := 78) X (fun w h => inM w (inG6 w h)) k7 t1 e_q26 dX6_entryOf_78 ?_
          refine v_iload_n (pc := 81) X 2 dX6_entryOf_81 rfl rfl ?_
          refine v_iload (pc := 82) X 6 dX6_entryOf_82 rfl ?_
          refine v_iconst (pc := 84) X (v := (0 : Int32)) dX6_entryOf_84 (by decide) ?_
          refine v_callSI (pc := 85) X (As := [.int x1, .int s.2, .int (0 : Int32)]) (rest := [.ref q26]) (c_X6_ofEntry l D cA L sh x1 s.2 (0 : Int32) h22 _ hf) (va_cwS 3 X.ht (gwS inM q_557 q_558 q_7 q_559) rfl rfl rfl (by decide +kernel) ⟨Nat.le_of_ble_eq_true rfl, Nat.le_of_ble_eq_true rfl⟩) rfl rfl (Nat.le_of_ble_eq_true rfl) ⟨Nat.zero_le _, Nat.zero_le _⟩ dX6_entryOf_85 (fun r27 h28 hf => ?_)
          obtain ⟨t29, hf⟩ := hf
          obtain ⟨b31, v30, e_v30, hf⟩ := hf
          refine v_iald (pc := 88) X t29 b31 e_v30 dX6_entryOf_88 ?_
          refine v_iload_n (pc := 89) X 3 dX6_entryOf_89 rfl rfl ?_
          refine v_icmp_ne (pc := 90) X 98 dX6_entryOf_90 (by decide) (fun c => ?_) (fun c => ?_)
          · replace hf := if_f c hf
            refine v_iload (pc := 98) X 5 dX6_entryOf_98 rfl ?_
            refine v_istore (pc := 100) X (i := 4) (lv' := [(4, .int s.1), (6, .int (1 : Int32)), (0, .ref x0), (1, .int x1), (2, .int x2), (3, .int x3), (5, .int s.2)]) dX6_entryOf_100 (Nat.le_of_ble_eq_true rfl) rfl ?_
            refine v_iinc (pc := 102) X 6 (v := s.2 + (1 : Int32)) (lv' := [(5, .int (s.2 + (1 : Int32))), (4, .int s.1), (6, .int (1 : Int32)), (0, .ref x0), (1, .int x1), (2, .int x2), (3, .int x3)]) dX6_entryOf_102 rfl rfl (Nat.le_of_ble_eq_true rfl) rfl ?_
            refine v_goto (pc := 105) X 6 dX6_entryOf_105 (by decide) ?_
            refine v_sub [3, 4, 5, 6, 1, 0] rfl ?_
            exact ih (s.1, s.2 + (1 : Int32)) h28 hf
          · replace hf := if_t c hf
            refine v_iload (pc := 93) X 6 dX6_entryOf_93 rfl ?_
            refine v_goto (pc := 95) X 100 dX6_entryOf_95 (by decide) ?_
            refine v_istore (pc := 100) X (i := 4) (lv' := [(4, .int s.2), (6, .int (1 : Int32)), (0, .ref x0), (1, .int x1), (2, .int x2), (3, .int x3), (5, .int s.2)]) dX6_entryOf_100 (Nat.le_of_ble_eq_true rfl) rfl ?_
            refine v_iinc (pc := 102) X 6 (v := s.2 + (1 : Int32)) (lv' := [(5, .int (s.2 + (1 : Int32))), (4, .int s.2), (6, .int (1 : Int32)), (0, .ref x0), (1, .int x1), (2, .int x2), (3, .int x3)]) dX6_entryOf_102 rfl rfl (Nat.le_of_ble_eq_true rfl) rfl ?_
            refine v_goto (pc := 105) X 6 dX6_entryOf_105 (by decide) ?_
            refine v_sub [3, 4, 5, 6, 1, 0] rfl ?_
            exact ih (s.2, s.2 + (1 : Int32)) h28 hf

set_option maxHeartbeats 4000000 in
set_option maxRecDepth 100000 in
theorem c_X6_entryOf (l : Launch) (D : va_G) (cA : Nat → ClassId) (L : List Nat) (sh : Sh) (a0 : Nat) (p1 : Int32) (p2 : Int32) (p3 : Int32) (h : Hp) (K : Int32 → Hp → Prop) (hf : f_X6_entryOf sh a0 p1 p2 p3 h K) : Met l yX6_entryOf (wM yX6_entryOf cX6_entryOf 7 (some .int)) ({ frames := 2, cells := 0, slots := 0, locals := 43 } : Room) (PreM D cA L sh h [.ref a0, .int p1, .int p2, .int p3]) (QI D cA L sh K) 0 0 (fun q => q ∈ L) := by
  refine met_v (cc := cX6_entryOf) (nL := 7) (ret := (some .int)) [(0, .ref a0), (1, .int p1), (2, .int p2), (3, .int p3)] (by decide) rfl (Nat.le_of_ble_eq_true rfl) rfl ?_
  intro p e s0 m below meth c X hr hlk
  have k7 := X.ht _ (inM _ q_485)
  unfold f_X6_entryOf at hf
  refine v_iconst (pc := 0) X (v := (-1 : Int32)) dX6_entryOf_0 (by decide) ?_
  refine v_istore (pc := 1) X (i := 4) (lv' := [(4, .int (-1 : Int32)), (0, .ref a0), (1, .int p1), (2, .int p2), (3, .int p3)]) dX6_entryOf_1 (Nat.le_of_ble_eq_true rfl) rfl ?_
  refine v_iconst (pc := 3) X (v := (0 : Int32)) dX6_entryOf_3 (by decide) ?_
  refine v_istore (pc := 4) X (i := 5) (lv' := [(5, .int (0 : Int32)), (4, .int (-1 : Int32)), (0, .ref a0), (1, .int p1), (2, .int p2), (3, .int p3)]) dX6_entryOf_4 (Nat.le_of_ble_eq_true rfl) rfl ?_
  obtain ⟨n, hf⟩ := hf
  refine v_sub [2, 3, 4, 5, 1, 0] rfl ?_
  refine w_X6_entryOf_6 X hr hlk a0 p1 p2 p3 _ K (fun y32 h33 hf => ?_) n ((-1 : Int32), (0 : Int32)) h hf
  refine v_iload (pc := 108) X 0 dX6_entryOf_108 rfl ?_
  exact v_iret (pc := 110) X hr hlk dX6_entryOf_110 hf
set_option maxHeartbeats 4000000 in
set_option maxRecDepth 100000 in
theorem w_X6_oldest_4 {p : Program} {l : Launch} {e : Env} {s0 : State} {m : MethodId} {args : Array Value} {below : List Frame} {meth : Method} {c : Code} {D : va_G} {cA : Nat → ClassId} {L : List Nat} {sh : Sh} (X : Cx p s0 m c args cX6_oldest 5 (wM yX6_oldest cX6_oldest 5 (some .int)) RX6 (fun q => q ∈ L) D cA L sh) (hr : meth.sig.returnType = (some .int)) (hlk : meth.locks = false) (x0 : Nat) (x1 : Int32) (Xc : Int32 → Hp → Prop) (K : Int32 → Hp → Prop) (hx : ∀ (y2 : Int32) (h1 : Hp), Xc y2 h1 → V p l e (headSpec (wM yX6_oldest cX6_oldest 5 (some .int)) ({ frames := 2, cells := 0, slots := 0, locals := 43 } : Room)).room s0 m args below meth c (MQ below (QI D cA L sh K) args s0 0 0 (fun q => q ∈ L)) (fun q => q ∈ L) 0 0 D cA L sh 5 h1 86 [(2, .int y2)] []) : ∀ (n : Nat) (s : Int32 × Int32) (h : Hp), lp (b_X6_oldest_4 sh x0 x1 Xc) n s h → V p l e (headSpec (wM yX6_oldest cX6_oldest 5 (some .int)) ({ frames := 2, cells := 0, slots := 0, locals := 43 } : Room)).room s0 m args below meth c (MQ below (QI D cA L sh K) args s0 0 0 (fun q => q ∈ L)) (fun q => q ∈ L) 0 0 D cA L sh 5 h 4 [(0, .ref x0), (1, .int x1), (2, .int s.1), (3, .int s.2)] [] := by
  have k7 := X.ht _ (inM _ q_485)
  intro n
  induction n with
  | zero => intro s h hf; exact hf.elim
  | succ n ih =>
    intro s h hf
    replace hf : b_X6_oldest_4 sh x0 x1 Xc (lp (b_X6_oldest_4 sh x0 x1 Xc) n) s h := hf
    unfold b_X6_oldest_4 at hf
    refine v_iload_n (pc := 4) X 3 dX6_oldest_4 rfl rfl ?_
    refine v_aload_n (pc := 5) X 0 dX6_oldest_5 rfl rfl ?_
    obtain ⟨t1, hf⟩ := hf
    obtain ⟨q2, e_q2, hf⟩ := hf
    refine ge_6_0 (pc := 6) X (fun w h => inM w (inG6 w h)) k7 t1 e_q2 dX6_oldest_6 ?_
    refine v_iload_n (pc := 9) X 1 dX6_oldest_9 rfl rfl ?_
    refine v_bipush (pc := 10) X (v := (6 : Int32)) dX6_oldest_10 (by decide) ?_
    refine v_callSI (pc := 12) X (As := [.int x1, .int (6 : Int32)]) (rest := [.ref q2, .int s.2]) (c_X6_of l D cA L sh x1 (6 : Int32) h _ hf) (va_cwS 2 X.ht (gwS inM q_551 q_552 q_7 q_553) rfl rfl rfl (by decide +kernel) ⟨Nat.le_of_ble_eq_true rfl, Nat.le_of_ble_eq_true rfl⟩) rfl rfl (Nat.le_of_ble_eq_true rfl) ⟨Nat.zero_le _, Nat.zero_le _⟩ dX6_oldest_12 (fun r3 h4 hf => ?_)
    obtain ⟨t5, hf⟩ := hf
    obtain ⟨b7, v6, e_v6, hf⟩ := hf
    refine v_iald (pc := 15) X t5 b7 e_v6 dX6_oldest_15 ?_
    refine v_icmp_ge (pc := 16) X 86 dX6_oldest_16 (by decide) (fun c => ?_) (fun c => ?_)
    · replace hf := if_t c hf
      refine v_sub [2] rfl ?_
      exact hx s.1 h4 hf
    · replace hf := if_f c hf
      refine v_aload_n (pc := 19) X 0 dX6_oldest_19 rfl rfl ?_
      obtain ⟨q8, e_q8, hf⟩ := hf
      refine ge_6_0 (pc := 20) X (fun w h => inM w (inG6 w h)) k7 t1 e_q8 dX6_oldest_20 ?_
      refine v_iload_n (pc := 23) X 1 dX6_oldest_23 rfl rfl ?_
      refine v_iload_n (pc := 24) X 3 dX6_oldest_24 rfl rfl ?_
      refine v_iconst (pc := 25) X (v := (3 : Int32)) dX6_oldest_25 (by decide) ?_
      refine v_callSI (pc := 26) X (As := [.int x1, .int s.2, .int (3 : Int32)]) (rest := [.ref q8]) (c_X6_ofEntry l D cA L sh x1 s.2 (3 : Int32) h4 _ hf) (va_cwS 3 X.ht (gwS inM q_557 q_558 q_7 q_559) rfl rfl rfl (by decide +kernel) ⟨Nat.le_of_ble_eq_true rfl, Nat.le_of_ble_eq_true rfl⟩) rfl rfl (Nat.le_of_ble_eq_true rfl) ⟨Nat.zero_le _, Nat.zero_le _⟩ dX6_oldest_26 (fun r9 h10 hf => ?_)
      obtain ⟨t11, hf⟩ := hf
      obtain ⟨b13, v12, e_v12, hf⟩ := hf
      refine v_iald (pc := 29) X t11 b13 e_v12 dX6_oldest_29 ?_
      refine v_if_ne (pc := 30) X 66 dX6_oldest_30 (by decide) (fun c => ?_) (fun c => ?_)
      · replace hf := if_f c hf
        refine v_iconst (pc := 66) X (v := (0 : Int32)) dX6_oldest_66 (by decide) ?_
        refine v_istore (pc := 67) X (i := 4) (lv' := [(4, .int (0 : Int32)), (0, .ref x0), (1, .int x1), (2, .int s.1), (3, .int s.2)]) dX6_oldest_67 (Nat.le_of_ble_eq_true rfl) rfl ?_
        refine v_iload (pc := 69) X 0 dX6_oldest_69 rfl ?_
        refine v_if_eq (pc := 71) X 78 dX6_oldest_71 (by decide) (fun _ => ?_) (fun c => absurd c (by decide))
        refine v_iload_n (pc := 78) X 3 dX6_oldest_78 rfl rfl ?_
        refine v_istore_n (pc := 79) X (i := 2) (lv' := [(2, .int s.1), (4, .int (0 : Int32)), (0, .ref x0), (1, .int x1), (3, .int s.2)]) dX6_oldest_79 rfl (Nat.le_of_ble_eq_true rfl) rfl ?_
        refine v_iinc (pc := 80) X 4 (v := s.2 + (1 : Int32)) (lv' := [(3, .int (s.2 + (1 : Int32))), (2, .int s.1), (4, .int (0 : Int32)), (0, .ref x0), (1, .int x1)]) dX6_oldest_80 rfl rfl (Nat.le_of_ble_eq_true rfl) rfl ?_
        refine v_goto (pc := 83) X 4 dX6_oldest_83 (by decide) ?_
        refine v_sub [3, 4, 1, 0] rfl ?_
        exact ih (s.1, s.2 + (1 : Int32)) h10 hf
      · replace hf := if_t c hf
        refine v_iload_n (pc := 33) X 2 dX6_oldest_33 rfl rfl ?_
        refine v_if_lt (pc := 34) X 62 dX6_oldest_34 (by decide) (fun c => ?_) (fun c => ?_)
        · replace hf := if_t c hf
          refine v_iconst (pc := 62) X (v := (1 : Int32)) dX6_oldest_62 (by decide) ?_
          refine v_goto (pc := 63) X 67 dX6_oldest_63 (by decide) ?_
          refine v_istore (pc := 67) X (i := 4) (lv' := [(4, .int (1 : Int32)), (0, .ref x0), (1, .int x1), (2, .int s.1), (3, .int s.2)]) dX6_oldest_67 (Nat.le_of_ble_eq_true rfl) rfl ?_
          refine v_iload (pc := 69) X 0 dX6_oldest_69 rfl ?_
          refine v_if_eq (pc := 71) X 78 dX6_oldest_71 (by decide) (fun c => absurd c (by decide)) (fun _ => ?_)
          refine v_iload_n (pc := 74) X 4 dX6_oldest_74 rfl rfl ?_
          refine v_goto (pc := 75) X 79 dX6_oldest_75 (by decide) ?_
          refine v_istore_n (pc := 79) X (i := 2) (lv' := [(2, .int s.2), (4, .int (1 : Int32)), (0, .ref x0), (1, .int x1), (3, .int s.2)]) dX6_oldest_79 rfl (Nat.le_of_ble_eq_true rfl) rfl ?_
          refine v_iinc (pc := 80) X 4 (v := s.2 + (1 : Int32)) (lv' := [(3, .int (s.2 + (1 : Int32))), (2, .int s.2), (4, .int (1 : Int32)), (0, .ref x0), (1, .int x1)]) dX6_oldest_80 rfl rfl (Nat.le_of_ble_eq_true rfl) rfl ?_
          refine v_goto (pc := 83) X 4 dX6_oldest_83 (by decide) ?_
          refine v_sub [3, 4, 1, 0] rfl ?_
          exact ih (s.2, s.2 + (1 : Int32)) h10 hf
        · replace hf := if_f c hf
          refine v_aload_n (pc := 37) X 0 dX6_oldest_37 rfl rfl ?_
          obtain ⟨q14, e_q14, hf⟩ := hf
          refine ge_6_0 (pc := 38) X (fun w h => inM w (inG6 w h)) k7 t1 e_q14 dX6_oldest_38 ?_
          refine v_iload_n (pc := 41) X 1 dX6_oldest_41 rfl rfl ?_
          refine v_iload_n (pc := 42) X 3 dX6_oldest_42 rfl rfl ?_
          refine v_iconst (pc := 43) X (v := (4 : Int32)) dX6_oldest_43 (by decide) ?_
          refine v_callSI (pc := 44) X (As := [.int x1, .int s.2, .int (4 : Int32)]) (rest := [.ref q14]) (c_X6_ofEntry l D cA L sh x1 s.2 (4 : Int32) h10 _ hf) (va_cwS 3 X.ht (gwS inM q_557 q_558 q_7 q_559) rfl rfl rfl (by decide +kernel) ⟨Nat.le_of_ble_eq_true rfl, Nat.le_of_ble_eq_true rfl⟩) rfl rfl (Nat.le_of_ble_eq_true rfl) ⟨Nat.zero_le _, Nat.zero_le _⟩ dX6_oldest_44 (fun r15 h16 hf => ?_)
          obtain ⟨t17, hf⟩ := hf
          obtain ⟨b19, v18, e_v18, hf⟩ := hf
          refine v_iald (pc := 47) X t17 b19 e_v18 dX6_oldest_47 ?_
          refine v_aload_n (pc := 48) X 0 dX6_oldest_48 rfl rfl ?_
          obtain ⟨q20, e_q20, hf⟩ := hf
          refine ge_6_0 (pc := 49) X (fun w h => inM w (inG6 w h)) k7 t1 e_q20 dX6_oldest_49 ?_
          refine v_iload_n (pc := 52) X 1 dX6_oldest_52 rfl rfl ?_
          refine v_iload_n (pc := 53) X 2 dX6_oldest_53 rfl rfl ?_
          refine v_iconst (pc := 54) X (v := (4 : Int32)) dX6_oldest_54 (by decide) ?_
          refine v_callSI (pc := 55) X (As := [.int x1, .int s.1, .int (4 : Int32)]) (rest := [.ref q20, .int v18]) (c_X6_ofEntry l D cA L sh x1 s.1 (4 : Int32) h16 _ hf) (va_cwS 3 X.ht (gwS inM q_557 q_558 q_7 q_559) rfl rfl rfl (by decide +kernel) ⟨Nat.le_of_ble_eq_true rfl, Nat.le_of_ble_eq_true rfl⟩) rfl rfl (Nat.le_of_ble_eq_true rfl) ⟨Nat.zero_le _, Nat.zero_le _⟩ dX6_oldest_55 (fun r21 h22 hf => ?_)
          obtain ⟨t23, hf⟩ := hf
          obtain ⟨b25, v24, e_v24, hf⟩ := hf
          refine v_iald (pc := 58) X t23 b25 e_v24 dX6_oldest_58 ?_
          refine v_icmp_ge (pc := 59) X 66 dX6_oldest_59 (by decide) (fun c => ?_) (fun c => ?_)
          · replace hf := if_t c hf
            refine v_iconst (pc := 66) X (v := (0 : Int32)) dX6_oldest_66 (by decide) ?_
            refine v_istore (pc := 67) X (i := 4) (lv' := [(4, .int (0 : Int32)), (0, .ref x0), (1, .int x1), (2, .int s.1), (3, .int s.2)]) dX6_oldest_67 (Nat.le_of_ble_eq_true rfl) rfl ?_
            refine v_iload (pc := 69) X 0 dX6_oldest_69 rfl ?_
            refine v_if_eq (pc := 71) X 78 dX6_oldest_71 (by decide) (fun _ => ?_) (fun c => absurd c (by decide))
            refine v_iload_n (pc := 78) X 3 dX6_oldest_78 rfl rfl ?_
            refine v_istore_n (pc := 79) X (i := 2) (lv' := [(2, .int s.1), (4, .int (0 : Int32)), (0, .ref x0), (1, .int x1), (3, .int s.2)]) dX6_oldest_79 rfl (Nat.le_of_ble_eq_true rfl) rfl ?_
            refine v_iinc (pc := 80) X 4 (v := s.2 + (1 : Int32)) (lv' := [(3, .int (s.2 + (1 : Int32))), (2, .int s.1), (4, .int (0 : Int32)), (0, .ref x0), (1, .int x1)]) dX6_oldest_80 rfl rfl (Nat.le_of_ble_eq_true rfl) rfl ?_
            refine v_goto (pc := 83) X 4 dX6_oldest_83 (by decide) ?_
            refine v_sub [3, 4, 1, 0] rfl ?_
            exact ih (s.1, s.2 + (1 : Int32)) h22 hf
          · replace hf := if_f c hf
            refine v_iconst (pc := 62) X (v := (1 : Int32)) dX6_oldest_62 (by decide) ?_
            refine v_goto (pc := 63) X 67 dX6_oldest_63 (by decide) ?_
            refine v_istore (pc := 67) X (i := 4) (lv' := [(4, .int (1 : Int32)), (0, .ref x0), (1, .int x1), (2, .int s.1), (3, .int s.2)]) dX6_oldest_67 (Nat.le_of_ble_eq_true rfl) rfl ?_
            refine v_iload (pc := 69) X 0 dX6_oldest_69 rfl ?_
            refine v_if_eq (pc := 71) X 78 dX6_oldest_71 (by decide) (fun c => absurd c (by decide)) (fun _ => ?_)
            refine v_iload_n (pc := 74) X 4 dX6_oldest_74 rfl rfl ?_
            refine v_goto (pc := 75) X 79 dX6_oldest_75 (by decide) ?_
            refine v_istore_n (pc := 79) X (i := 2) (lv' := [(2, .int s.2), (4, .int (1 : Int32)), (0, .ref x0), (1, .int x1), (3, .int s.2)]) dX6_oldest_79 rfl (Nat.le_of_ble_eq_true rfl) rfl ?_
            refine v_iinc (pc := 80) X 4 (v := s.2 + (1 : Int32)) (lv' := [(3, .int (s.2 + (1 : Int32))), (2, .int s.2), (4, .int (1 : Int32)), (0, .ref x0), (1, .int x1)]) dX6_oldest_80 rfl rfl (Nat.le_of_ble_eq_true rfl) rfl ?_
            refine v_goto (pc := 83) X 4 dX6_oldest_83 (by decide) ?_
            refine v_sub [3, 4, 1, 0] rfl ?_
            exact ih (s.2, s.2 + (1 : Int32)) h22 hf

set_option maxHeartbeats 4000000 in
set_option maxRecDepth 100000 in
theorem c_X6_oldest (l : Launch) (D : va_G) (cA : Nat → ClassId) (L : List Nat) (sh : Sh) (a0 : Nat) (p1 : Int32) (h : Hp) (K : Int32 → Hp → Prop) (hf : f_X6_oldest sh a0 p1 h K) : Met l yX6_oldest (wM yX6_oldest cX6_oldest 5 (some .int)) ({ frames := 2, cells := 0, slots := 0, locals := 43 } : Room) (PreM D cA L sh h [.ref a0, .int p1]) (QI D cA L sh K) 0 0 (fun q => q ∈ L) := by
  refine met_v (cc := cX6_oldest) (nL := 5) (ret := (some .int)) [(0, .ref a0), (1, .int p1)] (by decide) rfl (Nat.le_of_ble_eq_true rfl) rfl ?_
  intro p e s0 m below meth c X hr hlk
  have k7 := X.ht _ (inM _ q_485)
  unfold f_X6_oldest at hf
  refine v_iconst (pc := 0) X (v := (-1 : Int32)) dX6_oldest_0 (by decide) ?_
  refine v_istore_n (pc := 1) X (i := 2) (lv' := [(2, .int (-1 : Int32)), (0, .ref a0), (1, .int p1)]) dX6_oldest_1 rfl (Nat.le_of_ble_eq_true rfl) rfl ?_
  refine v_iconst (pc := 2) X (v := (0 : Int32)) dX6_oldest_2 (by decide) ?_
  refine v_istore_n (pc := 3) X (i := 3) (lv' := [(3, .int (0 : Int32)), (2, .int (-1 : Int32)), (0, .ref a0), (1, .int p1)]) dX6_oldest_3 rfl (Nat.le_of_ble_eq_true rfl) rfl ?_
  obtain ⟨n, hf⟩ := hf
  refine v_sub [2, 3, 1, 0] rfl ?_
  refine w_X6_oldest_4 X hr hlk a0 p1 _ K (fun y26 h27 hf => ?_) n ((-1 : Int32), (0 : Int32)) h hf
  refine v_iload_n (pc := 86) X 0 dX6_oldest_86 rfl rfl ?_
  exact v_iret (pc := 87) X hr hlk dX6_oldest_87 hf
set_option maxHeartbeats 4000000 in
set_option maxRecDepth 100000 in
theorem w_X6_shrink_2 {p : Program} {l : Launch} {e : Env} {s0 : State} {m : MethodId} {args : Array Value} {below : List Frame} {meth : Method} {c : Code} {D : va_G} {cA : Nat → ClassId} {L : List Nat} {sh : Sh} (X : Cx p s0 m c args cX6_shrink 4 (wM yX6_shrink cX6_shrink 4 (some .int)) RX6 (fun q => q ∈ L) D cA L sh) (hr : meth.sig.returnType = (some .int)) (hlk : meth.locks = false) (x0 : Nat) (x1 : Int32) (x2 : Int32) (Xc : Int32 → Hp → Prop) (K : Int32 → Hp → Prop) (hx : ∀ (y3 : Int32) (h1 : Hp), Xc y3 h1 → V p l e (headSpec (wM yX6_shrink cX6_shrink 4 (some .int)) ({ frames := 3, cells := 0, slots := 0, locals := 67 } : Room)).room s0 m args below meth c (MQ below (QI D cA L sh K) args s0 0 0 (fun q => q ∈ L)) (fun q => q ∈ L) 0 0 D cA L sh 4 h1 55 [(3, .int y3)] []) : ∀ (n : Nat) (s : Int32) (h : Hp), lp (b_X6_shrink_2 sh x0 x1 x2 Xc) n s h → V p l e (headSpec (wM yX6_shrink cX6_shrink 4 (some .int)) ({ frames := 3, cells := 0, slots := 0, locals := 67 } : Room)).room s0 m args below meth c (MQ below (QI D cA L sh K) args s0 0 0 (fun q => q ∈ L)) (fun q => q ∈ L) 0 0 D cA L sh 4 h 2 [(0, .ref x0), (1, .int x1), (2, .int x2), (3, .int s)] [] := by
  have k7 := X.ht _ (inM _ q_485)
  intro n
  induction n with
  | zero => intro s h hf; exact hf.elim
  | succ n ih =>
    intro s h hf
    replace hf : b_X6_shrink_2 sh x0 x1 x2 Xc (lp (b_X6_shrink_2 sh x0 x1 x2 Xc) n) s h := hf
    unfold b_X6_shrink_2 at hf
    refine v_aload_n (pc := 2) X 0 dX6_shrink_2 rfl rfl ?_
    obtain ⟨t1, hf⟩ := hf
    obtain ⟨q2, e_q2, hf⟩ := hf
    refine ge_6_0 (pc := 3) X (fun w h => inM w (inG6 w h)) k7 t1 e_q2 dX6_shrink_3 ?_
    refine v_iload_n (pc := 6) X 1 dX6_shrink_6 rfl rfl ?_
    refine v_bipush (pc := 7) X (v := (6 : Int32)) dX6_shrink_7 (by decide) ?_
    refine v_callSI (pc := 9) X (As := [.int x1, .int (6 : Int32)]) (rest := [.ref q2]) (c_X6_of l D cA L sh x1 (6 : Int32) h _ hf) (va_cwS 2 X.ht (gwS inM q_551 q_552 q_7 q_553) rfl rfl rfl (by decide +kernel) ⟨Nat.le_of_ble_eq_true rfl, Nat.le_of_ble_eq_true rfl⟩) rfl rfl (Nat.le_of_ble_eq_true rfl) ⟨Nat.zero_le _, Nat.zero_le _⟩ dX6_shrink_9 (fun r3 h4 hf => ?_)
    obtain ⟨t5, hf⟩ := hf
    obtain ⟨b7, v6, e_v6, hf⟩ := hf
    refine v_iald (pc := 12) X t5 b7 e_v6 dX6_shrink_12 ?_
    refine v_iload_n (pc := 13) X 2 dX6_shrink_13 rfl rfl ?_
    refine v_icmp_le (pc := 14) X 55 dX6_shrink_14 (by decide) (fun c => ?_) (fun c => ?_)
    · replace hf := if_t c hf
      refine v_sub [3] rfl ?_
      exact hx s h4 hf
    · replace hf := if_f c hf
      refine v_aload_n (pc := 17) X 0 dX6_shrink_17 rfl rfl ?_
      refine v_iload_n (pc := 18) X 1 dX6_shrink_18 rfl rfl ?_
      refine v_callVI (pc := 19) X (As := [.int x1]) (rest := []) (c_X6_oldest l D cA L sh x0 x1 h4 _ hf) (cwV 1 X.ht (gwV inM q_591 q_592 q_762 q_7 q_593) rfl rfl rfl (by decide +kernel) ⟨Nat.le_of_ble_eq_true rfl, Nat.le_of_ble_eq_true rfl⟩) rfl (by decide) t1 (ent_6 t1) rfl rfl (Nat.le_of_ble_eq_true rfl) ⟨Nat.zero_le _, Nat.zero_le _⟩ dX6_shrink_19 (fun r8 h9 hf => ?_)
      refine v_if_lt (pc := 22) X 55 dX6_shrink_22 (by decide) (fun c => ?_) (fun c => ?_)
      · replace hf := if_t c hf
        refine v_sub [3] rfl ?_
        exact hx s h9 hf
      · replace hf := if_f c hf
        refine v_aload_n (pc := 25) X 0 dX6_shrink_25 rfl rfl ?_
        refine v_iload_n (pc := 26) X 1 dX6_shrink_26 rfl rfl ?_
        refine v_aload_n (pc := 27) X 0 dX6_shrink_27 rfl rfl ?_
        refine v_iload_n (pc := 28) X 1 dX6_shrink_28 rfl rfl ?_
        refine v_callVI (pc := 29) X (As := [.int x1]) (rest := [.int x1, .ref x0]) (c_X6_oldest l D cA L sh x0 x1 h9 _ hf) (cwV 1 X.ht (gwV inM q_591 q_592 q_762 q_7 q_593) rfl rfl rfl (by decide +kernel) ⟨Nat.le_of_ble_eq_true rfl, Nat.le_of_ble_eq_true rfl⟩) rfl (by decide) t1 (ent_6 t1) rfl rfl (Nat.le_of_ble_eq_true rfl) ⟨Nat.zero_le _, Nat.zero_le _⟩ dX6_shrink_29 (fun r10 h11 hf => ?_)
        refine v_callVV (pc := 32) X (As := [.int x1, .int r10]) (rest := []) (c_X6_remove l D cA L sh x0 x1 r10 h11 _ hf) (cwV 2 X.ht (gwV inM q_563 q_564 q_755 q_7 q_565) rfl rfl rfl (by decide +kernel) ⟨Nat.le_of_ble_eq_true rfl, Nat.le_of_ble_eq_true rfl⟩) rfl (by decide) t1 (ent_6 t1) rfl rfl (Nat.le_of_ble_eq_true rfl) ⟨Nat.zero_le _, Nat.zero_le _⟩ dX6_shrink_32 (fun h13 hf => ?_)
        refine v_aload_n (pc := 35) X 0 dX6_shrink_35 rfl rfl ?_
        obtain ⟨q14, e_q14, hf⟩ := hf
        refine ge_6_0 (pc := 36) X (fun w h => inM w (inG6 w h)) k7 t1 e_q14 dX6_shrink_36 ?_
        refine v_iload_n (pc := 39) X 1 dX6_shrink_39 rfl rfl ?_
        refine v_iconst (pc := 40) X (v := (3 : Int32)) dX6_shrink_40 (by decide) ?_
        refine v_callSI (pc := 41) X (As := [.int x1, .int (3 : Int32)]) (rest := [.ref q14]) (c_X6_of l D cA L sh x1 (3 : Int32) h13 _ hf) (va_cwS 2 X.ht (gwS inM q_551 q_552 q_7 q_553) rfl rfl rfl (by decide +kernel) ⟨Nat.le_of_ble_eq_true rfl, Nat.le_of_ble_eq_true rfl⟩) rfl rfl (Nat.le_of_ble_eq_true rfl) ⟨Nat.zero_le _, Nat.zero_le _⟩ dX6_shrink_41 (fun r15 h16 hf => ?_)
        refine v_dup2 (pc := 44) X dX6_shrink_44 rfl rfl ?_
        obtain ⟨t17, hf⟩ := hf
        obtain ⟨b19, v18, e_v18, hf⟩ := hf
        refine v_iald (pc := 45) X t17 b19 e_v18 dX6_shrink_45 ?_
        refine v_iconst (pc := 46) X (v := (1 : Int32)) dX6_shrink_46 (by decide) ?_
        refine v_iadd (pc := 47) X dX6_shrink_47 ?_
        obtain ⟨b21, h20, e_h20, hf⟩ := hf
        refine v_iast (pc := 48) X t17 b21 e_h20 dX6_shrink_48 ?_
        refine v_iinc (pc := 49) X 3 (v := s + (1 : Int32)) (lv' := [(3, .int (s + (1 : Int32))), (0, .ref x0), (1, .int x1), (2, .int x2)]) dX6_shrink_49 rfl rfl (Nat.le_of_ble_eq_true rfl) rfl ?_
        refine v_goto (pc := 52) X 2 dX6_shrink_52 (by decide) ?_
        refine v_sub [1, 2, 3, 0] rfl ?_
        exact ih (s + (1 : Int32)) h20 hf

set_option maxHeartbeats 4000000 in
set_option maxRecDepth 100000 in
theorem c_X6_shrink (l : Launch) (D : va_G) (cA : Nat → ClassId) (L : List Nat) (sh : Sh) (a0 : Nat) (p1 : Int32) (p2 : Int32) (h : Hp) (K : Int32 → Hp → Prop) (hf : f_X6_shrink sh a0 p1 p2 h K) : Met l yX6_shrink (wM yX6_shrink cX6_shrink 4 (some .int)) ({ frames := 3, cells := 0, slots := 0, locals := 67 } : Room) (PreM D cA L sh h [.ref a0, .int p1, .int p2]) (QI D cA L sh K) 0 0 (fun q => q ∈ L) := by
  refine met_v (cc := cX6_shrink) (nL := 4) (ret := (some .int)) [(0, .ref a0), (1, .int p1), (2, .int p2)] (by decide) rfl (Nat.le_of_ble_eq_true rfl) rfl ?_
  intro p e s0 m below meth c X hr hlk
  have k7 := X.ht _ (inM _ q_485)
  unfold f_X6_shrink at hf
  refine v_iconst (pc := 0) X (v := (0 : Int32)) dX6_shrink_0 (by decide) ?_
  refine v_istore_n (pc := 1) X (i := 3) (lv' := [(3, .int (0 : Int32)), (0, .ref a0), (1, .int p1), (2, .int p2)]) dX6_shrink_1 rfl (Nat.le_of_ble_eq_true rfl) rfl ?_
  obtain ⟨n, hf⟩ := hf
  refine v_sub [1, 2, 3, 0] rfl ?_
  refine w_X6_shrink_2 X hr hlk a0 p1 p2 _ K (fun y22 h23 hf => ?_) n (0 : Int32) h hf
  refine v_iload_n (pc := 55) X 0 dX6_shrink_55 rfl rfl ?_
  exact v_iret (pc := 56) X hr hlk dX6_shrink_56 hf
set_option maxHeartbeats 4000000 in
set_option maxRecDepth 100000 in
theorem w_X6_load_36 {p : Program} {l : Launch} {e : Env} {s0 : State} {m : MethodId} {args : Array Value} {below : List Frame} {meth : Method} {c : Code} {D : va_G} {cA : Nat → ClassId} {L : List Nat} {sh : Sh} (X : Cx p s0 m c args cX6_load 5 (wM yX6_load cX6_load 5 (some .int)) RX6 (fun q => q ∈ L) D cA L sh) (hr : meth.sig.returnType = (some .int)) (hlk : meth.locks = false) (x0 : Nat) (x1 : Int32) (x2 : Int32) (x3 : Int32) (Xc : Hp → Prop) (K : Int32 → Hp → Prop) (hx : ∀  (h1 : Hp), Xc  h1 → V p l e (headSpec (wM yX6_load cX6_load 5 (some .int)) ({ frames := 2, cells := 0, slots := 0, locals := 43 } : Room)).room s0 m args below meth c (MQ below (QI D cA L sh K) args s0 0 0 (fun q => q ∈ L)) (fun q => q ∈ L) 0 0 D cA L sh 5 h1 75 [(0, .ref x0), (1, .int x1), (2, .int x2), (3, .int x3)] []) : ∀ (n : Nat) (s : Int32) (h : Hp), lp (b_X6_load_36 sh x0 x1 x2 x3 Xc) n s h → V p l e (headSpec (wM yX6_load cX6_load 5 (some .int)) ({ frames := 2, cells := 0, slots := 0, locals := 43 } : Room)).room s0 m args below meth c (MQ below (QI D cA L sh K) args s0 0 0 (fun q => q ∈ L)) (fun q => q ∈ L) 0 0 D cA L sh 5 h 36 [(0, .ref x0), (1, .int x1), (2, .int x2), (3, .int x3), (4, .int s)] [] := by
  have k7 := X.ht _ (inM _ q_485)
  intro n
  induction n with
  | zero => intro s h hf; exact hf.elim
  | succ n ih =>
    intro s h hf
    replace hf : b_X6_load_36 sh x0 x1 x2 x3 Xc (lp (b_X6_load_36 sh x0 x1 x2 x3 Xc) n) s h := hf
    unfold b_X6_load_36 at hf
    refine v_iload (pc := 36) X 4 dX6_load_36 rfl ?_
    refine v_bipush (pc := 38) X (v := (6 : Int32)) dX6_load_38 (by decide) ?_
    refine v_icmp_ge (pc := 40) X 75 dX6_load_40 (by decide) (fun c => ?_) (fun c => ?_)
    · replace hf := if_t c hf
      refine v_sub [0, 1, 2, 3] rfl ?_
      exact hx h hf
    · replace hf := if_f c hf
      refine v_aload_n (pc := 43) X 0 dX6_load_43 rfl rfl ?_
      obtain ⟨t15, hf⟩ := hf
      obtain ⟨q16, e_q16, hf⟩ := hf
      refine ge_6_0 (pc := 44) X (fun w h => inM w (inG6 w h)) k7 t15 e_q16 dX6_load_44 ?_
      refine v_iload_n (pc := 47) X 1 dX6_load_47 rfl rfl ?_
      refine v_iload_n (pc := 48) X 3 dX6_load_48 rfl rfl ?_
      refine v_iload (pc := 49) X 4 dX6_load_49 rfl ?_
      refine v_callSI (pc := 51) X (As := [.int x1, .int x3, .int s]) (rest := [.ref q16]) (c_X6_ofEntry l D cA L sh x1 x3 s h _ hf) (va_cwS 3 X.ht (gwS inM q_557 q_558 q_7 q_559) rfl rfl rfl (by decide +kernel) ⟨Nat.le_of_ble_eq_true rfl, Nat.le_of_ble_eq_true rfl⟩) rfl rfl (Nat.le_of_ble_eq_true rfl) ⟨Nat.zero_le _, Nat.zero_le _⟩ dX6_load_51 (fun r17 h18 hf => ?_)
      refine v_aload_n (pc := 54) X 0 dX6_load_54 rfl rfl ?_
      obtain ⟨q19, e_q19, hf⟩ := hf
      refine ge_6_0 (pc := 55) X (fun w h => inM w (inG6 w h)) k7 t15 e_q19 dX6_load_55 ?_
      refine v_iload_n (pc := 58) X 1 dX6_load_58 rfl rfl ?_
      refine v_iload_n (pc := 59) X 3 dX6_load_59 rfl rfl ?_
      refine v_iconst (pc := 60) X (v := (1 : Int32)) dX6_load_60 (by decide) ?_
      refine v_isub (pc := 61) X dX6_load_61 ?_
      refine v_iload (pc := 62) X 4 dX6_load_62 rfl ?_
      refine v_callSI (pc := 64) X (As := [.int x1, .int (x3 - (1 : Int32)), .int s]) (rest := [.ref q19, .int r17, .ref q16]) (c_X6_ofEntry l D cA L sh x1 (x3 - (1 : Int32)) s h18 _ hf) (va_cwS 3 X.ht (gwS inM q_557 q_558 q_7 q_559) rfl rfl rfl (by decide +kernel) ⟨Nat.le_of_ble_eq_true rfl, Nat.le_of_ble_eq_true rfl⟩) rfl rfl (Nat.le_of_ble_eq_true rfl) ⟨Nat.zero_le _, Nat.zero_le _⟩ dX6_load_64 (fun r20 h21 hf => ?_)
      obtain ⟨t22, hf⟩ := hf
      obtain ⟨b24, v23, e_v23, hf⟩ := hf
      refine v_iald (pc := 67) X t22 b24 e_v23 dX6_load_67 ?_
      obtain ⟨t25, hf⟩ := hf
      obtain ⟨b27, h26, e_h26, hf⟩ := hf
      refine v_iast (pc := 68) X t25 b27 e_h26 dX6_load_68 ?_
      refine v_iinc (pc := 69) X 4 (v := s + (1 : Int32)) (lv' := [(4, .int (s + (1 : Int32))), (0, .ref x0), (1, .int x1), (2, .int x2), (3, .int x3)]) dX6_load_69 rfl rfl (Nat.le_of_ble_eq_true rfl) rfl ?_
      refine v_goto (pc := 72) X 36 dX6_load_72 (by decide) ?_
      refine v_sub [1, 2, 3, 4, 0] rfl ?_
      exact ih (s + (1 : Int32)) h26 hf

set_option maxHeartbeats 4000000 in
set_option maxRecDepth 100000 in
theorem w_X6_load_12 {p : Program} {l : Launch} {e : Env} {s0 : State} {m : MethodId} {args : Array Value} {below : List Frame} {meth : Method} {c : Code} {D : va_G} {cA : Nat → ClassId} {L : List Nat} {sh : Sh} (X : Cx p s0 m c args cX6_load 5 (wM yX6_load cX6_load 5 (some .int)) RX6 (fun q => q ∈ L) D cA L sh) (hr : meth.sig.returnType = (some .int)) (hlk : meth.locks = false) (x0 : Nat) (x1 : Int32) (x2 : Int32) (Xc : Int32 → Hp → Prop) (K : Int32 → Hp → Prop) (hx : ∀ (y3 : Int32) (h1 : Hp), Xc y3 h1 → V p l e (headSpec (wM yX6_load cX6_load 5 (some .int)) ({ frames := 2, cells := 0, slots := 0, locals := 43 } : Room)).room s0 m args below meth c (MQ below (QI D cA L sh K) args s0 0 0 (fun q => q ∈ L)) (fun q => q ∈ L) 0 0 D cA L sh 5 h1 81 [(0, .ref x0), (1, .int x1), (2, .int x2), (3, .int y3)] []) : ∀ (n : Nat) (s : Int32) (h : Hp), lp (b_X6_load_12 sh x0 x1 x2 Xc) n s h → V p l e (headSpec (wM yX6_load cX6_load 5 (some .int)) ({ frames := 2, cells := 0, slots := 0, locals := 43 } : Room)).room s0 m args below meth c (MQ below (QI D cA L sh K) args s0 0 0 (fun q => q ∈ L)) (fun q => q ∈ L) 0 0 D cA L sh 5 h 12 [(0, .ref x0), (1, .int x1), (2, .int x2), (3, .int s)] [] := by
  have k7 := X.ht _ (inM _ q_485)
  intro n
  induction n with
  | zero => intro s h hf; exact hf.elim
  | succ n ih =>
    intro s h hf
    replace hf : b_X6_load_12 sh x0 x1 x2 Xc (lp (b_X6_load_12 sh x0 x1 x2 Xc) n) s h := hf
    unfold b_X6_load_12 at hf
    refine v_iload_n (pc := 12) X 3 dX6_load_12 rfl rfl ?_
    refine v_if_le (pc := 13) X 81 dX6_load_13 (by decide) (fun c => ?_) (fun c => ?_)
    · replace hf := if_t c hf
      refine v_sub [0, 1, 2, 3] rfl ?_
      exact hx s h hf
    · replace hf := if_f c hf
      refine v_aload_n (pc := 16) X 0 dX6_load_16 rfl rfl ?_
      obtain ⟨t8, hf⟩ := hf
      obtain ⟨q9, e_q9, hf⟩ := hf
      refine ge_6_0 (pc := 17) X (fun w h => inM w (inG6 w h)) k7 t8 e_q9 dX6_load_17 ?_
      refine v_iload_n (pc := 20) X 1 dX6_load_20 rfl rfl ?_
      refine v_iload_n (pc := 21) X 3 dX6_load_21 rfl rfl ?_
      refine v_iconst (pc := 22) X (v := (1 : Int32)) dX6_load_22 (by decide) ?_
      refine v_isub (pc := 23) X dX6_load_23 ?_
      refine v_iconst (pc := 24) X (v := (0 : Int32)) dX6_load_24 (by decide) ?_
      refine v_callSI (pc := 25) X (As := [.int x1, .int (s - (1 : Int32)), .int (0 : Int32)]) (rest := [.ref q9]) (c_X6_ofEntry l D cA L sh x1 (s - (1 : Int32)) (0 : Int32) h _ hf) (va_cwS 3 X.ht (gwS inM q_557 q_558 q_7 q_559) rfl rfl rfl (by decide +kernel) ⟨Nat.le_of_ble_eq_true rfl, Nat.le_of_ble_eq_true rfl⟩) rfl rfl (Nat.le_of_ble_eq_true rfl) ⟨Nat.zero_le _, Nat.zero_le _⟩ dX6_load_25 (fun r10 h11 hf => ?_)
      obtain ⟨t12, hf⟩ := hf
      obtain ⟨b14, v13, e_v13, hf⟩ := hf
      refine v_iald (pc := 28) X t12 b14 e_v13 dX6_load_28 ?_
      refine v_iload_n (pc := 29) X 2 dX6_load_29 rfl rfl ?_
      refine v_icmp_le (pc := 30) X 81 dX6_load_30 (by decide) (fun c => ?_) (fun c => ?_)
      · replace hf := if_t c hf
        refine v_sub [0, 1, 2, 3] rfl ?_
        exact hx s h11 hf
      · replace hf := if_f c hf
        refine v_iconst (pc := 33) X (v := (0 : Int32)) dX6_load_33 (by decide) ?_
        refine v_istore (pc := 34) X (i := 4) (lv' := [(4, .int (0 : Int32)), (0, .ref x0), (1, .int x1), (2, .int x2), (3, .int s)]) dX6_load_34 (Nat.le_of_ble_eq_true rfl) rfl ?_
        obtain ⟨n, hf⟩ := hf
        refine v_sub [1, 2, 3, 4, 0] rfl ?_
        refine w_X6_load_36 X hr hlk x0 x1 x2 s _ K (fun  h28 hf => ?_) n (0 : Int32) h11 hf
        refine v_iinc (pc := 75) X 3 (v := s + (-1 : Int32)) (lv' := [(3, .int (s + (-1 : Int32))), (0, .ref x0), (1, .int x1), (2, .int x2)]) dX6_load_75 rfl rfl (Nat.le_of_ble_eq_true rfl) rfl ?_
        refine v_goto (pc := 78) X 12 dX6_load_78 (by decide) ?_
        refine v_sub [1, 2, 3, 0] rfl ?_
        exact ih (s + (-1 : Int32)) h28 hf

set_option maxHeartbeats 4000000 in
set_option maxRecDepth 100000 in
theorem c_X6_load (l : Launch) (D : va_G) (cA : Nat → ClassId) (L : List Nat) (sh : Sh) (a0 : Nat) (p1 : Int32) (p2 : Int32) (h : Hp) (K : Int32 → Hp → Prop) (hf : f_X6_load sh a0 p1 p2 h K) : Met l yX6_load (wM yX6_load cX6_load 5 (some .int)) ({ frames := 2, cells := 0, slots := 0, locals := 43 } : Room) (PreM D cA L sh h [.ref a0, .int p1, .int p2]) (QI D cA L sh K) 0 0 (fun q => q ∈ L) := by
  refine met_v (cc := cX6_load) (nL := 5) (ret := (some .int)) [(0, .ref a0), (1, .int p1), (2, .int p2)] (by decide) rfl (Nat.le_of_ble_eq_true rfl) rfl ?_
  intro p e s0 m below meth c X hr hlk
  have k7 := X.ht _ (inM _ q_485)
  unfold f_X6_load at hf
  refine v_aload_n (pc := 0) X 0 dX6_load_0 rfl rfl ?_
  obtain ⟨t1, hf⟩ := hf
  obtain ⟨q2, e_q2, hf⟩ := hf
  refine ge_6_0 (pc := 1) X (fun w h => inM w (inG6 w h)) k7 t1 e_q2 dX6_load_1 ?_
  refine v_iload_n (pc := 4) X 1 dX6_load_4 rfl rfl ?_
  refine v_bipush (pc := 5) X (v := (6 : Int32)) dX6_load_5 (by decide) ?_
  refine v_callSI (pc := 7) X (As := [.int p1, .int (6 : Int32)]) (rest := [.ref q2]) (c_X6_of l D cA L sh p1 (6 : Int32) h _ hf) (va_cwS 2 X.ht (gwS inM q_551 q_552 q_7 q_553) rfl rfl rfl (by decide +kernel) ⟨Nat.le_of_ble_eq_true rfl, Nat.le_of_ble_eq_true rfl⟩) rfl rfl (Nat.le_of_ble_eq_true rfl) ⟨Nat.zero_le _, Nat.zero_le _⟩ dX6_load_7 (fun r3 h4 hf => ?_)
  obtain ⟨t5, hf⟩ := hf
  obtain ⟨b7, v6, e_v6, hf⟩ := hf
  refine v_iald (pc := 10) X t5 b7 e_v6 dX6_load_10 ?_
  refine v_istore_n (pc := 11) X (i := 3) (lv' := [(3, .int v6), (0, .ref a0), (1, .int p1), (2, .int p2)]) dX6_load_11 rfl (Nat.le_of_ble_eq_true rfl) rfl ?_
  obtain ⟨n, hf⟩ := hf
  refine v_sub [1, 2, 3, 0] rfl ?_
  refine w_X6_load_12 X hr hlk a0 p1 p2 _ K (fun y29 h30 hf => ?_) n v6 h4 hf
  refine v_aload_n (pc := 81) X 0 dX6_load_81 rfl rfl ?_
  obtain ⟨q31, e_q31, hf⟩ := hf
  refine ge_6_0 (pc := 82) X (fun w h => inM w (inG6 w h)) k7 t1 e_q31 dX6_load_82 ?_
  refine v_iload_n (pc := 85) X 1 dX6_load_85 rfl rfl ?_
  refine v_bipush (pc := 86) X (v := (6 : Int32)) dX6_load_86 (by decide) ?_
  refine v_callSI (pc := 88) X (As := [.int p1, .int (6 : Int32)]) (rest := [.ref q31]) (c_X6_of l D cA L sh p1 (6 : Int32) h30 _ hf) (va_cwS 2 X.ht (gwS inM q_551 q_552 q_7 q_553) rfl rfl rfl (by decide +kernel) ⟨Nat.le_of_ble_eq_true rfl, Nat.le_of_ble_eq_true rfl⟩) rfl rfl (Nat.le_of_ble_eq_true rfl) ⟨Nat.zero_le _, Nat.zero_le _⟩ dX6_load_88 (fun r32 h33 hf => ?_)
  refine v_dup2 (pc := 91) X dX6_load_91 rfl rfl ?_
  obtain ⟨t34, hf⟩ := hf
  obtain ⟨b36, v35, e_v35, hf⟩ := hf
  refine v_iald (pc := 92) X t34 b36 e_v35 dX6_load_92 ?_
  refine v_iconst (pc := 93) X (v := (1 : Int32)) dX6_load_93 (by decide) ?_
  refine v_iadd (pc := 94) X dX6_load_94 ?_
  obtain ⟨b38, h37, e_h37, hf⟩ := hf
  refine v_iast (pc := 95) X t34 b38 e_h37 dX6_load_95 ?_
  refine v_aload_n (pc := 96) X 0 dX6_load_96 rfl rfl ?_
  obtain ⟨q39, e_q39, hf⟩ := hf
  refine ge_6_0 (pc := 97) X (fun w h => inM w (inG6 w h)) k7 t1 e_q39 dX6_load_97 ?_
  refine v_iload_n (pc := 100) X 1 dX6_load_100 rfl rfl ?_
  refine v_iload_n (pc := 101) X 3 dX6_load_101 rfl rfl ?_
  refine v_iconst (pc := 102) X (v := (0 : Int32)) dX6_load_102 (by decide) ?_
  refine v_callSI (pc := 103) X (As := [.int p1, .int y29, .int (0 : Int32)]) (rest := [.ref q39]) (c_X6_ofEntry l D cA L sh p1 y29 (0 : Int32) h37 _ hf) (va_cwS 3 X.ht (gwS inM q_557 q_558 q_7 q_559) rfl rfl rfl (by decide +kernel) ⟨Nat.le_of_ble_eq_true rfl, Nat.le_of_ble_eq_true rfl⟩) rfl rfl (Nat.le_of_ble_eq_true rfl) ⟨Nat.zero_le _, Nat.zero_le _⟩ dX6_load_103 (fun r40 h41 hf => ?_)
  refine v_iload_n (pc := 106) X 2 dX6_load_106 rfl rfl ?_
  obtain ⟨t42, hf⟩ := hf
  obtain ⟨b44, h43, e_h43, hf⟩ := hf
  refine v_iast (pc := 107) X t42 b44 e_h43 dX6_load_107 ?_
  refine v_aload_n (pc := 108) X 0 dX6_load_108 rfl rfl ?_
  obtain ⟨q45, e_q45, hf⟩ := hf
  refine ge_6_0 (pc := 109) X (fun w h => inM w (inG6 w h)) k7 t1 e_q45 dX6_load_109 ?_
  refine v_iload_n (pc := 112) X 1 dX6_load_112 rfl rfl ?_
  refine v_iload_n (pc := 113) X 3 dX6_load_113 rfl rfl ?_
  refine v_iconst (pc := 114) X (v := (1 : Int32)) dX6_load_114 (by decide) ?_
  refine v_callSI (pc := 115) X (As := [.int p1, .int y29, .int (1 : Int32)]) (rest := [.ref q45]) (c_X6_ofEntry l D cA L sh p1 y29 (1 : Int32) h43 _ hf) (va_cwS 3 X.ht (gwS inM q_557 q_558 q_7 q_559) rfl rfl rfl (by decide +kernel) ⟨Nat.le_of_ble_eq_true rfl, Nat.le_of_ble_eq_true rfl⟩) rfl rfl (Nat.le_of_ble_eq_true rfl) ⟨Nat.zero_le _, Nat.zero_le _⟩ dX6_load_115 (fun r46 h47 hf => ?_)
  refine v_aload_n (pc := 118) X 0 dX6_load_118 rfl rfl ?_
  obtain ⟨q48, e_q48, hf⟩ := hf
  refine ge_6_0 (pc := 119) X (fun w h => inM w (inG6 w h)) k7 t1 e_q48 dX6_load_119 ?_
  refine v_iconst (pc := 122) X (v := (5 : Int32)) dX6_load_122 (by decide) ?_
  refine v_iload_n (pc := 123) X 2 dX6_load_123 rfl rfl ?_
  refine v_iadd (pc := 124) X dX6_load_124 ?_
  obtain ⟨t49, hf⟩ := hf
  obtain ⟨b51, v50, e_v50, hf⟩ := hf
  refine v_iald (pc := 125) X t49 b51 e_v50 dX6_load_125 ?_
  obtain ⟨t52, hf⟩ := hf
  obtain ⟨b54, h53, e_h53, hf⟩ := hf
  refine v_iast (pc := 126) X t52 b54 e_h53 dX6_load_126 ?_
  refine v_aload_n (pc := 127) X 0 dX6_load_127 rfl rfl ?_
  obtain ⟨q55, e_q55, hf⟩ := hf
  refine ge_6_0 (pc := 128) X (fun w h => inM w (inG6 w h)) k7 t1 e_q55 dX6_load_128 ?_
  refine v_iload_n (pc := 131) X 1 dX6_load_131 rfl rfl ?_
  refine v_iload_n (pc := 132) X 3 dX6_load_132 rfl rfl ?_
  refine v_iconst (pc := 133) X (v := (2 : Int32)) dX6_load_133 (by decide) ?_
  refine v_callSI (pc := 134) X (As := [.int p1, .int y29, .int (2 : Int32)]) (rest := [.ref q55]) (c_X6_ofEntry l D cA L sh p1 y29 (2 : Int32) h53 _ hf) (va_cwS 3 X.ht (gwS inM q_557 q_558 q_7 q_559) rfl rfl rfl (by decide +kernel) ⟨Nat.le_of_ble_eq_true rfl, Nat.le_of_ble_eq_true rfl⟩) rfl rfl (Nat.le_of_ble_eq_true rfl) ⟨Nat.zero_le _, Nat.zero_le _⟩ dX6_load_134 (fun r56 h57 hf => ?_)
  refine v_aload_n (pc := 137) X 0 dX6_load_137 rfl rfl ?_
  obtain ⟨q58, e_q58, hf⟩ := hf
  refine ge_6_0 (pc := 138) X (fun w h => inM w (inG6 w h)) k7 t1 e_q58 dX6_load_138 ?_
  refine v_bipush (pc := 141) X (v := (11 : Int32)) dX6_load_141 (by decide) ?_
  refine v_iload_n (pc := 143) X 2 dX6_load_143 rfl rfl ?_
  refine v_iadd (pc := 144) X dX6_load_144 ?_
  obtain ⟨t59, hf⟩ := hf
  obtain ⟨b61, v60, e_v60, hf⟩ := hf
  refine v_iald (pc := 145) X t59 b61 e_v60 dX6_load_145 ?_
  obtain ⟨t62, hf⟩ := hf
  obtain ⟨b64, h63, e_h63, hf⟩ := hf
  refine v_iast (pc := 146) X t62 b64 e_h63 dX6_load_146 ?_
  refine v_aload_n (pc := 147) X 0 dX6_load_147 rfl rfl ?_
  obtain ⟨q65, e_q65, hf⟩ := hf
  refine ge_6_0 (pc := 148) X (fun w h => inM w (inG6 w h)) k7 t1 e_q65 dX6_load_148 ?_
  refine v_iload_n (pc := 151) X 1 dX6_load_151 rfl rfl ?_
  refine v_iload_n (pc := 152) X 3 dX6_load_152 rfl rfl ?_
  refine v_iconst (pc := 153) X (v := (3 : Int32)) dX6_load_153 (by decide) ?_
  refine v_callSI (pc := 154) X (As := [.int p1, .int y29, .int (3 : Int32)]) (rest := [.ref q65]) (c_X6_ofEntry l D cA L sh p1 y29 (3 : Int32) h63 _ hf) (va_cwS 3 X.ht (gwS inM q_557 q_558 q_7 q_559) rfl rfl rfl (by decide +kernel) ⟨Nat.le_of_ble_eq_true rfl, Nat.le_of_ble_eq_true rfl⟩) rfl rfl (Nat.le_of_ble_eq_true rfl) ⟨Nat.zero_le _, Nat.zero_le _⟩ dX6_load_154 (fun r66 h67 hf => ?_)
  refine v_iconst (pc := 157) X (v := (0 : Int32)) dX6_load_157 (by decide) ?_
  obtain ⟨t68, hf⟩ := hf
  obtain ⟨b70, h69, e_h69, hf⟩ := hf
  refine v_iast (pc := 158) X t68 b70 e_h69 dX6_load_158 ?_
  refine v_aload_n (pc := 159) X 0 dX6_load_159 rfl rfl ?_
  obtain ⟨q71, e_q71, hf⟩ := hf
  refine ge_6_0 (pc := 160) X (fun w h => inM w (inG6 w h)) k7 t1 e_q71 dX6_load_160 ?_
  refine v_iload_n (pc := 163) X 1 dX6_load_163 rfl rfl ?_
  refine v_iload_n (pc := 164) X 3 dX6_load_164 rfl rfl ?_
  refine v_iconst (pc := 165) X (v := (5 : Int32)) dX6_load_165 (by decide) ?_
  refine v_callSI (pc := 166) X (As := [.int p1, .int y29, .int (5 : Int32)]) (rest := [.ref q71]) (c_X6_ofEntry l D cA L sh p1 y29 (5 : Int32) h69 _ hf) (va_cwS 3 X.ht (gwS inM q_557 q_558 q_7 q_559) rfl rfl rfl (by decide +kernel) ⟨Nat.le_of_ble_eq_true rfl, Nat.le_of_ble_eq_true rfl⟩) rfl rfl (Nat.le_of_ble_eq_true rfl) ⟨Nat.zero_le _, Nat.zero_le _⟩ dX6_load_166 (fun r72 h73 hf => ?_)
  refine v_iconst (pc := 169) X (v := (0 : Int32)) dX6_load_169 (by decide) ?_
  obtain ⟨t74, hf⟩ := hf
  obtain ⟨b76, h75, e_h75, hf⟩ := hf
  refine v_iast (pc := 170) X t74 b76 e_h75 dX6_load_170 ?_
  refine v_iload_n (pc := 171) X 3 dX6_load_171 rfl rfl ?_
  exact v_iret (pc := 172) X hr hlk dX6_load_172 hf
set_option maxHeartbeats 4000000 in
set_option maxRecDepth 100000 in
theorem w_X6_remember_15 {p : Program} {l : Launch} {e : Env} {s0 : State} {m : MethodId} {args : Array Value} {below : List Frame} {meth : Method} {c : Code} {D : va_G} {cA : Nat → ClassId} {L : List Nat} {sh : Sh} (X : Cx p s0 m c args cX6_remember 4 (wM yX6_remember cX6_remember 4 none) RX6 (fun q => q ∈ L) D cA L sh) (hr : meth.sig.returnType = none) (hlk : meth.locks = false) (x0 : Nat) (x1 : Int32) (x2 : Int32) (Xc : Hp → Prop) (K : Hp → Prop) (hx : ∀  (h1 : Hp), Xc  h1 → V p l e (headSpec (wM yX6_remember cX6_remember 4 none) ({ frames := 0, cells := 0, slots := 0, locals := 0 } : Room)).room s0 m args below meth c (MQ below (QV D cA L sh K) args s0 0 0 (fun q => q ∈ L)) (fun q => q ∈ L) 0 0 D cA L sh 4 h1 49 [(0, .ref x0), (1, .int x1), (2, .int x2)] []) : ∀ (n : Nat) (s : Int32) (h : Hp), lp (b_X6_remember_15 sh x0 x1 x2 Xc) n s h → V p l e (headSpec (wM yX6_remember cX6_remember 4 none) ({ frames := 0, cells := 0, slots := 0, locals := 0 } : Room)).room s0 m args below meth c (MQ below (QV D cA L sh K) args s0 0 0 (fun q => q ∈ L)) (fun q => q ∈ L) 0 0 D cA L sh 4 h 15 [(0, .ref x0), (1, .int x1), (2, .int x2), (3, .int s)] [] := by
  have k7 := X.ht _ (inM _ q_485)
  intro n
  induction n with
  | zero => intro s h hf; exact hf.elim
  | succ n ih =>
    intro s h hf
    replace hf : b_X6_remember_15 sh x0 x1 x2 Xc (lp (b_X6_remember_15 sh x0 x1 x2 Xc) n) s h := hf
    unfold b_X6_remember_15 at hf
    refine v_iload_n (pc := 15) X 3 dX6_remember_15 rfl rfl ?_
    refine v_bipush (pc := 16) X (v := (22 : Int32)) dX6_remember_16 (by decide) ?_
    refine v_icmp_ge (pc := 18) X 49 dX6_remember_18 (by decide) (fun c => ?_) (fun c => ?_)
    · replace hf := if_t c hf
      refine v_sub [0, 1, 2] rfl ?_
      exact hx h hf
    · replace hf := if_f c hf
      refine v_aload_n (pc := 21) X 0 dX6_remember_21 rfl rfl ?_
      obtain ⟨t28, hf⟩ := hf
      obtain ⟨q29, e_q29, hf⟩ := hf
      refine ge_6_0 (pc := 22) X (fun w h => inM w (inG6 w h)) k7 t28 e_q29 dX6_remember_22 ?_
      refine v_sipush (pc := 25) X (v := (599 : Int32)) dX6_remember_25 (by decide) ?_
      refine v_iload_n (pc := 28) X 3 dX6_remember_28 rfl rfl ?_
      refine v_iadd (pc := 29) X dX6_remember_29 ?_
      refine v_aload_n (pc := 30) X 0 dX6_remember_30 rfl rfl ?_
      obtain ⟨q30, e_q30, hf⟩ := hf
      refine ge_6_0 (pc := 31) X (fun w h => inM w (inG6 w h)) k7 t28 e_q30 dX6_remember_31 ?_
      refine v_sipush (pc := 34) X (v := (599 : Int32)) dX6_remember_34 (by decide) ?_
      refine v_iload_n (pc := 37) X 3 dX6_remember_37 rfl rfl ?_
      refine v_iadd (pc := 38) X dX6_remember_38 ?_
      refine v_iconst (pc := 39) X (v := (2 : Int32)) dX6_remember_39 (by decide) ?_
      refine v_iadd (pc := 40) X dX6_remember_40 ?_
      obtain ⟨t31, hf⟩ := hf
      obtain ⟨b33, v32, e_v32, hf⟩ := hf
      refine v_iald (pc := 41) X t31 b33 e_v32 dX6_remember_41 ?_
      obtain ⟨t34, hf⟩ := hf
      obtain ⟨b36, h35, e_h35, hf⟩ := hf
      refine v_iast (pc := 42) X t34 b36 e_h35 dX6_remember_42 ?_
      refine v_iinc (pc := 43) X 3 (v := s + (1 : Int32)) (lv' := [(3, .int (s + (1 : Int32))), (0, .ref x0), (1, .int x1), (2, .int x2)]) dX6_remember_43 rfl rfl (Nat.le_of_ble_eq_true rfl) rfl ?_
      refine v_goto (pc := 46) X 15 dX6_remember_46 (by decide) ?_
      refine v_sub [1, 2, 3, 0] rfl ?_
      exact ih (s + (1 : Int32)) h35 hf

set_option maxHeartbeats 4000000 in
set_option maxRecDepth 100000 in
theorem c_X6_remember (l : Launch) (D : va_G) (cA : Nat → ClassId) (L : List Nat) (sh : Sh) (a0 : Nat) (p1 : Int32) (p2 : Int32) (h : Hp) (K : Hp → Prop) (hf : f_X6_remember sh a0 p1 p2 h K) : Met l yX6_remember (wM yX6_remember cX6_remember 4 none) ({ frames := 0, cells := 0, slots := 0, locals := 0 } : Room) (PreM D cA L sh h [.ref a0, .int p1, .int p2]) (QV D cA L sh K) 0 0 (fun q => q ∈ L) := by
  refine met_v (cc := cX6_remember) (nL := 4) (ret := none) [(0, .ref a0), (1, .int p1), (2, .int p2)] (by decide) rfl (Nat.le_of_ble_eq_true rfl) rfl ?_
  intro p e s0 m below meth c X hr hlk
  have k7 := X.ht _ (inM _ q_485)
  unfold f_X6_remember at hf
  refine v_aload_n (pc := 0) X 0 dX6_remember_0 rfl rfl ?_
  obtain ⟨t1, hf⟩ := hf
  obtain ⟨q2, e_q2, hf⟩ := hf
  refine ge_6_0 (pc := 1) X (fun w h => inM w (inG6 w h)) k7 t1 e_q2 dX6_remember_1 ?_
  refine v_sipush (pc := 4) X (v := (598 : Int32)) dX6_remember_4 (by decide) ?_
  obtain ⟨t3, hf⟩ := hf
  obtain ⟨b5, v4, e_v4, hf⟩ := hf
  refine v_iald (pc := 7) X t3 b5 e_v4 dX6_remember_7 ?_
  refine v_bipush (pc := 8) X (v := (12 : Int32)) dX6_remember_8 (by decide) ?_
  refine v_icmp_ne (pc := 10) X 61 dX6_remember_10 (by decide) (fun c => ?_) (fun c => ?_)
  · replace hf := if_f c hf
    refine v_aload_n (pc := 61) X 0 dX6_remember_61 rfl rfl ?_
    obtain ⟨q6, e_q6, hf⟩ := hf
    refine ge_6_0 (pc := 62) X (fun w h => inM w (inG6 w h)) k7 t1 e_q6 dX6_remember_62 ?_
    refine v_sipush (pc := 65) X (v := (599 : Int32)) dX6_remember_65 (by decide) ?_
    refine v_iconst (pc := 68) X (v := (2 : Int32)) dX6_remember_68 (by decide) ?_
    refine v_aload_n (pc := 69) X 0 dX6_remember_69 rfl rfl ?_
    obtain ⟨q7, e_q7, hf⟩ := hf
    refine ge_6_0 (pc := 70) X (fun w h => inM w (inG6 w h)) k7 t1 e_q7 dX6_remember_70 ?_
    refine v_sipush (pc := 73) X (v := (598 : Int32)) dX6_remember_73 (by decide) ?_
    obtain ⟨t8, hf⟩ := hf
    obtain ⟨b10, v9, e_v9, hf⟩ := hf
    refine v_iald (pc := 76) X t8 b10 e_v9 dX6_remember_76 ?_
    refine v_imul (pc := 77) X dX6_remember_77 ?_
    refine v_iadd (pc := 78) X dX6_remember_78 ?_
    refine v_iload_n (pc := 79) X 1 dX6_remember_79 rfl rfl ?_
    obtain ⟨t11, hf⟩ := hf
    obtain ⟨b13, h12, e_h12, hf⟩ := hf
    refine v_iast (pc := 80) X t11 b13 e_h12 dX6_remember_80 ?_
    refine v_aload_n (pc := 81) X 0 dX6_remember_81 rfl rfl ?_
    obtain ⟨q14, e_q14, hf⟩ := hf
    refine ge_6_0 (pc := 82) X (fun w h => inM w (inG6 w h)) k7 t1 e_q14 dX6_remember_82 ?_
    refine v_sipush (pc := 85) X (v := (599 : Int32)) dX6_remember_85 (by decide) ?_
    refine v_iconst (pc := 88) X (v := (2 : Int32)) dX6_remember_88 (by decide) ?_
    refine v_aload_n (pc := 89) X 0 dX6_remember_89 rfl rfl ?_
    obtain ⟨q15, e_q15, hf⟩ := hf
    refine ge_6_0 (pc := 90) X (fun w h => inM w (inG6 w h)) k7 t1 e_q15 dX6_remember_90 ?_
    refine v_sipush (pc := 93) X (v := (598 : Int32)) dX6_remember_93 (by decide) ?_
    obtain ⟨t16, hf⟩ := hf
    obtain ⟨b18, v17, e_v17, hf⟩ := hf
    refine v_iald (pc := 96) X t16 b18 e_v17 dX6_remember_96 ?_
    refine v_imul (pc := 97) X dX6_remember_97 ?_
    refine v_iadd (pc := 98) X dX6_remember_98 ?_
    refine v_iconst (pc := 99) X (v := (1 : Int32)) dX6_remember_99 (by decide) ?_
    refine v_iadd (pc := 100) X dX6_remember_100 ?_
    refine v_iload_n (pc := 101) X 2 dX6_remember_101 rfl rfl ?_
    obtain ⟨t19, hf⟩ := hf
    obtain ⟨b21, h20, e_h20, hf⟩ := hf
    refine v_iast (pc := 102) X t19 b21 e_h20 dX6_remember_102 ?_
    refine v_aload_n (pc := 103) X 0 dX6_remember_103 rfl rfl ?_
    obtain ⟨q22, e_q22, hf⟩ := hf
    refine ge_6_0 (pc := 104) X (fun w h => inM w (inG6 w h)) k7 t1 e_q22 dX6_remember_104 ?_
    refine v_sipush (pc := 107) X (v := (598 : Int32)) dX6_remember_107 (by decide) ?_
    refine v_dup2 (pc := 110) X dX6_remember_110 rfl rfl ?_
    obtain ⟨t23, hf⟩ := hf
    obtain ⟨b25, v24, e_v24, hf⟩ := hf
    refine v_iald (pc := 111) X t23 b25 e_v24 dX6_remember_111 ?_
    refine v_iconst (pc := 112) X (v := (1 : Int32)) dX6_remember_112 (by decide) ?_
    refine v_iadd (pc := 113) X dX6_remember_113 ?_
    obtain ⟨b27, h26, e_h26, hf⟩ := hf
    refine v_iast (pc := 114) X t23 b27 e_h26 dX6_remember_114 ?_
    exact v_vret (pc := 115) X hr hlk dX6_remember_115 hf
  · replace hf := if_t c hf
    refine v_iconst (pc := 13) X (v := (0 : Int32)) dX6_remember_13 (by decide) ?_
    refine v_istore_n (pc := 14) X (i := 3) (lv' := [(3, .int (0 : Int32)), (0, .ref a0), (1, .int p1), (2, .int p2)]) dX6_remember_14 rfl (Nat.le_of_ble_eq_true rfl) rfl ?_
    obtain ⟨n, hf⟩ := hf
    refine v_sub [1, 2, 3, 0] rfl ?_
    refine w_X6_remember_15 X hr hlk a0 p1 p2 _ K (fun  h37 hf => ?_) n (0 : Int32) h hf
    refine v_aload_n (pc := 49) X 0 dX6_remember_49 rfl rfl ?_
    obtain ⟨q38, e_q38, hf⟩ := hf
    refine ge_6_0 (pc := 50) X (fun w h => inM w (inG6 w h)) k7 t1 e_q38 dX6_remember_50 ?_
    refine v_sipush (pc := 53) X (v := (598 : Int32)) dX6_remember_53 (by decide) ?_
    refine v_dup2 (pc := 56) X dX6_remember_56 rfl rfl ?_
    obtain ⟨t39, hf⟩ := hf
    obtain ⟨b41, v40, e_v40, hf⟩ := hf
    refine v_iald (pc := 57) X t39 b41 e_v40 dX6_remember_57 ?_
    refine v_iconst (pc := 58) X (v := (1 : Int32)) dX6_remember_58 (by decide) ?_
    refine v_isub (pc := 59) X dX6_remember_59 ?_
    obtain ⟨b43, h42, e_h42, hf⟩ := hf
    refine v_iast (pc := 60) X t39 b43 e_h42 dX6_remember_60 ?_
    refine v_aload_n (pc := 61) X 0 dX6_remember_61 rfl rfl ?_
    obtain ⟨q44, e_q44, hf⟩ := hf
    refine ge_6_0 (pc := 62) X (fun w h => inM w (inG6 w h)) k7 t1 e_q44 dX6_remember_62 ?_
    refine v_sipush (pc := 65) X (v := (599 : Int32)) dX6_remember_65 (by decide) ?_
    refine v_iconst (pc := 68) X (v := (2 : Int32)) dX6_remember_68 (by decide) ?_
    refine v_aload_n (pc := 69) X 0 dX6_remember_69 rfl rfl ?_
    obtain ⟨q45, e_q45, hf⟩ := hf
    refine ge_6_0 (pc := 70) X (fun w h => inM w (inG6 w h)) k7 t1 e_q45 dX6_remember_70 ?_
    refine v_sipush (pc := 73) X (v := (598 : Int32)) dX6_remember_73 (by decide) ?_
    obtain ⟨t46, hf⟩ := hf
    obtain ⟨b48, v47, e_v47, hf⟩ := hf
    refine v_iald (pc := 76) X t46 b48 e_v47 dX6_remember_76 ?_
    refine v_imul (pc := 77) X dX6_remember_77 ?_
    refine v_iadd (pc := 78) X dX6_remember_78 ?_
    refine v_iload_n (pc := 79) X 1 dX6_remember_79 rfl rfl ?_
    obtain ⟨t49, hf⟩ := hf
    obtain ⟨b51, h50, e_h50, hf⟩ := hf
    refine v_iast (pc := 80) X t49 b51 e_h50 dX6_remember_80 ?_
    refine v_aload_n (pc := 81) X 0 dX6_remember_81 rfl rfl ?_
    obtain ⟨q52, e_q52, hf⟩ := hf
    refine ge_6_0 (pc := 82) X (fun w h => inM w (inG6 w h)) k7 t1 e_q52 dX6_remember_82 ?_
    refine v_sipush (pc := 85) X (v := (599 : Int32)) dX6_remember_85 (by decide) ?_
    refine v_iconst (pc := 88) X (v := (2 : Int32)) dX6_remember_88 (by decide) ?_
    refine v_aload_n (pc := 89) X 0 dX6_remember_89 rfl rfl ?_
    obtain ⟨q53, e_q53, hf⟩ := hf
    refine ge_6_0 (pc := 90) X (fun w h => inM w (inG6 w h)) k7 t1 e_q53 dX6_remember_90 ?_
    refine v_sipush (pc := 93) X (v := (598 : Int32)) dX6_remember_93 (by decide) ?_
    obtain ⟨t54, hf⟩ := hf
    obtain ⟨b56, v55, e_v55, hf⟩ := hf
    refine v_iald (pc := 96) X t54 b56 e_v55 dX6_remember_96 ?_
    refine v_imul (pc := 97) X dX6_remember_97 ?_
    refine v_iadd (pc := 98) X dX6_remember_98 ?_
    refine v_iconst (pc := 99) X (v := (1 : Int32)) dX6_remember_99 (by decide) ?_
    refine v_iadd (pc := 100) X dX6_remember_100 ?_
    refine v_iload_n (pc := 101) X 2 dX6_remember_101 rfl rfl ?_
    obtain ⟨t57, hf⟩ := hf
    obtain ⟨b59, h58, e_h58, hf⟩ := hf
    refine v_iast (pc := 102) X t57 b59 e_h58 dX6_remember_102 ?_
    refine v_aload_n (pc := 103) X 0 dX6_remember_103 rfl rfl ?_
    obtain ⟨q60, e_q60, hf⟩ := hf
    refine ge_6_0 (pc := 104) X (fun w h => inM w (inG6 w h)) k7 t1 e_q60 dX6_remember_104 ?_
    refine v_sipush (pc := 107) X (v := (598 : Int32)) dX6_remember_107 (by decide) ?_
    refine v_dup2 (pc := 110) X dX6_remember_110 rfl rfl ?_
    obtain ⟨t61, hf⟩ := hf
    obtain ⟨b63, v62, e_v62, hf⟩ := hf
    refine v_iald (pc := 111) X t61 b63 e_v62 dX6_remember_111 ?_
    refine v_iconst (pc := 112) X (v := (1 : Int32)) dX6_remember_112 (by decide) ?_
    refine v_iadd (pc := 113) X dX6_remember_113 ?_
    obtain ⟨b65, h64, e_h64, hf⟩ := hf
    refine v_iast (pc := 114) X t61 b65 e_h64 dX6_remember_114 ?_
    exact v_vret (pc := 115) X hr hlk dX6_remember_115 hf
set_option maxHeartbeats 4000000 in
set_option maxRecDepth 100000 in
theorem w_X6_starts_92 {p : Program} {l : Launch} {e : Env} {s0 : State} {m : MethodId} {args : Array Value} {below : List Frame} {meth : Method} {c : Code} {D : va_G} {cA : Nat → ClassId} {L : List Nat} {sh : Sh} (X : Cx p s0 m c args cX6_starts 8 (wM yX6_starts cX6_starts 8 (some .int)) RX6 (fun q => q ∈ L) D cA L sh) (hr : meth.sig.returnType = (some .int)) (hlk : meth.locks = false) (x0 : Nat) (x1 : Int32) (x2 : Int32) (x3 : Int32) (x4 : Int32) (Xc : Hp → Prop) (K : Int32 → Hp → Prop) (hx : ∀  (h1 : Hp), Xc  h1 → V p l e (headSpec (wM yX6_starts cX6_starts 8 (some .int)) ({ frames := 5, cells := 0, slots := 0, locals := 114 } : Room)).room s0 m args below meth c (MQ below (QI D cA L sh K) args s0 0 0 (fun q => q ∈ L)) (fun q => q ∈ L) 0 0 D cA L sh 8 h1 263 [(0, .ref x0), (1, .int x1), (2, .int x2), (3, .int x3), (4, .int x4)] []) : ∀ (n : Nat) (s : Int32) (h : Hp), lp (b_X6_starts_92 sh x0 x1 x2 x3 x4 Xc K) n s h → V p l e (headSpec (wM yX6_starts cX6_starts 8 (some .int)) ({ frames := 5, cells := 0, slots := 0, locals := 114 } : Room)).room s0 m args below meth c (MQ below (QI D cA L sh K) args s0 0 0 (fun q => q ∈ L)) (fun q => q ∈ L) 0 0 D cA L sh 8 h 92 [(0, .ref x0), (1, .int x1), (2, .int x2), (3, .int x3), (4, .int x4), (5, .int s)] [] := by
  have k7 := X.ht _ (inM _ q_485)
  intro n
  induction n with
  | zero => intro s h hf; exact hf.elim
  | succ n ih =>
    intro s h hf
    replace hf : b_X6_starts_92 sh x0 x1 x2 x3 x4 Xc K (lp (b_X6_starts_92 sh x0 x1 x2 x3 x4 Xc K) n) s h := hf
    unfold b_X6_starts_92 at hf
    refine v_iload (pc := 92) X 5 dX6_starts_92 rfl ?_
    refine v_bipush (pc := 94) X (v := (6 : Int32)) dX6_starts_94 (by decide) ?_
    refine v_icmp_ge (pc := 96) X 263 dX6_starts_96 (by decide) (fun c => ?_) (fun c => ?_)
    · replace hf := if_t c hf
      refine v_sub [0, 1, 2, 3, 4] rfl ?_
      exact hx h hf
    · replace hf := if_f c hf
      refine v_iload_n (pc := 99) X 2 dX6_starts_99 rfl rfl ?_
      refine v_iload (pc := 100) X 5 dX6_starts_100 rfl ?_
      refine v_ishr (pc := 102) X dX6_starts_102 ?_
      refine v_iconst (pc := 103) X (v := (1 : Int32)) dX6_starts_103 (by decide) ?_
      refine v_iand (pc := 104) X dX6_starts_104 ?_
      refine v_iconst (pc := 105) X (v := (1 : Int32)) dX6_starts_105 (by decide) ?_
      refine v_icmp_ne (pc := 106) X 257 dX6_starts_106 (by decide) (fun c => ?_) (fun c => ?_)
      · replace hf := if_f c hf
        refine v_iinc (pc := 257) X 5 (v := s + (1 : Int32)) (lv' := [(5, .int (s + (1 : Int32))), (0, .ref x0), (1, .int x1), (2, .int x2), (3, .int x3), (4, .int x4)]) dX6_starts_257 rfl rfl (Nat.le_of_ble_eq_true rfl) rfl ?_
        refine v_goto (pc := 260) X 92 dX6_starts_260 (by decide) ?_
        refine v_sub [1, 2, 3, 4, 5, 0] rfl ?_
        exact ih (s + (1 : Int32)) h hf
      · replace hf := if_t c hf
        refine v_aload_n (pc := 109) X 0 dX6_starts_109 rfl rfl ?_
        refine v_iload_n (pc := 110) X 1 dX6_starts_110 rfl rfl ?_
        refine v_iload (pc := 111) X 5 dX6_starts_111 rfl ?_
        refine v_iconst (pc := 113) X (v := (-1 : Int32)) dX6_starts_113 (by decide) ?_
        obtain ⟨t40, hf⟩ := hf
        refine v_callVI (pc := 114) X (As := [.int x1, .int s, .int (-1 : Int32)]) (rest := []) (c_X6_entryOf l D cA L sh x0 x1 s (-1 : Int32) h _ hf) (cwV 3 X.ht (gwV inM q_585 q_586 q_760 q_7 q_587) rfl rfl rfl (by decide +kernel) ⟨Nat.le_of_ble_eq_true rfl, Nat.le_of_ble_eq_true rfl⟩) rfl (by decide) t40 (ent_6 t40) rfl rfl (Nat.le_of_ble_eq_true rfl) ⟨Nat.zero_le _, Nat.zero_le _⟩ dX6_starts_114 (fun r41 h42 hf => ?_)
        refine v_istore (pc := 117) X (i := 6) (lv' := [(6, .int r41), (0, .ref x0), (1, .int x1), (2, .int x2), (3, .int x3), (4, .int x4), (5, .int s)]) dX6_starts_117 (Nat.le_of_ble_eq_true rfl) rfl ?_
        refine v_iload (pc := 119) X 0 dX6_starts_119 rfl ?_
        refine v_if_ge (pc := 121) X 188 dX6_starts_121 (by decide) (fun c => ?_) (fun c => ?_)
        · replace hf := if_t c hf
          refine v_aload_n (pc := 188) X 1 dX6_starts_188 rfl rfl ?_
          obtain ⟨q43, e_q43, hf⟩ := hf
          refine ge_6_0 (pc := 189) X (fun w h => inM w (inG6 w h)) k7 t40 e_q43 dX6_starts_189 ?_
          refine v_iload_n (pc := 192) X 2 dX6_starts_192 rfl rfl ?_
          refine v_iconst (pc := 193) X (v := (1 : Int32)) dX6_starts_193 (by decide) ?_
          refine v_callSI (pc := 194) X (As := [.int x1, .int (1 : Int32)]) (rest := [.ref q43]) (c_X6_of l D cA L sh x1 (1 : Int32) h42 _ hf) (va_cwS 2 X.ht (gwS inM q_551 q_552 q_7 q_553) rfl rfl rfl (by decide +kernel) ⟨Nat.le_of_ble_eq_true rfl, Nat.le_of_ble_eq_true rfl⟩) rfl rfl (Nat.le_of_ble_eq_true rfl) ⟨Nat.zero_le _, Nat.zero_le _⟩ dX6_starts_194 (fun r44 h45 hf => ?_)
          refine v_dup2 (pc := 197) X dX6_starts_197 rfl rfl ?_
          obtain ⟨t46, hf⟩ := hf
          obtain ⟨b48, v47, e_v47, hf⟩ := hf
          refine v_iald (pc := 198) X t46 b48 e_v47 dX6_starts_198 ?_
          refine v_iconst (pc := 199) X (v := (1 : Int32)) dX6_starts_199 (by decide) ?_
          refine v_iadd (pc := 200) X dX6_starts_200 ?_
          obtain ⟨b50, h49, e_h49, hf⟩ := hf
          refine v_iast (pc := 201) X t46 b50 e_h49 dX6_starts_201 ?_
          refine v_aload_n (pc := 202) X 1 dX6_starts_202 rfl rfl ?_
          obtain ⟨q51, e_q51, hf⟩ := hf
          refine ge_6_0 (pc := 203) X (fun w h => inM w (inG6 w h)) k7 t40 e_q51 dX6_starts_203 ?_
          refine v_iload_n (pc := 206) X 2 dX6_starts_206 rfl rfl ?_
          refine v_iload (pc := 207) X 0 dX6_starts_207 rfl ?_
          refine v_iconst (pc := 209) X (v := (3 : Int32)) dX6_starts_209 (by decide) ?_
          refine v_callSI (pc := 210) X (As := [.int x1, .int r41, .int (3 : Int32)]) (rest := [.ref q51]) (c_X6_ofEntry l D cA L sh x1 r41 (3 : Int32) h49 _ hf) (va_cwS 3 X.ht (gwS inM q_557 q_558 q_7 q_559) rfl rfl rfl (by decide +kernel) ⟨Nat.le_of_ble_eq_true rfl, Nat.le_of_ble_eq_true rfl⟩) rfl rfl (Nat.le_of_ble_eq_true rfl) ⟨Nat.zero_le _, Nat.zero_le _⟩ dX6_starts_210 (fun r52 h53 hf => ?_)
          refine v_dup2 (pc := 213) X dX6_starts_213 rfl rfl ?_
          obtain ⟨t54, hf⟩ := hf
          obtain ⟨b56, v55, e_v55, hf⟩ := hf
          refine v_iald (pc := 214) X t54 b56 e_v55 dX6_starts_214 ?_
          refine v_iconst (pc := 215) X (v := (1 : Int32)) dX6_starts_215 (by decide) ?_
          refine v_iadd (pc := 216) X dX6_starts_216 ?_
          obtain ⟨b58, h57, e_h57, hf⟩ := hf
          refine v_iast (pc := 217) X t54 b58 e_h57 dX6_starts_217 ?_
          refine v_aload_n (pc := 218) X 1 dX6_starts_218 rfl rfl ?_
          obtain ⟨q59, e_q59, hf⟩ := hf
          refine ge_6_0 (pc := 219) X (fun w h => inM w (inG6 w h)) k7 t40 e_q59 dX6_starts_219 ?_
          refine v_iload_n (pc := 222) X 2 dX6_starts_222 rfl rfl ?_
          refine v_iload (pc := 223) X 0 dX6_starts_223 rfl ?_
          refine v_iconst (pc := 225) X (v := (4 : Int32)) dX6_starts_225 (by decide) ?_
          refine v_callSI (pc := 226) X (As := [.int x1, .int r41, .int (4 : Int32)]) (rest := [.ref q59]) (c_X6_ofEntry l D cA L sh x1 r41 (4 : Int32) h57 _ hf) (va_cwS 3 X.ht (gwS inM q_557 q_558 q_7 q_559) rfl rfl rfl (by decide +kernel) ⟨Nat.le_of_ble_eq_true rfl, Nat.le_of_ble_eq_true rfl⟩) rfl rfl (Nat.le_of_ble_eq_true rfl) ⟨Nat.zero_le _, Nat.zero_le _⟩ dX6_starts_226 (fun r60 h61 hf => ?_)
          refine v_iload_n (pc := 229) X 4 dX6_starts_229 rfl rfl ?_
          obtain ⟨t62, hf⟩ := hf
          obtain ⟨b64, h63, e_h63, hf⟩ := hf
          refine v_iast (pc := 230) X t62 b64 e_h63 dX6_starts_230 ?_
          refine v_aload_n (pc := 231) X 1 dX6_starts_231 rfl rfl ?_
          obtain ⟨q65, e_q65, hf⟩ := hf
          refine ge_6_0 (pc := 232) X (fun w h => inM w (inG6 w h)) k7 t40 e_q65 dX6_starts_232 ?_
          refine v_iload (pc := 235) X 5 dX6_starts_235 rfl ?_
          refine v_iconst (pc := 237) X (v := (4 : Int32)) dX6_starts_237 (by decide) ?_
          refine v_iload (pc := 238) X 6 dX6_starts_238 rfl ?_
          refine v_iadd (pc := 240) X dX6_starts_240 ?_
          refine v_callSI (pc := 241) X (As := [.int x4, .int ((4 : Int32) + s)]) (rest := [.ref q65]) (c_X6_ofOpen l D cA L sh x4 ((4 : Int32) + s) h63 _ hf) (va_cwS 2 X.ht (gwS inM q_539 q_540 q_7 q_541) rfl rfl rfl (by decide +kernel) ⟨Nat.le_of_ble_eq_true rfl, Nat.le_of_ble_eq_true rfl⟩) rfl rfl (Nat.le_of_ble_eq_true rfl) ⟨Nat.zero_le _, Nat.zero_le _⟩ dX6_starts_241 (fun r66 h67 hf => ?_)
          refine v_aload_n (pc := 244) X 1 dX6_starts_244 rfl rfl ?_
          obtain ⟨q68, e_q68, hf⟩ := hf
          refine ge_6_0 (pc := 245) X (fun w h => inM w (inG6 w h)) k7 t40 e_q68 dX6_starts_245 ?_
          refine v_iload_n (pc := 248) X 2 dX6_starts_248 rfl rfl ?_
          refine v_iload (pc := 249) X 0 dX6_starts_249 rfl ?_
          refine v_iconst (pc := 251) X (v := (1 : Int32)) dX6_starts_251 (by decide) ?_
          refine v_callSI (pc := 252) X (As := [.int x1, .int r41, .int (1 : Int32)]) (rest := [.ref q68, .int r66, .ref q65]) (c_X6_ofEntry l D cA L sh x1 r41 (1 : Int32) h67 _ hf) (va_cwS 3 X.ht (gwS inM q_557 q_558 q_7 q_559) rfl rfl rfl (by decide +kernel) ⟨Nat.le_of_ble_eq_true rfl, Nat.le_of_ble_eq_true rfl⟩) rfl rfl (Nat.le_of_ble_eq_true rfl) ⟨Nat.zero_le _, Nat.zero_le _⟩ dX6_starts_252 (fun r69 h70 hf => ?_)
          obtain ⟨t71, hf⟩ := hf
          obtain ⟨b73, v72, e_v72, hf⟩ := hf
          refine v_iald (pc := 255) X t71 b73 e_v72 dX6_starts_255 ?_
          obtain ⟨t74, hf⟩ := hf
          obtain ⟨b76, h75, e_h75, hf⟩ := hf
          refine v_iast (pc := 256) X t74 b76 e_h75 dX6_starts_256 ?_
          refine v_iinc (pc := 257) X 6 (v := s + (1 : Int32)) (lv' := [(5, .int (s + (1 : Int32))), (6, .int r41), (0, .ref x0), (1, .int x1), (2, .int x2), (3, .int x3), (4, .int x4)]) dX6_starts_257 rfl rfl (Nat.le_of_ble_eq_true rfl) rfl ?_
          refine v_goto (pc := 260) X 92 dX6_starts_260 (by decide) ?_
          refine v_sub [2, 3, 4, 5, 6, 0] rfl ?_
          exact ih (s + (1 : Int32)) h75 hf
        · replace hf := if_f c hf
          refine v_aload_n (pc := 124) X 1 dX6_starts_124 rfl rfl ?_
          refine v_iload_n (pc := 125) X 2 dX6_starts_125 rfl rfl ?_
          refine v_aload_n (pc := 126) X 1 dX6_starts_126 rfl rfl ?_
          obtain ⟨q77, e_q77, hf⟩ := hf
          refine ge_6_0 (pc := 127) X (fun w h => inM w (inG6 w h)) k7 t40 e_q77 dX6_starts_127 ?_
          refine v_iconst (pc := 130) X (v := (4 : Int32)) dX6_starts_130 (by decide) ?_
          obtain ⟨t78, hf⟩ := hf
          obtain ⟨b80, v79, e_v79, hf⟩ := hf
          refine v_iald (pc := 131) X t78 b80 e_v79 dX6_starts_131 ?_
          refine v_iconst (pc := 132) X (v := (1 : Int32)) dX6_starts_132 (by decide) ?_
          refine v_isub (pc := 133) X dX6_starts_133 ?_
          refine v_callVI (pc := 134) X (As := [.int x1, .int (v79 - (1 : Int32))]) (rest := []) (c_X6_shrink l D cA L sh x0 x1 (v79 - (1 : Int32)) h42 _ hf) (cwV 2 X.ht (gwV inM q_588 q_589 q_761 q_7 q_590) rfl rfl rfl (by decide +kernel) ⟨Nat.le_of_ble_eq_true rfl, Nat.le_of_ble_eq_true rfl⟩) rfl (by decide) t40 (ent_6 t40) rfl rfl (Nat.le_of_ble_eq_true rfl) ⟨Nat.zero_le _, Nat.zero_le _⟩ dX6_starts_134 (fun r81 h82 hf => ?_)
          refine v_istore (pc := 137) X (i := 7) (lv' := [(7, .int r81), (6, .int r41), (0, .ref x0), (1, .int x1), (2, .int x2), (3, .int x3), (4, .int x4), (5, .int s)]) dX6_starts_137 (Nat.le_of_ble_eq_true rfl) rfl ?_
          refine v_aload_n (pc := 139) X 2 dX6_starts_139 rfl rfl ?_
          obtain ⟨q83, e_q83, hf⟩ := hf
          refine ge_6_0 (pc := 140) X (fun w h => inM w (inG6 w h)) k7 t40 e_q83 dX6_starts_140 ?_
          refine v_iload_n (pc := 143) X 3 dX6_starts_143 rfl rfl ?_
          refine v_bipush (pc := 144) X (v := (6 : Int32)) dX6_starts_144 (by decide) ?_
          refine v_callSI (pc := 146) X (As := [.int x1, .int (6 : Int32)]) (rest := [.ref q83]) (c_X6_of l D cA L sh x1 (6 : Int32) h82 _ hf) (va_cwS 2 X.ht (gwS inM q_551 q_552 q_7 q_553) rfl rfl rfl (by decide +kernel) ⟨Nat.le_of_ble_eq_true rfl, Nat.le_of_ble_eq_true rfl⟩) rfl rfl (Nat.le_of_ble_eq_true rfl) ⟨Nat.zero_le _, Nat.zero_le _⟩ dX6_starts_146 (fun r84 h85 hf => ?_)
          obtain ⟨t86, hf⟩ := hf
          obtain ⟨b88, v87, e_v87, hf⟩ := hf
          refine v_iald (pc := 149) X t86 b88 e_v87 dX6_starts_149 ?_
          refine v_aload_n (pc := 150) X 2 dX6_starts_150 rfl rfl ?_
          obtain ⟨q89, e_q89, hf⟩ := hf
          refine ge_6_0 (pc := 151) X (fun w h => inM w (inG6 w h)) k7 t40 e_q89 dX6_starts_151 ?_
          refine v_iconst (pc := 154) X (v := (4 : Int32)) dX6_starts_154 (by decide) ?_
          obtain ⟨t90, hf⟩ := hf
          obtain ⟨b92, v91, e_v91, hf⟩ := hf
          refine v_iald (pc := 155) X t90 b92 e_v91 dX6_starts_155 ?_
          refine v_icmp_lt (pc := 156) X 162 dX6_starts_156 (by decide) (fun c => ?_) (fun c => ?_)
          · replace hf := if_t c hf
            refine v_aload_n (pc := 162) X 2 dX6_starts_162 rfl rfl ?_
            refine v_iload_n (pc := 163) X 3 dX6_starts_163 rfl rfl ?_
            refine v_iload (pc := 164) X 7 dX6_starts_164 rfl ?_
            refine v_callVI (pc := 166) X (As := [.int x1, .int s]) (rest := []) (c_X6_load l D cA L sh x0 x1 s h85 _ hf) (cwV 2 X.ht (gwV inM q_594 q_595 q_763 q_7 q_596) rfl rfl rfl (by decide +kernel) ⟨Nat.le_of_ble_eq_true rfl, Nat.le_of_ble_eq_true rfl⟩) rfl (by decide) t40 (ent_6 t40) rfl rfl (Nat.le_of_ble_eq_true rfl) ⟨Nat.zero_le _, Nat.zero_le _⟩ dX6_starts_166 (fun r93 h94 hf => ?_)
            refine v_istore (pc := 169) X (i := 6) (lv' := [(6, .int r93), (7, .int r81), (0, .ref x0), (1, .int x1), (2, .int x2), (3, .int x3), (4, .int x4), (5, .int s)]) dX6_starts_169 (Nat.le_of_ble_eq_true rfl) rfl ?_
            refine v_aload_n (pc := 171) X 2 dX6_starts_171 rfl rfl ?_
            obtain ⟨q95, e_q95, hf⟩ := hf
            refine ge_6_0 (pc := 172) X (fun w h => inM w (inG6 w h)) k7 t40 e_q95 dX6_starts_172 ?_
            refine v_iload_n (pc := 175) X 3 dX6_starts_175 rfl rfl ?_
            refine v_iconst (pc := 176) X (v := (2 : Int32)) dX6_starts_176 (by decide) ?_
            refine v_callSI (pc := 177) X (As := [.int x1, .int (2 : Int32)]) (rest := [.ref q95]) (c_X6_of l D cA L sh x1 (2 : Int32) h94 _ hf) (va_cwS 2 X.ht (gwS inM q_551 q_552 q_7 q_553) rfl rfl rfl (by decide +kernel) ⟨Nat.le_of_ble_eq_true rfl, Nat.le_of_ble_eq_true rfl⟩) rfl rfl (Nat.le_of_ble_eq_true rfl) ⟨Nat.zero_le _, Nat.zero_le _⟩ dX6_starts_177 (fun r96 h97 hf => ?_)
            refine v_dup2 (pc := 180) X dX6_starts_180 rfl rfl ?_
            obtain ⟨t98, hf⟩ := hf
            obtain ⟨b100, v99, e_v99, hf⟩ := hf
            refine v_iald (pc := 181) X t98 b100 e_v99 dX6_starts_181 ?_
            refine v_iconst (pc := 182) X (v := (1 : Int32)) dX6_starts_182 (by decide) ?_
            refine v_iadd (pc := 183) X dX6_starts_183 ?_
            obtain ⟨b102, h101, e_h101, hf⟩ := hf
            refine v_iast (pc := 184) X t98 b102 e_h101 dX6_starts_184 ?_
            refine v_goto (pc := 185) X 202 dX6_starts_185 (by decide) ?_
            refine v_aload_n (pc := 202) X 2 dX6_starts_202 rfl rfl ?_
            obtain ⟨q103, e_q103, hf⟩ := hf
            refine ge_6_0 (pc := 203) X (fun w h => inM w (inG6 w h)) k7 t40 e_q103 dX6_starts_203 ?_
            refine v_iload_n (pc := 206) X 3 dX6_starts_206 rfl rfl ?_
            refine v_iload (pc := 207) X 0 dX6_starts_207 rfl ?_
            refine v_iconst (pc := 209) X (v := (3 : Int32)) dX6_starts_209 (by decide) ?_
            refine v_callSI (pc := 210) X (As := [.int x1, .int r93, .int (3 : Int32)]) (rest := [.ref q103]) (c_X6_ofEntry l D cA L sh x1 r93 (3 : Int32) h101 _ hf) (va_cwS 3 X.ht (gwS inM q_557 q_558 q_7 q_559) rfl rfl rfl (by decide +kernel) ⟨Nat.le_of_ble_eq_true rfl, Nat.le_of_ble_eq_true rfl⟩) rfl rfl (Nat.le_of_ble_eq_true rfl) ⟨Nat.zero_le _, Nat.zero_le _⟩ dX6_starts_210 (fun r104 h105 hf => ?_)
            refine v_dup2 (pc := 213) X dX6_starts_213 rfl rfl ?_
            obtain ⟨t106, hf⟩ := hf
            obtain ⟨b108, v107, e_v107, hf⟩ := hf
            refine v_iald (pc := 214) X t106 b108 e_v107 dX6_starts_214 ?_
            refine v_iconst (pc := 215) X (v := (1 : Int32)) dX6_starts_215 (by decide) ?_
            refine v_iadd (pc := 216) X dX6_starts_216 ?_
            obtain ⟨b110, h109, e_h109, hf⟩ := hf
            refine v_iast (pc := 217) X t106 b110 e_h109 dX6_starts_217 ?_
            refine v_aload_n (pc := 218) X 2 dX6_starts_218 rfl rfl ?_
            obtain ⟨q111, e_q111, hf⟩ := hf
            refine ge_6_0 (pc := 219) X (fun w h => inM w (inG6 w h)) k7 t40 e_q111 dX6_starts_219 ?_
            refine v_iload_n (pc := 222) X 3 dX6_starts_222 rfl rfl ?_
            refine v_iload (pc := 223) X 0 dX6_starts_223 rfl ?_
            refine v_iconst (pc := 225) X (v := (4 : Int32)) dX6_starts_225 (by decide) ?_
            refine v_callSI (pc := 226) X (As := [.int x1, .int r93, .int (4 : Int32)]) (rest := [.ref q111]) (c_X6_ofEntry l D cA L sh x1 r93 (4 : Int32) h109 _ hf) (va_cwS 3 X.ht (gwS inM q_557 q_558 q_7 q_559) rfl rfl rfl (by decide +kernel) ⟨Nat.le_of_ble_eq_true rfl, Nat.le_of_ble_eq_true rfl⟩) rfl rfl (Nat.le_of_ble_eq_true rfl) ⟨Nat.zero_le _, Nat.zero_le _⟩ dX6_starts_226 (fun r112 h113 hf => ?_)
            refine v_iload_n (pc := 229) X 5 dX6_starts_229 rfl rfl ?_
            obtain ⟨t114, hf⟩ := hf
            obtain ⟨b116, h115, e_h115, hf⟩ := hf
            refine v_iast (pc := 230) X t114 b116 e_h115 dX6_starts_230 ?_
            refine v_aload_n (pc := 231) X 2 dX6_starts_231 rfl rfl ?_
            obtain ⟨q117, e_q117, hf⟩ := hf
            refine ge_6_0 (pc := 232) X (fun w h => inM w (inG6 w h)) k7 t40 e_q117 dX6_starts_232 ?_
            refine v_iload (pc := 235) X 6 dX6_starts_235 rfl ?_
            refine v_iconst (pc := 237) X (v := (4 : Int32)) dX6_starts_237 (by decide) ?_
            refine v_iload (pc := 238) X 7 dX6_starts_238 rfl ?_
            refine v_iadd (pc := 240) X dX6_starts_240 ?_
            refine v_callSI (pc := 241) X (As := [.int x4, .int ((4 : Int32) + s)]) (rest := [.ref q117]) (c_X6_ofOpen l D cA L sh x4 ((4 : Int32) + s) h115 _ hf) (va_cwS 2 X.ht (gwS inM q_539 q_540 q_7 q_541) rfl rfl rfl (by decide +kernel) ⟨Nat.le_of_ble_eq_true rfl, Nat.le_of_ble_eq_true rfl⟩) rfl rfl (Nat.le_of_ble_eq_true rfl) ⟨Nat.zero_le _, Nat.zero_le _⟩ dX6_starts_241 (fun r118 h119 hf => ?_)
            refine v_aload_n (pc := 244) X 2 dX6_starts_244 rfl rfl ?_
            obtain ⟨q120, e_q120, hf⟩ := hf
            refine ge_6_0 (pc := 245) X (fun w h => inM w (inG6 w h)) k7 t40 e_q120 dX6_starts_245 ?_
            refine v_iload_n (pc := 248) X 3 dX6_starts_248 rfl rfl ?_
            refine v_iload (pc := 249) X 0 dX6_starts_249 rfl ?_
            refine v_iconst (pc := 251) X (v := (1 : Int32)) dX6_starts_251 (by decide) ?_
            refine v_callSI (pc := 252) X (As := [.int x1, .int r93, .int (1 : Int32)]) (rest := [.ref q120, .int r118, .ref q117]) (c_X6_ofEntry l D cA L sh x1 r93 (1 : Int32) h119 _ hf) (va_cwS 3 X.ht (gwS inM q_557 q_558 q_7 q_559) rfl rfl rfl (by decide +kernel) ⟨Nat.le_of_ble_eq_true rfl, Nat.le_of_ble_eq_true rfl⟩) rfl rfl (Nat.le_of_ble_eq_true rfl) ⟨Nat.zero_le _, Nat.zero_le _⟩ dX6_starts_252 (fun r121 h122 hf => ?_)
            obtain ⟨t123, hf⟩ := hf
            obtain ⟨b125, v124, e_v124, hf⟩ := hf
            refine v_iald (pc := 255) X t123 b125 e_v124 dX6_starts_255 ?_
            obtain ⟨t126, hf⟩ := hf
            obtain ⟨b128, h127, e_h127, hf⟩ := hf
            refine v_iast (pc := 256) X t126 b128 e_h127 dX6_starts_256 ?_
            refine v_iinc (pc := 257) X 7 (v := s + (1 : Int32)) (lv' := [(5, .int (s + (1 : Int32))), (6, .int r93), (7, .int r81), (0, .ref x0), (1, .int x1), (2, .int x2), (3, .int x3), (4, .int x4)]) dX6_starts_257 rfl rfl (Nat.le_of_ble_eq_true rfl) rfl ?_
            refine v_goto (pc := 260) X 92 dX6_starts_260 (by decide) ?_
            refine v_sub [3, 4, 5, 6, 7, 0] rfl ?_
            exact ih (s + (1 : Int32)) h127 hf
          · replace hf := if_f c hf
            refine v_bipush (pc := 159) X (v := (-3 : Int32)) dX6_starts_159 (by decide) ?_
            exact v_iret (pc := 161) X hr hlk dX6_starts_161 hf

set_option maxHeartbeats 4000000 in
set_option maxRecDepth 100000 in
theorem c_X6_starts (l : Launch) (D : va_G) (cA : Nat → ClassId) (L : List Nat) (sh : Sh) (a0 : Nat) (p1 : Int32) (p2 : Int32) (h : Hp) (K : Int32 → Hp → Prop) (hf : f_X6_starts sh a0 p1 p2 h K) : Met l yX6_starts (wM yX6_starts cX6_starts 8 (some .int)) ({ frames := 5, cells := 0, slots := 0, locals := 114 } : Room) (PreM D cA L sh h [.ref a0, .int p1, .int p2]) (QI D cA L sh K) 0 0 (fun q => q ∈ L) := by
  refine met_v (cc := cX6_starts) (nL := 8) (ret := (some .int)) [(0, .ref a0), (1, .int p1), (2, .int p2)] (by decide) rfl (Nat.le_of_ble_eq_true rfl) rfl ?_
  intro p e s0 m below meth c X hr hlk
  have k7 := X.ht _ (inM _ q_485)
  unfold f_X6_starts at hf
  refine v_aload_n (pc := 0) X 0 dX6_starts_0 rfl rfl ?_
  refine v_iload_n (pc := 1) X 1 dX6_starts_1 rfl rfl ?_
  obtain ⟨t1, hf⟩ := hf
  refine v_callVI (pc := 2) X (As := [.int p1]) (rest := []) (c_X6_opensOf l D cA L sh a0 p1 h _ hf) (cwV 1 X.ht (gwV inM q_582 q_583 q_759 q_7 q_584) rfl rfl rfl (by decide +kernel) ⟨Nat.le_of_ble_eq_true rfl, Nat.le_of_ble_eq_true rfl⟩) rfl (by decide) t1 (ent_6 t1) rfl rfl (Nat.le_of_ble_eq_true rfl) ⟨Nat.zero_le _, Nat.zero_le _⟩ dX6_starts_2 (fun r2 h3 hf => ?_)
  refine v_iconst (pc := 5) X (v := (4 : Int32)) dX6_starts_5 (by decide) ?_
  refine v_icmp_eq (pc := 6) X 21 dX6_starts_6 (by decide) (fun c => ?_) (fun c => ?_)
  · replace hf := if_t c hf
    refine v_bipush (pc := 21) X (v := (-3 : Int32)) dX6_starts_21 (by decide) ?_
    exact v_iret (pc := 23) X hr hlk dX6_starts_23 hf
  · replace hf := if_f c hf
    refine v_aload_n (pc := 9) X 0 dX6_starts_9 rfl rfl ?_
    obtain ⟨q4, e_q4, hf⟩ := hf
    refine ge_6_0 (pc := 10) X (fun w h => inM w (inG6 w h)) k7 t1 e_q4 dX6_starts_10 ?_
    refine v_iconst (pc := 13) X (v := (2 : Int32)) dX6_starts_13 (by decide) ?_
    obtain ⟨t5, hf⟩ := hf
    obtain ⟨b7, v6, e_v6, hf⟩ := hf
    refine v_iald (pc := 14) X t5 b7 e_v6 dX6_starts_14 ?_
    refine v_sipush (pc := 15) X (v := (999 : Int32)) dX6_starts_15 (by decide) ?_
    refine v_icmp_ne (pc := 18) X 24 dX6_starts_18 (by decide) (fun c => ?_) (fun c => ?_)
    · replace hf := if_f c hf
      refine v_aload_n (pc := 24) X 0 dX6_starts_24 rfl rfl ?_
      obtain ⟨q8, e_q8, hf⟩ := hf
      refine ge_6_0 (pc := 25) X (fun w h => inM w (inG6 w h)) k7 t1 e_q8 dX6_starts_25 ?_
      refine v_iconst (pc := 28) X (v := (2 : Int32)) dX6_starts_28 (by decide) ?_
      obtain ⟨t9, hf⟩ := hf
      obtain ⟨b11, v10, e_v10, hf⟩ := hf
      refine v_iald (pc := 29) X t9 b11 e_v10 dX6_starts_29 ?_
      refine v_istore_n (pc := 30) X (i := 3) (lv' := [(3, .int v10), (0, .ref a0), (1, .int p1), (2, .int p2)]) dX6_starts_30 rfl (Nat.le_of_ble_eq_true rfl) rfl ?_
      refine v_aload_n (pc := 31) X 1 dX6_starts_31 rfl rfl ?_
      obtain ⟨q12, e_q12, hf⟩ := hf
      refine ge_6_0 (pc := 32) X (fun w h => inM w (inG6 w h)) k7 t1 e_q12 dX6_starts_32 ?_
      refine v_sipush (pc := 35) X (v := (437 : Int32)) dX6_starts_35 (by decide) ?_
      obtain ⟨t13, hf⟩ := hf
      obtain ⟨b15, v14, e_v14, hf⟩ := hf
      refine v_iald (pc := 38) X t13 b15 e_v14 dX6_starts_38 ?_
      refine v_istore (pc := 39) X (i := 4) (lv' := [(4, .int v14), (3, .int v10), (0, .ref a0), (1, .int p1), (2, .int p2)]) dX6_starts_39 (Nat.le_of_ble_eq_true rfl) rfl ?_
      refine v_aload_n (pc := 41) X 2 dX6_starts_41 rfl rfl ?_
      obtain ⟨q16, e_q16, hf⟩ := hf
      refine ge_6_0 (pc := 42) X (fun w h => inM w (inG6 w h)) k7 t1 e_q16 dX6_starts_42 ?_
      refine v_iload_n (pc := 45) X 3 dX6_starts_45 rfl rfl ?_
      refine v_iconst (pc := 46) X (v := (4 : Int32)) dX6_starts_46 (by decide) ?_
      refine v_callSI (pc := 47) X (As := [.int p1, .int (4 : Int32)]) (rest := [.ref q16]) (c_X6_of l D cA L sh p1 (4 : Int32) h3 _ hf) (va_cwS 2 X.ht (gwS inM q_551 q_552 q_7 q_553) rfl rfl rfl (by decide +kernel) ⟨Nat.le_of_ble_eq_true rfl, Nat.le_of_ble_eq_true rfl⟩) rfl rfl (Nat.le_of_ble_eq_true rfl) ⟨Nat.zero_le _, Nat.zero_le _⟩ dX6_starts_47 (fun r17 h18 hf => ?_)
      refine v_dup2 (pc := 50) X dX6_starts_50 rfl rfl ?_
      obtain ⟨t19, hf⟩ := hf
      obtain ⟨b21, v20, e_v20, hf⟩ := hf
      refine v_iald (pc := 51) X t19 b21 e_v20 dX6_starts_51 ?_
      refine v_aload_n (pc := 52) X 2 dX6_starts_52 rfl rfl ?_
      obtain ⟨q22, e_q22, hf⟩ := hf
      refine ge_6_0 (pc := 53) X (fun w h => inM w (inG6 w h)) k7 t1 e_q22 dX6_starts_53 ?_
      refine v_iload_n (pc := 56) X 3 dX6_starts_56 rfl rfl ?_
      refine v_iconst (pc := 57) X (v := (0 : Int32)) dX6_starts_57 (by decide) ?_
      refine v_callSI (pc := 58) X (As := [.int p1, .int (0 : Int32)]) (rest := [.ref q22, .int v20, .int r17, .ref q16]) (c_X6_of l D cA L sh p1 (0 : Int32) h18 _ hf) (va_cwS 2 X.ht (gwS inM q_551 q_552 q_7 q_553) rfl rfl rfl (by decide +kernel) ⟨Nat.le_of_ble_eq_true rfl, Nat.le_of_ble_eq_true rfl⟩) rfl rfl (Nat.le_of_ble_eq_true rfl) ⟨Nat.zero_le _, Nat.zero_le _⟩ dX6_starts_58 (fun r23 h24 hf => ?_)
      obtain ⟨t25, hf⟩ := hf
      obtain ⟨b27, v26, e_v26, hf⟩ := hf
      refine v_iald (pc := 61) X t25 b27 e_v26 dX6_starts_61 ?_
      refine v_aload_n (pc := 62) X 2 dX6_starts_62 rfl rfl ?_
      obtain ⟨q28, e_q28, hf⟩ := hf
      refine ge_6_0 (pc := 63) X (fun w h => inM w (inG6 w h)) k7 t1 e_q28 dX6_starts_63 ?_
      refine v_iconst (pc := 66) X (v := (1 : Int32)) dX6_starts_66 (by decide) ?_
      obtain ⟨t29, hf⟩ := hf
      obtain ⟨b31, v30, e_v30, hf⟩ := hf
      refine v_iald (pc := 67) X t29 b31 e_v30 dX6_starts_67 ?_
      refine v_icmp_ge (pc := 68) X 75 dX6_starts_68 (by decide) (fun c => ?_) (fun c => ?_)
      · replace hf := if_t c hf
        refine v_iconst (pc := 75) X (v := (0 : Int32)) dX6_starts_75 (by decide) ?_
        refine v_iadd (pc := 76) X dX6_starts_76 ?_
        obtain ⟨b33, h32, e_h32, hf⟩ := hf
        refine v_iast (pc := 77) X t19 b33 e_h32 dX6_starts_77 ?_
        refine v_aload_n (pc := 78) X 2 dX6_starts_78 rfl rfl ?_
        refine v_iload_n (pc := 79) X 3 dX6_starts_79 rfl rfl ?_
        refine v_aload_n (pc := 80) X 2 dX6_starts_80 rfl rfl ?_
        obtain ⟨q34, e_q34, hf⟩ := hf
        refine ge_6_0 (pc := 81) X (fun w h => inM w (inG6 w h)) k7 t1 e_q34 dX6_starts_81 ?_
        refine v_iconst (pc := 84) X (v := (1 : Int32)) dX6_starts_84 (by decide) ?_
        obtain ⟨t35, hf⟩ := hf
        obtain ⟨b37, v36, e_v36, hf⟩ := hf
        refine v_iald (pc := 85) X t35 b37 e_v36 dX6_starts_85 ?_
        refine v_callVV (pc := 86) X (As := [.int p1, .int v36]) (rest := []) (c_X6_learn l D cA L sh a0 p1 v36 h32 _ hf) (cwV 2 X.ht (gwV inM q_554 q_555 q_753 q_7 q_556) rfl rfl rfl (by decide +kernel) ⟨Nat.le_of_ble_eq_true rfl, Nat.le_of_ble_eq_true rfl⟩) rfl (by decide) t1 (ent_6 t1) rfl rfl (Nat.le_of_ble_eq_true rfl) ⟨Nat.zero_le _, Nat.zero_le _⟩ dX6_starts_86 (fun h39 hf => ?_)
        refine v_iconst (pc := 89) X (v := (0 : Int32)) dX6_starts_89 (by decide) ?_
        refine v_istore (pc := 90) X (i := 5) (lv' := [(5, .int (0 : Int32)), (4, .int v14), (3, .int v10), (0, .ref a0), (1, .int p1), (2, .int p2)]) dX6_starts_90 (Nat.le_of_ble_eq_true rfl) rfl ?_
        obtain ⟨n, hf⟩ := hf
        refine v_sub [3, 4, 5, 2, 1, 0] rfl ?_
        refine w_X6_starts_92 X hr hlk a0 p1 p2 v10 v14 _ K (fun  h129 hf => ?_) n (0 : Int32) h39 hf
        refine v_aload_n (pc := 263) X 0 dX6_starts_263 rfl rfl ?_
        obtain ⟨q130, e_q130, hf⟩ := hf
        refine ge_6_0 (pc := 264) X (fun w h => inM w (inG6 w h)) k7 t1 e_q130 dX6_starts_264 ?_
        refine v_iload (pc := 267) X 4 dX6_starts_267 rfl ?_
        refine v_iconst (pc := 269) X (v := (0 : Int32)) dX6_starts_269 (by decide) ?_
        refine v_callSI (pc := 270) X (As := [.int v14, .int (0 : Int32)]) (rest := [.ref q130]) (c_X6_ofOpen l D cA L sh v14 (0 : Int32) h129 _ hf) (va_cwS 2 X.ht (gwS inM q_539 q_540 q_7 q_541) rfl rfl rfl (by decide +kernel) ⟨Nat.le_of_ble_eq_true rfl, Nat.le_of_ble_eq_true rfl⟩) rfl rfl (Nat.le_of_ble_eq_true rfl) ⟨Nat.zero_le _, Nat.zero_le _⟩ dX6_starts_270 (fun r131 h132 hf => ?_)
        refine v_iload_n (pc := 273) X 3 dX6_starts_273 rfl rfl ?_
        obtain ⟨t133, hf⟩ := hf
        obtain ⟨b135, h134, e_h134, hf⟩ := hf
        refine v_iast (pc := 274) X t133 b135 e_h134 dX6_starts_274 ?_
        refine v_aload_n (pc := 275) X 0 dX6_starts_275 rfl rfl ?_
        obtain ⟨q136, e_q136, hf⟩ := hf
        refine ge_6_0 (pc := 276) X (fun w h => inM w (inG6 w h)) k7 t1 e_q136 dX6_starts_276 ?_
        refine v_iload (pc := 279) X 4 dX6_starts_279 rfl ?_
        refine v_iconst (pc := 281) X (v := (1 : Int32)) dX6_starts_281 (by decide) ?_
        refine v_callSI (pc := 282) X (As := [.int v14, .int (1 : Int32)]) (rest := [.ref q136]) (c_X6_ofOpen l D cA L sh v14 (1 : Int32) h134 _ hf) (va_cwS 2 X.ht (gwS inM q_539 q_540 q_7 q_541) rfl rfl rfl (by decide +kernel) ⟨Nat.le_of_ble_eq_true rfl, Nat.le_of_ble_eq_true rfl⟩) rfl rfl (Nat.le_of_ble_eq_true rfl) ⟨Nat.zero_le _, Nat.zero_le _⟩ dX6_starts_282 (fun r137 h138 hf => ?_)
        refine v_iload_n (pc := 285) X 1 dX6_starts_285 rfl rfl ?_
        obtain ⟨t139, hf⟩ := hf
        obtain ⟨b141, h140, e_h140, hf⟩ := hf
        refine v_iast (pc := 286) X t139 b141 e_h140 dX6_starts_286 ?_
        refine v_aload_n (pc := 287) X 0 dX6_starts_287 rfl rfl ?_
        obtain ⟨q142, e_q142, hf⟩ := hf
        refine ge_6_0 (pc := 288) X (fun w h => inM w (inG6 w h)) k7 t1 e_q142 dX6_starts_288 ?_
        refine v_iload (pc := 291) X 4 dX6_starts_291 rfl ?_
        refine v_iconst (pc := 293) X (v := (2 : Int32)) dX6_starts_293 (by decide) ?_
        refine v_callSI (pc := 294) X (As := [.int v14, .int (2 : Int32)]) (rest := [.ref q142]) (c_X6_ofOpen l D cA L sh v14 (2 : Int32) h140 _ hf) (va_cwS 2 X.ht (gwS inM q_539 q_540 q_7 q_541) rfl rfl rfl (by decide +kernel) ⟨Nat.le_of_ble_eq_true rfl, Nat.le_of_ble_eq_true rfl⟩) rfl rfl (Nat.le_of_ble_eq_true rfl) ⟨Nat.zero_le _, Nat.zero_le _⟩ dX6_starts_294 (fun r143 h144 hf => ?_)
        refine v_iload_n (pc := 297) X 2 dX6_starts_297 rfl rfl ?_
        obtain ⟨t145, hf⟩ := hf
        obtain ⟨b147, h146, e_h146, hf⟩ := hf
        refine v_iast (pc := 298) X t145 b147 e_h146 dX6_starts_298 ?_
        refine v_aload_n (pc := 299) X 0 dX6_starts_299 rfl rfl ?_
        obtain ⟨q148, e_q148, hf⟩ := hf
        refine ge_6_0 (pc := 300) X (fun w h => inM w (inG6 w h)) k7 t1 e_q148 dX6_starts_300 ?_
        refine v_iload (pc := 303) X 4 dX6_starts_303 rfl ?_
        refine v_iconst (pc := 305) X (v := (3 : Int32)) dX6_starts_305 (by decide) ?_
        refine v_callSI (pc := 306) X (As := [.int v14, .int (3 : Int32)]) (rest := [.ref q148]) (c_X6_ofOpen l D cA L sh v14 (3 : Int32) h146 _ hf) (va_cwS 2 X.ht (gwS inM q_539 q_540 q_7 q_541) rfl rfl rfl (by decide +kernel) ⟨Nat.le_of_ble_eq_true rfl, Nat.le_of_ble_eq_true rfl⟩) rfl rfl (Nat.le_of_ble_eq_true rfl) ⟨Nat.zero_le _, Nat.zero_le _⟩ dX6_starts_306 (fun r149 h150 hf => ?_)
        refine v_aload_n (pc := 309) X 0 dX6_starts_309 rfl rfl ?_
        obtain ⟨q151, e_q151, hf⟩ := hf
        refine ge_6_0 (pc := 310) X (fun w h => inM w (inG6 w h)) k7 t1 e_q151 dX6_starts_310 ?_
        refine v_iconst (pc := 313) X (v := (0 : Int32)) dX6_starts_313 (by decide) ?_
        obtain ⟨t152, hf⟩ := hf
        obtain ⟨b154, v153, e_v153, hf⟩ := hf
        refine v_iald (pc := 314) X t152 b154 e_v153 dX6_starts_314 ?_
        obtain ⟨t155, hf⟩ := hf
        obtain ⟨b157, h156, e_h156, hf⟩ := hf
        refine v_iast (pc := 315) X t155 b157 e_h156 dX6_starts_315 ?_
        refine v_aload_n (pc := 316) X 0 dX6_starts_316 rfl rfl ?_
        obtain ⟨q158, e_q158, hf⟩ := hf
        refine ge_6_0 (pc := 317) X (fun w h => inM w (inG6 w h)) k7 t1 e_q158 dX6_starts_317 ?_
        refine v_sipush (pc := 320) X (v := (437 : Int32)) dX6_starts_320 (by decide) ?_
        refine v_dup2 (pc := 323) X dX6_starts_323 rfl rfl ?_
        obtain ⟨t159, hf⟩ := hf
        obtain ⟨b161, v160, e_v160, hf⟩ := hf
        refine v_iald (pc := 324) X t159 b161 e_v160 dX6_starts_324 ?_
        refine v_iconst (pc := 325) X (v := (1 : Int32)) dX6_starts_325 (by decide) ?_
        refine v_iadd (pc := 326) X dX6_starts_326 ?_
        obtain ⟨b163, h162, e_h162, hf⟩ := hf
        refine v_iast (pc := 327) X t159 b163 e_h162 dX6_starts_327 ?_
        refine v_aload_n (pc := 328) X 0 dX6_starts_328 rfl rfl ?_
        obtain ⟨q164, e_q164, hf⟩ := hf
        refine ge_6_0 (pc := 329) X (fun w h => inM w (inG6 w h)) k7 t1 e_q164 dX6_starts_329 ?_
        refine v_iconst (pc := 332) X (v := (2 : Int32)) dX6_starts_332 (by decide) ?_
        refine v_dup2 (pc := 333) X dX6_starts_333 rfl rfl ?_
        obtain ⟨t165, hf⟩ := hf
        obtain ⟨b167, v166, e_v166, hf⟩ := hf
        refine v_iald (pc := 334) X t165 b167 e_v166 dX6_starts_334 ?_
        refine v_iconst (pc := 335) X (v := (1 : Int32)) dX6_starts_335 (by decide) ?_
        refine v_iadd (pc := 336) X dX6_starts_336 ?_
        obtain ⟨b169, h168, e_h168, hf⟩ := hf
        refine v_iast (pc := 337) X t165 b169 e_h168 dX6_starts_337 ?_
        refine v_aload_n (pc := 338) X 0 dX6_starts_338 rfl rfl ?_
        refine v_iload_n (pc := 339) X 1 dX6_starts_339 rfl rfl ?_
        refine v_iload_n (pc := 340) X 2 dX6_starts_340 rfl rfl ?_
        refine v_callVV (pc := 341) X (As := [.int p1, .int p2]) (rest := []) (c_X6_remember l D cA L sh a0 p1 p2 h168 _ hf) (cwV 2 X.ht (gwV inM q_597 q_598 q_764 q_7 q_599) rfl rfl rfl (by decide +kernel) ⟨Nat.le_of_ble_eq_true rfl, Nat.le_of_ble_eq_true rfl⟩) rfl (by decide) t1 (ent_6 t1) rfl rfl (Nat.le_of_ble_eq_true rfl) ⟨Nat.zero_le _, Nat.zero_le _⟩ dX6_starts_341 (fun h171 hf => ?_)
        refine v_iload_n (pc := 344) X 3 dX6_starts_344 rfl rfl ?_
        exact v_iret (pc := 345) X hr hlk dX6_starts_345 hf
      · replace hf := if_f c hf
        refine v_iconst (pc := 71) X (v := (1 : Int32)) dX6_starts_71 (by decide) ?_
        refine v_goto (pc := 72) X 76 dX6_starts_72 (by decide) ?_
        refine v_iadd (pc := 76) X dX6_starts_76 ?_
        obtain ⟨b173, h172, e_h172, hf⟩ := hf
        refine v_iast (pc := 77) X t19 b173 e_h172 dX6_starts_77 ?_
        refine v_aload_n (pc := 78) X 2 dX6_starts_78 rfl rfl ?_
        refine v_iload_n (pc := 79) X 3 dX6_starts_79 rfl rfl ?_
        refine v_aload_n (pc := 80) X 2 dX6_starts_80 rfl rfl ?_
        obtain ⟨q174, e_q174, hf⟩ := hf
        refine ge_6_0 (pc := 81) X (fun w h => inM w (inG6 w h)) k7 t1 e_q174 dX6_starts_81 ?_
        refine v_iconst (pc := 84) X (v := (1 : Int32)) dX6_starts_84 (by decide) ?_
        obtain ⟨t175, hf⟩ := hf
        obtain ⟨b177, v176, e_v176, hf⟩ := hf
        refine v_iald (pc := 85) X t175 b177 e_v176 dX6_starts_85 ?_
        refine v_callVV (pc := 86) X (As := [.int p1, .int v176]) (rest := []) (c_X6_learn l D cA L sh a0 p1 v176 h172 _ hf) (cwV 2 X.ht (gwV inM q_554 q_555 q_753 q_7 q_556) rfl rfl rfl (by decide +kernel) ⟨Nat.le_of_ble_eq_true rfl, Nat.le_of_ble_eq_true rfl⟩) rfl (by decide) t1 (ent_6 t1) rfl rfl (Nat.le_of_ble_eq_true rfl) ⟨Nat.zero_le _, Nat.zero_le _⟩ dX6_starts_86 (fun h179 hf => ?_)
        refine v_iconst (pc := 89) X (v := (0 : Int32)) dX6_starts_89 (by decide) ?_
        refine v_istore (pc := 90) X (i := 5) (lv' := [(5, .int (0 : Int32)), (4, .int v14), (3, .int v10), (0, .ref a0), (1, .int p1), (2, .int p2)]) dX6_starts_90 (Nat.le_of_ble_eq_true rfl) rfl ?_
        obtain ⟨n, hf⟩ := hf
        refine v_sub [3, 4, 5, 2, 1, 0] rfl ?_
        refine w_X6_starts_92 X hr hlk a0 p1 p2 v10 v14 _ K (fun  h180 hf => ?_) n (0 : Int32) h179 hf
        refine v_aload_n (pc := 263) X 0 dX6_starts_263 rfl rfl ?_
        obtain ⟨q181, e_q181, hf⟩ := hf
        refine ge_6_0 (pc := 264) X (fun w h => inM w (inG6 w h)) k7 t1 e_q181 dX6_starts_264 ?_
        refine v_iload (pc := 267) X 4 dX6_starts_267 rfl ?_
        refine v_iconst (pc := 269) X (v := (0 : Int32)) dX6_starts_269 (by decide) ?_
        refine v_callSI (pc := 270) X (As := [.int v14, .int (0 : Int32)]) (rest := [.ref q181]) (c_X6_ofOpen l D cA L sh v14 (0 : Int32) h180 _ hf) (va_cwS 2 X.ht (gwS inM q_539 q_540 q_7 q_541) rfl rfl rfl (by decide +kernel) ⟨Nat.le_of_ble_eq_true rfl, Nat.le_of_ble_eq_true rfl⟩) rfl rfl (Nat.le_of_ble_eq_true rfl) ⟨Nat.zero_le _, Nat.zero_le _⟩ dX6_starts_270 (fun r182 h183 hf => ?_)
        refine v_iload_n (pc := 273) X 3 dX6_starts_273 rfl rfl ?_
        obtain ⟨t184, hf⟩ := hf
        obtain ⟨b186, h185, e_h185, hf⟩ := hf
        refine v_iast (pc := 274) X t184 b186 e_h185 dX6_starts_274 ?_
        refine v_aload_n (pc := 275) X 0 dX6_starts_275 rfl rfl ?_
        obtain ⟨q187, e_q187, hf⟩ := hf
        refine ge_6_0 (pc := 276) X (fun w h => inM w (inG6 w h)) k7 t1 e_q187 dX6_starts_276 ?_
        refine v_iload (pc := 279) X 4 dX6_starts_279 rfl ?_
        refine v_iconst (pc := 281) X (v := (1 : Int32)) dX6_starts_281 (by decide) ?_
        refine v_callSI (pc := 282) X (As := [.int v14, .int (1 : Int32)]) (rest := [.ref q187]) (c_X6_ofOpen l D cA L sh v14 (1 : Int32) h185 _ hf) (va_cwS 2 X.ht (gwS inM q_539 q_540 q_7 q_541) rfl rfl rfl (by decide +kernel) ⟨Nat.le_of_ble_eq_true rfl, Nat.le_of_ble_eq_true rfl⟩) rfl rfl (Nat.le_of_ble_eq_true rfl) ⟨Nat.zero_le _, Nat.zero_le _⟩ dX6_starts_282 (fun r188 h189 hf => ?_)
        refine v_iload_n (pc := 285) X 1 dX6_starts_285 rfl rfl ?_
        obtain ⟨t190, hf⟩ := hf
        obtain ⟨b192, h191, e_h191, hf⟩ := hf
        refine v_iast (pc := 286) X t190 b192 e_h191 dX6_starts_286 ?_
        refine v_aload_n (pc := 287) X 0 dX6_starts_287 rfl rfl ?_
        obtain ⟨q193, e_q193, hf⟩ := hf
        refine ge_6_0 (pc := 288) X (fun w h => inM w (inG6 w h)) k7 t1 e_q193 dX6_starts_288 ?_
        refine v_iload (pc := 291) X 4 dX6_starts_291 rfl ?_
        refine v_iconst (pc := 293) X (v := (2 : Int32)) dX6_starts_293 (by decide) ?_
        refine v_callSI (pc := 294) X (As := [.int v14, .int (2 : Int32)]) (rest := [.ref q193]) (c_X6_ofOpen l D cA L sh v14 (2 : Int32) h191 _ hf) (va_cwS 2 X.ht (gwS inM q_539 q_540 q_7 q_541) rfl rfl rfl (by decide +kernel) ⟨Nat.le_of_ble_eq_true rfl, Nat.le_of_ble_eq_true rfl⟩) rfl rfl (Nat.le_of_ble_eq_true rfl) ⟨Nat.zero_le _, Nat.zero_le _⟩ dX6_starts_294 (fun r194 h195 hf => ?_)
        refine v_iload_n (pc := 297) X 2 dX6_starts_297 rfl rfl ?_
        obtain ⟨t196, hf⟩ := hf
        obtain ⟨b198, h197, e_h197, hf⟩ := hf
        refine v_iast (pc := 298) X t196 b198 e_h197 dX6_starts_298 ?_
        refine v_aload_n (pc := 299) X 0 dX6_starts_299 rfl rfl ?_
        obtain ⟨q199, e_q199, hf⟩ := hf
        refine ge_6_0 (pc := 300) X (fun w h => inM w (inG6 w h)) k7 t1 e_q199 dX6_starts_300 ?_
        refine v_iload (pc := 303) X 4 dX6_starts_303 rfl ?_
        refine v_iconst (pc := 305) X (v := (3 : Int32)) dX6_starts_305 (by decide) ?_
        refine v_callSI (pc := 306) X (As := [.int v14, .int (3 : Int32)]) (rest := [.ref q199]) (c_X6_ofOpen l D cA L sh v14 (3 : Int32) h197 _ hf) (va_cwS 2 X.ht (gwS inM q_539 q_540 q_7 q_541) rfl rfl rfl (by decide +kernel) ⟨Nat.le_of_ble_eq_true rfl, Nat.le_of_ble_eq_true rfl⟩) rfl rfl (Nat.le_of_ble_eq_true rfl) ⟨Nat.zero_le _, Nat.zero_le _⟩ dX6_starts_306 (fun r200 h201 hf => ?_)
        refine v_aload_n (pc := 309) X 0 dX6_starts_309 rfl rfl ?_
        obtain ⟨q202, e_q202, hf⟩ := hf
        refine ge_6_0 (pc := 310) X (fun w h => inM w (inG6 w h)) k7 t1 e_q202 dX6_starts_310 ?_
        refine v_iconst (pc := 313) X (v := (0 : Int32)) dX6_starts_313 (by decide) ?_
        obtain ⟨t203, hf⟩ := hf
        obtain ⟨b205, v204, e_v204, hf⟩ := hf
        refine v_iald (pc := 314) X t203 b205 e_v204 dX6_starts_314 ?_
        obtain ⟨t206, hf⟩ := hf
        obtain ⟨b208, h207, e_h207, hf⟩ := hf
        refine v_iast (pc := 315) X t206 b208 e_h207 dX6_starts_315 ?_
        refine v_aload_n (pc := 316) X 0 dX6_starts_316 rfl rfl ?_
        obtain ⟨q209, e_q209, hf⟩ := hf
        refine ge_6_0 (pc := 317) X (fun w h => inM w (inG6 w h)) k7 t1 e_q209 dX6_starts_317 ?_
        refine v_sipush (pc := 320) X (v := (437 : Int32)) dX6_starts_320 (by decide) ?_
        refine v_dup2 (pc := 323) X dX6_starts_323 rfl rfl ?_
        obtain ⟨t210, hf⟩ := hf
        obtain ⟨b212, v211, e_v211, hf⟩ := hf
        refine v_iald (pc := 324) X t210 b212 e_v211 dX6_starts_324 ?_
        refine v_iconst (pc := 325) X (v := (1 : Int32)) dX6_starts_325 (by decide) ?_
        refine v_iadd (pc := 326) X dX6_starts_326 ?_
        obtain ⟨b214, h213, e_h213, hf⟩ := hf
        refine v_iast (pc := 327) X t210 b214 e_h213 dX6_starts_327 ?_
        refine v_aload_n (pc := 328) X 0 dX6_starts_328 rfl rfl ?_
        obtain ⟨q215, e_q215, hf⟩ := hf
        refine ge_6_0 (pc := 329) X (fun w h => inM w (inG6 w h)) k7 t1 e_q215 dX6_starts_329 ?_
        refine v_iconst (pc := 332) X (v := (2 : Int32)) dX6_starts_332 (by decide) ?_
        refine v_dup2 (pc := 333) X dX6_starts_333 rfl rfl ?_
        obtain ⟨t216, hf⟩ := hf
        obtain ⟨b218, v217, e_v217, hf⟩ := hf
        refine v_iald (pc := 334) X t216 b218 e_v217 dX6_starts_334 ?_
        refine v_iconst (pc := 335) X (v := (1 : Int32)) dX6_starts_335 (by decide) ?_
        refine v_iadd (pc := 336) X dX6_starts_336 ?_
        obtain ⟨b220, h219, e_h219, hf⟩ := hf
        refine v_iast (pc := 337) X t216 b220 e_h219 dX6_starts_337 ?_
        refine v_aload_n (pc := 338) X 0 dX6_starts_338 rfl rfl ?_
        refine v_iload_n (pc := 339) X 1 dX6_starts_339 rfl rfl ?_
        refine v_iload_n (pc := 340) X 2 dX6_starts_340 rfl rfl ?_
        refine v_callVV (pc := 341) X (As := [.int p1, .int p2]) (rest := []) (c_X6_remember l D cA L sh a0 p1 p2 h219 _ hf) (cwV 2 X.ht (gwV inM q_597 q_598 q_764 q_7 q_599) rfl rfl rfl (by decide +kernel) ⟨Nat.le_of_ble_eq_true rfl, Nat.le_of_ble_eq_true rfl⟩) rfl (by decide) t1 (ent_6 t1) rfl rfl (Nat.le_of_ble_eq_true rfl) ⟨Nat.zero_le _, Nat.zero_le _⟩ dX6_starts_341 (fun h222 hf => ?_)
        refine v_iload_n (pc := 344) X 3 dX6_starts_344 rfl rfl ?_
        exact v_iret (pc := 345) X hr hlk dX6_starts_345 hf
    · replace hf := if_t c hf
      refine v_bipush (pc := 21) X (v := (-3 : Int32)) dX6_starts_21 (by decide) ?_
      exact v_iret (pc := 23) X hr hlk dX6_starts_23 hf
set_option maxHeartbeats 4000000 in
set_option maxRecDepth 100000 in
theorem w_X6_placeOf_2 {p : Program} {l : Launch} {e : Env} {s0 : State} {m : MethodId} {args : Array Value} {below : List Frame} {meth : Method} {c : Code} {D : va_G} {cA : Nat → ClassId} {L : List Nat} {sh : Sh} (X : Cx p s0 m c args cX6_placeOf 3 (wM yX6_placeOf cX6_placeOf 3 (some .int)) RX6 (fun q => q ∈ L) D cA L sh) (hr : meth.sig.returnType = (some .int)) (hlk : meth.locks = false) (x0 : Nat) (x1 : Int32) (Xc : Hp → Prop) (K : Int32 → Hp → Prop) (hx : ∀  (h1 : Hp), Xc  h1 → V p l e (headSpec (wM yX6_placeOf cX6_placeOf 3 (some .int)) ({ frames := 1, cells := 0, slots := 0, locals := 21 } : Room)).room s0 m args below meth c (MQ below (QI D cA L sh K) args s0 0 0 (fun q => q ∈ L)) (fun q => q ∈ L) 0 0 D cA L sh 3 h1 36 [] []) : ∀ (n : Nat) (s : Int32) (h : Hp), lp (b_X6_placeOf_2 sh x0 x1 Xc K) n s h → V p l e (headSpec (wM yX6_placeOf cX6_placeOf 3 (some .int)) ({ frames := 1, cells := 0, slots := 0, locals := 21 } : Room)).room s0 m args below meth c (MQ below (QI D cA L sh K) args s0 0 0 (fun q => q ∈ L)) (fun q => q ∈ L) 0 0 D cA L sh 3 h 2 [(0, .ref x0), (1, .int x1), (2, .int s)] [] := by
  have k7 := X.ht _ (inM _ q_485)
  intro n
  induction n with
  | zero => intro s h hf; exact hf.elim
  | succ n ih =>
    intro s h hf
    replace hf : b_X6_placeOf_2 sh x0 x1 Xc K (lp (b_X6_placeOf_2 sh x0 x1 Xc K) n) s h := hf
    unfold b_X6_placeOf_2 at hf
    refine v_iload_n (pc := 2) X 2 dX6_placeOf_2 rfl rfl ?_
    refine v_aload_n (pc := 3) X 0 dX6_placeOf_3 rfl rfl ?_
    obtain ⟨t1, hf⟩ := hf
    obtain ⟨q2, e_q2, hf⟩ := hf
    refine ge_6_0 (pc := 4) X (fun w h => inM w (inG6 w h)) k7 t1 e_q2 dX6_placeOf_4 ?_
    refine v_sipush (pc := 7) X (v := (437 : Int32)) dX6_placeOf_7 (by decide) ?_
    obtain ⟨t3, hf⟩ := hf
    obtain ⟨b5, v4, e_v4, hf⟩ := hf
    refine v_iald (pc := 10) X t3 b5 e_v4 dX6_placeOf_10 ?_
    refine v_icmp_ge (pc := 11) X 36 dX6_placeOf_11 (by decide) (fun c => ?_) (fun c => ?_)
    · replace hf := if_t c hf
      refine v_sub [] rfl ?_
      exact hx h hf
    · replace hf := if_f c hf
      refine v_aload_n (pc := 14) X 0 dX6_placeOf_14 rfl rfl ?_
      obtain ⟨q6, e_q6, hf⟩ := hf
      refine ge_6_0 (pc := 15) X (fun w h => inM w (inG6 w h)) k7 t1 e_q6 dX6_placeOf_15 ?_
      refine v_iload_n (pc := 18) X 2 dX6_placeOf_18 rfl rfl ?_
      refine v_iconst (pc := 19) X (v := (0 : Int32)) dX6_placeOf_19 (by decide) ?_
      refine v_callSI (pc := 20) X (As := [.int s, .int (0 : Int32)]) (rest := [.ref q6]) (c_X6_ofOpen l D cA L sh s (0 : Int32) h _ hf) (va_cwS 2 X.ht (gwS inM q_539 q_540 q_7 q_541) rfl rfl rfl (by decide +kernel) ⟨Nat.le_of_ble_eq_true rfl, Nat.le_of_ble_eq_true rfl⟩) rfl rfl (Nat.le_of_ble_eq_true rfl) ⟨Nat.zero_le _, Nat.zero_le _⟩ dX6_placeOf_20 (fun r7 h8 hf => ?_)
      obtain ⟨t9, hf⟩ := hf
      obtain ⟨b11, v10, e_v10, hf⟩ := hf
      refine v_iald (pc := 23) X t9 b11 e_v10 dX6_placeOf_23 ?_
      refine v_iload_n (pc := 24) X 1 dX6_placeOf_24 rfl rfl ?_
      refine v_icmp_ne (pc := 25) X 30 dX6_placeOf_25 (by decide) (fun c => ?_) (fun c => ?_)
      · replace hf := if_f c hf
        refine v_iinc (pc := 30) X 2 (v := s + (1 : Int32)) (lv' := [(2, .int (s + (1 : Int32))), (0, .ref x0), (1, .int x1)]) dX6_placeOf_30 rfl rfl (Nat.le_of_ble_eq_true rfl) rfl ?_
        refine v_goto (pc := 33) X 2 dX6_placeOf_33 (by decide) ?_
        refine v_sub [1, 2, 0] rfl ?_
        exact ih (s + (1 : Int32)) h8 hf
      · replace hf := if_t c hf
        refine v_iload_n (pc := 28) X 2 dX6_placeOf_28 rfl rfl ?_
        exact v_iret (pc := 29) X hr hlk dX6_placeOf_29 hf

set_option maxHeartbeats 4000000 in
set_option maxRecDepth 100000 in
theorem c_X6_placeOf (l : Launch) (D : va_G) (cA : Nat → ClassId) (L : List Nat) (sh : Sh) (a0 : Nat) (p1 : Int32) (h : Hp) (K : Int32 → Hp → Prop) (hf : f_X6_placeOf sh a0 p1 h K) : Met l yX6_placeOf (wM yX6_placeOf cX6_placeOf 3 (some .int)) ({ frames := 1, cells := 0, slots := 0, locals := 21 } : Room) (PreM D cA L sh h [.ref a0, .int p1]) (QI D cA L sh K) 0 0 (fun q => q ∈ L) := by
  refine met_v (cc := cX6_placeOf) (nL := 3) (ret := (some .int)) [(0, .ref a0), (1, .int p1)] (by decide) rfl (Nat.le_of_ble_eq_true rfl) rfl ?_
  intro p e s0 m below meth c X hr hlk
  have k7 := X.ht _ (inM _ q_485)
  unfold f_X6_placeOf at hf
  refine v_iconst (pc := 0) X (v := (0 : Int32)) dX6_placeOf_0 (by decide) ?_
  refine v_istore_n (pc := 1) X (i := 2) (lv' := [(2, .int (0 : Int32)), (0, .ref a0), (1, .int p1)]) dX6_placeOf_1 rfl (Nat.le_of_ble_eq_true rfl) rfl ?_
  obtain ⟨n, hf⟩ := hf
  refine v_sub [1, 2, 0] rfl ?_
  refine w_X6_placeOf_2 X hr hlk a0 p1 _ K (fun  h12 hf => ?_) n (0 : Int32) h hf
  refine v_iconst (pc := 36) X (v := (-1 : Int32)) dX6_placeOf_36 (by decide) ?_
  exact v_iret (pc := 37) X hr hlk dX6_placeOf_37 hf
set_option maxHeartbeats 4000000 in
set_option maxRecDepth 100000 in
theorem c_X6_endFault (l : Launch) (D : va_G) (cA : Nat → ClassId) (L : List Nat) (sh : Sh) (a0 : Nat) (p1 : Int32) (h : Hp) (K : Int32 → Hp → Prop) (hf : f_X6_endFault sh a0 p1 h K) : Met l yX6_endFault (wM yX6_endFault cX6_endFault 2 (some .int)) ({ frames := 2, cells := 0, slots := 0, locals := 43 } : Room) (PreM D cA L sh h [.ref a0, .int p1]) (QI D cA L sh K) 0 0 (fun q => q ∈ L) := by
  refine met_v (cc := cX6_endFault) (nL := 2) (ret := (some .int)) [(0, .ref a0), (1, .int p1)] (by decide) rfl (Nat.le_of_ble_eq_true rfl) rfl ?_
  intro p e s0 m below meth c X hr hlk
  unfold f_X6_endFault at hf
  refine v_iload_n (pc := 0) X 1 dX6_endFault_0 rfl rfl ?_
  refine v_if_ge (pc := 1) X 8 dX6_endFault_1 (by decide) (fun c => ?_) (fun c => ?_)
  · replace hf := if_t c hf
    refine v_aload_n (pc := 8) X 0 dX6_endFault_8 rfl rfl ?_
    refine v_iload_n (pc := 9) X 1 dX6_endFault_9 rfl rfl ?_
    obtain ⟨t1, hf⟩ := hf
    refine v_callVI (pc := 10) X (As := [.int p1]) (rest := []) (c_X6_placeOf l D cA L sh a0 p1 h _ hf) (cwV 1 X.ht (gwV inM q_610 q_611 q_767 q_7 q_612) rfl rfl rfl (by decide +kernel) ⟨Nat.le_of_ble_eq_true rfl, Nat.le_of_ble_eq_true rfl⟩) rfl (by decide) t1 (ent_6 t1) rfl rfl (Nat.le_of_ble_eq_true rfl) ⟨Nat.zero_le _, Nat.zero_le _⟩ dX6_endFault_10 (fun r2 h3 hf => ?_)
    refine v_if_ge (pc := 13) X 21 dX6_endFault_13 (by decide) (fun c => ?_) (fun c => ?_)
    · replace hf := if_t c hf
      refine v_iconst (pc := 21) X (v := (0 : Int32)) dX6_endFault_21 (by decide) ?_
      exact v_iret (pc := 22) X hr hlk dX6_endFault_22 hf
    · replace hf := if_f c hf
      refine v_bipush (pc := 16) X (v := (-2 : Int32)) dX6_endFault_16 (by decide) ?_
      refine v_goto (pc := 18) X 22 dX6_endFault_18 (by decide) ?_
      exact v_iret (pc := 22) X hr hlk dX6_endFault_22 hf
  · replace hf := if_f c hf
    refine v_iconst (pc := 4) X (v := (-1 : Int32)) dX6_endFault_4 (by decide) ?_
    refine v_goto (pc := 5) X 22 dX6_endFault_5 (by decide) ?_
    exact v_iret (pc := 22) X hr hlk dX6_endFault_22 hf
set_option maxHeartbeats 4000000 in
set_option maxRecDepth 100000 in
theorem w_X6_ends_20 {p : Program} {l : Launch} {e : Env} {s0 : State} {m : MethodId} {args : Array Value} {below : List Frame} {meth : Method} {c : Code} {D : va_G} {cA : Nat → ClassId} {L : List Nat} {sh : Sh} (X : Cx p s0 m c args cX6_ends 5 (wM yX6_ends cX6_ends 5 (some .int)) RX6 (fun q => q ∈ L) D cA L sh) (hr : meth.sig.returnType = (some .int)) (hlk : meth.locks = false) (x0 : Nat) (x2 : Int32) (x3 : Int32) (Xc : Hp → Prop) (K : Int32 → Hp → Prop) (hx : ∀  (h1 : Hp), Xc  h1 → V p l e (headSpec (wM yX6_ends cX6_ends 5 (some .int)) ({ frames := 4, cells := 0, slots := 0, locals := 90 } : Room)).room s0 m args below meth c (MQ below (QI D cA L sh K) args s0 0 0 (fun q => q ∈ L)) (fun q => q ∈ L) 0 0 D cA L sh 5 h1 86 [(0, .ref x0), (2, .int x2), (3, .int x3)] []) : ∀ (n : Nat) (s : Int32) (h : Hp), lp (b_X6_ends_20 sh x0 x2 x3 Xc) n s h → V p l e (headSpec (wM yX6_ends cX6_ends 5 (some .int)) ({ frames := 4, cells := 0, slots := 0, locals := 90 } : Room)).room s0 m args below meth c (MQ below (QI D cA L sh K) args s0 0 0 (fun q => q ∈ L)) (fun q => q ∈ L) 0 0 D cA L sh 5 h 20 [(0, .ref x0), (2, .int x2), (3, .int x3), (4, .int s)] [] := by
  have k7 := X.ht _ (inM _ q_485)
  intro n
  induction n with
  | zero => intro s h hf; exact hf.elim
  | succ n ih =>
    intro s h hf
    replace hf : b_X6_ends_20 sh x0 x2 x3 Xc (lp (b_X6_ends_20 sh x0 x2 x3 Xc) n) s h := hf
    unfold b_X6_ends_20 at hf
    refine v_iload (pc := 20) X 3 dX6_ends_20 rfl ?_
    refine v_bipush (pc := 22) X (v := (6 : Int32)) dX6_ends_22 (by decide) ?_
    refine v_icmp_ge (pc := 24) X 86 dX6_ends_24 (by decide) (fun c => ?_) (fun c => ?_)
    · replace hf := if_t c hf
      refine v_sub [0, 1, 2] rfl ?_
      exact hx h hf
    · replace hf := if_f c hf
      refine v_aload_n (pc := 27) X 0 dX6_ends_27 rfl rfl ?_
      obtain ⟨t10, hf⟩ := hf
      obtain ⟨q11, e_q11, hf⟩ := hf
      refine ge_6_0 (pc := 28) X (fun w h => inM w (inG6 w h)) k7 t10 e_q11 dX6_ends_28 ?_
      refine v_iload_n (pc := 31) X 1 dX6_ends_31 rfl rfl ?_
      refine v_iconst (pc := 32) X (v := (2 : Int32)) dX6_ends_32 (by decide) ?_
      refine v_callSI (pc := 33) X (As := [.int x2, .int (2 : Int32)]) (rest := [.ref q11]) (c_X6_ofOpen l D cA L sh x2 (2 : Int32) h _ hf) (va_cwS 2 X.ht (gwS inM q_539 q_540 q_7 q_541) rfl rfl rfl (by decide +kernel) ⟨Nat.le_of_ble_eq_true rfl, Nat.le_of_ble_eq_true rfl⟩) rfl rfl (Nat.le_of_ble_eq_true rfl) ⟨Nat.zero_le _, Nat.zero_le _⟩ dX6_ends_33 (fun r12 h13 hf => ?_)
      obtain ⟨t14, hf⟩ := hf
      obtain ⟨b16, v15, e_v15, hf⟩ := hf
      refine v_iald (pc := 36) X t14 b16 e_v15 dX6_ends_36 ?_
      refine v_iload (pc := 37) X 3 dX6_ends_37 rfl ?_
      refine v_ishr (pc := 39) X dX6_ends_39 ?_
      refine v_iconst (pc := 40) X (v := (1 : Int32)) dX6_ends_40 (by decide) ?_
      refine v_iand (pc := 41) X dX6_ends_41 ?_
      refine v_iconst (pc := 42) X (v := (1 : Int32)) dX6_ends_42 (by decide) ?_
      refine v_icmp_ne (pc := 43) X 80 dX6_ends_43 (by decide) (fun c => ?_) (fun c => ?_)
      · replace hf := if_f c hf
        refine v_iinc (pc := 80) X 3 (v := s + (1 : Int32)) (lv' := [(4, .int (s + (1 : Int32))), (0, .ref x0), (2, .int x2), (3, .int x3)]) dX6_ends_80 rfl rfl (Nat.le_of_ble_eq_true rfl) rfl ?_
        refine v_goto (pc := 83) X 20 dX6_ends_83 (by decide) ?_
        refine v_sub [1, 2, 3, 0] rfl ?_
        exact ih (s + (1 : Int32)) h13 hf
      · replace hf := if_t c hf
        refine v_aload_n (pc := 46) X 0 dX6_ends_46 rfl rfl ?_
        obtain ⟨q17, e_q17, hf⟩ := hf
        refine ge_6_0 (pc := 47) X (fun w h => inM w (inG6 w h)) k7 t10 e_q17 dX6_ends_47 ?_
        refine v_iload_n (pc := 50) X 2 dX6_ends_50 rfl rfl ?_
        refine v_aload_n (pc := 51) X 0 dX6_ends_51 rfl rfl ?_
        refine v_iload_n (pc := 52) X 2 dX6_ends_52 rfl rfl ?_
        refine v_iload (pc := 53) X 3 dX6_ends_53 rfl ?_
        refine v_aload_n (pc := 55) X 0 dX6_ends_55 rfl rfl ?_
        obtain ⟨q18, e_q18, hf⟩ := hf
        refine ge_6_0 (pc := 56) X (fun w h => inM w (inG6 w h)) k7 t10 e_q18 dX6_ends_56 ?_
        refine v_iload_n (pc := 59) X 1 dX6_ends_59 rfl rfl ?_
        refine v_iconst (pc := 60) X (v := (4 : Int32)) dX6_ends_60 (by decide) ?_
        refine v_iload (pc := 61) X 3 dX6_ends_61 rfl ?_
        refine v_iadd (pc := 63) X dX6_ends_63 ?_
        refine v_callSI (pc := 64) X (As := [.int x2, .int ((4 : Int32) + s)]) (rest := [.ref q18, .int s, .int x3, .ref x0, .int x3, .ref q17]) (c_X6_ofOpen l D cA L sh x2 ((4 : Int32) + s) h13 _ hf) (va_cwS 2 X.ht (gwS inM q_539 q_540 q_7 q_541) rfl rfl rfl (by decide +kernel) ⟨Nat.le_of_ble_eq_true rfl, Nat.le_of_ble_eq_true rfl⟩) rfl rfl (Nat.le_of_ble_eq_true rfl) ⟨Nat.zero_le _, Nat.zero_le _⟩ dX6_ends_64 (fun r19 h20 hf => ?_)
        obtain ⟨t21, hf⟩ := hf
        obtain ⟨b23, v22, e_v22, hf⟩ := hf
        refine v_iald (pc := 67) X t21 b23 e_v22 dX6_ends_67 ?_
        refine v_callVI (pc := 68) X (As := [.int x3, .int s, .int v22]) (rest := [.int x3, .ref q17]) (c_X6_entryOf l D cA L sh x0 x3 s v22 h20 _ hf) (cwV 3 X.ht (gwV inM q_585 q_586 q_760 q_7 q_587) rfl rfl rfl (by decide +kernel) ⟨Nat.le_of_ble_eq_true rfl, Nat.le_of_ble_eq_true rfl⟩) rfl (by decide) t10 (ent_6 t10) rfl rfl (Nat.le_of_ble_eq_true rfl) ⟨Nat.zero_le _, Nat.zero_le _⟩ dX6_ends_68 (fun r24 h25 hf => ?_)
        refine v_iconst (pc := 71) X (v := (3 : Int32)) dX6_ends_71 (by decide) ?_
        refine v_callSI (pc := 72) X (As := [.int x3, .int r24, .int (3 : Int32)]) (rest := [.ref q17]) (c_X6_ofEntry l D cA L sh x3 r24 (3 : Int32) h25 _ hf) (va_cwS 3 X.ht (gwS inM q_557 q_558 q_7 q_559) rfl rfl rfl (by decide +kernel) ⟨Nat.le_of_ble_eq_true rfl, Nat.le_of_ble_eq_true rfl⟩) rfl rfl (Nat.le_of_ble_eq_true rfl) ⟨Nat.zero_le _, Nat.zero_le _⟩ dX6_ends_72 (fun r26 h27 hf => ?_)
        refine v_dup2 (pc := 75) X dX6_ends_75 rfl rfl ?_
        obtain ⟨t28, hf⟩ := hf
        obtain ⟨b30, v29, e_v29, hf⟩ := hf
        refine v_iald (pc := 76) X t28 b30 e_v29 dX6_ends_76 ?_
        refine v_iconst (pc := 77) X (v := (1 : Int32)) dX6_ends_77 (by decide) ?_
        refine v_isub (pc := 78) X dX6_ends_78 ?_
        obtain ⟨b32, h31, e_h31, hf⟩ := hf
        refine v_iast (pc := 79) X t28 b32 e_h31 dX6_ends_79 ?_
        refine v_iinc (pc := 80) X 3 (v := s + (1 : Int32)) (lv' := [(4, .int (s + (1 : Int32))), (0, .ref x0), (2, .int x2), (3, .int x3)]) dX6_ends_80 rfl rfl (Nat.le_of_ble_eq_true rfl) rfl ?_
        refine v_goto (pc := 83) X 20 dX6_ends_83 (by decide) ?_
        refine v_sub [1, 2, 3, 0] rfl ?_
        exact ih (s + (1 : Int32)) h31 hf

set_option maxHeartbeats 4000000 in
set_option maxRecDepth 100000 in
theorem w_X6_ends_105 {p : Program} {l : Launch} {e : Env} {s0 : State} {m : MethodId} {args : Array Value} {below : List Frame} {meth : Method} {c : Code} {D : va_G} {cA : Nat → ClassId} {L : List Nat} {sh : Sh} (X : Cx p s0 m c args cX6_ends 5 (wM yX6_ends cX6_ends 5 (some .int)) RX6 (fun q => q ∈ L) D cA L sh) (hr : meth.sig.returnType = (some .int)) (hlk : meth.locks = false) (x0 : Nat) (x3 : Int32) (Xc : Hp → Prop) (K : Int32 → Hp → Prop) (hx : ∀  (h1 : Hp), Xc  h1 → V p l e (headSpec (wM yX6_ends cX6_ends 5 (some .int)) ({ frames := 4, cells := 0, slots := 0, locals := 90 } : Room)).room s0 m args below meth c (MQ below (QI D cA L sh K) args s0 0 0 (fun q => q ∈ L)) (fun q => q ∈ L) 0 0 D cA L sh 5 h1 145 [(0, .ref x0), (3, .int x3)] []) : ∀ (n : Nat) (s : Int32) (h : Hp), lp (b_X6_ends_105 sh x0 x3 Xc) n s h → V p l e (headSpec (wM yX6_ends cX6_ends 5 (some .int)) ({ frames := 4, cells := 0, slots := 0, locals := 90 } : Room)).room s0 m args below meth c (MQ below (QI D cA L sh K) args s0 0 0 (fun q => q ∈ L)) (fun q => q ∈ L) 0 0 D cA L sh 5 h 105 [(0, .ref x0), (3, .int x3), (4, .int s)] [] := by
  have k7 := X.ht _ (inM _ q_485)
  intro n
  induction n with
  | zero => intro s h hf; exact hf.elim
  | succ n ih =>
    intro s h hf
    replace hf : b_X6_ends_105 sh x0 x3 Xc (lp (b_X6_ends_105 sh x0 x3 Xc) n) s h := hf
    unfold b_X6_ends_105 at hf
    refine v_iload (pc := 105) X 2 dX6_ends_105 rfl ?_
    refine v_aload_n (pc := 107) X 0 dX6_ends_107 rfl rfl ?_
    obtain ⟨t42, hf⟩ := hf
    obtain ⟨q43, e_q43, hf⟩ := hf
    refine ge_6_0 (pc := 108) X (fun w h => inM w (inG6 w h)) k7 t42 e_q43 dX6_ends_108 ?_
    refine v_sipush (pc := 111) X (v := (437 : Int32)) dX6_ends_111 (by decide) ?_
    obtain ⟨t44, hf⟩ := hf
    obtain ⟨b46, v45, e_v45, hf⟩ := hf
    refine v_iald (pc := 114) X t44 b46 e_v45 dX6_ends_114 ?_
    refine v_iconst (pc := 115) X (v := (0 : Int32)) dX6_ends_115 (by decide) ?_
    refine v_callSI (pc := 116) X (As := [.int v45, .int (0 : Int32)]) (rest := [.int s]) (c_X6_ofOpen l D cA L sh v45 (0 : Int32) h _ hf) (va_cwS 2 X.ht (gwS inM q_539 q_540 q_7 q_541) rfl rfl rfl (by decide +kernel) ⟨Nat.le_of_ble_eq_true rfl, Nat.le_of_ble_eq_true rfl⟩) rfl rfl (Nat.le_of_ble_eq_true rfl) ⟨Nat.zero_le _, Nat.zero_le _⟩ dX6_ends_116 (fun r47 h48 hf => ?_)
    refine v_icmp_ge (pc := 119) X 145 dX6_ends_119 (by decide) (fun c => ?_) (fun c => ?_)
    · replace hf := if_t c hf
      refine v_sub [0, 1] rfl ?_
      exact hx h48 hf
    · replace hf := if_f c hf
      refine v_aload_n (pc := 122) X 0 dX6_ends_122 rfl rfl ?_
      obtain ⟨q49, e_q49, hf⟩ := hf
      refine ge_6_0 (pc := 123) X (fun w h => inM w (inG6 w h)) k7 t42 e_q49 dX6_ends_123 ?_
      refine v_iload (pc := 126) X 2 dX6_ends_126 rfl ?_
      refine v_aload_n (pc := 128) X 0 dX6_ends_128 rfl rfl ?_
      obtain ⟨q50, e_q50, hf⟩ := hf
      refine ge_6_0 (pc := 129) X (fun w h => inM w (inG6 w h)) k7 t42 e_q50 dX6_ends_129 ?_
      refine v_iload (pc := 132) X 2 dX6_ends_132 rfl ?_
      refine v_bipush (pc := 134) X (v := (10 : Int32)) dX6_ends_134 (by decide) ?_
      refine v_iadd (pc := 136) X dX6_ends_136 ?_
      obtain ⟨t51, hf⟩ := hf
      obtain ⟨b53, v52, e_v52, hf⟩ := hf
      refine v_iald (pc := 137) X t51 b53 e_v52 dX6_ends_137 ?_
      obtain ⟨t54, hf⟩ := hf
      obtain ⟨b56, h55, e_h55, hf⟩ := hf
      refine v_iast (pc := 138) X t54 b56 e_h55 dX6_ends_138 ?_
      refine v_iinc (pc := 139) X 2 (v := s + (1 : Int32)) (lv' := [(4, .int (s + (1 : Int32))), (0, .ref x0), (3, .int x3)]) dX6_ends_139 rfl rfl (Nat.le_of_ble_eq_true rfl) rfl ?_
      refine v_goto (pc := 142) X 105 dX6_ends_142 (by decide) ?_
      refine v_sub [1, 2, 0] rfl ?_
      exact ih (s + (1 : Int32)) h55 hf

set_option maxHeartbeats 4000000 in
set_option maxRecDepth 100000 in
theorem c_X6_ends (l : Launch) (D : va_G) (cA : Nat → ClassId) (L : List Nat) (sh : Sh) (a0 : Nat) (p1 : Int32) (h : Hp) (K : Int32 → Hp → Prop) (hf : f_X6_ends sh a0 p1 h K) : Met l yX6_ends (wM yX6_ends cX6_ends 5 (some .int)) ({ frames := 4, cells := 0, slots := 0, locals := 90 } : Room) (PreM D cA L sh h [.ref a0, .int p1]) (QI D cA L sh K) 0 0 (fun q => q ∈ L) := by
  refine met_v (cc := cX6_ends) (nL := 5) (ret := (some .int)) [(0, .ref a0), (1, .int p1)] (by decide) rfl (Nat.le_of_ble_eq_true rfl) rfl ?_
  intro p e s0 m below meth c X hr hlk
  have k7 := X.ht _ (inM _ q_485)
  unfold f_X6_ends at hf
  refine v_aload_n (pc := 0) X 0 dX6_ends_0 rfl rfl ?_
  refine v_iload_n (pc := 1) X 1 dX6_ends_1 rfl rfl ?_
  obtain ⟨t1, hf⟩ := hf
  refine v_callVI (pc := 2) X (As := [.int p1]) (rest := []) (c_X6_placeOf l D cA L sh a0 p1 h _ hf) (cwV 1 X.ht (gwV inM q_610 q_611 q_767 q_7 q_612) rfl rfl rfl (by decide +kernel) ⟨Nat.le_of_ble_eq_true rfl, Nat.le_of_ble_eq_true rfl⟩) rfl (by decide) t1 (ent_6 t1) rfl rfl (Nat.le_of_ble_eq_true rfl) ⟨Nat.zero_le _, Nat.zero_le _⟩ dX6_ends_2 (fun r2 h3 hf => ?_)
  refine v_istore_n (pc := 5) X (i := 2) (lv' := [(2, .int r2), (0, .ref a0), (1, .int p1)]) dX6_ends_5 rfl (Nat.le_of_ble_eq_true rfl) rfl ?_
  refine v_aload_n (pc := 6) X 1 dX6_ends_6 rfl rfl ?_
  obtain ⟨q4, e_q4, hf⟩ := hf
  refine ge_6_0 (pc := 7) X (fun w h => inM w (inG6 w h)) k7 t1 e_q4 dX6_ends_7 ?_
  refine v_iload_n (pc := 10) X 0 dX6_ends_10 rfl rfl ?_
  refine v_iconst (pc := 11) X (v := (1 : Int32)) dX6_ends_11 (by decide) ?_
  refine v_callSI (pc := 12) X (As := [.int r2, .int (1 : Int32)]) (rest := [.ref q4]) (c_X6_ofOpen l D cA L sh r2 (1 : Int32) h3 _ hf) (va_cwS 2 X.ht (gwS inM q_539 q_540 q_7 q_541) rfl rfl rfl (by decide +kernel) ⟨Nat.le_of_ble_eq_true rfl, Nat.le_of_ble_eq_true rfl⟩) rfl rfl (Nat.le_of_ble_eq_true rfl) ⟨Nat.zero_le _, Nat.zero_le _⟩ dX6_ends_12 (fun r5 h6 hf => ?_)
  obtain ⟨t7, hf⟩ := hf
  obtain ⟨b9, v8, e_v8, hf⟩ := hf
  refine v_iald (pc := 15) X t7 b9 e_v8 dX6_ends_15 ?_
  refine v_istore_n (pc := 16) X (i := 3) (lv' := [(3, .int v8), (2, .int r2), (0, .ref a0), (1, .int p1)]) dX6_ends_16 rfl (Nat.le_of_ble_eq_true rfl) rfl ?_
  refine v_iconst (pc := 17) X (v := (0 : Int32)) dX6_ends_17 (by decide) ?_
  refine v_istore (pc := 18) X (i := 4) (lv' := [(4, .int (0 : Int32)), (3, .int v8), (2, .int r2), (0, .ref a0), (1, .int p1)]) dX6_ends_18 (Nat.le_of_ble_eq_true rfl) rfl ?_
  obtain ⟨n, hf⟩ := hf
  refine v_sub [3, 2, 1, 0] rfl ?_
  refine w_X6_ends_20 X hr hlk a0 r2 v8 _ K (fun  h33 hf => ?_) n (0 : Int32) h6 hf
  refine v_aload_n (pc := 86) X 0 dX6_ends_86 rfl rfl ?_
  obtain ⟨q34, e_q34, hf⟩ := hf
  refine ge_6_0 (pc := 87) X (fun w h => inM w (inG6 w h)) k7 t1 e_q34 dX6_ends_87 ?_
  refine v_sipush (pc := 90) X (v := (437 : Int32)) dX6_ends_90 (by decide) ?_
  refine v_dup2 (pc := 93) X dX6_ends_93 rfl rfl ?_
  obtain ⟨t35, hf⟩ := hf
  obtain ⟨b37, v36, e_v36, hf⟩ := hf
  refine v_iald (pc := 94) X t35 b37 e_v36 dX6_ends_94 ?_
  refine v_iconst (pc := 95) X (v := (1 : Int32)) dX6_ends_95 (by decide) ?_
  refine v_isub (pc := 96) X dX6_ends_96 ?_
  obtain ⟨b39, h38, e_h38, hf⟩ := hf
  refine v_iast (pc := 97) X t35 b39 e_h38 dX6_ends_97 ?_
  refine v_iload_n (pc := 98) X 1 dX6_ends_98 rfl rfl ?_
  refine v_iconst (pc := 99) X (v := (0 : Int32)) dX6_ends_99 (by decide) ?_
  refine v_callSI (pc := 100) X (As := [.int r2, .int (0 : Int32)]) (rest := []) (c_X6_ofOpen l D cA L sh r2 (0 : Int32) h38 _ hf) (va_cwS 2 X.ht (gwS inM q_539 q_540 q_7 q_541) rfl rfl rfl (by decide +kernel) ⟨Nat.le_of_ble_eq_true rfl, Nat.le_of_ble_eq_true rfl⟩) rfl rfl (Nat.le_of_ble_eq_true rfl) ⟨Nat.zero_le _, Nat.zero_le _⟩ dX6_ends_100 (fun r40 h41 hf => ?_)
  refine v_istore (pc := 103) X (i := 4) (lv' := [(4, .int r40), (0, .ref a0), (2, .int r2), (3, .int v8)]) dX6_ends_103 (Nat.le_of_ble_eq_true rfl) rfl ?_
  obtain ⟨n, hf⟩ := hf
  refine v_sub [1, 3, 0] rfl ?_
  refine w_X6_ends_105 X hr hlk a0 v8 _ K (fun  h57 hf => ?_) n r40 h41 hf
  refine v_aload_n (pc := 145) X 0 dX6_ends_145 rfl rfl ?_
  refine v_iload_n (pc := 146) X 1 dX6_ends_146 rfl rfl ?_
  refine v_callVI (pc := 147) X (As := [.int v8]) (rest := []) (c_X6_clean l D cA L sh a0 v8 h57 _ hf) (cwV 1 X.ht (gwV inM q_560 q_561 q_754 q_7 q_562) rfl rfl rfl (by decide +kernel) ⟨Nat.le_of_ble_eq_true rfl, Nat.le_of_ble_eq_true rfl⟩) rfl (by decide) t1 (ent_6 t1) rfl rfl (Nat.le_of_ble_eq_true rfl) ⟨Nat.zero_le _, Nat.zero_le _⟩ dX6_ends_147 (fun r58 h59 hf => ?_)
  refine v_istore (pc := 150) X (i := 4) (lv' := [(4, .int r58), (0, .ref a0), (3, .int v8)]) dX6_ends_150 (Nat.le_of_ble_eq_true rfl) rfl ?_
  refine v_iload (pc := 152) X 0 dX6_ends_152 rfl ?_
  refine v_aload_n (pc := 154) X 1 dX6_ends_154 rfl rfl ?_
  refine v_iload_n (pc := 155) X 2 dX6_ends_155 rfl rfl ?_
  refine v_aload_n (pc := 156) X 1 dX6_ends_156 rfl rfl ?_
  obtain ⟨q60, e_q60, hf⟩ := hf
  refine ge_6_0 (pc := 157) X (fun w h => inM w (inG6 w h)) k7 t1 e_q60 dX6_ends_157 ?_
  refine v_iconst (pc := 160) X (v := (4 : Int32)) dX6_ends_160 (by decide) ?_
  obtain ⟨t61, hf⟩ := hf
  obtain ⟨b63, v62, e_v62, hf⟩ := hf
  refine v_iald (pc := 161) X t61 b63 e_v62 dX6_ends_161 ?_
  refine v_callVI (pc := 162) X (As := [.int v8, .int v62]) (rest := [.int r58]) (c_X6_shrink l D cA L sh a0 v8 v62 h59 _ hf) (cwV 2 X.ht (gwV inM q_588 q_589 q_761 q_7 q_590) rfl rfl rfl (by decide +kernel) ⟨Nat.le_of_ble_eq_true rfl, Nat.le_of_ble_eq_true rfl⟩) rfl (by decide) t1 (ent_6 t1) rfl rfl (Nat.le_of_ble_eq_true rfl) ⟨Nat.zero_le _, Nat.zero_le _⟩ dX6_ends_162 (fun r64 h65 hf => ?_)
  refine v_iadd (pc := 165) X dX6_ends_165 ?_
  exact v_iret (pc := 166) X hr hlk dX6_ends_166 hf
set_option maxHeartbeats 4000000 in
set_option maxRecDepth 100000 in
theorem w_X6_ticks_22 {p : Program} {l : Launch} {e : Env} {s0 : State} {m : MethodId} {args : Array Value} {below : List Frame} {meth : Method} {c : Code} {D : va_G} {cA : Nat → ClassId} {L : List Nat} {sh : Sh} (X : Cx p s0 m c args cX6_ticks 5 (wM yX6_ticks cX6_ticks 5 (some .int)) RX6 (fun q => q ∈ L) D cA L sh) (hr : meth.sig.returnType = (some .int)) (hlk : meth.locks = false) (x0 : Nat) (x1 : Int32) (x3 : Int32) (Xc : Int32 → Hp → Prop) (K : Int32 → Hp → Prop) (hx : ∀ (y2 : Int32) (h1 : Hp), Xc y2 h1 → V p l e (headSpec (wM yX6_ticks cX6_ticks 5 (some .int)) ({ frames := 6, cells := 0, slots := 0, locals := 136 } : Room)).room s0 m args below meth c (MQ below (QI D cA L sh K) args s0 0 0 (fun q => q ∈ L)) (fun q => q ∈ L) 0 0 D cA L sh 5 h1 67 [(0, .ref x0), (1, .int x1), (2, .int y2), (3, .int x3)] []) : ∀ (n : Nat) (s : Int32 × Int32) (h : Hp), lp (b_X6_ticks_22 sh x0 x1 x3 Xc) n s h → V p l e (headSpec (wM yX6_ticks cX6_ticks 5 (some .int)) ({ frames := 6, cells := 0, slots := 0, locals := 136 } : Room)).room s0 m args below meth c (MQ below (QI D cA L sh K) args s0 0 0 (fun q => q ∈ L)) (fun q => q ∈ L) 0 0 D cA L sh 5 h 22 [(0, .ref x0), (1, .int x1), (3, .int x3), (2, .int s.1), (4, .int s.2)] [] := by
  have k7 := X.ht _ (inM _ q_485)
  intro n
  induction n with
  | zero => intro s h hf; exact hf.elim
  | succ n ih =>
    intro s h hf
    replace hf : b_X6_ticks_22 sh x0 x1 x3 Xc (lp (b_X6_ticks_22 sh x0 x1 x3 Xc) n) s h := hf
    unfold b_X6_ticks_22 at hf
    refine v_iload (pc := 22) X 4 dX6_ticks_22 rfl ?_
    refine v_aload_n (pc := 24) X 0 dX6_ticks_24 rfl rfl ?_
    obtain ⟨t8, hf⟩ := hf
    obtain ⟨q9, e_q9, hf⟩ := hf
    refine ge_6_0 (pc := 25) X (fun w h => inM w (inG6 w h)) k7 t8 e_q9 dX6_ticks_25 ?_
    refine v_iconst (pc := 28) X (v := (1 : Int32)) dX6_ticks_28 (by decide) ?_
    obtain ⟨t10, hf⟩ := hf
    obtain ⟨b12, v11, e_v11, hf⟩ := hf
    refine v_iald (pc := 29) X t10 b12 e_v11 dX6_ticks_29 ?_
    refine v_icmp_ge (pc := 30) X 67 dX6_ticks_30 (by decide) (fun c => ?_) (fun c => ?_)
    · replace hf := if_t c hf
      refine v_sub [0, 1, 3, 2] rfl ?_
      exact hx s.1 h hf
    · replace hf := if_f c hf
      refine v_aload_n (pc := 33) X 0 dX6_ticks_33 rfl rfl ?_
      obtain ⟨q13, e_q13, hf⟩ := hf
      refine ge_6_0 (pc := 34) X (fun w h => inM w (inG6 w h)) k7 t8 e_q13 dX6_ticks_34 ?_
      refine v_bipush (pc := 37) X (v := (117 : Int32)) dX6_ticks_37 (by decide) ?_
      refine v_iload (pc := 39) X 4 dX6_ticks_39 rfl ?_
      refine v_iadd (pc := 41) X dX6_ticks_41 ?_
      obtain ⟨t14, hf⟩ := hf
      obtain ⟨b16, v15, e_v15, hf⟩ := hf
      refine v_iald (pc := 42) X t14 b16 e_v15 dX6_ticks_42 ?_
      refine v_aload_n (pc := 43) X 0 dX6_ticks_43 rfl rfl ?_
      obtain ⟨q17, e_q17, hf⟩ := hf
      refine ge_6_0 (pc := 44) X (fun w h => inM w (inG6 w h)) k7 t8 e_q17 dX6_ticks_44 ?_
      refine v_iconst (pc := 47) X (v := (0 : Int32)) dX6_ticks_47 (by decide) ?_
      obtain ⟨t18, hf⟩ := hf
      obtain ⟨b20, v19, e_v19, hf⟩ := hf
      refine v_iald (pc := 48) X t18 b20 e_v19 dX6_ticks_48 ?_
      refine v_icmp_ne (pc := 49) X 61 dX6_ticks_49 (by decide) (fun c => ?_) (fun c => ?_)
      · replace hf := if_f c hf
        refine v_iinc (pc := 61) X 4 (v := s.2 + (1 : Int32)) (lv' := [(4, .int (s.2 + (1 : Int32))), (0, .ref x0), (1, .int x1), (3, .int x3), (2, .int s.1)]) dX6_ticks_61 rfl rfl (Nat.le_of_ble_eq_true rfl) rfl ?_
        refine v_goto (pc := 64) X 22 dX6_ticks_64 (by decide) ?_
        refine v_sub [1, 2, 3, 4, 0] rfl ?_
        exact ih (s.1, s.2 + (1 : Int32)) h hf
      · replace hf := if_t c hf
        refine v_aload_n (pc := 52) X 0 dX6_ticks_52 rfl rfl ?_
        refine v_iload (pc := 53) X 4 dX6_ticks_53 rfl ?_
        refine v_callVV (pc := 55) X (As := [.int s.2]) (rest := []) (c_X6_come l D cA L sh x0 s.2 h _ hf) (cwV 1 X.ht (gwV inM q_548 q_549 q_752 q_7 q_550) rfl rfl rfl (by decide +kernel) ⟨Nat.le_of_ble_eq_true rfl, Nat.le_of_ble_eq_true rfl⟩) rfl (by decide) t8 (ent_6 t8) rfl rfl (Nat.le_of_ble_eq_true rfl) ⟨Nat.zero_le _, Nat.zero_le _⟩ dX6_ticks_55 (fun h22 hf => ?_)
        refine v_iinc (pc := 58) X 3 (v := s.1 + (4 : Int32)) (lv' := [(2, .int (s.1 + (4 : Int32))), (0, .ref x0), (1, .int x1), (3, .int x3), (4, .int s.2)]) dX6_ticks_58 rfl rfl (Nat.le_of_ble_eq_true rfl) rfl ?_
        refine v_iinc (pc := 61) X 4 (v := s.2 + (1 : Int32)) (lv' := [(4, .int (s.2 + (1 : Int32))), (2, .int (s.1 + (4 : Int32))), (0, .ref x0), (1, .int x1), (3, .int x3)]) dX6_ticks_61 rfl rfl (Nat.le_of_ble_eq_true rfl) rfl ?_
        refine v_goto (pc := 64) X 22 dX6_ticks_64 (by decide) ?_
        refine v_sub [2, 3, 4, 1, 0] rfl ?_
        exact ih (s.1 + (4 : Int32), s.2 + (1 : Int32)) h22 hf

set_option maxHeartbeats 4000000 in
set_option maxRecDepth 100000 in
theorem w_X6_ticks_4 {p : Program} {l : Launch} {e : Env} {s0 : State} {m : MethodId} {args : Array Value} {below : List Frame} {meth : Method} {c : Code} {D : va_G} {cA : Nat → ClassId} {L : List Nat} {sh : Sh} (X : Cx p s0 m c args cX6_ticks 5 (wM yX6_ticks cX6_ticks 5 (some .int)) RX6 (fun q => q ∈ L) D cA L sh) (hr : meth.sig.returnType = (some .int)) (hlk : meth.locks = false) (x0 : Nat) (x1 : Int32) (Xc : Int32 → Hp → Prop) (K : Int32 → Hp → Prop) (hx : ∀ (y2 : Int32) (h1 : Hp), Xc y2 h1 → V p l e (headSpec (wM yX6_ticks cX6_ticks 5 (some .int)) ({ frames := 6, cells := 0, slots := 0, locals := 136 } : Room)).room s0 m args below meth c (MQ below (QI D cA L sh K) args s0 0 0 (fun q => q ∈ L)) (fun q => q ∈ L) 0 0 D cA L sh 5 h1 73 [(2, .int y2)] []) : ∀ (n : Nat) (s : Int32 × Int32) (h : Hp), lp (b_X6_ticks_4 sh x0 x1 Xc) n s h → V p l e (headSpec (wM yX6_ticks cX6_ticks 5 (some .int)) ({ frames := 6, cells := 0, slots := 0, locals := 136 } : Room)).room s0 m args below meth c (MQ below (QI D cA L sh K) args s0 0 0 (fun q => q ∈ L)) (fun q => q ∈ L) 0 0 D cA L sh 5 h 4 [(0, .ref x0), (1, .int x1), (2, .int s.1), (3, .int s.2)] [] := by
  have k7 := X.ht _ (inM _ q_485)
  intro n
  induction n with
  | zero => intro s h hf; exact hf.elim
  | succ n ih =>
    intro s h hf
    replace hf : b_X6_ticks_4 sh x0 x1 Xc (lp (b_X6_ticks_4 sh x0 x1 Xc) n) s h := hf
    unfold b_X6_ticks_4 at hf
    refine v_iload_n (pc := 4) X 3 dX6_ticks_4 rfl rfl ?_
    refine v_iload_n (pc := 5) X 1 dX6_ticks_5 rfl rfl ?_
    refine v_icmp_ge (pc := 6) X 73 dX6_ticks_6 (by decide) (fun c => ?_) (fun c => ?_)
    · replace hf := if_t c hf
      refine v_sub [2] rfl ?_
      exact hx s.1 h hf
    · replace hf := if_f c hf
      refine v_aload_n (pc := 9) X 0 dX6_ticks_9 rfl rfl ?_
      obtain ⟨t1, hf⟩ := hf
      obtain ⟨q2, e_q2, hf⟩ := hf
      refine ge_6_0 (pc := 10) X (fun w h => inM w (inG6 w h)) k7 t1 e_q2 dX6_ticks_10 ?_
      refine v_iconst (pc := 13) X (v := (0 : Int32)) dX6_ticks_13 (by decide) ?_
      refine v_dup2 (pc := 14) X dX6_ticks_14 rfl rfl ?_
      obtain ⟨t3, hf⟩ := hf
      obtain ⟨b5, v4, e_v4, hf⟩ := hf
      refine v_iald (pc := 15) X t3 b5 e_v4 dX6_ticks_15 ?_
      refine v_iconst (pc := 16) X (v := (1 : Int32)) dX6_ticks_16 (by decide) ?_
      refine v_iadd (pc := 17) X dX6_ticks_17 ?_
      obtain ⟨b7, h6, e_h6, hf⟩ := hf
      refine v_iast (pc := 18) X t3 b7 e_h6 dX6_ticks_18 ?_
      refine v_iconst (pc := 19) X (v := (0 : Int32)) dX6_ticks_19 (by decide) ?_
      refine v_istore (pc := 20) X (i := 4) (lv' := [(4, .int (0 : Int32)), (0, .ref x0), (1, .int x1), (2, .int s.1), (3, .int s.2)]) dX6_ticks_20 (Nat.le_of_ble_eq_true rfl) rfl ?_
      obtain ⟨n, hf⟩ := hf
      refine v_sub [1, 2, 4, 3, 0] rfl ?_
      refine w_X6_ticks_22 X hr hlk x0 x1 s.2 _ K (fun y23 h24 hf => ?_) n (s.1, (0 : Int32)) h6 hf
      refine v_iinc (pc := 67) X 3 (v := s.2 + (1 : Int32)) (lv' := [(3, .int (s.2 + (1 : Int32))), (0, .ref x0), (1, .int x1), (2, .int y23)]) dX6_ticks_67 rfl rfl (Nat.le_of_ble_eq_true rfl) rfl ?_
      refine v_goto (pc := 70) X 4 dX6_ticks_70 (by decide) ?_
      refine v_sub [1, 2, 3, 0] rfl ?_
      exact ih (y23, s.2 + (1 : Int32)) h24 hf

set_option maxHeartbeats 4000000 in
set_option maxRecDepth 100000 in
theorem c_X6_ticks (l : Launch) (D : va_G) (cA : Nat → ClassId) (L : List Nat) (sh : Sh) (a0 : Nat) (p1 : Int32) (h : Hp) (K : Int32 → Hp → Prop) (hf : f_X6_ticks sh a0 p1 h K) : Met l yX6_ticks (wM yX6_ticks cX6_ticks 5 (some .int)) ({ frames := 6, cells := 0, slots := 0, locals := 136 } : Room) (PreM D cA L sh h [.ref a0, .int p1]) (QI D cA L sh K) 0 0 (fun q => q ∈ L) := by
  refine met_v (cc := cX6_ticks) (nL := 5) (ret := (some .int)) [(0, .ref a0), (1, .int p1)] (by decide) rfl (Nat.le_of_ble_eq_true rfl) rfl ?_
  intro p e s0 m below meth c X hr hlk
  have k7 := X.ht _ (inM _ q_485)
  unfold f_X6_ticks at hf
  refine v_iconst (pc := 0) X (v := (0 : Int32)) dX6_ticks_0 (by decide) ?_
  refine v_istore_n (pc := 1) X (i := 2) (lv' := [(2, .int (0 : Int32)), (0, .ref a0), (1, .int p1)]) dX6_ticks_1 rfl (Nat.le_of_ble_eq_true rfl) rfl ?_
  refine v_iconst (pc := 2) X (v := (0 : Int32)) dX6_ticks_2 (by decide) ?_
  refine v_istore_n (pc := 3) X (i := 3) (lv' := [(3, .int (0 : Int32)), (2, .int (0 : Int32)), (0, .ref a0), (1, .int p1)]) dX6_ticks_3 rfl (Nat.le_of_ble_eq_true rfl) rfl ?_
  obtain ⟨n, hf⟩ := hf
  refine v_sub [2, 3, 1, 0] rfl ?_
  refine w_X6_ticks_4 X hr hlk a0 p1 _ K (fun y25 h26 hf => ?_) n ((0 : Int32), (0 : Int32)) h hf
  refine v_iload_n (pc := 73) X 0 dX6_ticks_73 rfl rfl ?_
  exact v_iret (pc := 74) X hr hlk dX6_ticks_74 hf

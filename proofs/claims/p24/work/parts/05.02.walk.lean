set_option maxHeartbeats 4000000 in
set_option maxRecDepth 100000 in
theorem c_X5_count (l : Launch) (D : va_G) (cA : Nat → ClassId) (L : List Nat) (sh : Sh) (a0 : Nat) (p1 : Int32) (h : Hp) (K : Int32 → Hp → Prop) (hf : f_X5_count sh a0 p1 h K) : Met l yX5_count (wM yX5_count cX5_count 2 (some .int)) ({ frames := 4, cells := 0, slots := 0, locals := 90 } : Room) (PreM D cA L sh h [.ref a0, .int p1]) (QI D cA L sh K) 0 0 (fun q => q ∈ L) := by
  refine met_v (cc := cX5_count) (nL := 2) (ret := (some .int)) [(0, .ref a0), (1, .int p1)] (by decide) rfl (Nat.le_of_ble_eq_true rfl) rfl ?_
  intro p e s0 m below meth c X hr hlk
  have k10 := X.ht _ (inM _ q_173)
  have k178 := X.ht _ (inM _ q_117)
  have k172 := X.ht _ (inM _ q_127)
  have k181 := X.ht _ (inM _ q_131)
  have k33 := X.ht _ (inM _ q_178)
  have k40 := X.ht _ (inM _ q_179)
  have k185 := X.ht _ (inM _ q_166)
  have k25 := X.ht _ (inM _ q_176)
  have k194 := X.ht _ (inM _ q_119)
  have k197 := X.ht _ (inM _ q_121)
  unfold f_X5_count at hf
  refine v_iload_n (pc := 0) X 1 dX5_count_0 rfl rfl ?_
  by_cases c0 : p1 = (0 : Int32)
  · replace hf := if_t c0 hf
    refine v_tableIn (pc := 1) X (off := 103) 104 dX5_count_1 (by rw [c0]; decide) (by rw [c0]; decide) (by rw [c0]; decide) (by decide) ?_
    refine v_aload_n (pc := 104) X 0 dX5_count_104 rfl rfl ?_
    obtain ⟨t1, hf⟩ := hf
    obtain ⟨q2, e_q2, hf⟩ := hf
    refine ge_5_0 (pc := 105) X (fun w h => inM w (inG5 w h)) k10 t1 e_q2 dX5_count_105 ?_
    obtain ⟨t3, hf⟩ := hf
    obtain ⟨v4, e_v4, hf⟩ := hf
    refine ge_2_0 (pc := 108) X (fun w h => inM w (inG2 w h)) k178 t3 e_v4 dX5_count_108 ?_
    exact v_iret (pc := 111) X hr hlk dX5_count_111 hf
  replace hf := if_f c0 hf
  by_cases c1 : p1 = (1 : Int32)
  · replace hf := if_t c1 hf
    refine v_tableIn (pc := 1) X (off := 111) 112 dX5_count_1 (by rw [c1]; decide) (by rw [c1]; decide) (by rw [c1]; decide) (by decide) ?_
    refine v_aload_n (pc := 112) X 0 dX5_count_112 rfl rfl ?_
    obtain ⟨t5, hf⟩ := hf
    obtain ⟨q6, e_q6, hf⟩ := hf
    refine ge_5_0 (pc := 113) X (fun w h => inM w (inG5 w h)) k10 t5 e_q6 dX5_count_113 ?_
    obtain ⟨t7, hf⟩ := hf
    obtain ⟨v8, e_v8, hf⟩ := hf
    refine ge_2_5 (pc := 116) X (fun w h => inM w (inG2 w h)) k172 t7 e_v8 dX5_count_116 ?_
    exact v_iret (pc := 119) X hr hlk dX5_count_119 hf
  replace hf := if_f c1 hf
  by_cases c2 : p1 = (2 : Int32)
  · replace hf := if_t c2 hf
    refine v_tableIn (pc := 1) X (off := 119) 120 dX5_count_1 (by rw [c2]; decide) (by rw [c2]; decide) (by rw [c2]; decide) (by decide) ?_
    refine v_aload_n (pc := 120) X 0 dX5_count_120 rfl rfl ?_
    obtain ⟨t9, hf⟩ := hf
    obtain ⟨q10, e_q10, hf⟩ := hf
    refine ge_5_0 (pc := 121) X (fun w h => inM w (inG5 w h)) k10 t9 e_q10 dX5_count_121 ?_
    obtain ⟨t11, hf⟩ := hf
    obtain ⟨v12, e_v12, hf⟩ := hf
    refine ge_2_8 (pc := 124) X (fun w h => inM w (inG2 w h)) k181 t11 e_v12 dX5_count_124 ?_
    exact v_iret (pc := 127) X hr hlk dX5_count_127 hf
  replace hf := if_f c2 hf
  by_cases c3 : p1 = (3 : Int32)
  · replace hf := if_t c3 hf
    refine v_tableIn (pc := 1) X (off := 127) 128 dX5_count_1 (by rw [c3]; decide) (by rw [c3]; decide) (by rw [c3]; decide) (by decide) ?_
    refine v_aload_n (pc := 128) X 0 dX5_count_128 rfl rfl ?_
    obtain ⟨t13, hf⟩ := hf
    obtain ⟨q14, e_q14, hf⟩ := hf
    refine ge_5_0 (pc := 129) X (fun w h => inM w (inG5 w h)) k10 t13 e_q14 dX5_count_129 ?_
    obtain ⟨t15, hf⟩ := hf
    refine v_callVI (pc := 132) X (As := []) (rest := []) (c_X2_statementsAtWork l D cA L sh q14 h _ hf) (cwV 0 X.ht (gwV inM q_222 q_223 q_224 q_2 q_225) rfl rfl rfl (by decide +kernel) ⟨Nat.le_of_ble_eq_true rfl, Nat.le_of_ble_eq_true rfl⟩) rfl (by decide) t15 (ent_2 t15) rfl rfl (Nat.le_of_ble_eq_true rfl) ⟨Nat.zero_le _, Nat.zero_le _⟩ dX5_count_132 (fun r16 h17 hf => ?_)
    exact v_iret (pc := 135) X hr hlk dX5_count_135 hf
  replace hf := if_f c3 hf
  by_cases c4 : p1 = (4 : Int32)
  · replace hf := if_t c4 hf
    refine v_tableIn (pc := 1) X (off := 135) 136 dX5_count_1 (by rw [c4]; decide) (by rw [c4]; decide) (by rw [c4]; decide) (by decide) ?_
    refine v_aload_n (pc := 136) X 0 dX5_count_136 rfl rfl ?_
    obtain ⟨t18, hf⟩ := hf
    obtain ⟨v19, e_v19, hf⟩ := hf
    refine ge_5_5 (pc := 137) X (fun w h => inM w (inG5 w h)) k33 t18 e_v19 dX5_count_137 ?_
    exact v_iret (pc := 140) X hr hlk dX5_count_140 hf
  replace hf := if_f c4 hf
  by_cases c5 : p1 = (5 : Int32)
  · replace hf := if_t c5 hf
    refine v_tableIn (pc := 1) X (off := 140) 141 dX5_count_1 (by rw [c5]; decide) (by rw [c5]; decide) (by rw [c5]; decide) (by decide) ?_
    refine v_aload_n (pc := 141) X 0 dX5_count_141 rfl rfl ?_
    obtain ⟨t20, hf⟩ := hf
    obtain ⟨q21, e_q21, hf⟩ := hf
    refine ge_5_6 (pc := 142) X (fun w h => inM w (inG5 w h)) k40 t20 e_q21 dX5_count_142 ?_
    obtain ⟨t22, hf⟩ := hf
    obtain ⟨v23, e_v23, hf⟩ := hf
    refine ge_3_1 (pc := 145) X (fun w h => inM w (inG3 w h)) k185 t22 e_v23 dX5_count_145 ?_
    exact v_iret (pc := 148) X hr hlk dX5_count_148 hf
  replace hf := if_f c5 hf
  by_cases c6 : p1 = (6 : Int32)
  · replace hf := if_t c6 hf
    refine v_tableIn (pc := 1) X (off := 148) 149 dX5_count_1 (by rw [c6]; decide) (by rw [c6]; decide) (by rw [c6]; decide) (by decide) ?_
    refine v_aload_n (pc := 149) X 0 dX5_count_149 rfl rfl ?_
    obtain ⟨t24, hf⟩ := hf
    obtain ⟨v25, e_v25, hf⟩ := hf
    refine ge_5_3 (pc := 150) X (fun w h => inM w (inG5 w h)) k25 t24 e_v25 dX5_count_150 ?_
    refine v_if_eq (pc := 153) X 160 dX5_count_153 (by decide) (fun c => ?_) (fun c => ?_)
    · replace hf := if_t c hf
      refine v_iconst (pc := 160) X (v := (0 : Int32)) dX5_count_160 (by decide) ?_
      exact v_iret (pc := 161) X hr hlk dX5_count_161 hf
    · replace hf := if_f c hf
      refine v_iconst (pc := 156) X (v := (1 : Int32)) dX5_count_156 (by decide) ?_
      refine v_goto (pc := 157) X 161 dX5_count_157 (by decide) ?_
      exact v_iret (pc := 161) X hr hlk dX5_count_161 hf
  replace hf := if_f c6 hf
  by_cases c7 : p1 = (7 : Int32)
  · replace hf := if_t c7 hf
    refine v_tableIn (pc := 1) X (off := 161) 162 dX5_count_1 (by rw [c7]; decide) (by rw [c7]; decide) (by rw [c7]; decide) (by decide) ?_
    refine v_aload_n (pc := 162) X 0 dX5_count_162 rfl rfl ?_
    obtain ⟨t26, hf⟩ := hf
    obtain ⟨q27, e_q27, hf⟩ := hf
    refine ge_5_0 (pc := 163) X (fun w h => inM w (inG5 w h)) k10 t26 e_q27 dX5_count_163 ?_
    obtain ⟨t28, hf⟩ := hf
    refine v_callVI (pc := 166) X (As := []) (rest := []) (c_X2_tablesThatCanChange l D cA L sh q27 h _ hf) (cwV 0 X.ht (gwV inM q_230 q_231 q_232 q_2 q_233) rfl rfl rfl (by decide +kernel) ⟨Nat.le_of_ble_eq_true rfl, Nat.le_of_ble_eq_true rfl⟩) rfl (by decide) t28 (ent_2 t28) rfl rfl (Nat.le_of_ble_eq_true rfl) ⟨Nat.zero_le _, Nat.zero_le _⟩ dX5_count_166 (fun r29 h30 hf => ?_)
    exact v_iret (pc := 169) X hr hlk dX5_count_169 hf
  replace hf := if_f c7 hf
  by_cases c8 : p1 = (8 : Int32)
  · replace hf := if_t c8 hf
    refine v_tableIn (pc := 1) X (off := 169) 170 dX5_count_1 (by rw [c8]; decide) (by rw [c8]; decide) (by rw [c8]; decide) (by decide) ?_
    refine v_aload_n (pc := 170) X 0 dX5_count_170 rfl rfl ?_
    obtain ⟨t31, hf⟩ := hf
    obtain ⟨q32, e_q32, hf⟩ := hf
    refine ge_5_0 (pc := 171) X (fun w h => inM w (inG5 w h)) k10 t31 e_q32 dX5_count_171 ?_
    obtain ⟨t33, hf⟩ := hf
    refine v_callVI (pc := 174) X (As := []) (rest := []) (c_X2_loadsOfAll l D cA L sh q32 h _ hf) (cwV 0 X.ht (gwV inM q_235 q_236 q_237 q_2 q_238) rfl rfl rfl (by decide +kernel) ⟨Nat.le_of_ble_eq_true rfl, Nat.le_of_ble_eq_true rfl⟩) rfl (by decide) t33 (ent_2 t33) rfl rfl (Nat.le_of_ble_eq_true rfl) ⟨Nat.zero_le _, Nat.zero_le _⟩ dX5_count_174 (fun r34 h35 hf => ?_)
    exact v_iret (pc := 177) X hr hlk dX5_count_177 hf
  replace hf := if_f c8 hf
  by_cases c9 : p1 = (9 : Int32)
  · replace hf := if_t c9 hf
    refine v_tableIn (pc := 1) X (off := 193) 194 dX5_count_1 (by rw [c9]; decide) (by rw [c9]; decide) (by rw [c9]; decide) (by decide) ?_
    refine v_iconst (pc := 194) X (v := (-1 : Int32)) dX5_count_194 (by decide) ?_
    exact v_iret (pc := 195) X hr hlk dX5_count_195 hf
  replace hf := if_f c9 hf
  by_cases c10 : p1 = (10 : Int32)
  · replace hf := if_t c10 hf
    refine v_tableIn (pc := 1) X (off := 193) 194 dX5_count_1 (by rw [c10]; decide) (by rw [c10]; decide) (by rw [c10]; decide) (by decide) ?_
    refine v_iconst (pc := 194) X (v := (-1 : Int32)) dX5_count_194 (by decide) ?_
    exact v_iret (pc := 195) X hr hlk dX5_count_195 hf
  replace hf := if_f c10 hf
  by_cases c11 : p1 = (11 : Int32)
  · replace hf := if_t c11 hf
    refine v_tableIn (pc := 1) X (off := 193) 194 dX5_count_1 (by rw [c11]; decide) (by rw [c11]; decide) (by rw [c11]; decide) (by decide) ?_
    refine v_iconst (pc := 194) X (v := (-1 : Int32)) dX5_count_194 (by decide) ?_
    exact v_iret (pc := 195) X hr hlk dX5_count_195 hf
  replace hf := if_f c11 hf
  by_cases c12 : p1 = (12 : Int32)
  · replace hf := if_t c12 hf
    refine v_tableIn (pc := 1) X (off := 193) 194 dX5_count_1 (by rw [c12]; decide) (by rw [c12]; decide) (by rw [c12]; decide) (by decide) ?_
    refine v_iconst (pc := 194) X (v := (-1 : Int32)) dX5_count_194 (by decide) ?_
    exact v_iret (pc := 195) X hr hlk dX5_count_195 hf
  replace hf := if_f c12 hf
  by_cases c13 : p1 = (13 : Int32)
  · replace hf := if_t c13 hf
    refine v_tableIn (pc := 1) X (off := 193) 194 dX5_count_1 (by rw [c13]; decide) (by rw [c13]; decide) (by rw [c13]; decide) (by decide) ?_
    refine v_iconst (pc := 194) X (v := (-1 : Int32)) dX5_count_194 (by decide) ?_
    exact v_iret (pc := 195) X hr hlk dX5_count_195 hf
  replace hf := if_f c13 hf
  by_cases c14 : p1 = (14 : Int32)
  · replace hf := if_t c14 hf
    refine v_tableIn (pc := 1) X (off := 193) 194 dX5_count_1 (by rw [c14]; decide) (by rw [c14]; decide) (by rw [c14]; decide) (by decide) ?_
    refine v_iconst (pc := 194) X (v := (-1 : Int32)) dX5_count_194 (by decide) ?_
    exact v_iret (pc := 195) X hr hlk dX5_count_195 hf
  replace hf := if_f c14 hf
  by_cases c15 : p1 = (15 : Int32)
  · replace hf := if_t c15 hf
    refine v_tableIn (pc := 1) X (off := 193) 194 dX5_count_1 (by rw [c15]; decide) (by rw [c15]; decide) (by rw [c15]; decide) (by decide) ?_
    refine v_iconst (pc := 194) X (v := (-1 : Int32)) dX5_count_194 (by decide) ?_
    exact v_iret (pc := 195) X hr hlk dX5_count_195 hf
  replace hf := if_f c15 hf
  by_cases c16 : p1 = (16 : Int32)
  · replace hf := if_t c16 hf
    refine v_tableIn (pc := 1) X (off := 193) 194 dX5_count_1 (by rw [c16]; decide) (by rw [c16]; decide) (by rw [c16]; decide) (by decide) ?_
    refine v_iconst (pc := 194) X (v := (-1 : Int32)) dX5_count_194 (by decide) ?_
    exact v_iret (pc := 195) X hr hlk dX5_count_195 hf
  replace hf := if_f c16 hf
  by_cases c17 : p1 = (17 : Int32)
  · replace hf := if_t c17 hf
    refine v_tableIn (pc := 1) X (off := 193) 194 dX5_count_1 (by rw [c17]; decide) (by rw [c17]; decide) (by rw [c17]; decide) (by decide) ?_
    refine v_iconst (pc := 194) X (v := (-1 : Int32)) dX5_count_194 (by decide) ?_
    exact v_iret (pc := 195) X hr hlk dX5_count_195 hf
  replace hf := if_f c17 hf
  by_cases c18 : p1 = (18 : Int32)
  · replace hf := if_t c18 hf
    refine v_tableIn (pc := 1) X (off := 193) 194 dX5_count_1 (by rw [c18]; decide) (by rw [c18]; decide) (by rw [c18]; decide) (by decide) ?_
    refine v_iconst (pc := 194) X (v := (-1 : Int32)) dX5_count_194 (by decide) ?_
    exact v_iret (pc := 195) X hr hlk dX5_count_195 hf
  replace hf := if_f c18 hf
  by_cases c19 : p1 = (19 : Int32)
  · replace hf := if_t c19 hf
    refine v_tableIn (pc := 1) X (off := 193) 194 dX5_count_1 (by rw [c19]; decide) (by rw [c19]; decide) (by rw [c19]; decide) (by decide) ?_
    refine v_iconst (pc := 194) X (v := (-1 : Int32)) dX5_count_194 (by decide) ?_
    exact v_iret (pc := 195) X hr hlk dX5_count_195 hf
  replace hf := if_f c19 hf
  by_cases c20 : p1 = (20 : Int32)
  · replace hf := if_t c20 hf
    refine v_tableIn (pc := 1) X (off := 177) 178 dX5_count_1 (by rw [c20]; decide) (by rw [c20]; decide) (by rw [c20]; decide) (by decide) ?_
    refine v_aload_n (pc := 178) X 0 dX5_count_178 rfl rfl ?_
    obtain ⟨t36, hf⟩ := hf
    obtain ⟨q37, e_q37, hf⟩ := hf
    refine ge_5_0 (pc := 179) X (fun w h => inM w (inG5 w h)) k10 t36 e_q37 dX5_count_179 ?_
    obtain ⟨t38, hf⟩ := hf
    obtain ⟨v39, e_v39, hf⟩ := hf
    refine ge_2_1 (pc := 182) X (fun w h => inM w (inG2 w h)) k194 t38 e_v39 dX5_count_182 ?_
    exact v_iret (pc := 185) X hr hlk dX5_count_185 hf
  replace hf := if_f c20 hf
  by_cases c21 : p1 = (21 : Int32)
  · replace hf := if_t c21 hf
    refine v_tableIn (pc := 1) X (off := 185) 186 dX5_count_1 (by rw [c21]; decide) (by rw [c21]; decide) (by rw [c21]; decide) (by decide) ?_
    refine v_aload_n (pc := 186) X 0 dX5_count_186 rfl rfl ?_
    obtain ⟨t40, hf⟩ := hf
    obtain ⟨q41, e_q41, hf⟩ := hf
    refine ge_5_0 (pc := 187) X (fun w h => inM w (inG5 w h)) k10 t40 e_q41 dX5_count_187 ?_
    obtain ⟨t42, hf⟩ := hf
    obtain ⟨v43, e_v43, hf⟩ := hf
    refine ge_2_2 (pc := 190) X (fun w h => inM w (inG2 w h)) k197 t42 e_v43 dX5_count_190 ?_
    exact v_iret (pc := 193) X hr hlk dX5_count_193 hf
  replace hf := if_f c21 hf
  refine v_tableOut (pc := 1) X 194 dX5_count_1 (tab_out_0_21 c0 c1 c2 c3 c4 c5 c6 c7 c8 c9 c10 c11 c12 c13 c14 c15 c16 c17 c18 c19 c20 c21) (by decide) ?_
  refine v_iconst (pc := 194) X (v := (-1 : Int32)) dX5_count_194 (by decide) ?_
  exact v_iret (pc := 195) X hr hlk dX5_count_195 hf
set_option maxHeartbeats 4000000 in
set_option maxRecDepth 100000 in
theorem c_X5_end (l : Launch) (D : va_G) (cA : Nat → ClassId) (L : List Nat) (sh : Sh) (a0 : Nat) (p1 : Int32) (h : Hp) (K : Int32 → Hp → Prop) (hf : f_X5_end sh a0 p1 h K) : Met l yX5_end (wM yX5_end cX5_end 2 (some .int)) ({ frames := 4, cells := 0, slots := 0, locals := 94 } : Room) (PreM D cA L sh h [.ref a0, .int p1]) (QI D cA L sh K) 0 0 (fun q => q ∈ L) := by
  refine met_v (cc := cX5_end) (nL := 2) (ret := (some .int)) [(0, .ref a0), (1, .int p1)] (by decide) rfl (Nat.le_of_ble_eq_true rfl) rfl ?_
  intro p e s0 m below meth c X hr hlk
  have k19 := X.ht _ (inM _ q_174)
  have k10 := X.ht _ (inM _ q_173)
  unfold f_X5_end at hf
  refine v_aload_n (pc := 0) X 0 dX5_end_0 rfl rfl ?_
  obtain ⟨t1, hf⟩ := hf
  obtain ⟨q2, e_q2, hf⟩ := hf
  refine ge_5_1 (pc := 1) X (fun w h => inM w (inG5 w h)) k19 t1 e_q2 dX5_end_1 ?_
  refine v_aload_n (pc := 4) X 0 dX5_end_4 rfl rfl ?_
  obtain ⟨q3, e_q3, hf⟩ := hf
  refine ge_5_0 (pc := 5) X (fun w h => inM w (inG5 w h)) k10 t1 e_q3 dX5_end_5 ?_
  obtain ⟨t4, hf⟩ := hf
  refine v_callVV (pc := 8) X (As := [.ref q3]) (rest := []) (c_X2_copyFrom l D cA L sh q2 q3 h _ hf) (cwV 1 X.ht (gwV inM q_320 q_321 q_322 q_2 q_323) rfl rfl rfl (by decide +kernel) ⟨Nat.le_of_ble_eq_true rfl, Nat.le_of_ble_eq_true rfl⟩) rfl (by decide) t4 (ent_2 t4) rfl rfl (Nat.le_of_ble_eq_true rfl) ⟨Nat.zero_le _, Nat.zero_le _⟩ dX5_end_8 (fun h6 hf => ?_)
  refine v_aload_n (pc := 11) X 0 dX5_end_11 rfl rfl ?_
  refine v_aload_n (pc := 12) X 0 dX5_end_12 rfl rfl ?_
  obtain ⟨q7, e_q7, hf⟩ := hf
  refine ge_5_1 (pc := 13) X (fun w h => inM w (inG5 w h)) k19 t1 e_q7 dX5_end_13 ?_
  refine v_iload_n (pc := 16) X 1 dX5_end_16 rfl rfl ?_
  obtain ⟨t8, hf⟩ := hf
  refine v_callVI (pc := 17) X (As := [.int p1]) (rest := [.ref a0]) (c_X2_finish l D cA L sh q7 p1 h6 _ hf) (cwV 1 X.ht (gwV inM q_289 q_290 q_291 q_2 q_292) rfl rfl rfl (by decide +kernel) ⟨Nat.le_of_ble_eq_true rfl, Nat.le_of_ble_eq_true rfl⟩) rfl (by decide) t8 (ent_2 t8) rfl rfl (Nat.le_of_ble_eq_true rfl) ⟨Nat.zero_le _, Nat.zero_le _⟩ dX5_end_17 (fun r9 h10 hf => ?_)
  refine v_callVI (pc := 20) X (As := [.int r9]) (rest := []) (c_X5_settle l D cA L sh a0 r9 h10 _ hf) (cwV 1 X.ht (gwV inM q_343 q_344 q_442 q_1 q_345) rfl rfl rfl (by decide +kernel) ⟨Nat.le_of_ble_eq_true rfl, Nat.le_of_ble_eq_true rfl⟩) rfl (by decide) t1 (ent_5 t1) rfl rfl (Nat.le_of_ble_eq_true rfl) ⟨Nat.zero_le _, Nat.zero_le _⟩ dX5_end_20 (fun r11 h12 hf => ?_)
  exact v_iret (pc := 23) X hr hlk dX5_end_23 hf
set_option maxHeartbeats 4000000 in
set_option maxRecDepth 100000 in
theorem c_X5_entry (l : Launch) (D : va_G) (cA : Nat → ClassId) (L : List Nat) (sh : Sh) (a0 : Nat) (p1 : Int32) (p2 : Int32) (p3 : Int32) (h : Hp) (K : Int32 → Hp → Prop) (hf : f_X5_entry sh a0 p1 p2 p3 h K) : Met l yX5_entry (wM yX5_entry cX5_entry 6 (some .int)) ({ frames := 0, cells := 0, slots := 0, locals := 0 } : Room) (PreM D cA L sh h [.ref a0, .int p1, .int p2, .int p3]) (QI D cA L sh K) 0 0 (fun q => q ∈ L) := by
  refine met_v (cc := cX5_entry) (nL := 6) (ret := (some .int)) [(0, .ref a0), (1, .int p1), (2, .int p2), (3, .int p3)] (by decide) rfl (Nat.le_of_ble_eq_true rfl) rfl ?_
  intro p e s0 m below meth c X hr hlk
  have k10 := X.ht _ (inM _ q_173)
  have k94 := X.ht _ (inM _ q_137)
  have k107 := X.ht _ (inM _ q_103)
  have k131 := X.ht _ (inM _ q_105)
  have k135 := X.ht _ (inM _ q_39)
  have k140 := X.ht _ (inM _ q_43)
  have k142 := X.ht _ (inM _ q_46)
  have k144 := X.ht _ (inM _ q_49)
  have k147 := X.ht _ (inM _ q_52)
  have k150 := X.ht _ (inM _ q_55)
  unfold f_X5_entry at hf
  refine v_iload_n (pc := 0) X 1 dX5_entry_0 rfl rfl ?_
  refine v_if_lt (pc := 1) X 22 dX5_entry_1 (by decide) (fun c => ?_) (fun c => ?_)
  · replace hf := if_t c hf
    refine v_iconst (pc := 22) X (v := (-1 : Int32)) dX5_entry_22 (by decide) ?_
    exact v_iret (pc := 23) X hr hlk dX5_entry_23 hf
  · replace hf := if_f c hf
    refine v_iload_n (pc := 4) X 1 dX5_entry_4 rfl rfl ?_
    refine v_iconst (pc := 5) X (v := (4 : Int32)) dX5_entry_5 (by decide) ?_
    refine v_icmp_ge (pc := 6) X 22 dX5_entry_6 (by decide) (fun c => ?_) (fun c => ?_)
    · replace hf := if_t c hf
      refine v_iconst (pc := 22) X (v := (-1 : Int32)) dX5_entry_22 (by decide) ?_
      exact v_iret (pc := 23) X hr hlk dX5_entry_23 hf
    · replace hf := if_f c hf
      refine v_iload_n (pc := 9) X 2 dX5_entry_9 rfl rfl ?_
      refine v_if_lt (pc := 10) X 22 dX5_entry_10 (by decide) (fun c => ?_) (fun c => ?_)
      · replace hf := if_t c hf
        refine v_iconst (pc := 22) X (v := (-1 : Int32)) dX5_entry_22 (by decide) ?_
        exact v_iret (pc := 23) X hr hlk dX5_entry_23 hf
      · replace hf := if_f c hf
        refine v_iload_n (pc := 13) X 3 dX5_entry_13 rfl rfl ?_
        refine v_if_lt (pc := 14) X 22 dX5_entry_14 (by decide) (fun c => ?_) (fun c => ?_)
        · replace hf := if_t c hf
          refine v_iconst (pc := 22) X (v := (-1 : Int32)) dX5_entry_22 (by decide) ?_
          exact v_iret (pc := 23) X hr hlk dX5_entry_23 hf
        · replace hf := if_f c hf
          refine v_iload_n (pc := 17) X 3 dX5_entry_17 rfl rfl ?_
          refine v_iconst (pc := 18) X (v := (5 : Int32)) dX5_entry_18 (by decide) ?_
          refine v_icmp_le (pc := 19) X 24 dX5_entry_19 (by decide) (fun c => ?_) (fun c => ?_)
          · replace hf := if_t c hf
            refine v_aload_n (pc := 24) X 0 dX5_entry_24 rfl rfl ?_
            obtain ⟨t1, hf⟩ := hf
            obtain ⟨q2, e_q2, hf⟩ := hf
            refine ge_5_0 (pc := 25) X (fun w h => inM w (inG5 w h)) k10 t1 e_q2 dX5_entry_25 ?_
            obtain ⟨t3, hf⟩ := hf
            obtain ⟨q4, e_q4, hf⟩ := hf
            refine ge_2_11 (pc := 28) X (fun w h => inM w (inG2 w h)) k94 t3 e_q4 dX5_entry_28 ?_
            refine v_iload_n (pc := 31) X 1 dX5_entry_31 rfl rfl ?_
            obtain ⟨t5, hf⟩ := hf
            obtain ⟨b7, q6, e_q6, hf⟩ := hf
            refine v_aald_9 (pc := 32) X t5 b7 e_q6 dX5_entry_32 ?_
            refine v_astore (pc := 33) X (i := 4) (lv' := [(4, .ref q6), (0, .ref a0), (1, .int p1), (2, .int p2), (3, .int p3)]) dX5_entry_33 (Nat.le_of_ble_eq_true rfl) rfl ?_
            refine v_iload_n (pc := 35) X 3 dX5_entry_35 rfl rfl ?_
            refine v_aload (pc := 36) X 0 dX5_entry_36 rfl ?_
            obtain ⟨t8, hf⟩ := hf
            obtain ⟨v9, e_v9, hf⟩ := hf
            refine ge_1_6 (pc := 38) X (fun w h => inM w (inG1 w h)) k107 t8 e_v9 dX5_entry_38 ?_
            refine v_icmp_lt (pc := 41) X 47 dX5_entry_41 (by decide) (fun c => ?_) (fun c => ?_)
            · replace hf := if_t c hf
              refine v_aload (pc := 47) X 0 dX5_entry_47 rfl ?_
              obtain ⟨q10, e_q10, hf⟩ := hf
              refine ge_1_7 (pc := 49) X (fun w h => inM w (inG1 w h)) k131 t8 e_q10 dX5_entry_49 ?_
              refine v_iload_n (pc := 52) X 3 dX5_entry_52 rfl rfl ?_
              obtain ⟨t11, hf⟩ := hf
              obtain ⟨b13, q12, e_q12, hf⟩ := hf
              refine v_aald_8 (pc := 53) X t11 b13 e_q12 dX5_entry_53 ?_
              refine v_astore (pc := 54) X (i := 5) (lv' := [(5, .ref q12), (4, .ref q6), (0, .ref a0), (1, .int p1), (2, .int p2), (3, .int p3)]) dX5_entry_54 (Nat.le_of_ble_eq_true rfl) rfl ?_
              refine v_iload_n (pc := 56) X 5 dX5_entry_56 rfl rfl ?_
              by_cases c0 : p3 = (0 : Int32)
              · replace hf := if_t c0 hf
                refine v_tableIn (pc := 57) X (off := 35) 92 dX5_entry_57 (by rw [c0]; decide) (by rw [c0]; decide) (by rw [c0]; decide) (by decide) ?_
                refine v_aload (pc := 92) X 0 dX5_entry_92 rfl ?_
                obtain ⟨t14, hf⟩ := hf
                obtain ⟨v15, e_v15, hf⟩ := hf
                refine ge_0_0 (pc := 94) X (fun w h => inM w (inG0 w h)) k135 t14 e_v15 dX5_entry_94 ?_
                exact v_iret (pc := 97) X hr hlk dX5_entry_97 hf
              replace hf := if_f c0 hf
              by_cases c1 : p3 = (1 : Int32)
              · replace hf := if_t c1 hf
                refine v_tableIn (pc := 57) X (off := 41) 98 dX5_entry_57 (by rw [c1]; decide) (by rw [c1]; decide) (by rw [c1]; decide) (by decide) ?_
                refine v_aload (pc := 98) X 0 dX5_entry_98 rfl ?_
                obtain ⟨t16, hf⟩ := hf
                obtain ⟨v17, e_v17, hf⟩ := hf
                refine ge_0_1 (pc := 100) X (fun w h => inM w (inG0 w h)) k140 t16 e_v17 dX5_entry_100 ?_
                exact v_iret (pc := 103) X hr hlk dX5_entry_103 hf
              replace hf := if_f c1 hf
              by_cases c2 : p3 = (2 : Int32)
              · replace hf := if_t c2 hf
                refine v_tableIn (pc := 57) X (off := 47) 104 dX5_entry_57 (by rw [c2]; decide) (by rw [c2]; decide) (by rw [c2]; decide) (by decide) ?_
                refine v_aload (pc := 104) X 0 dX5_entry_104 rfl ?_
                obtain ⟨t18, hf⟩ := hf
                obtain ⟨v19, e_v19, hf⟩ := hf
                refine ge_0_2 (pc := 106) X (fun w h => inM w (inG0 w h)) k142 t18 e_v19 dX5_entry_106 ?_
                exact v_iret (pc := 109) X hr hlk dX5_entry_109 hf
              replace hf := if_f c2 hf
              by_cases c3 : p3 = (3 : Int32)
              · replace hf := if_t c3 hf
                refine v_tableIn (pc := 57) X (off := 53) 110 dX5_entry_57 (by rw [c3]; decide) (by rw [c3]; decide) (by rw [c3]; decide) (by decide) ?_
                refine v_aload (pc := 110) X 0 dX5_entry_110 rfl ?_
                obtain ⟨t20, hf⟩ := hf
                obtain ⟨v21, e_v21, hf⟩ := hf
                refine ge_0_3 (pc := 112) X (fun w h => inM w (inG0 w h)) k144 t20 e_v21 dX5_entry_112 ?_
                exact v_iret (pc := 115) X hr hlk dX5_entry_115 hf
              replace hf := if_f c3 hf
              by_cases c4 : p3 = (4 : Int32)
              · replace hf := if_t c4 hf
                refine v_tableIn (pc := 57) X (off := 59) 116 dX5_entry_57 (by rw [c4]; decide) (by rw [c4]; decide) (by rw [c4]; decide) (by decide) ?_
                refine v_aload (pc := 116) X 0 dX5_entry_116 rfl ?_
                obtain ⟨t22, hf⟩ := hf
                obtain ⟨v23, e_v23, hf⟩ := hf
                refine ge_0_4 (pc := 118) X (fun w h => inM w (inG0 w h)) k147 t22 e_v23 dX5_entry_118 ?_
                exact v_iret (pc := 121) X hr hlk dX5_entry_121 hf
              replace hf := if_f c4 hf
              refine v_tableOut (pc := 57) X 122 dX5_entry_57 (tab_out_0_4 c0 c1 c2 c3 c4) (by decide) ?_
              refine v_aload (pc := 122) X 0 dX5_entry_122 rfl ?_
              obtain ⟨t24, hf⟩ := hf
              obtain ⟨v25, e_v25, hf⟩ := hf
              refine ge_0_5 (pc := 124) X (fun w h => inM w (inG0 w h)) k150 t24 e_v25 dX5_entry_124 ?_
              refine v_if_eq (pc := 127) X 134 dX5_entry_127 (by decide) (fun c => ?_) (fun c => ?_)
              · replace hf := if_t c hf
                refine v_iconst (pc := 134) X (v := (0 : Int32)) dX5_entry_134 (by decide) ?_
                exact v_iret (pc := 135) X hr hlk dX5_entry_135 hf
              · replace hf := if_f c hf
                refine v_iconst (pc := 130) X (v := (1 : Int32)) dX5_entry_130 (by decide) ?_
                refine v_goto (pc := 131) X 135 dX5_entry_131 (by decide) ?_
                exact v_iret (pc := 135) X hr hlk dX5_entry_135 hf
            · replace hf := if_f c hf
              refine v_bipush (pc := 44) X (v := (-4 : Int32)) dX5_entry_44 (by decide) ?_
              exact v_iret (pc := 46) X hr hlk dX5_entry_46 hf
          · replace hf := if_f c hf
            refine v_iconst (pc := 22) X (v := (-1 : Int32)) dX5_entry_22 (by decide) ?_
            exact v_iret (pc := 23) X hr hlk dX5_entry_23 hf
set_option maxHeartbeats 4000000 in
set_option maxRecDepth 100000 in
theorem w_X5_inTheWay_17 {p : Program} {l : Launch} {e : Env} {s0 : State} {m : MethodId} {args : Array Value} {below : List Frame} {meth : Method} {c : Code} {D : va_G} {cA : Nat → ClassId} {L : List Nat} {sh : Sh} (X : Cx p s0 m c args cX5_inTheWay 5 (wM yX5_inTheWay cX5_inTheWay 5 (some .int)) RX5 (fun q => q ∈ L) D cA L sh) (hr : meth.sig.returnType = (some .int)) (hlk : meth.locks = false) (x0 : Nat) (x1 : Int32) (Xc : Int32 → Hp → Prop) (K : Int32 → Hp → Prop) (hx : ∀ (y2 : Int32) (h1 : Hp), Xc y2 h1 → V p l e (headSpec (wM yX5_inTheWay cX5_inTheWay 5 (some .int)) ({ frames := 2, cells := 0, slots := 0, locals := 47 } : Room)).room s0 m args below meth c (MQ below (QI D cA L sh K) args s0 0 0 (fun q => q ∈ L)) (fun q => q ∈ L) 0 0 D cA L sh 5 h1 70 [(2, .int y2)] []) : ∀ (n : Nat) (s : Int32 × Int32) (h : Hp), lp (b_X5_inTheWay_17 sh x0 x1 Xc) n s h → V p l e (headSpec (wM yX5_inTheWay cX5_inTheWay 5 (some .int)) ({ frames := 2, cells := 0, slots := 0, locals := 47 } : Room)).room s0 m args below meth c (MQ below (QI D cA L sh K) args s0 0 0 (fun q => q ∈ L)) (fun q => q ∈ L) 0 0 D cA L sh 5 h 17 [(0, .ref x0), (1, .int x1), (2, .int s.1), (3, .int s.2)] [] := by
  have k10 := X.ht _ (inM _ q_173)
  have k94 := X.ht _ (inM _ q_137)
  have k77 := X.ht _ (inM _ q_123)
  intro n
  induction n with
  | zero => intro s h hf; exact hf.elim
  | succ n ih =>
    intro s h hf
    replace hf : b_X5_inTheWay_17 sh x0 x1 Xc (lp (b_X5_inTheWay_17 sh x0 x1 Xc) n) s h := hf
    unfold b_X5_inTheWay_17 at hf
    refine v_iload_n (pc := 17) X 3 dX5_inTheWay_17 rfl rfl ?_
    refine v_iconst (pc := 18) X (v := (4 : Int32)) dX5_inTheWay_18 (by decide) ?_
    refine v_icmp_ge (pc := 19) X 70 dX5_inTheWay_19 (by decide) (fun c => ?_) (fun c => ?_)
    · replace hf := if_t c hf
      refine v_sub [2] rfl ?_
      exact hx s.1 h hf
    · replace hf := if_f c hf
      refine v_aload_n (pc := 22) X 0 dX5_inTheWay_22 rfl rfl ?_
      obtain ⟨t1, hf⟩ := hf
      obtain ⟨q2, e_q2, hf⟩ := hf
      refine ge_5_0 (pc := 23) X (fun w h => inM w (inG5 w h)) k10 t1 e_q2 dX5_inTheWay_23 ?_
      obtain ⟨t3, hf⟩ := hf
      obtain ⟨q4, e_q4, hf⟩ := hf
      refine ge_2_11 (pc := 26) X (fun w h => inM w (inG2 w h)) k94 t3 e_q4 dX5_inTheWay_26 ?_
      refine v_iload_n (pc := 29) X 3 dX5_inTheWay_29 rfl rfl ?_
      obtain ⟨t5, hf⟩ := hf
      obtain ⟨b7, q6, e_q6, hf⟩ := hf
      refine v_aald_9 (pc := 30) X t5 b7 e_q6 dX5_inTheWay_30 ?_
      refine v_iload_n (pc := 31) X 1 dX5_inTheWay_31 rfl rfl ?_
      refine v_aload_n (pc := 32) X 0 dX5_inTheWay_32 rfl rfl ?_
      obtain ⟨q8, e_q8, hf⟩ := hf
      refine ge_5_0 (pc := 33) X (fun w h => inM w (inG5 w h)) k10 t1 e_q8 dX5_inTheWay_33 ?_
      obtain ⟨t9, hf⟩ := hf
      obtain ⟨q10, e_q10, hf⟩ := hf
      refine ge_2_3 (pc := 36) X (fun w h => inM w (inG2 w h)) k77 t9 e_q10 dX5_inTheWay_36 ?_
      refine v_iload_n (pc := 39) X 1 dX5_inTheWay_39 rfl rfl ?_
      obtain ⟨t11, hf⟩ := hf
      obtain ⟨b13, v12, e_v12, hf⟩ := hf
      refine v_iald (pc := 40) X t11 b13 e_v12 dX5_inTheWay_40 ?_
      obtain ⟨t14, hf⟩ := hf
      refine v_callVI (pc := 41) X (As := [.int x1, .int v12]) (rest := []) (c_X1_lowestBehind l D cA L sh q6 x1 v12 h _ hf) (cwV 2 X.ht (gwV inM q_404 q_405 q_406 q_3 q_407) rfl rfl rfl (by decide +kernel) ⟨Nat.le_of_ble_eq_true rfl, Nat.le_of_ble_eq_true rfl⟩) rfl (by decide) t14 (ent_1 t14) rfl rfl (Nat.le_of_ble_eq_true rfl) ⟨Nat.zero_le _, Nat.zero_le _⟩ dX5_inTheWay_41 (fun r15 h16 hf => ?_)
      refine v_istore (pc := 44) X (i := 4) (lv' := [(4, .int r15), (0, .ref x0), (1, .int x1), (2, .int s.1), (3, .int s.2)]) dX5_inTheWay_44 (Nat.le_of_ble_eq_true rfl) rfl ?_
      refine v_iload (pc := 46) X 0 dX5_inTheWay_46 rfl ?_
      refine v_if_lt (pc := 48) X 64 dX5_inTheWay_48 (by decide) (fun c => ?_) (fun c => ?_)
      · replace hf := if_t c hf
        refine v_iinc (pc := 64) X 4 (v := s.2 + (1 : Int32)) (lv' := [(3, .int (s.2 + (1 : Int32))), (4, .int r15), (0, .ref x0), (1, .int x1), (2, .int s.1)]) dX5_inTheWay_64 rfl rfl (Nat.le_of_ble_eq_true rfl) rfl ?_
        refine v_goto (pc := 67) X 17 dX5_inTheWay_67 (by decide) ?_
        refine v_sub [2, 3, 4, 0] rfl ?_
        exact ih (s.1, s.2 + (1 : Int32)) h16 hf
      · replace hf := if_f c hf
        refine v_iload_n (pc := 51) X 3 dX5_inTheWay_51 rfl rfl ?_
        refine v_if_lt (pc := 52) X 61 dX5_inTheWay_52 (by decide) (fun c => ?_) (fun c => ?_)
        · replace hf := if_t c hf
          refine v_iload (pc := 61) X 0 dX5_inTheWay_61 rfl ?_
          refine v_istore_n (pc := 63) X (i := 2) (lv' := [(2, .int r15), (4, .int r15), (0, .ref x0), (1, .int x1), (3, .int s.2)]) dX5_inTheWay_63 rfl (Nat.le_of_ble_eq_true rfl) rfl ?_
          refine v_iinc (pc := 64) X 4 (v := s.2 + (1 : Int32)) (lv' := [(3, .int (s.2 + (1 : Int32))), (2, .int r15), (4, .int r15), (0, .ref x0), (1, .int x1)]) dX5_inTheWay_64 rfl rfl (Nat.le_of_ble_eq_true rfl) rfl ?_
          refine v_goto (pc := 67) X 17 dX5_inTheWay_67 (by decide) ?_
          refine v_sub [3, 4, 1, 0] rfl ?_
          exact ih (r15, s.2 + (1 : Int32)) h16 hf
        · replace hf := if_f c hf
          refine v_iload (pc := 55) X 0 dX5_inTheWay_55 rfl ?_
          refine v_iload_n (pc := 57) X 3 dX5_inTheWay_57 rfl rfl ?_
          refine v_icmp_ge (pc := 58) X 64 dX5_inTheWay_58 (by decide) (fun c => ?_) (fun c => ?_)
          · replace hf := if_t c hf
            refine v_iinc (pc := 64) X 4 (v := s.2 + (1 : Int32)) (lv' := [(3, .int (s.2 + (1 : Int32))), (4, .int r15), (0, .ref x0), (1, .int x1), (2, .int s.1)]) dX5_inTheWay_64 rfl rfl (Nat.le_of_ble_eq_true rfl) rfl ?_
            refine v_goto (pc := 67) X 17 dX5_inTheWay_67 (by decide) ?_
            refine v_sub [2, 3, 4, 0] rfl ?_
            exact ih (s.1, s.2 + (1 : Int32)) h16 hf
          · replace hf := if_f c hf
            refine v_iload (pc := 61) X 0 dX5_inTheWay_61 rfl ?_
            refine v_istore_n (pc := 63) X (i := 2) (lv' := [(2, .int r15), (4, .int r15), (0, .ref x0), (1, .int x1), (3, .int s.2)]) dX5_inTheWay_63 rfl (Nat.le_of_ble_eq_true rfl) rfl ?_
            refine v_iinc (pc := 64) X 4 (v := s.2 + (1 : Int32)) (lv' := [(3, .int (s.2 + (1 : Int32))), (2, .int r15), (4, .int r15), (0, .ref x0), (1, .int x1)]) dX5_inTheWay_64 rfl rfl (Nat.le_of_ble_eq_true rfl) rfl ?_
            refine v_goto (pc := 67) X 17 dX5_inTheWay_67 (by decide) ?_
            refine v_sub [3, 4, 1, 0] rfl ?_
            exact ih (r15, s.2 + (1 : Int32)) h16 hf

set_option maxHeartbeats 4000000 in
set_option maxRecDepth 100000 in
theorem c_X5_inTheWay (l : Launch) (D : va_G) (cA : Nat → ClassId) (L : List Nat) (sh : Sh) (a0 : Nat) (p1 : Int32) (h : Hp) (K : Int32 → Hp → Prop) (hf : f_X5_inTheWay sh a0 p1 h K) : Met l yX5_inTheWay (wM yX5_inTheWay cX5_inTheWay 5 (some .int)) ({ frames := 2, cells := 0, slots := 0, locals := 47 } : Room) (PreM D cA L sh h [.ref a0, .int p1]) (QI D cA L sh K) 0 0 (fun q => q ∈ L) := by
  refine met_v (cc := cX5_inTheWay) (nL := 5) (ret := (some .int)) [(0, .ref a0), (1, .int p1)] (by decide) rfl (Nat.le_of_ble_eq_true rfl) rfl ?_
  intro p e s0 m below meth c X hr hlk
  have k10 := X.ht _ (inM _ q_173)
  have k94 := X.ht _ (inM _ q_137)
  have k77 := X.ht _ (inM _ q_123)
  unfold f_X5_inTheWay at hf
  refine v_iload_n (pc := 0) X 1 dX5_inTheWay_0 rfl rfl ?_
  refine v_if_lt (pc := 1) X 10 dX5_inTheWay_1 (by decide) (fun c => ?_) (fun c => ?_)
  · replace hf := if_t c hf
    refine v_iconst (pc := 10) X (v := (-1 : Int32)) dX5_inTheWay_10 (by decide) ?_
    exact v_iret (pc := 11) X hr hlk dX5_inTheWay_11 hf
  · replace hf := if_f c hf
    refine v_iload_n (pc := 4) X 1 dX5_inTheWay_4 rfl rfl ?_
    refine v_bipush (pc := 5) X (v := (6 : Int32)) dX5_inTheWay_5 (by decide) ?_
    refine v_icmp_lt (pc := 7) X 12 dX5_inTheWay_7 (by decide) (fun c => ?_) (fun c => ?_)
    · replace hf := if_t c hf
      refine v_bipush (pc := 12) X (v := (-4 : Int32)) dX5_inTheWay_12 (by decide) ?_
      refine v_istore_n (pc := 14) X (i := 2) (lv' := [(2, .int (-4 : Int32)), (0, .ref a0), (1, .int p1)]) dX5_inTheWay_14 rfl (Nat.le_of_ble_eq_true rfl) rfl ?_
      refine v_iconst (pc := 15) X (v := (0 : Int32)) dX5_inTheWay_15 (by decide) ?_
      refine v_istore_n (pc := 16) X (i := 3) (lv' := [(3, .int (0 : Int32)), (2, .int (-4 : Int32)), (0, .ref a0), (1, .int p1)]) dX5_inTheWay_16 rfl (Nat.le_of_ble_eq_true rfl) rfl ?_
      obtain ⟨n, hf⟩ := hf
      refine v_sub [2, 3, 1, 0] rfl ?_
      refine w_X5_inTheWay_17 X hr hlk a0 p1 _ K (fun y17 h18 hf => ?_) n ((-4 : Int32), (0 : Int32)) h hf
      refine v_iload_n (pc := 70) X 0 dX5_inTheWay_70 rfl rfl ?_
      exact v_iret (pc := 71) X hr hlk dX5_inTheWay_71 hf
    · replace hf := if_f c hf
      refine v_iconst (pc := 10) X (v := (-1 : Int32)) dX5_inTheWay_10 (by decide) ?_
      exact v_iret (pc := 11) X hr hlk dX5_inTheWay_11 hf
set_option maxHeartbeats 4000000 in
set_option maxRecDepth 100000 in
theorem c_X5_sessionOf (l : Launch) (D : va_G) (cA : Nat → ClassId) (L : List Nat) (sh : Sh) (a0 : Nat) (p1 : Int32) (p2 : Int32) (h : Hp) (K : Int32 → Hp → Prop) (hf : f_X5_sessionOf sh a0 p1 p2 h K) : Met l yX5_sessionOf (wM yX5_sessionOf cX5_sessionOf 4 (some .int)) ({ frames := 1, cells := 0, slots := 0, locals := 22 } : Room) (PreM D cA L sh h [.ref a0, .int p1, .int p2]) (QI D cA L sh K) 0 0 (fun q => q ∈ L) := by
  refine met_v (cc := cX5_sessionOf) (nL := 4) (ret := (some .int)) [(0, .ref a0), (1, .int p1), (2, .int p2)] (by decide) rfl (Nat.le_of_ble_eq_true rfl) rfl ?_
  intro p e s0 m below meth c X hr hlk
  have k10 := X.ht _ (inM _ q_173)
  have k94 := X.ht _ (inM _ q_137)
  have k98 := X.ht _ (inM _ q_88)
  have k107 := X.ht _ (inM _ q_103)
  have k116 := X.ht _ (inM _ q_90)
  have k119 := X.ht _ (inM _ q_92)
  have k122 := X.ht _ (inM _ q_95)
  have k125 := X.ht _ (inM _ q_98)
  have k128 := X.ht _ (inM _ q_100)
  unfold f_X5_sessionOf at hf
  refine v_iload_n (pc := 0) X 1 dX5_sessionOf_0 rfl rfl ?_
  refine v_if_lt (pc := 1) X 9 dX5_sessionOf_1 (by decide) (fun c => ?_) (fun c => ?_)
  · replace hf := if_t c hf
    refine v_iconst (pc := 9) X (v := (-1 : Int32)) dX5_sessionOf_9 (by decide) ?_
    exact v_iret (pc := 10) X hr hlk dX5_sessionOf_10 hf
  · replace hf := if_f c hf
    refine v_iload_n (pc := 4) X 1 dX5_sessionOf_4 rfl rfl ?_
    refine v_iconst (pc := 5) X (v := (4 : Int32)) dX5_sessionOf_5 (by decide) ?_
    refine v_icmp_lt (pc := 6) X 11 dX5_sessionOf_6 (by decide) (fun c => ?_) (fun c => ?_)
    · replace hf := if_t c hf
      refine v_aload_n (pc := 11) X 0 dX5_sessionOf_11 rfl rfl ?_
      obtain ⟨t1, hf⟩ := hf
      obtain ⟨q2, e_q2, hf⟩ := hf
      refine ge_5_0 (pc := 12) X (fun w h => inM w (inG5 w h)) k10 t1 e_q2 dX5_sessionOf_12 ?_
      obtain ⟨t3, hf⟩ := hf
      obtain ⟨q4, e_q4, hf⟩ := hf
      refine ge_2_11 (pc := 15) X (fun w h => inM w (inG2 w h)) k94 t3 e_q4 dX5_sessionOf_15 ?_
      refine v_iload_n (pc := 18) X 1 dX5_sessionOf_18 rfl rfl ?_
      obtain ⟨t5, hf⟩ := hf
      obtain ⟨b7, q6, e_q6, hf⟩ := hf
      refine v_aald_9 (pc := 19) X t5 b7 e_q6 dX5_sessionOf_19 ?_
      refine v_astore_n (pc := 20) X (i := 3) (lv' := [(3, .ref q6), (0, .ref a0), (1, .int p1), (2, .int p2)]) dX5_sessionOf_20 rfl (Nat.le_of_ble_eq_true rfl) rfl ?_
      refine v_iload_n (pc := 21) X 3 dX5_sessionOf_21 rfl rfl ?_
      by_cases c0 : p2 = (0 : Int32)
      · replace hf := if_t c0 hf
        refine v_tableIn (pc := 22) X (off := 54) 76 dX5_sessionOf_22 (by rw [c0]; decide) (by rw [c0]; decide) (by rw [c0]; decide) (by decide) ?_
        refine v_aload_n (pc := 76) X 0 dX5_sessionOf_76 rfl rfl ?_
        obtain ⟨t8, hf⟩ := hf
        obtain ⟨v9, e_v9, hf⟩ := hf
        refine ge_1_0 (pc := 77) X (fun w h => inM w (inG1 w h)) k98 t8 e_v9 dX5_sessionOf_77 ?_
        exact v_iret (pc := 80) X hr hlk dX5_sessionOf_80 hf
      replace hf := if_f c0 hf
      by_cases c1 : p2 = (1 : Int32)
      · replace hf := if_t c1 hf
        refine v_tableIn (pc := 22) X (off := 59) 81 dX5_sessionOf_22 (by rw [c1]; decide) (by rw [c1]; decide) (by rw [c1]; decide) (by decide) ?_
        refine v_aload_n (pc := 81) X 1 dX5_sessionOf_81 rfl rfl ?_
        obtain ⟨q10, e_q10, hf⟩ := hf
        refine ge_5_0 (pc := 82) X (fun w h => inM w (inG5 w h)) k10 t1 e_q10 dX5_sessionOf_82 ?_
        obtain ⟨t11, hf⟩ := hf
        refine v_callVI (pc := 85) X (As := []) (rest := []) (c_X2_noticesOnTheirWay l D cA L sh q10 h _ hf) (cwV 0 X.ht (gwV inM q_387 q_388 q_389 q_2 q_390) rfl rfl rfl (by decide +kernel) ⟨Nat.le_of_ble_eq_true rfl, Nat.le_of_ble_eq_true rfl⟩) rfl (by decide) t11 (ent_2 t11) rfl rfl (Nat.le_of_ble_eq_true rfl) ⟨Nat.zero_le _, Nat.zero_le _⟩ dX5_sessionOf_85 (fun r12 h13 hf => ?_)
        exact v_iret (pc := 88) X hr hlk dX5_sessionOf_88 hf
      replace hf := if_f c1 hf
      by_cases c2 : p2 = (2 : Int32)
      · replace hf := if_t c2 hf
        refine v_tableIn (pc := 22) X (off := 67) 89 dX5_sessionOf_22 (by rw [c2]; decide) (by rw [c2]; decide) (by rw [c2]; decide) (by decide) ?_
        refine v_aload_n (pc := 89) X 0 dX5_sessionOf_89 rfl rfl ?_
        obtain ⟨t14, hf⟩ := hf
        obtain ⟨v15, e_v15, hf⟩ := hf
        refine ge_1_6 (pc := 90) X (fun w h => inM w (inG1 w h)) k107 t14 e_v15 dX5_sessionOf_90 ?_
        exact v_iret (pc := 93) X hr hlk dX5_sessionOf_93 hf
      replace hf := if_f c2 hf
      by_cases c3 : p2 = (3 : Int32)
      · replace hf := if_t c3 hf
        refine v_tableIn (pc := 22) X (off := 72) 94 dX5_sessionOf_22 (by rw [c3]; decide) (by rw [c3]; decide) (by rw [c3]; decide) (by decide) ?_
        refine v_aload_n (pc := 94) X 0 dX5_sessionOf_94 rfl rfl ?_
        obtain ⟨t16, hf⟩ := hf
        refine v_callVI (pc := 95) X (As := []) (rest := []) (c_X1_staleInHand l D cA L sh q6 h _ hf) (cwV 0 X.ht (gwV inM q_391 q_392 q_393 q_3 q_394) rfl rfl rfl (by decide +kernel) ⟨Nat.le_of_ble_eq_true rfl, Nat.le_of_ble_eq_true rfl⟩) rfl (by decide) t16 (ent_1 t16) rfl rfl (Nat.le_of_ble_eq_true rfl) ⟨Nat.zero_le _, Nat.zero_le _⟩ dX5_sessionOf_95 (fun r17 h18 hf => ?_)
        exact v_iret (pc := 98) X hr hlk dX5_sessionOf_98 hf
      replace hf := if_f c3 hf
      by_cases c4 : p2 = (4 : Int32)
      · replace hf := if_t c4 hf
        refine v_tableIn (pc := 22) X (off := 77) 99 dX5_sessionOf_22 (by rw [c4]; decide) (by rw [c4]; decide) (by rw [c4]; decide) (by decide) ?_
        refine v_aload_n (pc := 99) X 0 dX5_sessionOf_99 rfl rfl ?_
        obtain ⟨t19, hf⟩ := hf
        refine v_callVI (pc := 100) X (As := []) (rest := []) (c_X1_statementsAtWork l D cA L sh q6 h _ hf) (cwV 0 X.ht (gwV inM q_395 q_227 q_228 q_3 q_229) rfl rfl rfl (by decide +kernel) ⟨Nat.le_of_ble_eq_true rfl, Nat.le_of_ble_eq_true rfl⟩) rfl (by decide) t19 (ent_1 t19) rfl rfl (Nat.le_of_ble_eq_true rfl) ⟨Nat.zero_le _, Nat.zero_le _⟩ dX5_sessionOf_100 (fun r20 h21 hf => ?_)
        exact v_iret (pc := 103) X hr hlk dX5_sessionOf_103 hf
      replace hf := if_f c4 hf
      by_cases c5 : p2 = (5 : Int32)
      · replace hf := if_t c5 hf
        refine v_tableIn (pc := 22) X (off := 82) 104 dX5_sessionOf_22 (by rw [c5]; decide) (by rw [c5]; decide) (by rw [c5]; decide) (by decide) ?_
        refine v_aload_n (pc := 104) X 0 dX5_sessionOf_104 rfl rfl ?_
        obtain ⟨t22, hf⟩ := hf
        obtain ⟨v23, e_v23, hf⟩ := hf
        refine ge_1_1 (pc := 105) X (fun w h => inM w (inG1 w h)) k116 t22 e_v23 dX5_sessionOf_105 ?_
        exact v_iret (pc := 108) X hr hlk dX5_sessionOf_108 hf
      replace hf := if_f c5 hf
      by_cases c6 : p2 = (6 : Int32)
      · replace hf := if_t c6 hf
        refine v_tableIn (pc := 22) X (off := 87) 109 dX5_sessionOf_22 (by rw [c6]; decide) (by rw [c6]; decide) (by rw [c6]; decide) (by decide) ?_
        refine v_aload_n (pc := 109) X 0 dX5_sessionOf_109 rfl rfl ?_
        obtain ⟨t24, hf⟩ := hf
        obtain ⟨v25, e_v25, hf⟩ := hf
        refine ge_1_2 (pc := 110) X (fun w h => inM w (inG1 w h)) k119 t24 e_v25 dX5_sessionOf_110 ?_
        exact v_iret (pc := 113) X hr hlk dX5_sessionOf_113 hf
      replace hf := if_f c6 hf
      by_cases c7 : p2 = (7 : Int32)
      · replace hf := if_t c7 hf
        refine v_tableIn (pc := 22) X (off := 92) 114 dX5_sessionOf_22 (by rw [c7]; decide) (by rw [c7]; decide) (by rw [c7]; decide) (by decide) ?_
        refine v_aload_n (pc := 114) X 0 dX5_sessionOf_114 rfl rfl ?_
        obtain ⟨t26, hf⟩ := hf
        obtain ⟨v27, e_v27, hf⟩ := hf
        refine ge_1_3 (pc := 115) X (fun w h => inM w (inG1 w h)) k122 t26 e_v27 dX5_sessionOf_115 ?_
        exact v_iret (pc := 118) X hr hlk dX5_sessionOf_118 hf
      replace hf := if_f c7 hf
      by_cases c8 : p2 = (8 : Int32)
      · replace hf := if_t c8 hf
        refine v_tableIn (pc := 22) X (off := 97) 119 dX5_sessionOf_22 (by rw [c8]; decide) (by rw [c8]; decide) (by rw [c8]; decide) (by decide) ?_
        refine v_aload_n (pc := 119) X 0 dX5_sessionOf_119 rfl rfl ?_
        obtain ⟨t28, hf⟩ := hf
        obtain ⟨v29, e_v29, hf⟩ := hf
        refine ge_1_4 (pc := 120) X (fun w h => inM w (inG1 w h)) k125 t28 e_v29 dX5_sessionOf_120 ?_
        exact v_iret (pc := 123) X hr hlk dX5_sessionOf_123 hf
      replace hf := if_f c8 hf
      by_cases c9 : p2 = (9 : Int32)
      · replace hf := if_t c9 hf
        refine v_tableIn (pc := 22) X (off := 102) 124 dX5_sessionOf_22 (by rw [c9]; decide) (by rw [c9]; decide) (by rw [c9]; decide) (by decide) ?_
        refine v_aload_n (pc := 124) X 0 dX5_sessionOf_124 rfl rfl ?_
        obtain ⟨t30, hf⟩ := hf
        obtain ⟨v31, e_v31, hf⟩ := hf
        refine ge_1_5 (pc := 125) X (fun w h => inM w (inG1 w h)) k128 t30 e_v31 dX5_sessionOf_125 ?_
        exact v_iret (pc := 128) X hr hlk dX5_sessionOf_128 hf
      replace hf := if_f c9 hf
      refine v_tableOut (pc := 22) X 129 dX5_sessionOf_22 (tab_out_0_9 c0 c1 c2 c3 c4 c5 c6 c7 c8 c9) (by decide) ?_
      refine v_iconst (pc := 129) X (v := (-1 : Int32)) dX5_sessionOf_129 (by decide) ?_
      exact v_iret (pc := 130) X hr hlk dX5_sessionOf_130 hf
    · replace hf := if_f c hf
      refine v_iconst (pc := 9) X (v := (-1 : Int32)) dX5_sessionOf_9 (by decide) ?_
      exact v_iret (pc := 10) X hr hlk dX5_sessionOf_10 hf
set_option maxHeartbeats 4000000 in
set_option maxRecDepth 100000 in
theorem c_X5_set (l : Launch) (D : va_G) (cA : Nat → ClassId) (L : List Nat) (sh : Sh) (a0 : Nat) (p1 : Int32) (p2 : Int32) (h : Hp) (K : Int32 → Hp → Prop) (hf : f_X5_set sh a0 p1 p2 h K) : Met l yX5_set (wM yX5_set cX5_set 3 (some .int)) ({ frames := 3, cells := 0, slots := 0, locals := 70 } : Room) (PreM D cA L sh h [.ref a0, .int p1, .int p2]) (QI D cA L sh K) 0 0 (fun q => q ∈ L) := by
  refine met_v (cc := cX5_set) (nL := 3) (ret := (some .int)) [(0, .ref a0), (1, .int p1), (2, .int p2)] (by decide) rfl (Nat.le_of_ble_eq_true rfl) rfl ?_
  intro p e s0 m below meth c X hr hlk
  have k19 := X.ht _ (inM _ q_174)
  have k10 := X.ht _ (inM _ q_173)
  unfold f_X5_set at hf
  refine v_aload_n (pc := 0) X 0 dX5_set_0 rfl rfl ?_
  obtain ⟨t1, hf⟩ := hf
  obtain ⟨q2, e_q2, hf⟩ := hf
  refine ge_5_1 (pc := 1) X (fun w h => inM w (inG5 w h)) k19 t1 e_q2 dX5_set_1 ?_
  refine v_aload_n (pc := 4) X 0 dX5_set_4 rfl rfl ?_
  obtain ⟨q3, e_q3, hf⟩ := hf
  refine ge_5_0 (pc := 5) X (fun w h => inM w (inG5 w h)) k10 t1 e_q3 dX5_set_5 ?_
  obtain ⟨t4, hf⟩ := hf
  refine v_callVV (pc := 8) X (As := [.ref q3]) (rest := []) (c_X2_copyFrom l D cA L sh q2 q3 h _ hf) (cwV 1 X.ht (gwV inM q_320 q_321 q_322 q_2 q_323) rfl rfl rfl (by decide +kernel) ⟨Nat.le_of_ble_eq_true rfl, Nat.le_of_ble_eq_true rfl⟩) rfl (by decide) t4 (ent_2 t4) rfl rfl (Nat.le_of_ble_eq_true rfl) ⟨Nat.zero_le _, Nat.zero_le _⟩ dX5_set_8 (fun h6 hf => ?_)
  refine v_aload_n (pc := 11) X 0 dX5_set_11 rfl rfl ?_
  refine v_aload_n (pc := 12) X 0 dX5_set_12 rfl rfl ?_
  obtain ⟨q7, e_q7, hf⟩ := hf
  refine ge_5_1 (pc := 13) X (fun w h => inM w (inG5 w h)) k19 t1 e_q7 dX5_set_13 ?_
  refine v_iload_n (pc := 16) X 1 dX5_set_16 rfl rfl ?_
  refine v_iload_n (pc := 17) X 2 dX5_set_17 rfl rfl ?_
  obtain ⟨t8, hf⟩ := hf
  refine v_callVI (pc := 18) X (As := [.int p1, .int p2]) (rest := [.ref a0]) (c_X2_adjust l D cA L sh q7 p1 p2 h6 _ hf) (cwV 2 X.ht (gwV inM q_353 q_354 q_355 q_2 q_356) rfl rfl rfl (by decide +kernel) ⟨Nat.le_of_ble_eq_true rfl, Nat.le_of_ble_eq_true rfl⟩) rfl (by decide) t8 (ent_2 t8) rfl rfl (Nat.le_of_ble_eq_true rfl) ⟨Nat.zero_le _, Nat.zero_le _⟩ dX5_set_18 (fun r9 h10 hf => ?_)
  refine v_callVI (pc := 21) X (As := [.int r9]) (rest := []) (c_X5_settle l D cA L sh a0 r9 h10 _ hf) (cwV 1 X.ht (gwV inM q_343 q_344 q_442 q_1 q_345) rfl rfl rfl (by decide +kernel) ⟨Nat.le_of_ble_eq_true rfl, Nat.le_of_ble_eq_true rfl⟩) rfl (by decide) t1 (ent_5 t1) rfl rfl (Nat.le_of_ble_eq_true rfl) ⟨Nat.zero_le _, Nat.zero_le _⟩ dX5_set_21 (fun r11 h12 hf => ?_)
  exact v_iret (pc := 24) X hr hlk dX5_set_24 hf
set_option maxHeartbeats 4000000 in
set_option maxRecDepth 100000 in
theorem c_X5_start (l : Launch) (D : va_G) (cA : Nat → ClassId) (L : List Nat) (sh : Sh) (a0 : Nat) (p1 : Int32) (p2 : Int32) (h : Hp) (K : Int32 → Hp → Prop) (hf : f_X5_start sh a0 p1 p2 h K) : Met l yX5_start (wM yX5_start cX5_start 3 (some .int)) ({ frames := 4, cells := 0, slots := 0, locals := 99 } : Room) (PreM D cA L sh h [.ref a0, .int p1, .int p2]) (QI D cA L sh K) 0 0 (fun q => q ∈ L) := by
  refine met_v (cc := cX5_start) (nL := 3) (ret := (some .int)) [(0, .ref a0), (1, .int p1), (2, .int p2)] (by decide) rfl (Nat.le_of_ble_eq_true rfl) rfl ?_
  intro p e s0 m below meth c X hr hlk
  have k19 := X.ht _ (inM _ q_174)
  have k10 := X.ht _ (inM _ q_173)
  unfold f_X5_start at hf
  refine v_aload_n (pc := 0) X 0 dX5_start_0 rfl rfl ?_
  obtain ⟨t1, hf⟩ := hf
  obtain ⟨q2, e_q2, hf⟩ := hf
  refine ge_5_1 (pc := 1) X (fun w h => inM w (inG5 w h)) k19 t1 e_q2 dX5_start_1 ?_
  refine v_aload_n (pc := 4) X 0 dX5_start_4 rfl rfl ?_
  obtain ⟨q3, e_q3, hf⟩ := hf
  refine ge_5_0 (pc := 5) X (fun w h => inM w (inG5 w h)) k10 t1 e_q3 dX5_start_5 ?_
  obtain ⟨t4, hf⟩ := hf
  refine v_callVV (pc := 8) X (As := [.ref q3]) (rest := []) (c_X2_copyFrom l D cA L sh q2 q3 h _ hf) (cwV 1 X.ht (gwV inM q_320 q_321 q_322 q_2 q_323) rfl rfl rfl (by decide +kernel) ⟨Nat.le_of_ble_eq_true rfl, Nat.le_of_ble_eq_true rfl⟩) rfl (by decide) t4 (ent_2 t4) rfl rfl (Nat.le_of_ble_eq_true rfl) ⟨Nat.zero_le _, Nat.zero_le _⟩ dX5_start_8 (fun h6 hf => ?_)
  refine v_aload_n (pc := 11) X 0 dX5_start_11 rfl rfl ?_
  refine v_aload_n (pc := 12) X 0 dX5_start_12 rfl rfl ?_
  obtain ⟨q7, e_q7, hf⟩ := hf
  refine ge_5_1 (pc := 13) X (fun w h => inM w (inG5 w h)) k19 t1 e_q7 dX5_start_13 ?_
  refine v_iload_n (pc := 16) X 1 dX5_start_16 rfl rfl ?_
  refine v_iload_n (pc := 17) X 2 dX5_start_17 rfl rfl ?_
  obtain ⟨t8, hf⟩ := hf
  refine v_callVI (pc := 18) X (As := [.int p1, .int p2]) (rest := [.ref a0]) (c_X2_begin l D cA L sh q7 p1 p2 h6 _ hf) (cwV 2 X.ht (gwV inM q_249 q_250 q_251 q_2 q_252) rfl rfl rfl (by decide +kernel) ⟨Nat.le_of_ble_eq_true rfl, Nat.le_of_ble_eq_true rfl⟩) rfl (by decide) t8 (ent_2 t8) rfl rfl (Nat.le_of_ble_eq_true rfl) ⟨Nat.zero_le _, Nat.zero_le _⟩ dX5_start_18 (fun r9 h10 hf => ?_)
  refine v_callVI (pc := 21) X (As := [.int r9]) (rest := []) (c_X5_settle l D cA L sh a0 r9 h10 _ hf) (cwV 1 X.ht (gwV inM q_343 q_344 q_442 q_1 q_345) rfl rfl rfl (by decide +kernel) ⟨Nat.le_of_ble_eq_true rfl, Nat.le_of_ble_eq_true rfl⟩) rfl (by decide) t1 (ent_5 t1) rfl rfl (Nat.le_of_ble_eq_true rfl) ⟨Nat.zero_le _, Nat.zero_le _⟩ dX5_start_21 (fun r11 h12 hf => ?_)
  exact v_iret (pc := 24) X hr hlk dX5_start_24 hf
set_option maxHeartbeats 4000000 in
set_option maxRecDepth 100000 in
theorem c_X5_statement (l : Launch) (D : va_G) (cA : Nat → ClassId) (L : List Nat) (sh : Sh) (a0 : Nat) (p1 : Int32) (p2 : Int32) (h : Hp) (K : Int32 → Hp → Prop) (hf : f_X5_statement sh a0 p1 p2 h K) : Met l yX5_statement (wM yX5_statement cX5_statement 5 (some .int)) ({ frames := 3, cells := 0, slots := 0, locals := 65 } : Room) (PreM D cA L sh h [.ref a0, .int p1, .int p2]) (QI D cA L sh K) 0 0 (fun q => q ∈ L) := by
  refine met_v (cc := cX5_statement) (nL := 5) (ret := (some .int)) [(0, .ref a0), (1, .int p1), (2, .int p2)] (by decide) rfl (Nat.le_of_ble_eq_true rfl) rfl ?_
  intro p e s0 m below meth c X hr hlk
  have k10 := X.ht _ (inM _ q_173)
  have k94 := X.ht _ (inM _ q_137)
  have k160 := X.ht _ (inM _ q_75)
  have k165 := X.ht _ (inM _ q_79)
  have k77 := X.ht _ (inM _ q_123)
  unfold f_X5_statement at hf
  refine v_iload_n (pc := 0) X 1 dX5_statement_0 rfl rfl ?_
  refine v_if_lt (pc := 1) X 13 dX5_statement_1 (by decide) (fun c => ?_) (fun c => ?_)
  · replace hf := if_t c hf
    refine v_iconst (pc := 13) X (v := (-1 : Int32)) dX5_statement_13 (by decide) ?_
    exact v_iret (pc := 14) X hr hlk dX5_statement_14 hf
  · replace hf := if_f c hf
    refine v_iload_n (pc := 4) X 2 dX5_statement_4 rfl rfl ?_
    refine v_if_lt (pc := 5) X 13 dX5_statement_5 (by decide) (fun c => ?_) (fun c => ?_)
    · replace hf := if_t c hf
      refine v_iconst (pc := 13) X (v := (-1 : Int32)) dX5_statement_13 (by decide) ?_
      exact v_iret (pc := 14) X hr hlk dX5_statement_14 hf
    · replace hf := if_f c hf
      refine v_iload_n (pc := 8) X 2 dX5_statement_8 rfl rfl ?_
      refine v_iconst (pc := 9) X (v := (3 : Int32)) dX5_statement_9 (by decide) ?_
      refine v_icmp_le (pc := 10) X 15 dX5_statement_10 (by decide) (fun c => ?_) (fun c => ?_)
      · replace hf := if_t c hf
        refine v_aload_n (pc := 15) X 0 dX5_statement_15 rfl rfl ?_
        obtain ⟨t1, hf⟩ := hf
        obtain ⟨q2, e_q2, hf⟩ := hf
        refine ge_5_0 (pc := 16) X (fun w h => inM w (inG5 w h)) k10 t1 e_q2 dX5_statement_16 ?_
        refine v_iload_n (pc := 19) X 1 dX5_statement_19 rfl rfl ?_
        obtain ⟨t3, hf⟩ := hf
        refine v_callVI (pc := 20) X (As := [.int p1]) (rest := []) (c_X2_sessionWith l D cA L sh q2 p1 h _ hf) (cwV 1 X.ht (gwV inM q_413 q_414 q_415 q_2 q_416) rfl rfl rfl (by decide +kernel) ⟨Nat.le_of_ble_eq_true rfl, Nat.le_of_ble_eq_true rfl⟩) rfl (by decide) t3 (ent_2 t3) rfl rfl (Nat.le_of_ble_eq_true rfl) ⟨Nat.zero_le _, Nat.zero_le _⟩ dX5_statement_20 (fun r4 h5 hf => ?_)
        refine v_istore_n (pc := 23) X (i := 3) (lv' := [(3, .int r4), (0, .ref a0), (1, .int p1), (2, .int p2)]) dX5_statement_23 rfl (Nat.le_of_ble_eq_true rfl) rfl ?_
        refine v_iload_n (pc := 24) X 0 dX5_statement_24 rfl rfl ?_
        refine v_if_lt (pc := 25) X 33 dX5_statement_25 (by decide) (fun c => ?_) (fun c => ?_)
        · replace hf := if_t c hf
          refine v_bipush (pc := 33) X (v := (-4 : Int32)) dX5_statement_33 (by decide) ?_
          exact v_iret (pc := 35) X hr hlk dX5_statement_35 hf
        · replace hf := if_f c hf
          refine v_iload_n (pc := 28) X 0 dX5_statement_28 rfl rfl ?_
          refine v_iconst (pc := 29) X (v := (4 : Int32)) dX5_statement_29 (by decide) ?_
          refine v_icmp_lt (pc := 30) X 36 dX5_statement_30 (by decide) (fun c => ?_) (fun c => ?_)
          · replace hf := if_t c hf
            refine v_aload_n (pc := 36) X 1 dX5_statement_36 rfl rfl ?_
            obtain ⟨q6, e_q6, hf⟩ := hf
            refine ge_5_0 (pc := 37) X (fun w h => inM w (inG5 w h)) k10 t1 e_q6 dX5_statement_37 ?_
            obtain ⟨t7, hf⟩ := hf
            obtain ⟨q8, e_q8, hf⟩ := hf
            refine ge_2_11 (pc := 40) X (fun w h => inM w (inG2 w h)) k94 t7 e_q8 dX5_statement_40 ?_
            refine v_iload_n (pc := 43) X 0 dX5_statement_43 rfl rfl ?_
            obtain ⟨t9, hf⟩ := hf
            obtain ⟨b11, q10, e_q10, hf⟩ := hf
            refine v_aald_9 (pc := 44) X t9 b11 e_q10 dX5_statement_44 ?_
            refine v_iload_n (pc := 45) X 2 dX5_statement_45 rfl rfl ?_
            obtain ⟨t12, hf⟩ := hf
            refine v_callVN (pc := 46) X (As := [.int p1]) (rest := []) (c_X1_workOf l D cA L sh q10 p1 h5 _ hf) (cwV 1 X.ht (gwV inM q_417 q_294 q_295 q_3 q_296) rfl rfl rfl (by decide +kernel) ⟨Nat.le_of_ble_eq_true rfl, Nat.le_of_ble_eq_true rfl⟩) rfl (by decide) t12 (ent_1 t12) rfl rfl (Nat.le_of_ble_eq_true rfl) ⟨Nat.zero_le _, Nat.zero_le _⟩ dX5_statement_46 (fun r13 h14 hf => ?_)
            rcases r13 with _ | q15
            · replace hf := hf.1 rfl
              refine v_astoreN (pc := 49) X (i := 4) (lv' := [(4, .null), (3, .int r4), (0, .ref a0), (1, .int p1), (2, .int p2)]) dX5_statement_49 (Nat.le_of_ble_eq_true rfl) rfl ?_
              refine v_aloadN (pc := 51) X 0 dX5_statement_51 rfl ?_
              refine v_ifnonnullN (pc := 53) X dX5_statement_53 ?_
              refine v_bipush (pc := 56) X (v := (-4 : Int32)) dX5_statement_56 (by decide) ?_
              exact v_iret (pc := 58) X hr hlk dX5_statement_58 hf
            · replace hf := hf.2 q15 rfl
              refine v_astore (pc := 49) X (i := 4) (lv' := [(4, .ref q15), (3, .int r4), (0, .ref a0), (1, .int p1), (2, .int p2)]) dX5_statement_49 (Nat.le_of_ble_eq_true rfl) rfl ?_
              refine v_aload (pc := 51) X 0 dX5_statement_51 rfl ?_
              refine v_ifnonnull (pc := 53) X 59 dX5_statement_53 (by decide) ?_
              refine v_iload_n (pc := 59) X 4 dX5_statement_59 rfl rfl ?_
              by_cases c0 : p2 = (0 : Int32)
              · replace hf := if_t c0 hf
                refine v_tableIn (pc := 60) X (off := 28) 88 dX5_statement_60 (by rw [c0]; decide) (by rw [c0]; decide) (by rw [c0]; decide) (by decide) ?_
                refine v_iload_n (pc := 88) X 1 dX5_statement_88 rfl rfl ?_
                exact v_iret (pc := 89) X hr hlk dX5_statement_89 hf
              replace hf := if_f c0 hf
              by_cases c1 : p2 = (1 : Int32)
              · replace hf := if_t c1 hf
                refine v_tableIn (pc := 60) X (off := 30) 90 dX5_statement_60 (by rw [c1]; decide) (by rw [c1]; decide) (by rw [c1]; decide) (by decide) ?_
                refine v_aload (pc := 90) X 0 dX5_statement_90 rfl ?_
                obtain ⟨t16, hf⟩ := hf
                obtain ⟨v17, e_v17, hf⟩ := hf
                refine ge_4_1 (pc := 92) X (fun w h => inM w (inG4 w h)) k160 t16 e_v17 dX5_statement_92 ?_
                exact v_iret (pc := 95) X hr hlk dX5_statement_95 hf
              replace hf := if_f c1 hf
              by_cases c2 : p2 = (2 : Int32)
              · replace hf := if_t c2 hf
                refine v_tableIn (pc := 60) X (off := 36) 96 dX5_statement_60 (by rw [c2]; decide) (by rw [c2]; decide) (by rw [c2]; decide) (by decide) ?_
                refine v_aload (pc := 96) X 0 dX5_statement_96 rfl ?_
                obtain ⟨t18, hf⟩ := hf
                obtain ⟨v19, e_v19, hf⟩ := hf
                refine ge_4_2 (pc := 98) X (fun w h => inM w (inG4 w h)) k165 t18 e_v19 dX5_statement_98 ?_
                exact v_iret (pc := 101) X hr hlk dX5_statement_101 hf
              replace hf := if_f c2 hf
              refine v_tableOut (pc := 60) X 102 dX5_statement_60 (tab_out_0_2 c0 c1 c2) (by decide) ?_
              refine v_aload (pc := 102) X 0 dX5_statement_102 rfl ?_
              refine v_aload_n (pc := 104) X 2 dX5_statement_104 rfl rfl ?_
              obtain ⟨q20, e_q20, hf⟩ := hf
              refine ge_5_0 (pc := 105) X (fun w h => inM w (inG5 w h)) k10 t1 e_q20 dX5_statement_105 ?_
              obtain ⟨t21, hf⟩ := hf
              obtain ⟨q22, e_q22, hf⟩ := hf
              refine ge_2_3 (pc := 108) X (fun w h => inM w (inG2 w h)) k77 t21 e_q22 dX5_statement_108 ?_
              obtain ⟨t23, hf⟩ := hf
              refine v_callVI (pc := 111) X (As := [.ref q22]) (rest := []) (c_X4_outrunBy l D cA L sh q15 q22 h14 _ hf) (cwV 1 X.ht (gwV inM q_418 q_419 q_420 q_5 q_421) rfl rfl rfl (by decide +kernel) ⟨Nat.le_of_ble_eq_true rfl, Nat.le_of_ble_eq_true rfl⟩) rfl (by decide) t23 (ent_4 t23) rfl rfl (Nat.le_of_ble_eq_true rfl) ⟨Nat.zero_le _, Nat.zero_le _⟩ dX5_statement_111 (fun r24 h25 hf => ?_)
              exact v_iret (pc := 114) X hr hlk dX5_statement_114 hf
          · replace hf := if_f c hf
            refine v_bipush (pc := 33) X (v := (-4 : Int32)) dX5_statement_33 (by decide) ?_
            exact v_iret (pc := 35) X hr hlk dX5_statement_35 hf
      · replace hf := if_f c hf
        refine v_iconst (pc := 13) X (v := (-1 : Int32)) dX5_statement_13 (by decide) ?_
        exact v_iret (pc := 14) X hr hlk dX5_statement_14 hf
set_option maxHeartbeats 4000000 in
set_option maxRecDepth 100000 in
theorem c_X5_tableOf (l : Launch) (D : va_G) (cA : Nat → ClassId) (L : List Nat) (sh : Sh) (a0 : Nat) (p1 : Int32) (p2 : Int32) (h : Hp) (K : Int32 → Hp → Prop) (hf : f_X5_tableOf sh a0 p1 p2 h K) : Met l yX5_tableOf (wM yX5_tableOf cX5_tableOf 3 (some .int)) ({ frames := 3, cells := 0, slots := 0, locals := 68 } : Room) (PreM D cA L sh h [.ref a0, .int p1, .int p2]) (QI D cA L sh K) 0 0 (fun q => q ∈ L) := by
  refine met_v (cc := cX5_tableOf) (nL := 3) (ret := (some .int)) [(0, .ref a0), (1, .int p1), (2, .int p2)] (by decide) rfl (Nat.le_of_ble_eq_true rfl) rfl ?_
  intro p e s0 m below meth c X hr hlk
  have k10 := X.ht _ (inM _ q_173)
  have k77 := X.ht _ (inM _ q_123)
  have k81 := X.ht _ (inM _ q_125)
  unfold f_X5_tableOf at hf
  refine v_iload_n (pc := 0) X 1 dX5_tableOf_0 rfl rfl ?_
  refine v_if_lt (pc := 1) X 10 dX5_tableOf_1 (by decide) (fun c => ?_) (fun c => ?_)
  · replace hf := if_t c hf
    refine v_iconst (pc := 10) X (v := (-1 : Int32)) dX5_tableOf_10 (by decide) ?_
    exact v_iret (pc := 11) X hr hlk dX5_tableOf_11 hf
  · replace hf := if_f c hf
    refine v_iload_n (pc := 4) X 1 dX5_tableOf_4 rfl rfl ?_
    refine v_bipush (pc := 5) X (v := (6 : Int32)) dX5_tableOf_5 (by decide) ?_
    refine v_icmp_lt (pc := 7) X 12 dX5_tableOf_7 (by decide) (fun c => ?_) (fun c => ?_)
    · replace hf := if_t c hf
      refine v_iload_n (pc := 12) X 2 dX5_tableOf_12 rfl rfl ?_
      by_cases c0 : p2 = (0 : Int32)
      · replace hf := if_t c0 hf
        refine v_tableIn (pc := 13) X (off := 35) 48 dX5_tableOf_13 (by rw [c0]; decide) (by rw [c0]; decide) (by rw [c0]; decide) (by decide) ?_
        refine v_aload_n (pc := 48) X 0 dX5_tableOf_48 rfl rfl ?_
        obtain ⟨t1, hf⟩ := hf
        obtain ⟨q2, e_q2, hf⟩ := hf
        refine ge_5_0 (pc := 49) X (fun w h => inM w (inG5 w h)) k10 t1 e_q2 dX5_tableOf_49 ?_
        obtain ⟨t3, hf⟩ := hf
        obtain ⟨q4, e_q4, hf⟩ := hf
        refine ge_2_3 (pc := 52) X (fun w h => inM w (inG2 w h)) k77 t3 e_q4 dX5_tableOf_52 ?_
        refine v_iload_n (pc := 55) X 1 dX5_tableOf_55 rfl rfl ?_
        obtain ⟨t5, hf⟩ := hf
        obtain ⟨b7, v6, e_v6, hf⟩ := hf
        refine v_iald (pc := 56) X t5 b7 e_v6 dX5_tableOf_56 ?_
        exact v_iret (pc := 57) X hr hlk dX5_tableOf_57 hf
      replace hf := if_f c0 hf
      by_cases c1 : p2 = (1 : Int32)
      · replace hf := if_t c1 hf
        refine v_tableIn (pc := 13) X (off := 45) 58 dX5_tableOf_13 (by rw [c1]; decide) (by rw [c1]; decide) (by rw [c1]; decide) (by decide) ?_
        refine v_aload_n (pc := 58) X 0 dX5_tableOf_58 rfl rfl ?_
        obtain ⟨t8, hf⟩ := hf
        obtain ⟨q9, e_q9, hf⟩ := hf
        refine ge_5_0 (pc := 59) X (fun w h => inM w (inG5 w h)) k10 t8 e_q9 dX5_tableOf_59 ?_
        obtain ⟨t10, hf⟩ := hf
        obtain ⟨q11, e_q11, hf⟩ := hf
        refine ge_2_4 (pc := 62) X (fun w h => inM w (inG2 w h)) k81 t10 e_q11 dX5_tableOf_62 ?_
        refine v_iload_n (pc := 65) X 1 dX5_tableOf_65 rfl rfl ?_
        obtain ⟨t12, hf⟩ := hf
        obtain ⟨b14, v13, e_v13, hf⟩ := hf
        refine v_iald (pc := 66) X t12 b14 e_v13 dX5_tableOf_66 ?_
        exact v_iret (pc := 67) X hr hlk dX5_tableOf_67 hf
      replace hf := if_f c1 hf
      by_cases c2 : p2 = (2 : Int32)
      · replace hf := if_t c2 hf
        refine v_tableIn (pc := 13) X (off := 55) 68 dX5_tableOf_13 (by rw [c2]; decide) (by rw [c2]; decide) (by rw [c2]; decide) (by decide) ?_
        refine v_aload_n (pc := 68) X 0 dX5_tableOf_68 rfl rfl ?_
        obtain ⟨t15, hf⟩ := hf
        obtain ⟨q16, e_q16, hf⟩ := hf
        refine ge_5_0 (pc := 69) X (fun w h => inM w (inG5 w h)) k10 t15 e_q16 dX5_tableOf_69 ?_
        refine v_iload_n (pc := 72) X 1 dX5_tableOf_72 rfl rfl ?_
        obtain ⟨t17, hf⟩ := hf
        refine v_callVI (pc := 73) X (As := [.int p1]) (rest := []) (c_X2_leastVersionAtWork l D cA L sh q16 p1 h _ hf) (cwV 1 X.ht (gwV inM q_197 q_198 q_199 q_2 q_200) rfl rfl rfl (by decide +kernel) ⟨Nat.le_of_ble_eq_true rfl, Nat.le_of_ble_eq_true rfl⟩) rfl (by decide) t17 (ent_2 t17) rfl rfl (Nat.le_of_ble_eq_true rfl) ⟨Nat.zero_le _, Nat.zero_le _⟩ dX5_tableOf_73 (fun r18 h19 hf => ?_)
        exact v_iret (pc := 76) X hr hlk dX5_tableOf_76 hf
      replace hf := if_f c2 hf
      by_cases c3 : p2 = (3 : Int32)
      · replace hf := if_t c3 hf
        refine v_tableIn (pc := 13) X (off := 64) 77 dX5_tableOf_13 (by rw [c3]; decide) (by rw [c3]; decide) (by rw [c3]; decide) (by decide) ?_
        refine v_aload_n (pc := 77) X 0 dX5_tableOf_77 rfl rfl ?_
        obtain ⟨t20, hf⟩ := hf
        obtain ⟨q21, e_q21, hf⟩ := hf
        refine ge_5_0 (pc := 78) X (fun w h => inM w (inG5 w h)) k10 t20 e_q21 dX5_tableOf_78 ?_
        refine v_iload_n (pc := 81) X 1 dX5_tableOf_81 rfl rfl ?_
        obtain ⟨t22, hf⟩ := hf
        refine v_callVI (pc := 82) X (As := [.int p1]) (rest := []) (c_X2_handsWith l D cA L sh q21 p1 h _ hf) (cwV 1 X.ht (gwV inM q_205 q_206 q_207 q_2 q_208) rfl rfl rfl (by decide +kernel) ⟨Nat.le_of_ble_eq_true rfl, Nat.le_of_ble_eq_true rfl⟩) rfl (by decide) t22 (ent_2 t22) rfl rfl (Nat.le_of_ble_eq_true rfl) ⟨Nat.zero_le _, Nat.zero_le _⟩ dX5_tableOf_82 (fun r23 h24 hf => ?_)
        exact v_iret (pc := 85) X hr hlk dX5_tableOf_85 hf
      replace hf := if_f c3 hf
      by_cases c4 : p2 = (4 : Int32)
      · replace hf := if_t c4 hf
        refine v_tableIn (pc := 13) X (off := 73) 86 dX5_tableOf_13 (by rw [c4]; decide) (by rw [c4]; decide) (by rw [c4]; decide) (by decide) ?_
        refine v_aload_n (pc := 86) X 0 dX5_tableOf_86 rfl rfl ?_
        obtain ⟨t25, hf⟩ := hf
        obtain ⟨q26, e_q26, hf⟩ := hf
        refine ge_5_0 (pc := 87) X (fun w h => inM w (inG5 w h)) k10 t25 e_q26 dX5_tableOf_87 ?_
        refine v_iload_n (pc := 90) X 1 dX5_tableOf_90 rfl rfl ?_
        obtain ⟨t27, hf⟩ := hf
        refine v_callVI (pc := 91) X (As := [.int p1]) (rest := []) (c_X2_canChange l D cA L sh q26 p1 h _ hf) (cwV 1 X.ht (gwV inM q_213 q_214 q_215 q_2 q_216) rfl rfl rfl (by decide +kernel) ⟨Nat.le_of_ble_eq_true rfl, Nat.le_of_ble_eq_true rfl⟩) rfl (by decide) t27 (ent_2 t27) rfl rfl (Nat.le_of_ble_eq_true rfl) ⟨Nat.zero_le _, Nat.zero_le _⟩ dX5_tableOf_91 (fun r28 h29 hf => ?_)
        refine v_if_eq (pc := 94) X 101 dX5_tableOf_94 (by decide) (fun c => ?_) (fun c => ?_)
        · replace hf := if_t c hf
          refine v_iconst (pc := 101) X (v := (0 : Int32)) dX5_tableOf_101 (by decide) ?_
          exact v_iret (pc := 102) X hr hlk dX5_tableOf_102 hf
        · replace hf := if_f c hf
          refine v_iconst (pc := 97) X (v := (1 : Int32)) dX5_tableOf_97 (by decide) ?_
          refine v_goto (pc := 98) X 102 dX5_tableOf_98 (by decide) ?_
          exact v_iret (pc := 102) X hr hlk dX5_tableOf_102 hf
      replace hf := if_f c4 hf
      refine v_tableOut (pc := 13) X 103 dX5_tableOf_13 (tab_out_0_4 c0 c1 c2 c3 c4) (by decide) ?_
      refine v_iconst (pc := 103) X (v := (-1 : Int32)) dX5_tableOf_103 (by decide) ?_
      exact v_iret (pc := 104) X hr hlk dX5_tableOf_104 hf
    · replace hf := if_f c hf
      refine v_iconst (pc := 10) X (v := (-1 : Int32)) dX5_tableOf_10 (by decide) ?_
      exact v_iret (pc := 11) X hr hlk dX5_tableOf_11 hf
set_option maxHeartbeats 4000000 in
set_option maxRecDepth 100000 in
theorem c_X5_tick (l : Launch) (D : va_G) (cA : Nat → ClassId) (L : List Nat) (sh : Sh) (a0 : Nat) (p1 : Int32) (h : Hp) (K : Int32 → Hp → Prop) (hf : f_X5_tick sh a0 p1 h K) : Met l yX5_tick (wM yX5_tick cX5_tick 2 (some .int)) ({ frames := 4, cells := 0, slots := 0, locals := 95 } : Room) (PreM D cA L sh h [.ref a0, .int p1]) (QI D cA L sh K) 0 0 (fun q => q ∈ L) := by
  refine met_v (cc := cX5_tick) (nL := 2) (ret := (some .int)) [(0, .ref a0), (1, .int p1)] (by decide) rfl (Nat.le_of_ble_eq_true rfl) rfl ?_
  intro p e s0 m below meth c X hr hlk
  have k19 := X.ht _ (inM _ q_174)
  have k10 := X.ht _ (inM _ q_173)
  unfold f_X5_tick at hf
  refine v_aload_n (pc := 0) X 0 dX5_tick_0 rfl rfl ?_
  obtain ⟨t1, hf⟩ := hf
  obtain ⟨q2, e_q2, hf⟩ := hf
  refine ge_5_1 (pc := 1) X (fun w h => inM w (inG5 w h)) k19 t1 e_q2 dX5_tick_1 ?_
  refine v_aload_n (pc := 4) X 0 dX5_tick_4 rfl rfl ?_
  obtain ⟨q3, e_q3, hf⟩ := hf
  refine ge_5_0 (pc := 5) X (fun w h => inM w (inG5 w h)) k10 t1 e_q3 dX5_tick_5 ?_
  obtain ⟨t4, hf⟩ := hf
  refine v_callVV (pc := 8) X (As := [.ref q3]) (rest := []) (c_X2_copyFrom l D cA L sh q2 q3 h _ hf) (cwV 1 X.ht (gwV inM q_320 q_321 q_322 q_2 q_323) rfl rfl rfl (by decide +kernel) ⟨Nat.le_of_ble_eq_true rfl, Nat.le_of_ble_eq_true rfl⟩) rfl (by decide) t4 (ent_2 t4) rfl rfl (Nat.le_of_ble_eq_true rfl) ⟨Nat.zero_le _, Nat.zero_le _⟩ dX5_tick_8 (fun h6 hf => ?_)
  refine v_aload_n (pc := 11) X 0 dX5_tick_11 rfl rfl ?_
  refine v_aload_n (pc := 12) X 0 dX5_tick_12 rfl rfl ?_
  obtain ⟨q7, e_q7, hf⟩ := hf
  refine ge_5_1 (pc := 13) X (fun w h => inM w (inG5 w h)) k19 t1 e_q7 dX5_tick_13 ?_
  refine v_iload_n (pc := 16) X 1 dX5_tick_16 rfl rfl ?_
  obtain ⟨t8, hf⟩ := hf
  refine v_callVI (pc := 17) X (As := [.int p1]) (rest := [.ref a0]) (c_X2_pass l D cA L sh q7 p1 h6 _ hf) (cwV 1 X.ht (gwV inM q_362 q_363 q_364 q_2 q_365) rfl rfl rfl (by decide +kernel) ⟨Nat.le_of_ble_eq_true rfl, Nat.le_of_ble_eq_true rfl⟩) rfl (by decide) t8 (ent_2 t8) rfl rfl (Nat.le_of_ble_eq_true rfl) ⟨Nat.zero_le _, Nat.zero_le _⟩ dX5_tick_17 (fun r9 h10 hf => ?_)
  refine v_callVI (pc := 20) X (As := [.int r9]) (rest := []) (c_X5_settle l D cA L sh a0 r9 h10 _ hf) (cwV 1 X.ht (gwV inM q_343 q_344 q_442 q_1 q_345) rfl rfl rfl (by decide +kernel) ⟨Nat.le_of_ble_eq_true rfl, Nat.le_of_ble_eq_true rfl⟩) rfl (by decide) t1 (ent_5 t1) rfl rfl (Nat.le_of_ble_eq_true rfl) ⟨Nat.zero_le _, Nat.zero_le _⟩ dX5_tick_20 (fun r11 h12 hf => ?_)
  exact v_iret (pc := 23) X hr hlk dX5_tick_23 hf
set_option maxHeartbeats 4000000 in
set_option maxRecDepth 100000 in
theorem c_X5_undo (l : Launch) (D : va_G) (cA : Nat → ClassId) (L : List Nat) (sh : Sh) (a0 : Nat) (h : Hp) (K : Int32 → Hp → Prop) (hf : f_X5_undo sh a0 h K) : Met l yX5_undo (wM yX5_undo cX5_undo 2 (some .int)) ({ frames := 0, cells := 0, slots := 0, locals := 0 } : Room) (PreM D cA L sh h [.ref a0]) (QI D cA L sh K) 0 0 (fun q => q ∈ L) := by
  refine met_v (cc := cX5_undo) (nL := 2) (ret := (some .int)) [(0, .ref a0)] (by decide) rfl (Nat.le_of_ble_eq_true rfl) rfl ?_
  intro p e s0 m below meth c X hr hlk
  have k33 := X.ht _ (inM _ q_178)
  have k29 := X.ht _ (inM _ q_177)
  have k10 := X.ht _ (inM _ q_173)
  unfold f_X5_undo at hf
  refine v_aload_n (pc := 0) X 0 dX5_undo_0 rfl rfl ?_
  obtain ⟨t1, hf⟩ := hf
  obtain ⟨v2, e_v2, hf⟩ := hf
  refine ge_5_5 (pc := 1) X (fun w h => inM w (inG5 w h)) k33 t1 e_v2 dX5_undo_1 ?_
  refine v_if_gt (pc := 4) X 10 dX5_undo_4 (by decide) (fun c => ?_) (fun c => ?_)
  · replace hf := if_t c hf
    refine v_aload_n (pc := 10) X 0 dX5_undo_10 rfl rfl ?_
    refine v_dup (pc := 11) X dX5_undo_11 rfl ?_
    obtain ⟨v3, e_v3, hf⟩ := hf
    refine ge_5_5 (pc := 12) X (fun w h => inM w (inG5 w h)) k33 t1 e_v3 dX5_undo_12 ?_
    refine v_iconst (pc := 15) X (v := (1 : Int32)) dX5_undo_15 (by decide) ?_
    refine v_isub (pc := 16) X dX5_undo_16 ?_
    obtain ⟨h4, e_h4, hf⟩ := hf
    refine pu_5_5 (pc := 17) X (fun w h => inM w (inG5 w h)) k33 t1 e_h4 dX5_undo_17 ?_
    refine v_aload_n (pc := 20) X 0 dX5_undo_20 rfl rfl ?_
    obtain ⟨q5, e_q5, hf⟩ := hf
    refine ge_5_4 (pc := 21) X (fun w h => inM w (inG5 w h)) k29 t1 e_q5 dX5_undo_21 ?_
    refine v_aload_n (pc := 24) X 0 dX5_undo_24 rfl rfl ?_
    obtain ⟨v6, e_v6, hf⟩ := hf
    refine ge_5_5 (pc := 25) X (fun w h => inM w (inG5 w h)) k33 t1 e_v6 dX5_undo_25 ?_
    obtain ⟨t7, hf⟩ := hf
    obtain ⟨b9, q8, e_q8, hf⟩ := hf
    refine v_aald_10 (pc := 28) X t7 b9 e_q8 dX5_undo_28 ?_
    refine v_astore_n (pc := 29) X (i := 1) (lv' := [(1, .ref q8), (0, .ref a0)]) dX5_undo_29 rfl (Nat.le_of_ble_eq_true rfl) rfl ?_
    refine v_aload_n (pc := 30) X 1 dX5_undo_30 rfl rfl ?_
    obtain ⟨q10, e_q10, hf⟩ := hf
    refine ge_5_4 (pc := 31) X (fun w h => inM w (inG5 w h)) k29 t1 e_q10 dX5_undo_31 ?_
    refine v_aload_n (pc := 34) X 1 dX5_undo_34 rfl rfl ?_
    obtain ⟨v11, e_v11, hf⟩ := hf
    refine ge_5_5 (pc := 35) X (fun w h => inM w (inG5 w h)) k33 t1 e_v11 dX5_undo_35 ?_
    refine v_aload_n (pc := 38) X 1 dX5_undo_38 rfl rfl ?_
    obtain ⟨q12, e_q12, hf⟩ := hf
    refine ge_5_0 (pc := 39) X (fun w h => inM w (inG5 w h)) k10 t1 e_q12 dX5_undo_39 ?_
    obtain ⟨t13, hf⟩ := hf
    obtain ⟨t14, hf⟩ := hf
    obtain ⟨b16, h15, e_h15, hf⟩ := hf
    refine v_aast_10 (pc := 42) X t13 t14 b16 e_h15 dX5_undo_42 ?_
    refine v_aload_n (pc := 43) X 1 dX5_undo_43 rfl rfl ?_
    refine v_aload_n (pc := 44) X 0 dX5_undo_44 rfl rfl ?_
    obtain ⟨h17, e_h17, hf⟩ := hf
    refine pu_5_0 (pc := 45) X (fun w h => inM w (inG5 w h)) k10 t1 e_h17 dX5_undo_45 ?_
    refine v_aload_n (pc := 48) X 1 dX5_undo_48 rfl rfl ?_
    obtain ⟨v18, e_v18, hf⟩ := hf
    refine ge_5_5 (pc := 49) X (fun w h => inM w (inG5 w h)) k33 t1 e_v18 dX5_undo_49 ?_
    exact v_iret (pc := 52) X hr hlk dX5_undo_52 hf
  · replace hf := if_f c hf
    refine v_bipush (pc := 7) X (v := (-2 : Int32)) dX5_undo_7 (by decide) ?_
    exact v_iret (pc := 9) X hr hlk dX5_undo_9 hf
set_option maxHeartbeats 4000000 in
set_option maxRecDepth 100000 in
theorem c_X5_would (l : Launch) (D : va_G) (cA : Nat → ClassId) (L : List Nat) (sh : Sh) (a0 : Nat) (p1 : Int32) (p2 : Int32) (p3 : Int32) (h : Hp) (K : Int32 → Hp → Prop) (hf : f_X5_would sh a0 p1 p2 p3 h K) : Met l yX5_would (wM yX5_would cX5_would 7 (some .int)) ({ frames := 4, cells := 0, slots := 0, locals := 99 } : Room) (PreM D cA L sh h [.ref a0, .int p1, .int p2, .int p3]) (QI D cA L sh K) 0 0 (fun q => q ∈ L) := by
  refine met_v (cc := cX5_would) (nL := 7) (ret := (some .int)) [(0, .ref a0), (1, .int p1), (2, .int p2), (3, .int p3)] (by decide) rfl (Nat.le_of_ble_eq_true rfl) rfl ?_
  intro p e s0 m below meth c X hr hlk
  have k19 := X.ht _ (inM _ q_174)
  have k10 := X.ht _ (inM _ q_173)
  have k94 := X.ht _ (inM _ q_137)
  have k116 := X.ht _ (inM _ q_90)
  have k119 := X.ht _ (inM _ q_92)
  have k122 := X.ht _ (inM _ q_95)
  have k98 := X.ht _ (inM _ q_88)
  unfold f_X5_would at hf
  refine v_iload_n (pc := 0) X 1 dX5_would_0 rfl rfl ?_
  refine v_if_lt (pc := 1) X 18 dX5_would_1 (by decide) (fun c => ?_) (fun c => ?_)
  · replace hf := if_t c hf
    refine v_iconst (pc := 18) X (v := (-1 : Int32)) dX5_would_18 (by decide) ?_
    exact v_iret (pc := 19) X hr hlk dX5_would_19 hf
  · replace hf := if_f c hf
    refine v_iload_n (pc := 4) X 1 dX5_would_4 rfl rfl ?_
    refine v_iconst (pc := 5) X (v := (4 : Int32)) dX5_would_5 (by decide) ?_
    refine v_icmp_ge (pc := 6) X 18 dX5_would_6 (by decide) (fun c => ?_) (fun c => ?_)
    · replace hf := if_t c hf
      refine v_iconst (pc := 18) X (v := (-1 : Int32)) dX5_would_18 (by decide) ?_
      exact v_iret (pc := 19) X hr hlk dX5_would_19 hf
    · replace hf := if_f c hf
      refine v_iload_n (pc := 9) X 3 dX5_would_9 rfl rfl ?_
      refine v_if_lt (pc := 10) X 18 dX5_would_10 (by decide) (fun c => ?_) (fun c => ?_)
      · replace hf := if_t c hf
        refine v_iconst (pc := 18) X (v := (-1 : Int32)) dX5_would_18 (by decide) ?_
        exact v_iret (pc := 19) X hr hlk dX5_would_19 hf
      · replace hf := if_f c hf
        refine v_iload_n (pc := 13) X 3 dX5_would_13 rfl rfl ?_
        refine v_iconst (pc := 14) X (v := (3 : Int32)) dX5_would_14 (by decide) ?_
        refine v_icmp_le (pc := 15) X 20 dX5_would_15 (by decide) (fun c => ?_) (fun c => ?_)
        · replace hf := if_t c hf
          refine v_aload_n (pc := 20) X 0 dX5_would_20 rfl rfl ?_
          obtain ⟨t1, hf⟩ := hf
          obtain ⟨q2, e_q2, hf⟩ := hf
          refine ge_5_1 (pc := 21) X (fun w h => inM w (inG5 w h)) k19 t1 e_q2 dX5_would_21 ?_
          refine v_aload_n (pc := 24) X 0 dX5_would_24 rfl rfl ?_
          obtain ⟨q3, e_q3, hf⟩ := hf
          refine ge_5_0 (pc := 25) X (fun w h => inM w (inG5 w h)) k10 t1 e_q3 dX5_would_25 ?_
          obtain ⟨t4, hf⟩ := hf
          refine v_callVV (pc := 28) X (As := [.ref q3]) (rest := []) (c_X2_copyFrom l D cA L sh q2 q3 h _ hf) (cwV 1 X.ht (gwV inM q_320 q_321 q_322 q_2 q_323) rfl rfl rfl (by decide +kernel) ⟨Nat.le_of_ble_eq_true rfl, Nat.le_of_ble_eq_true rfl⟩) rfl (by decide) t4 (ent_2 t4) rfl rfl (Nat.le_of_ble_eq_true rfl) ⟨Nat.zero_le _, Nat.zero_le _⟩ dX5_would_28 (fun h6 hf => ?_)
          refine v_aload_n (pc := 31) X 0 dX5_would_31 rfl rfl ?_
          obtain ⟨q7, e_q7, hf⟩ := hf
          refine ge_5_1 (pc := 32) X (fun w h => inM w (inG5 w h)) k19 t1 e_q7 dX5_would_32 ?_
          refine v_iload_n (pc := 35) X 1 dX5_would_35 rfl rfl ?_
          refine v_iload_n (pc := 36) X 2 dX5_would_36 rfl rfl ?_
          obtain ⟨t8, hf⟩ := hf
          refine v_callVI (pc := 37) X (As := [.int p1, .int p2]) (rest := []) (c_X2_begin l D cA L sh q7 p1 p2 h6 _ hf) (cwV 2 X.ht (gwV inM q_249 q_250 q_251 q_2 q_252) rfl rfl rfl (by decide +kernel) ⟨Nat.le_of_ble_eq_true rfl, Nat.le_of_ble_eq_true rfl⟩) rfl (by decide) t8 (ent_2 t8) rfl rfl (Nat.le_of_ble_eq_true rfl) ⟨Nat.zero_le _, Nat.zero_le _⟩ dX5_would_37 (fun r9 h10 hf => ?_)
          refine v_istore (pc := 40) X (i := 4) (lv' := [(4, .int r9), (0, .ref a0), (1, .int p1), (2, .int p2), (3, .int p3)]) dX5_would_40 (Nat.le_of_ble_eq_true rfl) rfl ?_
          refine v_iload (pc := 42) X 0 dX5_would_42 rfl ?_
          refine v_if_ge (pc := 44) X 50 dX5_would_44 (by decide) (fun c => ?_) (fun c => ?_)
          · replace hf := if_t c hf
            refine v_aload_n (pc := 50) X 1 dX5_would_50 rfl rfl ?_
            obtain ⟨q11, e_q11, hf⟩ := hf
            refine ge_5_0 (pc := 51) X (fun w h => inM w (inG5 w h)) k10 t1 e_q11 dX5_would_51 ?_
            obtain ⟨t12, hf⟩ := hf
            obtain ⟨q13, e_q13, hf⟩ := hf
            refine ge_2_11 (pc := 54) X (fun w h => inM w (inG2 w h)) k94 t12 e_q13 dX5_would_54 ?_
            refine v_iload_n (pc := 57) X 2 dX5_would_57 rfl rfl ?_
            obtain ⟨t14, hf⟩ := hf
            obtain ⟨b16, q15, e_q15, hf⟩ := hf
            refine v_aald_9 (pc := 58) X t14 b16 e_q15 dX5_would_58 ?_
            refine v_astore (pc := 59) X (i := 5) (lv' := [(5, .ref q15), (4, .int r9), (0, .ref a0), (1, .int p1), (2, .int p2), (3, .int p3)]) dX5_would_59 (Nat.le_of_ble_eq_true rfl) rfl ?_
            refine v_aload_n (pc := 61) X 2 dX5_would_61 rfl rfl ?_
            obtain ⟨q17, e_q17, hf⟩ := hf
            refine ge_5_1 (pc := 62) X (fun w h => inM w (inG5 w h)) k19 t1 e_q17 dX5_would_62 ?_
            obtain ⟨t18, hf⟩ := hf
            obtain ⟨q19, e_q19, hf⟩ := hf
            refine ge_2_11 (pc := 65) X (fun w h => inM w (inG2 w h)) k94 t18 e_q19 dX5_would_65 ?_
            refine v_iload_n (pc := 68) X 3 dX5_would_68 rfl rfl ?_
            obtain ⟨t20, hf⟩ := hf
            obtain ⟨b22, q21, e_q21, hf⟩ := hf
            refine v_aald_9 (pc := 69) X t20 b22 e_q21 dX5_would_69 ?_
            refine v_astore (pc := 70) X (i := 6) (lv' := [(6, .ref q21), (5, .ref q15), (4, .int r9), (0, .ref a0), (1, .int p1), (2, .int p2), (3, .int p3)]) dX5_would_70 (Nat.le_of_ble_eq_true rfl) rfl ?_
            refine v_iload_n (pc := 72) X 6 dX5_would_72 rfl rfl ?_
            by_cases c0 : p3 = (0 : Int32)
            · replace hf := if_t c0 hf
              refine v_tableIn (pc := 73) X (off := 27) 100 dX5_would_73 (by rw [c0]; decide) (by rw [c0]; decide) (by rw [c0]; decide) (by decide) ?_
              refine v_aload (pc := 100) X 0 dX5_would_100 rfl ?_
              obtain ⟨t23, hf⟩ := hf
              obtain ⟨v24, e_v24, hf⟩ := hf
              refine ge_1_1 (pc := 102) X (fun w h => inM w (inG1 w h)) k116 t23 e_v24 dX5_would_102 ?_
              refine v_aload (pc := 105) X 1 dX5_would_105 rfl ?_
              obtain ⟨t25, hf⟩ := hf
              obtain ⟨v26, e_v26, hf⟩ := hf
              refine ge_1_1 (pc := 107) X (fun w h => inM w (inG1 w h)) k116 t25 e_v26 dX5_would_107 ?_
              refine v_isub (pc := 110) X dX5_would_110 ?_
              exact v_iret (pc := 111) X hr hlk dX5_would_111 hf
            replace hf := if_f c0 hf
            by_cases c1 : p3 = (1 : Int32)
            · replace hf := if_t c1 hf
              refine v_tableIn (pc := 73) X (off := 39) 112 dX5_would_73 (by rw [c1]; decide) (by rw [c1]; decide) (by rw [c1]; decide) (by decide) ?_
              refine v_aload (pc := 112) X 0 dX5_would_112 rfl ?_
              obtain ⟨t27, hf⟩ := hf
              obtain ⟨v28, e_v28, hf⟩ := hf
              refine ge_1_2 (pc := 114) X (fun w h => inM w (inG1 w h)) k119 t27 e_v28 dX5_would_114 ?_
              refine v_aload (pc := 117) X 1 dX5_would_117 rfl ?_
              obtain ⟨t29, hf⟩ := hf
              obtain ⟨v30, e_v30, hf⟩ := hf
              refine ge_1_2 (pc := 119) X (fun w h => inM w (inG1 w h)) k119 t29 e_v30 dX5_would_119 ?_
              refine v_isub (pc := 122) X dX5_would_122 ?_
              exact v_iret (pc := 123) X hr hlk dX5_would_123 hf
            replace hf := if_f c1 hf
            by_cases c2 : p3 = (2 : Int32)
            · replace hf := if_t c2 hf
              refine v_tableIn (pc := 73) X (off := 51) 124 dX5_would_73 (by rw [c2]; decide) (by rw [c2]; decide) (by rw [c2]; decide) (by decide) ?_
              refine v_aload (pc := 124) X 0 dX5_would_124 rfl ?_
              obtain ⟨t31, hf⟩ := hf
              obtain ⟨v32, e_v32, hf⟩ := hf
              refine ge_1_3 (pc := 126) X (fun w h => inM w (inG1 w h)) k122 t31 e_v32 dX5_would_126 ?_
              refine v_aload (pc := 129) X 1 dX5_would_129 rfl ?_
              obtain ⟨t33, hf⟩ := hf
              obtain ⟨v34, e_v34, hf⟩ := hf
              refine ge_1_3 (pc := 131) X (fun w h => inM w (inG1 w h)) k122 t33 e_v34 dX5_would_131 ?_
              refine v_isub (pc := 134) X dX5_would_134 ?_
              exact v_iret (pc := 135) X hr hlk dX5_would_135 hf
            replace hf := if_f c2 hf
            refine v_tableOut (pc := 73) X 136 dX5_would_73 (tab_out_0_2 c0 c1 c2) (by decide) ?_
            refine v_aload (pc := 136) X 0 dX5_would_136 rfl ?_
            obtain ⟨t35, hf⟩ := hf
            obtain ⟨v36, e_v36, hf⟩ := hf
            refine ge_1_0 (pc := 138) X (fun w h => inM w (inG1 w h)) k98 t35 e_v36 dX5_would_138 ?_
            refine v_aload (pc := 141) X 1 dX5_would_141 rfl ?_
            obtain ⟨t37, hf⟩ := hf
            obtain ⟨v38, e_v38, hf⟩ := hf
            refine ge_1_0 (pc := 143) X (fun w h => inM w (inG1 w h)) k98 t37 e_v38 dX5_would_143 ?_
            refine v_isub (pc := 146) X dX5_would_146 ?_
            exact v_iret (pc := 147) X hr hlk dX5_would_147 hf
          · replace hf := if_f c hf
            refine v_iload (pc := 47) X 0 dX5_would_47 rfl ?_
            exact v_iret (pc := 49) X hr hlk dX5_would_49 hf
        · replace hf := if_f c hf
          refine v_iconst (pc := 18) X (v := (-1 : Int32)) dX5_would_18 (by decide) ?_
          exact v_iret (pc := 19) X hr hlk dX5_would_19 hf

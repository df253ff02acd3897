set_option maxHeartbeats 4000000 in
set_option maxRecDepth 100000 in
theorem w_X2_begin_117 {p : Program} {l : Launch} {e : Env} {s0 : State} {m : MethodId} {args : Array Value} {below : List Frame} {meth : Method} {c : Code} {D : va_G} {cA : Nat → ClassId} {L : List Nat} {sh : Sh} (X : Cx p s0 m c args cX2_begin 6 (wM yX2_begin cX2_begin 6 (some .int)) RX2 (fun q => q ∈ L) D cA L sh) (hr : meth.sig.returnType = (some .int)) (hlk : meth.locks = false) (x0 : Nat) (x1 : Int32) (x2 : Int32) (x3 : Nat) (x4 : Nat) (Xc : Hp → Prop) (K : Int32 → Hp → Prop) (hx : ∀  (h1 : Hp), Xc  h1 → V p l e (headSpec (wM yX2_begin cX2_begin 6 (some .int)) ({ frames := 3, cells := 0, slots := 0, locals := 74 } : Room)).room s0 m args below meth c (MQ below (QI D cA L sh K) args s0 0 0 (fun q => q ∈ L)) (fun q => q ∈ L) 0 0 D cA L sh 6 h1 171 [(0, .ref x0), (1, .int x1), (2, .int x2), (4, .ref x4)] []) : ∀ (n : Nat) (s : Int32) (h : Hp), lp (b_X2_begin_117 sh x0 x1 x2 x3 x4 Xc K) n s h → V p l e (headSpec (wM yX2_begin cX2_begin 6 (some .int)) ({ frames := 3, cells := 0, slots := 0, locals := 74 } : Room)).room s0 m args below meth c (MQ below (QI D cA L sh K) args s0 0 0 (fun q => q ∈ L)) (fun q => q ∈ L) 0 0 D cA L sh 6 h 117 [(0, .ref x0), (1, .int x1), (2, .int x2), (3, .ref x3), (4, .ref x4), (5, .int s)] [] := by
  have k32 := X.ht _ (inM _ q_136)
  have k50 := X.ht _ (inM _ q_130)
  have k86 := X.ht _ (inM _ q_87)
  have k47 := X.ht _ (inM _ q_126)
  have k18 := X.ht _ (inM _ q_128)
  have k9 := X.ht _ (inM _ q_122)
  have k93 := X.ht _ (inM _ q_97)
  have k96 := X.ht _ (inM _ q_72)
  have k101 := X.ht _ (inM _ q_74)
  have k37 := X.ht _ (inM _ q_116)
  have k104 := X.ht _ (inM _ q_78)
  have k15 := X.ht _ (inM _ q_124)
  have k44 := X.ht _ (inM _ q_120)
  have k24 := X.ht _ (inM _ q_132)
  have k27 := X.ht _ (inM _ q_134)
  intro n
  induction n with
  | zero => intro s h hf; exact hf.elim
  | succ n ih =>
    intro s h hf
    replace hf : b_X2_begin_117 sh x0 x1 x2 x3 x4 Xc K (lp (b_X2_begin_117 sh x0 x1 x2 x3 x4 Xc K) n) s h := hf
    unfold b_X2_begin_117 at hf
    refine v_iload (pc := 117) X 5 dX2_begin_117 rfl ?_
    refine v_bipush (pc := 119) X (v := (6 : Int32)) dX2_begin_119 (by decide) ?_
    refine v_icmp_ge (pc := 121) X 171 dX2_begin_121 (by decide) (fun c => ?_) (fun c => ?_)
    · replace hf := if_t c hf
      refine v_sub [0, 1, 2, 4] rfl ?_
      exact hx h hf
    · replace hf := if_f c hf
      refine v_iload_n (pc := 124) X 2 dX2_begin_124 rfl rfl ?_
      refine v_iload (pc := 125) X 5 dX2_begin_125 rfl ?_
      refine v_callSNI (pc := 127) X (As := [.int x2, .int s]) (rest := []) (c_X5_contains l D cA L sh x2 s h _ hf) ⟨va_cnB 2 X.ht (good_wM inM q_269) rfl rfl rfl X.2.1.2.2.2.1 (X.ht _ (inM _ q_1)) (by decide +kernel) ⟨Nat.le_of_ble_eq_true rfl, Nat.le_of_ble_eq_true rfl⟩, X.ht _ (inM _ q_268), trivial⟩ rfl rfl (Nat.le_of_ble_eq_true rfl) ⟨Nat.zero_le _, Nat.zero_le _⟩ dX2_begin_127 (fun r19 h20 hf => ?_)
      refine v_if_eq (pc := 130) X 165 dX2_begin_130 (by decide) (fun c => ?_) (fun c => ?_)
      · replace hf := if_t c hf
        refine v_iinc (pc := 165) X 5 (v := s + (1 : Int32)) (lv' := [(5, .int (s + (1 : Int32))), (0, .ref x0), (1, .int x1), (2, .int x2), (3, .ref x3), (4, .ref x4)]) dX2_begin_165 rfl rfl (Nat.le_of_ble_eq_true rfl) rfl ?_
        refine v_goto (pc := 168) X 117 dX2_begin_168 (by decide) ?_
        refine v_sub [1, 2, 3, 4, 5, 0] rfl ?_
        exact ih (s + (1 : Int32)) h20 hf
      · replace hf := if_f c hf
        refine v_aload_n (pc := 133) X 3 dX2_begin_133 rfl rfl ?_
        refine v_aload (pc := 134) X 4 dX2_begin_134 rfl ?_
        refine v_iload (pc := 136) X 5 dX2_begin_136 rfl ?_
        refine v_aload_n (pc := 138) X 0 dX2_begin_138 rfl rfl ?_
        obtain ⟨t21, hf⟩ := hf
        obtain ⟨q22, e_q22, hf⟩ := hf
        refine ge_2_3 (pc := 139) X (fun w h => inM w (inG2 w h)) k9 t21 e_q22 dX2_begin_139 ?_
        refine v_iload (pc := 142) X 5 dX2_begin_142 rfl ?_
        obtain ⟨t23, hf⟩ := hf
        obtain ⟨b25, v24, e_v24, hf⟩ := hf
        refine v_iald (pc := 144) X t23 b25 e_v24 dX2_begin_144 ?_
        refine v_aload_n (pc := 145) X 0 dX2_begin_145 rfl rfl ?_
        obtain ⟨q26, e_q26, hf⟩ := hf
        refine ge_2_4 (pc := 146) X (fun w h => inM w (inG2 w h)) k15 t21 e_q26 dX2_begin_146 ?_
        refine v_iload (pc := 149) X 5 dX2_begin_149 rfl ?_
        obtain ⟨t27, hf⟩ := hf
        obtain ⟨b29, v28, e_v28, hf⟩ := hf
        refine v_iald (pc := 151) X t27 b29 e_v28 dX2_begin_151 ?_
        refine v_aload_n (pc := 152) X 0 dX2_begin_152 rfl rfl ?_
        obtain ⟨v30, e_v30, hf⟩ := hf
        refine ge_2_2 (pc := 153) X (fun w h => inM w (inG2 w h)) k44 t21 e_v30 dX2_begin_153 ?_
        obtain ⟨t31, hf⟩ := hf
        refine v_callVI (pc := 156) X (As := [.ref x4, .int s, .int v24, .int v28, .int v30]) (rest := []) (c_X1_use l D cA L sh x3 x4 s v24 v28 v30 h20 _ hf) (cwV 5 X.ht (gwV inM q_270 q_271 q_272 q_3 q_273) rfl rfl rfl (by decide +kernel) ⟨Nat.le_of_ble_eq_true rfl, Nat.le_of_ble_eq_true rfl⟩) rfl (by decide) t31 (ent_1 t31) rfl rfl (Nat.le_of_ble_eq_true rfl) ⟨Nat.zero_le _, Nat.zero_le _⟩ dX2_begin_156 (fun r32 h33 hf => ?_)
        refine v_if_ne (pc := 159) X 165 dX2_begin_159 (by decide) (fun c => ?_) (fun c => ?_)
        · replace hf := if_f c hf
          refine v_iinc (pc := 165) X 5 (v := s + (1 : Int32)) (lv' := [(5, .int (s + (1 : Int32))), (0, .ref x0), (1, .int x1), (2, .int x2), (3, .ref x3), (4, .ref x4)]) dX2_begin_165 rfl rfl (Nat.le_of_ble_eq_true rfl) rfl ?_
          refine v_goto (pc := 168) X 117 dX2_begin_168 (by decide) ?_
          refine v_sub [1, 2, 3, 4, 5, 0] rfl ?_
          exact ih (s + (1 : Int32)) h33 hf
        · replace hf := if_t c hf
          refine v_bipush (pc := 162) X (v := (-3 : Int32)) dX2_begin_162 (by decide) ?_
          exact v_iret (pc := 164) X hr hlk dX2_begin_164 hf

set_option maxHeartbeats 4000000 in
set_option maxRecDepth 100000 in
theorem c_X2_begin (l : Launch) (D : va_G) (cA : Nat → ClassId) (L : List Nat) (sh : Sh) (a0 : Nat) (p1 : Int32) (p2 : Int32) (h : Hp) (K : Int32 → Hp → Prop) (hf : f_X2_begin sh a0 p1 p2 h K) : Met l yX2_begin (wM yX2_begin cX2_begin 6 (some .int)) ({ frames := 3, cells := 0, slots := 0, locals := 74 } : Room) (PreM D cA L sh h [.ref a0, .int p1, .int p2]) (QI D cA L sh K) 0 0 (fun q => q ∈ L) := by
  refine met_v (cc := cX2_begin) (nL := 6) (ret := (some .int)) [(0, .ref a0), (1, .int p1), (2, .int p2)] (by decide) rfl (Nat.le_of_ble_eq_true rfl) rfl ?_
  intro p e s0 m below meth c X hr hlk
  have k32 := X.ht _ (inM _ q_136)
  have k50 := X.ht _ (inM _ q_130)
  have k86 := X.ht _ (inM _ q_87)
  have k47 := X.ht _ (inM _ q_126)
  have k18 := X.ht _ (inM _ q_128)
  have k9 := X.ht _ (inM _ q_122)
  have k93 := X.ht _ (inM _ q_97)
  have k96 := X.ht _ (inM _ q_72)
  have k101 := X.ht _ (inM _ q_74)
  have k37 := X.ht _ (inM _ q_116)
  have k104 := X.ht _ (inM _ q_78)
  have k15 := X.ht _ (inM _ q_124)
  have k44 := X.ht _ (inM _ q_120)
  have k24 := X.ht _ (inM _ q_132)
  have k27 := X.ht _ (inM _ q_134)
  unfold f_X2_begin at hf
  refine v_iload_n (pc := 0) X 1 dX2_begin_0 rfl rfl ?_
  refine v_if_lt (pc := 1) X 20 dX2_begin_1 (by decide) (fun c => ?_) (fun c => ?_)
  · replace hf := if_t c hf
    refine v_iconst (pc := 20) X (v := (-1 : Int32)) dX2_begin_20 (by decide) ?_
    exact v_iret (pc := 21) X hr hlk dX2_begin_21 hf
  · replace hf := if_f c hf
    refine v_iload_n (pc := 4) X 1 dX2_begin_4 rfl rfl ?_
    refine v_iconst (pc := 5) X (v := (4 : Int32)) dX2_begin_5 (by decide) ?_
    refine v_icmp_ge (pc := 6) X 20 dX2_begin_6 (by decide) (fun c => ?_) (fun c => ?_)
    · replace hf := if_t c hf
      refine v_iconst (pc := 20) X (v := (-1 : Int32)) dX2_begin_20 (by decide) ?_
      exact v_iret (pc := 21) X hr hlk dX2_begin_21 hf
    · replace hf := if_f c hf
      refine v_iload_n (pc := 9) X 2 dX2_begin_9 rfl rfl ?_
      refine v_iconst (pc := 10) X (v := (1 : Int32)) dX2_begin_10 (by decide) ?_
      refine v_icmp_lt (pc := 11) X 20 dX2_begin_11 (by decide) (fun c => ?_) (fun c => ?_)
      · replace hf := if_t c hf
        refine v_iconst (pc := 20) X (v := (-1 : Int32)) dX2_begin_20 (by decide) ?_
        exact v_iret (pc := 21) X hr hlk dX2_begin_21 hf
      · replace hf := if_f c hf
        refine v_iload_n (pc := 14) X 2 dX2_begin_14 rfl rfl ?_
        refine v_bipush (pc := 15) X (v := (63 : Int32)) dX2_begin_15 (by decide) ?_
        refine v_icmp_le (pc := 17) X 22 dX2_begin_17 (by decide) (fun c => ?_) (fun c => ?_)
        · replace hf := if_t c hf
          refine v_aload_n (pc := 22) X 0 dX2_begin_22 rfl rfl ?_
          obtain ⟨t1, hf⟩ := hf
          obtain ⟨q2, e_q2, hf⟩ := hf
          refine ge_2_11 (pc := 23) X (fun w h => inM w (inG2 w h)) k32 t1 e_q2 dX2_begin_23 ?_
          refine v_iload_n (pc := 26) X 1 dX2_begin_26 rfl rfl ?_
          obtain ⟨t3, hf⟩ := hf
          obtain ⟨b5, q4, e_q4, hf⟩ := hf
          refine v_aald_9 (pc := 27) X t3 b5 e_q4 dX2_begin_27 ?_
          refine v_astore_n (pc := 28) X (i := 3) (lv' := [(3, .ref q4), (0, .ref a0), (1, .int p1), (2, .int p2)]) dX2_begin_28 rfl (Nat.le_of_ble_eq_true rfl) rfl ?_
          refine v_aload_n (pc := 29) X 0 dX2_begin_29 rfl rfl ?_
          obtain ⟨t6, hf⟩ := hf
          refine v_callVN (pc := 30) X (As := []) (rest := []) (c_X1_idleWork l D cA L sh q4 h _ hf) (cwV 0 X.ht (gwV inM q_253 q_254 q_255 q_3 q_256) rfl rfl rfl (by decide +kernel) ⟨Nat.le_of_ble_eq_true rfl, Nat.le_of_ble_eq_true rfl⟩) rfl (by decide) t6 (ent_1 t6) rfl rfl (Nat.le_of_ble_eq_true rfl) ⟨Nat.zero_le _, Nat.zero_le _⟩ dX2_begin_30 (fun r7 h8 hf => ?_)
          rcases r7 with _ | q9
          · replace hf := hf.1 rfl
            refine v_astoreN (pc := 33) X (i := 4) (lv' := [(4, .null), (3, .ref q4), (0, .ref a0), (1, .int p1), (2, .int p2)]) dX2_begin_33 (Nat.le_of_ble_eq_true rfl) rfl ?_
            refine v_aloadN (pc := 35) X 0 dX2_begin_35 rfl ?_
            refine v_ifnullN (pc := 37) X 50 dX2_begin_37 (by decide) ?_
            refine v_bipush (pc := 50) X (v := (-3 : Int32)) dX2_begin_50 (by decide) ?_
            exact v_iret (pc := 52) X hr hlk dX2_begin_52 hf
          · replace hf := hf.2 q9 rfl
            refine v_astore (pc := 33) X (i := 4) (lv' := [(4, .ref q9), (3, .ref q4), (0, .ref a0), (1, .int p1), (2, .int p2)]) dX2_begin_33 (Nat.le_of_ble_eq_true rfl) rfl ?_
            refine v_aload (pc := 35) X 0 dX2_begin_35 rfl ?_
            refine v_ifnull (pc := 37) X dX2_begin_37 ?_
            refine v_aload_n (pc := 40) X 2 dX2_begin_40 rfl rfl ?_
            obtain ⟨v10, e_v10, hf⟩ := hf
            refine ge_2_8 (pc := 41) X (fun w h => inM w (inG2 w h)) k50 t1 e_v10 dX2_begin_41 ?_
            refine v_sipush (pc := 44) X (v := (999 : Int32)) dX2_begin_44 (by decide) ?_
            refine v_icmp_lt (pc := 47) X 53 dX2_begin_47 (by decide) (fun c => ?_) (fun c => ?_)
            · replace hf := if_t c hf
              refine v_aload_n (pc := 53) X 1 dX2_begin_53 rfl rfl ?_
              obtain ⟨v11, e_v11, hf⟩ := hf
              refine ge_1_0 (pc := 54) X (fun w h => inM w (inG1 w h)) k86 t6 e_v11 dX2_begin_54 ?_
              refine v_aload_n (pc := 57) X 2 dX2_begin_57 rfl rfl ?_
              obtain ⟨v12, e_v12, hf⟩ := hf
              refine ge_2_5 (pc := 58) X (fun w h => inM w (inG2 w h)) k47 t1 e_v12 dX2_begin_58 ?_
              refine v_icmp_ge (pc := 61) X 90 dX2_begin_61 (by decide) (fun c => ?_) (fun c => ?_)
              · replace hf := if_t c hf
                refine v_aload (pc := 90) X 0 dX2_begin_90 rfl ?_
                refine v_aload_n (pc := 92) X 2 dX2_begin_92 rfl rfl ?_
                obtain ⟨v13, e_v13, hf⟩ := hf
                refine ge_2_8 (pc := 93) X (fun w h => inM w (inG2 w h)) k50 t1 e_v13 dX2_begin_93 ?_
                obtain ⟨t14, hf⟩ := hf
                obtain ⟨h15, e_h15, hf⟩ := hf
                refine pu_4_0 (pc := 96) X (fun w h => inM w (inG4 w h)) k96 t14 e_h15 dX2_begin_96 ?_
                refine v_aload (pc := 99) X 0 dX2_begin_99 rfl ?_
                refine v_iload_n (pc := 101) X 4 dX2_begin_101 rfl rfl ?_
                obtain ⟨h16, e_h16, hf⟩ := hf
                refine pu_4_1 (pc := 102) X (fun w h => inM w (inG4 w h)) k101 t14 e_h16 dX2_begin_102 ?_
                refine v_aload (pc := 105) X 0 dX2_begin_105 rfl ?_
                refine v_aload_n (pc := 107) X 2 dX2_begin_107 rfl rfl ?_
                obtain ⟨v17, e_v17, hf⟩ := hf
                refine ge_2_0 (pc := 108) X (fun w h => inM w (inG2 w h)) k37 t1 e_v17 dX2_begin_108 ?_
                obtain ⟨h18, e_h18, hf⟩ := hf
                refine pu_4_2 (pc := 111) X (fun w h => inM w (inG4 w h)) k104 t14 e_h18 dX2_begin_111 ?_
                refine v_iconst (pc := 114) X (v := (0 : Int32)) dX2_begin_114 (by decide) ?_
                refine v_istore (pc := 115) X (i := 5) (lv' := [(5, .int (0 : Int32)), (4, .ref q9), (3, .ref q4), (0, .ref a0), (1, .int p1), (2, .int p2)]) dX2_begin_115 (Nat.le_of_ble_eq_true rfl) rfl ?_
                obtain ⟨n, hf⟩ := hf
                refine v_sub [3, 4, 5, 2, 1, 0] rfl ?_
                refine w_X2_begin_117 X hr hlk a0 p1 p2 q4 q9 _ K (fun  h34 hf => ?_) n (0 : Int32) h18 hf
                refine v_aload_n (pc := 171) X 0 dX2_begin_171 rfl rfl ?_
                obtain ⟨q35, e_q35, hf⟩ := hf
                refine ge_2_9 (pc := 172) X (fun w h => inM w (inG2 w h)) k24 t1 e_q35 dX2_begin_172 ?_
                refine v_aload_n (pc := 175) X 0 dX2_begin_175 rfl rfl ?_
                obtain ⟨v36, e_v36, hf⟩ := hf
                refine ge_2_8 (pc := 176) X (fun w h => inM w (inG2 w h)) k50 t1 e_v36 dX2_begin_176 ?_
                refine v_bipush (pc := 179) X (v := (12 : Int32)) dX2_begin_179 (by decide) ?_
                refine v_irem (pc := 181) X dX2_begin_181 (by decide) ?_
                refine v_iload_n (pc := 182) X 1 dX2_begin_182 rfl rfl ?_
                obtain ⟨t37, hf⟩ := hf
                obtain ⟨b39, h38, e_h38, hf⟩ := hf
                refine v_iast (pc := 183) X t37 b39 e_h38 dX2_begin_183 ?_
                refine v_aload_n (pc := 184) X 0 dX2_begin_184 rfl rfl ?_
                obtain ⟨q40, e_q40, hf⟩ := hf
                refine ge_2_10 (pc := 185) X (fun w h => inM w (inG2 w h)) k27 t1 e_q40 dX2_begin_185 ?_
                refine v_aload_n (pc := 188) X 0 dX2_begin_188 rfl rfl ?_
                obtain ⟨v41, e_v41, hf⟩ := hf
                refine ge_2_8 (pc := 189) X (fun w h => inM w (inG2 w h)) k50 t1 e_v41 dX2_begin_189 ?_
                refine v_bipush (pc := 192) X (v := (12 : Int32)) dX2_begin_192 (by decide) ?_
                refine v_irem (pc := 194) X dX2_begin_194 (by decide) ?_
                refine v_iload_n (pc := 195) X 2 dX2_begin_195 rfl rfl ?_
                obtain ⟨t42, hf⟩ := hf
                obtain ⟨b44, h43, e_h43, hf⟩ := hf
                refine v_iast (pc := 196) X t42 b44 e_h43 dX2_begin_196 ?_
                refine v_aload_n (pc := 197) X 0 dX2_begin_197 rfl rfl ?_
                refine v_dup (pc := 198) X dX2_begin_198 rfl ?_
                obtain ⟨v45, e_v45, hf⟩ := hf
                refine ge_2_8 (pc := 199) X (fun w h => inM w (inG2 w h)) k50 t1 e_v45 dX2_begin_199 ?_
                refine v_iconst (pc := 202) X (v := (1 : Int32)) dX2_begin_202 (by decide) ?_
                refine v_iadd (pc := 203) X dX2_begin_203 ?_
                obtain ⟨h46, e_h46, hf⟩ := hf
                refine pu_2_8 (pc := 204) X (fun w h => inM w (inG2 w h)) k50 t1 e_h46 dX2_begin_204 ?_
                refine v_aload (pc := 207) X 3 dX2_begin_207 rfl ?_
                obtain ⟨v47, e_v47, hf⟩ := hf
                refine ge_4_0 (pc := 209) X (fun w h => inM w (inG4 w h)) k96 t14 e_v47 dX2_begin_209 ?_
                exact v_iret (pc := 212) X hr hlk dX2_begin_212 hf
              · replace hf := if_f c hf
                refine v_aload_n (pc := 64) X 1 dX2_begin_64 rfl rfl ?_
                refine v_aload_n (pc := 65) X 2 dX2_begin_65 rfl rfl ?_
                obtain ⟨v48, e_v48, hf⟩ := hf
                refine ge_2_5 (pc := 66) X (fun w h => inM w (inG2 w h)) k47 t1 e_v48 dX2_begin_66 ?_
                refine v_aload_n (pc := 69) X 2 dX2_begin_69 rfl rfl ?_
                obtain ⟨q49, e_q49, hf⟩ := hf
                refine ge_2_6 (pc := 70) X (fun w h => inM w (inG2 w h)) k18 t1 e_q49 dX2_begin_70 ?_
                refine v_aload_n (pc := 73) X 2 dX2_begin_73 rfl rfl ?_
                obtain ⟨q50, e_q50, hf⟩ := hf
                refine ge_2_3 (pc := 74) X (fun w h => inM w (inG2 w h)) k9 t1 e_q50 dX2_begin_74 ?_
                refine v_callVV (pc := 77) X (As := [.int v48, .ref q49, .ref q50]) (rest := []) (c_X1_learn l D cA L sh q4 v48 q49 q50 h8 _ hf) (cwV 3 X.ht (gwV inM q_260 q_261 q_262 q_3 q_263) rfl rfl rfl (by decide +kernel) ⟨Nat.le_of_ble_eq_true rfl, Nat.le_of_ble_eq_true rfl⟩) rfl (by decide) t6 (ent_1 t6) rfl rfl (Nat.le_of_ble_eq_true rfl) ⟨Nat.zero_le _, Nat.zero_le _⟩ dX2_begin_77 (fun h52 hf => ?_)
                refine v_aload_n (pc := 80) X 1 dX2_begin_80 rfl rfl ?_
                refine v_dup (pc := 81) X dX2_begin_81 rfl ?_
                obtain ⟨v53, e_v53, hf⟩ := hf
                refine ge_1_4 (pc := 82) X (fun w h => inM w (inG1 w h)) k93 t6 e_v53 dX2_begin_82 ?_
                refine v_iconst (pc := 85) X (v := (1 : Int32)) dX2_begin_85 (by decide) ?_
                refine v_iadd (pc := 86) X dX2_begin_86 ?_
                obtain ⟨h54, e_h54, hf⟩ := hf
                refine pu_1_4 (pc := 87) X (fun w h => inM w (inG1 w h)) k93 t6 e_h54 dX2_begin_87 ?_
                refine v_aload (pc := 90) X 0 dX2_begin_90 rfl ?_
                refine v_aload_n (pc := 92) X 2 dX2_begin_92 rfl rfl ?_
                obtain ⟨v55, e_v55, hf⟩ := hf
                refine ge_2_8 (pc := 93) X (fun w h => inM w (inG2 w h)) k50 t1 e_v55 dX2_begin_93 ?_
                obtain ⟨t56, hf⟩ := hf
                obtain ⟨h57, e_h57, hf⟩ := hf
                refine pu_4_0 (pc := 96) X (fun w h => inM w (inG4 w h)) k96 t56 e_h57 dX2_begin_96 ?_
                refine v_aload (pc := 99) X 0 dX2_begin_99 rfl ?_
                refine v_iload_n (pc := 101) X 4 dX2_begin_101 rfl rfl ?_
                obtain ⟨h58, e_h58, hf⟩ := hf
                refine pu_4_1 (pc := 102) X (fun w h => inM w (inG4 w h)) k101 t56 e_h58 dX2_begin_102 ?_
                refine v_aload (pc := 105) X 0 dX2_begin_105 rfl ?_
                refine v_aload_n (pc := 107) X 2 dX2_begin_107 rfl rfl ?_
                obtain ⟨v59, e_v59, hf⟩ := hf
                refine ge_2_0 (pc := 108) X (fun w h => inM w (inG2 w h)) k37 t1 e_v59 dX2_begin_108 ?_
                obtain ⟨h60, e_h60, hf⟩ := hf
                refine pu_4_2 (pc := 111) X (fun w h => inM w (inG4 w h)) k104 t56 e_h60 dX2_begin_111 ?_
                refine v_iconst (pc := 114) X (v := (0 : Int32)) dX2_begin_114 (by decide) ?_
                refine v_istore (pc := 115) X (i := 5) (lv' := [(5, .int (0 : Int32)), (4, .ref q9), (3, .ref q4), (0, .ref a0), (1, .int p1), (2, .int p2)]) dX2_begin_115 (Nat.le_of_ble_eq_true rfl) rfl ?_
                obtain ⟨n, hf⟩ := hf
                refine v_sub [3, 4, 5, 2, 1, 0] rfl ?_
                refine w_X2_begin_117 X hr hlk a0 p1 p2 q4 q9 _ K (fun  h61 hf => ?_) n (0 : Int32) h60 hf
                refine v_aload_n (pc := 171) X 0 dX2_begin_171 rfl rfl ?_
                obtain ⟨q62, e_q62, hf⟩ := hf
                refine ge_2_9 (pc := 172) X (fun w h => inM w (inG2 w h)) k24 t1 e_q62 dX2_begin_172 ?_
                refine v_aload_n (pc := 175) X 0 dX2_begin_175 rfl rfl ?_
                obtain ⟨v63, e_v63, hf⟩ := hf
                refine ge_2_8 (pc := 176) X (fun w h => inM w (inG2 w h)) k50 t1 e_v63 dX2_begin_176 ?_
                refine v_bipush (pc := 179) X (v := (12 : Int32)) dX2_begin_179 (by decide) ?_
                refine v_irem (pc := 181) X dX2_begin_181 (by decide) ?_
                refine v_iload_n (pc := 182) X 1 dX2_begin_182 rfl rfl ?_
                obtain ⟨t64, hf⟩ := hf
                obtain ⟨b66, h65, e_h65, hf⟩ := hf
                refine v_iast (pc := 183) X t64 b66 e_h65 dX2_begin_183 ?_
                refine v_aload_n (pc := 184) X 0 dX2_begin_184 rfl rfl ?_
                obtain ⟨q67, e_q67, hf⟩ := hf
                refine ge_2_10 (pc := 185) X (fun w h => inM w (inG2 w h)) k27 t1 e_q67 dX2_begin_185 ?_
                refine v_aload_n (pc := 188) X 0 dX2_begin_188 rfl rfl ?_
                obtain ⟨v68, e_v68, hf⟩ := hf
                refine ge_2_8 (pc := 189) X (fun w h => inM w (inG2 w h)) k50 t1 e_v68 dX2_begin_189 ?_
                refine v_bipush (pc := 192) X (v := (12 : Int32)) dX2_begin_192 (by decide) ?_
                refine v_irem (pc := 194) X dX2_begin_194 (by decide) ?_
                refine v_iload_n (pc := 195) X 2 dX2_begin_195 rfl rfl ?_
                obtain ⟨t69, hf⟩ := hf
                obtain ⟨b71, h70, e_h70, hf⟩ := hf
                refine v_iast (pc := 196) X t69 b71 e_h70 dX2_begin_196 ?_
                refine v_aload_n (pc := 197) X 0 dX2_begin_197 rfl rfl ?_
                refine v_dup (pc := 198) X dX2_begin_198 rfl ?_
                obtain ⟨v72, e_v72, hf⟩ := hf
                refine ge_2_8 (pc := 199) X (fun w h => inM w (inG2 w h)) k50 t1 e_v72 dX2_begin_199 ?_
                refine v_iconst (pc := 202) X (v := (1 : Int32)) dX2_begin_202 (by decide) ?_
                refine v_iadd (pc := 203) X dX2_begin_203 ?_
                obtain ⟨h73, e_h73, hf⟩ := hf
                refine pu_2_8 (pc := 204) X (fun w h => inM w (inG2 w h)) k50 t1 e_h73 dX2_begin_204 ?_
                refine v_aload (pc := 207) X 3 dX2_begin_207 rfl ?_
                obtain ⟨v74, e_v74, hf⟩ := hf
                refine ge_4_0 (pc := 209) X (fun w h => inM w (inG4 w h)) k96 t56 e_v74 dX2_begin_209 ?_
                exact v_iret (pc := 212) X hr hlk dX2_begin_212 hf
            · replace hf := if_f c hf
              refine v_bipush (pc := 50) X (v := (-3 : Int32)) dX2_begin_50 (by decide) ?_
              exact v_iret (pc := 52) X hr hlk dX2_begin_52 hf
        · replace hf := if_f c hf
          refine v_iconst (pc := 20) X (v := (-1 : Int32)) dX2_begin_20 (by decide) ?_
          exact v_iret (pc := 21) X hr hlk dX2_begin_21 hf
set_option maxHeartbeats 4000000 in
set_option maxRecDepth 100000 in
theorem w_X2_leastVersionAtWork_5 {p : Program} {l : Launch} {e : Env} {s0 : State} {m : MethodId} {args : Array Value} {below : List Frame} {meth : Method} {c : Code} {D : va_G} {cA : Nat → ClassId} {L : List Nat} {sh : Sh} (X : Cx p s0 m c args cX2_leastVersionAtWork 5 (wM yX2_leastVersionAtWork cX2_leastVersionAtWork 5 (some .int)) RX2 (fun q => q ∈ L) D cA L sh) (hr : meth.sig.returnType = (some .int)) (hlk : meth.locks = false) (x0 : Nat) (x1 : Int32) (Xc : Int32 → Hp → Prop) (K : Int32 → Hp → Prop) (hx : ∀ (y2 : Int32) (h1 : Hp), Xc y2 h1 → V p l e (headSpec (wM yX2_leastVersionAtWork cX2_leastVersionAtWork 5 (some .int)) ({ frames := 1, cells := 0, slots := 0, locals := 22 } : Room)).room s0 m args below meth c (MQ below (QI D cA L sh K) args s0 0 0 (fun q => q ∈ L)) (fun q => q ∈ L) 0 0 D cA L sh 5 h1 46 [(2, .int y2)] []) : ∀ (n : Nat) (s : Int32 × Int32) (h : Hp), lp (b_X2_leastVersionAtWork_5 sh x0 x1 Xc) n s h → V p l e (headSpec (wM yX2_leastVersionAtWork cX2_leastVersionAtWork 5 (some .int)) ({ frames := 1, cells := 0, slots := 0, locals := 22 } : Room)).room s0 m args below meth c (MQ below (QI D cA L sh K) args s0 0 0 (fun q => q ∈ L)) (fun q => q ∈ L) 0 0 D cA L sh 5 h 5 [(0, .ref x0), (1, .int x1), (2, .int s.1), (3, .int s.2)] [] := by
  have k32 := X.ht _ (inM _ q_136)
  intro n
  induction n with
  | zero => intro s h hf; exact hf.elim
  | succ n ih =>
    intro s h hf
    replace hf : b_X2_leastVersionAtWork_5 sh x0 x1 Xc (lp (b_X2_leastVersionAtWork_5 sh x0 x1 Xc) n) s h := hf
    unfold b_X2_leastVersionAtWork_5 at hf
    refine v_iload_n (pc := 5) X 3 dX2_leastVersionAtWork_5 rfl rfl ?_
    refine v_iconst (pc := 6) X (v := (4 : Int32)) dX2_leastVersionAtWork_6 (by decide) ?_
    refine v_icmp_ge (pc := 7) X 46 dX2_leastVersionAtWork_7 (by decide) (fun c => ?_) (fun c => ?_)
    · replace hf := if_t c hf
      refine v_sub [2] rfl ?_
      exact hx s.1 h hf
    · replace hf := if_f c hf
      refine v_aload_n (pc := 10) X 0 dX2_leastVersionAtWork_10 rfl rfl ?_
      obtain ⟨t1, hf⟩ := hf
      obtain ⟨q2, e_q2, hf⟩ := hf
      refine ge_2_11 (pc := 11) X (fun w h => inM w (inG2 w h)) k32 t1 e_q2 dX2_leastVersionAtWork_11 ?_
      refine v_iload_n (pc := 14) X 3 dX2_leastVersionAtWork_14 rfl rfl ?_
      obtain ⟨t3, hf⟩ := hf
      obtain ⟨b5, q4, e_q4, hf⟩ := hf
      refine v_aald_9 (pc := 15) X t3 b5 e_q4 dX2_leastVersionAtWork_15 ?_
      refine v_iload_n (pc := 16) X 1 dX2_leastVersionAtWork_16 rfl rfl ?_
      obtain ⟨t6, hf⟩ := hf
      refine v_callVI (pc := 17) X (As := [.int x1]) (rest := []) (c_X1_leastVersionAtWork l D cA L sh q4 x1 h _ hf) (cwV 1 X.ht (gwV inM q_201 q_202 q_203 q_3 q_204) rfl rfl rfl (by decide +kernel) ⟨Nat.le_of_ble_eq_true rfl, Nat.le_of_ble_eq_true rfl⟩) rfl (by decide) t6 (ent_1 t6) rfl rfl (Nat.le_of_ble_eq_true rfl) ⟨Nat.zero_le _, Nat.zero_le _⟩ dX2_leastVersionAtWork_17 (fun r7 h8 hf => ?_)
      refine v_istore (pc := 20) X (i := 4) (lv' := [(4, .int r7), (0, .ref x0), (1, .int x1), (2, .int s.1), (3, .int s.2)]) dX2_leastVersionAtWork_20 (Nat.le_of_ble_eq_true rfl) rfl ?_
      refine v_iload (pc := 22) X 0 dX2_leastVersionAtWork_22 rfl ?_
      refine v_if_lt (pc := 24) X 40 dX2_leastVersionAtWork_24 (by decide) (fun c => ?_) (fun c => ?_)
      · replace hf := if_t c hf
        refine v_iinc (pc := 40) X 4 (v := s.2 + (1 : Int32)) (lv' := [(3, .int (s.2 + (1 : Int32))), (4, .int r7), (0, .ref x0), (1, .int x1), (2, .int s.1)]) dX2_leastVersionAtWork_40 rfl rfl (Nat.le_of_ble_eq_true rfl) rfl ?_
        refine v_goto (pc := 43) X 5 dX2_leastVersionAtWork_43 (by decide) ?_
        refine v_sub [2, 3, 4, 0] rfl ?_
        exact ih (s.1, s.2 + (1 : Int32)) h8 hf
      · replace hf := if_f c hf
        refine v_iload_n (pc := 27) X 3 dX2_leastVersionAtWork_27 rfl rfl ?_
        refine v_if_lt (pc := 28) X 37 dX2_leastVersionAtWork_28 (by decide) (fun c => ?_) (fun c => ?_)
        · replace hf := if_t c hf
          refine v_iload (pc := 37) X 0 dX2_leastVersionAtWork_37 rfl ?_
          refine v_istore_n (pc := 39) X (i := 2) (lv' := [(2, .int r7), (4, .int r7), (0, .ref x0), (1, .int x1), (3, .int s.2)]) dX2_leastVersionAtWork_39 rfl (Nat.le_of_ble_eq_true rfl) rfl ?_
          refine v_iinc (pc := 40) X 4 (v := s.2 + (1 : Int32)) (lv' := [(3, .int (s.2 + (1 : Int32))), (2, .int r7), (4, .int r7), (0, .ref x0), (1, .int x1)]) dX2_leastVersionAtWork_40 rfl rfl (Nat.le_of_ble_eq_true rfl) rfl ?_
          refine v_goto (pc := 43) X 5 dX2_leastVersionAtWork_43 (by decide) ?_
          refine v_sub [3, 4, 1, 0] rfl ?_
          exact ih (r7, s.2 + (1 : Int32)) h8 hf
        · replace hf := if_f c hf
          refine v_iload (pc := 31) X 0 dX2_leastVersionAtWork_31 rfl ?_
          refine v_iload_n (pc := 33) X 3 dX2_leastVersionAtWork_33 rfl rfl ?_
          refine v_icmp_ge (pc := 34) X 40 dX2_leastVersionAtWork_34 (by decide) (fun c => ?_) (fun c => ?_)
          · replace hf := if_t c hf
            refine v_iinc (pc := 40) X 4 (v := s.2 + (1 : Int32)) (lv' := [(3, .int (s.2 + (1 : Int32))), (4, .int r7), (0, .ref x0), (1, .int x1), (2, .int s.1)]) dX2_leastVersionAtWork_40 rfl rfl (Nat.le_of_ble_eq_true rfl) rfl ?_
            refine v_goto (pc := 43) X 5 dX2_leastVersionAtWork_43 (by decide) ?_
            refine v_sub [2, 3, 4, 0] rfl ?_
            exact ih (s.1, s.2 + (1 : Int32)) h8 hf
          · replace hf := if_f c hf
            refine v_iload (pc := 37) X 0 dX2_leastVersionAtWork_37 rfl ?_
            refine v_istore_n (pc := 39) X (i := 2) (lv' := [(2, .int r7), (4, .int r7), (0, .ref x0), (1, .int x1), (3, .int s.2)]) dX2_leastVersionAtWork_39 rfl (Nat.le_of_ble_eq_true rfl) rfl ?_
            refine v_iinc (pc := 40) X 4 (v := s.2 + (1 : Int32)) (lv' := [(3, .int (s.2 + (1 : Int32))), (2, .int r7), (4, .int r7), (0, .ref x0), (1, .int x1)]) dX2_leastVersionAtWork_40 rfl rfl (Nat.le_of_ble_eq_true rfl) rfl ?_
            refine v_goto (pc := 43) X 5 dX2_leastVersionAtWork_43 (by decide) ?_
            refine v_sub [3, 4, 1, 0] rfl ?_
            exact ih (r7, s.2 + (1 : Int32)) h8 hf

set_option maxHeartbeats 4000000 in
set_option maxRecDepth 100000 in
theorem c_X2_leastVersionAtWork (l : Launch) (D : va_G) (cA : Nat → ClassId) (L : List Nat) (sh : Sh) (a0 : Nat) (p1 : Int32) (h : Hp) (K : Int32 → Hp → Prop) (hf : f_X2_leastVersionAtWork sh a0 p1 h K) : Met l yX2_leastVersionAtWork (wM yX2_leastVersionAtWork cX2_leastVersionAtWork 5 (some .int)) ({ frames := 1, cells := 0, slots := 0, locals := 22 } : Room) (PreM D cA L sh h [.ref a0, .int p1]) (QI D cA L sh K) 0 0 (fun q => q ∈ L) := by
  refine met_v (cc := cX2_leastVersionAtWork) (nL := 5) (ret := (some .int)) [(0, .ref a0), (1, .int p1)] (by decide) rfl (Nat.le_of_ble_eq_true rfl) rfl ?_
  intro p e s0 m below meth c X hr hlk
  have k32 := X.ht _ (inM _ q_136)
  unfold f_X2_leastVersionAtWork at hf
  refine v_bipush (pc := 0) X (v := (-4 : Int32)) dX2_leastVersionAtWork_0 (by decide) ?_
  refine v_istore_n (pc := 2) X (i := 2) (lv' := [(2, .int (-4 : Int32)), (0, .ref a0), (1, .int p1)]) dX2_leastVersionAtWork_2 rfl (Nat.le_of_ble_eq_true rfl) rfl ?_
  refine v_iconst (pc := 3) X (v := (0 : Int32)) dX2_leastVersionAtWork_3 (by decide) ?_
  refine v_istore_n (pc := 4) X (i := 3) (lv' := [(3, .int (0 : Int32)), (2, .int (-4 : Int32)), (0, .ref a0), (1, .int p1)]) dX2_leastVersionAtWork_4 rfl (Nat.le_of_ble_eq_true rfl) rfl ?_
  obtain ⟨n, hf⟩ := hf
  refine v_sub [2, 3, 1, 0] rfl ?_
  refine w_X2_leastVersionAtWork_5 X hr hlk a0 p1 _ K (fun y9 h10 hf => ?_) n ((-4 : Int32), (0 : Int32)) h hf
  refine v_iload_n (pc := 46) X 0 dX2_leastVersionAtWork_46 rfl rfl ?_
  exact v_iret (pc := 47) X hr hlk dX2_leastVersionAtWork_47 hf
set_option maxHeartbeats 4000000 in
set_option maxRecDepth 100000 in
theorem c_X2_canChange (l : Launch) (D : va_G) (cA : Nat → ClassId) (L : List Nat) (sh : Sh) (a0 : Nat) (p1 : Int32) (h : Hp) (K : Int32 → Hp → Prop) (hf : f_X2_canChange sh a0 p1 h K) : Met l yX2_canChange (wM yX2_canChange cX2_canChange 3 (some .boolean)) ({ frames := 2, cells := 0, slots := 0, locals := 46 } : Room) (PreM D cA L sh h [.ref a0, .int p1]) (QI D cA L sh K) 0 0 (fun q => q ∈ L) := by
  refine met_v (cc := cX2_canChange) (nL := 3) (ret := (some .boolean)) [(0, .ref a0), (1, .int p1)] (by decide) rfl (Nat.le_of_ble_eq_true rfl) rfl ?_
  intro p e s0 m below meth c X hr hlk
  have k9 := X.ht _ (inM _ q_122)
  unfold f_X2_canChange at hf
  refine v_aload_n (pc := 0) X 0 dX2_canChange_0 rfl rfl ?_
  refine v_iload_n (pc := 1) X 1 dX2_canChange_1 rfl rfl ?_
  obtain ⟨t1, hf⟩ := hf
  refine v_callVI (pc := 2) X (As := [.int p1]) (rest := []) (c_X2_leastVersionAtWork l D cA L sh a0 p1 h _ hf) (cwV 1 X.ht (gwV inM q_217 q_198 q_199 q_2 q_200) rfl rfl rfl (by decide +kernel) ⟨Nat.le_of_ble_eq_true rfl, Nat.le_of_ble_eq_true rfl⟩) rfl (by decide) t1 (ent_2 t1) rfl rfl (Nat.le_of_ble_eq_true rfl) ⟨Nat.zero_le _, Nat.zero_le _⟩ dX2_canChange_2 (fun r2 h3 hf => ?_)
  refine v_istore_n (pc := 5) X (i := 2) (lv' := [(2, .int r2), (0, .ref a0), (1, .int p1)]) dX2_canChange_5 rfl (Nat.le_of_ble_eq_true rfl) rfl ?_
  refine v_iload_n (pc := 6) X 0 dX2_canChange_6 rfl rfl ?_
  refine v_if_lt (pc := 7) X 20 dX2_canChange_7 (by decide) (fun c => ?_) (fun c => ?_)
  · replace hf := if_t c hf
    refine v_iconst (pc := 20) X (v := (1 : Int32)) dX2_canChange_20 (by decide) ?_
    refine v_goto (pc := 21) X 25 dX2_canChange_21 (by decide) ?_
    exact v_zret (pc := 25) X hr hlk dX2_canChange_25 (by decide) hf
  · replace hf := if_f c hf
    refine v_iload_n (pc := 10) X 0 dX2_canChange_10 rfl rfl ?_
    refine v_aload_n (pc := 11) X 1 dX2_canChange_11 rfl rfl ?_
    obtain ⟨q4, e_q4, hf⟩ := hf
    refine ge_2_3 (pc := 12) X (fun w h => inM w (inG2 w h)) k9 t1 e_q4 dX2_canChange_12 ?_
    refine v_iload_n (pc := 15) X 2 dX2_canChange_15 rfl rfl ?_
    obtain ⟨t5, hf⟩ := hf
    obtain ⟨b7, v6, e_v6, hf⟩ := hf
    refine v_iald (pc := 16) X t5 b7 e_v6 dX2_canChange_16 ?_
    refine v_icmp_lt (pc := 17) X 24 dX2_canChange_17 (by decide) (fun c => ?_) (fun c => ?_)
    · replace hf := if_t c hf
      refine v_iconst (pc := 24) X (v := (0 : Int32)) dX2_canChange_24 (by decide) ?_
      exact v_zret (pc := 25) X hr hlk dX2_canChange_25 (by decide) hf
    · replace hf := if_f c hf
      refine v_iconst (pc := 20) X (v := (1 : Int32)) dX2_canChange_20 (by decide) ?_
      refine v_goto (pc := 21) X 25 dX2_canChange_21 (by decide) ?_
      exact v_zret (pc := 25) X hr hlk dX2_canChange_25 (by decide) hf
set_option maxHeartbeats 4000000 in
set_option maxRecDepth 100000 in
theorem c_X2_changeTable (l : Launch) (D : va_G) (cA : Nat → ClassId) (L : List Nat) (sh : Sh) (a0 : Nat) (p1 : Int32) (p2 : Int32) (h : Hp) (K : Int32 → Hp → Prop) (hf : f_X2_changeTable sh a0 p1 p2 h K) : Met l yX2_changeTable (wM yX2_changeTable cX2_changeTable 4 (some .int)) ({ frames := 3, cells := 0, slots := 0, locals := 70 } : Room) (PreM D cA L sh h [.ref a0, .int p1, .int p2]) (QI D cA L sh K) 0 0 (fun q => q ∈ L) := by
  refine met_v (cc := cX2_changeTable) (nL := 4) (ret := (some .int)) [(0, .ref a0), (1, .int p1), (2, .int p2)] (by decide) rfl (Nat.le_of_ble_eq_true rfl) rfl ?_
  intro p e s0 m below meth c X hr hlk
  have k15 := X.ht _ (inM _ q_124)
  have k47 := X.ht _ (inM _ q_126)
  have k9 := X.ht _ (inM _ q_122)
  have k18 := X.ht _ (inM _ q_128)
  have k21 := X.ht _ (inM _ q_129)
  have k37 := X.ht _ (inM _ q_116)
  have k41 := X.ht _ (inM _ q_118)
  unfold f_X2_changeTable at hf
  refine v_iload_n (pc := 0) X 1 dX2_changeTable_0 rfl rfl ?_
  refine v_if_lt (pc := 1) X 20 dX2_changeTable_1 (by decide) (fun c => ?_) (fun c => ?_)
  · replace hf := if_t c hf
    refine v_iconst (pc := 20) X (v := (-1 : Int32)) dX2_changeTable_20 (by decide) ?_
    exact v_iret (pc := 21) X hr hlk dX2_changeTable_21 hf
  · replace hf := if_f c hf
    refine v_iload_n (pc := 4) X 1 dX2_changeTable_4 rfl rfl ?_
    refine v_bipush (pc := 5) X (v := (6 : Int32)) dX2_changeTable_5 (by decide) ?_
    refine v_icmp_ge (pc := 7) X 20 dX2_changeTable_7 (by decide) (fun c => ?_) (fun c => ?_)
    · replace hf := if_t c hf
      refine v_iconst (pc := 20) X (v := (-1 : Int32)) dX2_changeTable_20 (by decide) ?_
      exact v_iret (pc := 21) X hr hlk dX2_changeTable_21 hf
    · replace hf := if_f c hf
      refine v_iload_n (pc := 10) X 2 dX2_changeTable_10 rfl rfl ?_
      refine v_if_lt (pc := 11) X 20 dX2_changeTable_11 (by decide) (fun c => ?_) (fun c => ?_)
      · replace hf := if_t c hf
        refine v_iconst (pc := 20) X (v := (-1 : Int32)) dX2_changeTable_20 (by decide) ?_
        exact v_iret (pc := 21) X hr hlk dX2_changeTable_21 hf
      · replace hf := if_f c hf
        refine v_iload_n (pc := 14) X 2 dX2_changeTable_14 rfl rfl ?_
        refine v_bipush (pc := 15) X (v := (8 : Int32)) dX2_changeTable_15 (by decide) ?_
        refine v_icmp_lt (pc := 17) X 22 dX2_changeTable_17 (by decide) (fun c => ?_) (fun c => ?_)
        · replace hf := if_t c hf
          refine v_aload_n (pc := 22) X 0 dX2_changeTable_22 rfl rfl ?_
          obtain ⟨t1, hf⟩ := hf
          obtain ⟨q2, e_q2, hf⟩ := hf
          refine ge_2_4 (pc := 23) X (fun w h => inM w (inG2 w h)) k15 t1 e_q2 dX2_changeTable_23 ?_
          refine v_iload_n (pc := 26) X 1 dX2_changeTable_26 rfl rfl ?_
          obtain ⟨t3, hf⟩ := hf
          obtain ⟨b5, v4, e_v4, hf⟩ := hf
          refine v_iald (pc := 27) X t3 b5 e_v4 dX2_changeTable_27 ?_
          refine v_iconst (pc := 28) X (v := (1 : Int32)) dX2_changeTable_28 (by decide) ?_
          refine v_iload_n (pc := 29) X 2 dX2_changeTable_29 rfl rfl ?_
          refine v_ishl (pc := 30) X dX2_changeTable_30 ?_
          refine v_ixor (pc := 31) X dX2_changeTable_31 ?_
          refine v_istore_n (pc := 32) X (i := 3) (lv' := [(3, .int (v4 ^^^ ((1 : Int32) <<< (p2 &&& 31)))), (0, .ref a0), (1, .int p1), (2, .int p2)]) dX2_changeTable_32 rfl (Nat.le_of_ble_eq_true rfl) rfl ?_
          refine v_iload_n (pc := 33) X 0 dX2_changeTable_33 rfl rfl ?_
          refine v_if_eq (pc := 34) X 45 dX2_changeTable_34 (by decide) (fun c => ?_) (fun c => ?_)
          · replace hf := if_t c hf
            refine v_bipush (pc := 45) X (v := (-2 : Int32)) dX2_changeTable_45 (by decide) ?_
            exact v_iret (pc := 47) X hr hlk dX2_changeTable_47 hf
          · replace hf := if_f c hf
            refine v_aload_n (pc := 37) X 1 dX2_changeTable_37 rfl rfl ?_
            refine v_iload_n (pc := 38) X 2 dX2_changeTable_38 rfl rfl ?_
            refine v_callVI (pc := 39) X (As := [.int p1]) (rest := []) (c_X2_canChange l D cA L sh a0 p1 h _ hf) (cwV 1 X.ht (gwV inM q_234 q_214 q_215 q_2 q_216) rfl rfl rfl (by decide +kernel) ⟨Nat.le_of_ble_eq_true rfl, Nat.le_of_ble_eq_true rfl⟩) rfl (by decide) t1 (ent_2 t1) rfl rfl (Nat.le_of_ble_eq_true rfl) ⟨Nat.zero_le _, Nat.zero_le _⟩ dX2_changeTable_39 (fun r6 h7 hf => ?_)
            refine v_if_ne (pc := 42) X 48 dX2_changeTable_42 (by decide) (fun c => ?_) (fun c => ?_)
            · replace hf := if_f c hf
              refine v_aload_n (pc := 48) X 1 dX2_changeTable_48 rfl rfl ?_
              obtain ⟨v8, e_v8, hf⟩ := hf
              refine ge_2_5 (pc := 49) X (fun w h => inM w (inG2 w h)) k47 t1 e_v8 dX2_changeTable_49 ?_
              refine v_bipush (pc := 52) X (v := (100 : Int32)) dX2_changeTable_52 (by decide) ?_
              refine v_icmp_lt (pc := 54) X 60 dX2_changeTable_54 (by decide) (fun c => ?_) (fun c => ?_)
              · replace hf := if_t c hf
                refine v_aload_n (pc := 60) X 1 dX2_changeTable_60 rfl rfl ?_
                obtain ⟨q9, e_q9, hf⟩ := hf
                refine ge_2_4 (pc := 61) X (fun w h => inM w (inG2 w h)) k15 t1 e_q9 dX2_changeTable_61 ?_
                refine v_iload_n (pc := 64) X 2 dX2_changeTable_64 rfl rfl ?_
                refine v_iload_n (pc := 65) X 0 dX2_changeTable_65 rfl rfl ?_
                obtain ⟨t10, hf⟩ := hf
                obtain ⟨b12, h11, e_h11, hf⟩ := hf
                refine v_iast (pc := 66) X t10 b12 e_h11 dX2_changeTable_66 ?_
                refine v_aload_n (pc := 67) X 1 dX2_changeTable_67 rfl rfl ?_
                obtain ⟨q13, e_q13, hf⟩ := hf
                refine ge_2_3 (pc := 68) X (fun w h => inM w (inG2 w h)) k9 t1 e_q13 dX2_changeTable_68 ?_
                refine v_iload_n (pc := 71) X 2 dX2_changeTable_71 rfl rfl ?_
                refine v_dup2 (pc := 72) X dX2_changeTable_72 rfl rfl ?_
                obtain ⟨t14, hf⟩ := hf
                obtain ⟨b16, v15, e_v15, hf⟩ := hf
                refine v_iald (pc := 73) X t14 b16 e_v15 dX2_changeTable_73 ?_
                refine v_iconst (pc := 74) X (v := (1 : Int32)) dX2_changeTable_74 (by decide) ?_
                refine v_iadd (pc := 75) X dX2_changeTable_75 ?_
                obtain ⟨b18, h17, e_h17, hf⟩ := hf
                refine v_iast (pc := 76) X t14 b18 e_h17 dX2_changeTable_76 ?_
                refine v_aload_n (pc := 77) X 1 dX2_changeTable_77 rfl rfl ?_
                obtain ⟨q19, e_q19, hf⟩ := hf
                refine ge_2_6 (pc := 78) X (fun w h => inM w (inG2 w h)) k18 t1 e_q19 dX2_changeTable_78 ?_
                refine v_aload_n (pc := 81) X 1 dX2_changeTable_81 rfl rfl ?_
                obtain ⟨v20, e_v20, hf⟩ := hf
                refine ge_2_5 (pc := 82) X (fun w h => inM w (inG2 w h)) k47 t1 e_v20 dX2_changeTable_82 ?_
                refine v_iload_n (pc := 85) X 2 dX2_changeTable_85 rfl rfl ?_
                obtain ⟨t21, hf⟩ := hf
                obtain ⟨b23, h22, e_h22, hf⟩ := hf
                refine v_iast (pc := 86) X t21 b23 e_h22 dX2_changeTable_86 ?_
                refine v_aload_n (pc := 87) X 1 dX2_changeTable_87 rfl rfl ?_
                obtain ⟨q24, e_q24, hf⟩ := hf
                refine ge_2_7 (pc := 88) X (fun w h => inM w (inG2 w h)) k21 t1 e_q24 dX2_changeTable_88 ?_
                refine v_aload_n (pc := 91) X 1 dX2_changeTable_91 rfl rfl ?_
                obtain ⟨v25, e_v25, hf⟩ := hf
                refine ge_2_5 (pc := 92) X (fun w h => inM w (inG2 w h)) k47 t1 e_v25 dX2_changeTable_92 ?_
                refine v_aload_n (pc := 95) X 1 dX2_changeTable_95 rfl rfl ?_
                obtain ⟨v26, e_v26, hf⟩ := hf
                refine ge_2_0 (pc := 96) X (fun w h => inM w (inG2 w h)) k37 t1 e_v26 dX2_changeTable_96 ?_
                refine v_aload_n (pc := 99) X 1 dX2_changeTable_99 rfl rfl ?_
                obtain ⟨v27, e_v27, hf⟩ := hf
                refine ge_2_1 (pc := 100) X (fun w h => inM w (inG2 w h)) k41 t1 e_v27 dX2_changeTable_100 ?_
                refine v_iadd (pc := 103) X dX2_changeTable_103 ?_
                obtain ⟨t28, hf⟩ := hf
                obtain ⟨b30, h29, e_h29, hf⟩ := hf
                refine v_iast (pc := 104) X t28 b30 e_h29 dX2_changeTable_104 ?_
                refine v_aload_n (pc := 105) X 1 dX2_changeTable_105 rfl rfl ?_
                refine v_dup (pc := 106) X dX2_changeTable_106 rfl ?_
                obtain ⟨v31, e_v31, hf⟩ := hf
                refine ge_2_5 (pc := 107) X (fun w h => inM w (inG2 w h)) k47 t1 e_v31 dX2_changeTable_107 ?_
                refine v_iconst (pc := 110) X (v := (1 : Int32)) dX2_changeTable_110 (by decide) ?_
                refine v_iadd (pc := 111) X dX2_changeTable_111 ?_
                obtain ⟨h32, e_h32, hf⟩ := hf
                refine pu_2_5 (pc := 112) X (fun w h => inM w (inG2 w h)) k47 t1 e_h32 dX2_changeTable_112 ?_
                refine v_aload_n (pc := 115) X 1 dX2_changeTable_115 rfl rfl ?_
                obtain ⟨v33, e_v33, hf⟩ := hf
                refine ge_2_1 (pc := 116) X (fun w h => inM w (inG2 w h)) k41 t1 e_v33 dX2_changeTable_116 ?_
                refine v_if_ne (pc := 119) X 132 dX2_changeTable_119 (by decide) (fun c => ?_) (fun c => ?_)
                · replace hf := if_f c hf
                  refine v_aload_n (pc := 132) X 1 dX2_changeTable_132 rfl rfl ?_
                  obtain ⟨q34, e_q34, hf⟩ := hf
                  refine ge_2_3 (pc := 133) X (fun w h => inM w (inG2 w h)) k9 t1 e_q34 dX2_changeTable_133 ?_
                  refine v_iload_n (pc := 136) X 2 dX2_changeTable_136 rfl rfl ?_
                  obtain ⟨t35, hf⟩ := hf
                  obtain ⟨b37, v36, e_v36, hf⟩ := hf
                  refine v_iald (pc := 137) X t35 b37 e_v36 dX2_changeTable_137 ?_
                  exact v_iret (pc := 138) X hr hlk dX2_changeTable_138 hf
                · replace hf := if_t c hf
                  refine v_aload_n (pc := 122) X 1 dX2_changeTable_122 rfl rfl ?_
                  refine v_aload_n (pc := 123) X 1 dX2_changeTable_123 rfl rfl ?_
                  obtain ⟨v38, e_v38, hf⟩ := hf
                  refine ge_2_5 (pc := 124) X (fun w h => inM w (inG2 w h)) k47 t1 e_v38 dX2_changeTable_124 ?_
                  refine v_iconst (pc := 127) X (v := (1 : Int32)) dX2_changeTable_127 (by decide) ?_
                  refine v_isub (pc := 128) X dX2_changeTable_128 ?_
                  refine v_callVV (pc := 129) X (As := [.int (v38 - (1 : Int32))]) (rest := []) (c_X2_arrive l D cA L sh a0 (v38 - (1 : Int32)) h32 _ hf) (cwV 1 X.ht (gwV inM q_340 q_341 q_441 q_2 q_342) rfl rfl rfl (by decide +kernel) ⟨Nat.le_of_ble_eq_true rfl, Nat.le_of_ble_eq_true rfl⟩) rfl (by decide) t1 (ent_2 t1) rfl rfl (Nat.le_of_ble_eq_true rfl) ⟨Nat.zero_le _, Nat.zero_le _⟩ dX2_changeTable_129 (fun h40 hf => ?_)
                  refine v_aload_n (pc := 132) X 1 dX2_changeTable_132 rfl rfl ?_
                  obtain ⟨q41, e_q41, hf⟩ := hf
                  refine ge_2_3 (pc := 133) X (fun w h => inM w (inG2 w h)) k9 t1 e_q41 dX2_changeTable_133 ?_
                  refine v_iload_n (pc := 136) X 2 dX2_changeTable_136 rfl rfl ?_
                  obtain ⟨t42, hf⟩ := hf
                  obtain ⟨b44, v43, e_v43, hf⟩ := hf
                  refine v_iald (pc := 137) X t42 b44 e_v43 dX2_changeTable_137 ?_
                  exact v_iret (pc := 138) X hr hlk dX2_changeTable_138 hf
              · replace hf := if_f c hf
                refine v_bipush (pc := 57) X (v := (-3 : Int32)) dX2_changeTable_57 (by decide) ?_
                exact v_iret (pc := 59) X hr hlk dX2_changeTable_59 hf
            · replace hf := if_t c hf
              refine v_bipush (pc := 45) X (v := (-2 : Int32)) dX2_changeTable_45 (by decide) ?_
              exact v_iret (pc := 47) X hr hlk dX2_changeTable_47 hf
        · replace hf := if_f c hf
          refine v_iconst (pc := 20) X (v := (-1 : Int32)) dX2_changeTable_20 (by decide) ?_
          exact v_iret (pc := 21) X hr hlk dX2_changeTable_21 hf
set_option maxHeartbeats 4000000 in
set_option maxRecDepth 100000 in
theorem w_X2_clear_27 {p : Program} {l : Launch} {e : Env} {s0 : State} {m : MethodId} {args : Array Value} {below : List Frame} {meth : Method} {c : Code} {D : va_G} {cA : Nat → ClassId} {L : List Nat} {sh : Sh} (X : Cx p s0 m c args cX2_clear 2 (wM yX2_clear cX2_clear 2 none) RX2 (fun q => q ∈ L) D cA L sh) (hr : meth.sig.returnType = none) (hlk : meth.locks = false) (x0 : Nat) (Xc : Hp → Prop) (K : Hp → Prop) (hx : ∀  (h1 : Hp), Xc  h1 → V p l e (headSpec (wM yX2_clear cX2_clear 2 none) ({ frames := 1, cells := 0, slots := 0, locals := 21 } : Room)).room s0 m args below meth c (MQ below (QV D cA L sh K) args s0 0 0 (fun q => q ∈ L)) (fun q => q ∈ L) 0 0 D cA L sh 2 h1 53 [(0, .ref x0)] []) : ∀ (n : Nat) (s : Int32) (h : Hp), lp (b_X2_clear_27 sh x0 Xc) n s h → V p l e (headSpec (wM yX2_clear cX2_clear 2 none) ({ frames := 1, cells := 0, slots := 0, locals := 21 } : Room)).room s0 m args below meth c (MQ below (QV D cA L sh K) args s0 0 0 (fun q => q ∈ L)) (fun q => q ∈ L) 0 0 D cA L sh 2 h 27 [(0, .ref x0), (1, .int s)] [] := by
  have k37 := X.ht _ (inM _ q_116)
  have k41 := X.ht _ (inM _ q_118)
  have k44 := X.ht _ (inM _ q_120)
  have k47 := X.ht _ (inM _ q_126)
  have k50 := X.ht _ (inM _ q_130)
  have k9 := X.ht _ (inM _ q_122)
  have k15 := X.ht _ (inM _ q_124)
  have k32 := X.ht _ (inM _ q_136)
  intro n
  induction n with
  | zero => intro s h hf; exact hf.elim
  | succ n ih =>
    intro s h hf
    replace hf : b_X2_clear_27 sh x0 Xc (lp (b_X2_clear_27 sh x0 Xc) n) s h := hf
    unfold b_X2_clear_27 at hf
    refine v_iload_n (pc := 27) X 1 dX2_clear_27 rfl rfl ?_
    refine v_bipush (pc := 28) X (v := (6 : Int32)) dX2_clear_28 (by decide) ?_
    refine v_icmp_ge (pc := 30) X 53 dX2_clear_30 (by decide) (fun c => ?_) (fun c => ?_)
    · replace hf := if_t c hf
      refine v_sub [0] rfl ?_
      exact hx h hf
    · replace hf := if_f c hf
      refine v_aload_n (pc := 33) X 0 dX2_clear_33 rfl rfl ?_
      obtain ⟨t7, hf⟩ := hf
      obtain ⟨q8, e_q8, hf⟩ := hf
      refine ge_2_3 (pc := 34) X (fun w h => inM w (inG2 w h)) k9 t7 e_q8 dX2_clear_34 ?_
      refine v_iload_n (pc := 37) X 1 dX2_clear_37 rfl rfl ?_
      refine v_iconst (pc := 38) X (v := (0 : Int32)) dX2_clear_38 (by decide) ?_
      obtain ⟨t9, hf⟩ := hf
      obtain ⟨b11, h10, e_h10, hf⟩ := hf
      refine v_iast (pc := 39) X t9 b11 e_h10 dX2_clear_39 ?_
      refine v_aload_n (pc := 40) X 0 dX2_clear_40 rfl rfl ?_
      obtain ⟨q12, e_q12, hf⟩ := hf
      refine ge_2_4 (pc := 41) X (fun w h => inM w (inG2 w h)) k15 t7 e_q12 dX2_clear_41 ?_
      refine v_iload_n (pc := 44) X 1 dX2_clear_44 rfl rfl ?_
      refine v_iconst (pc := 45) X (v := (1 : Int32)) dX2_clear_45 (by decide) ?_
      obtain ⟨t13, hf⟩ := hf
      obtain ⟨b15, h14, e_h14, hf⟩ := hf
      refine v_iast (pc := 46) X t13 b15 e_h14 dX2_clear_46 ?_
      refine v_iinc (pc := 47) X 1 (v := s + (1 : Int32)) (lv' := [(1, .int (s + (1 : Int32))), (0, .ref x0)]) dX2_clear_47 rfl rfl (Nat.le_of_ble_eq_true rfl) rfl ?_
      refine v_goto (pc := 50) X 27 dX2_clear_50 (by decide) ?_
      refine v_sub [1, 0] rfl ?_
      exact ih (s + (1 : Int32)) h14 hf

set_option maxHeartbeats 4000000 in
set_option maxRecDepth 100000 in
theorem w_X2_clear_55 {p : Program} {l : Launch} {e : Env} {s0 : State} {m : MethodId} {args : Array Value} {below : List Frame} {meth : Method} {c : Code} {D : va_G} {cA : Nat → ClassId} {L : List Nat} {sh : Sh} (X : Cx p s0 m c args cX2_clear 2 (wM yX2_clear cX2_clear 2 none) RX2 (fun q => q ∈ L) D cA L sh) (hr : meth.sig.returnType = none) (hlk : meth.locks = false) (x0 : Nat) (Xc : Hp → Prop) (K : Hp → Prop) (hx : ∀  (h1 : Hp), Xc  h1 → V p l e (headSpec (wM yX2_clear cX2_clear 2 none) ({ frames := 1, cells := 0, slots := 0, locals := 21 } : Room)).room s0 m args below meth c (MQ below (QV D cA L sh K) args s0 0 0 (fun q => q ∈ L)) (fun q => q ∈ L) 0 0 D cA L sh 2 h1 75 [] []) : ∀ (n : Nat) (s : Int32) (h : Hp), lp (b_X2_clear_55 sh x0 Xc) n s h → V p l e (headSpec (wM yX2_clear cX2_clear 2 none) ({ frames := 1, cells := 0, slots := 0, locals := 21 } : Room)).room s0 m args below meth c (MQ below (QV D cA L sh K) args s0 0 0 (fun q => q ∈ L)) (fun q => q ∈ L) 0 0 D cA L sh 2 h 55 [(0, .ref x0), (1, .int s)] [] := by
  have k37 := X.ht _ (inM _ q_116)
  have k41 := X.ht _ (inM _ q_118)
  have k44 := X.ht _ (inM _ q_120)
  have k47 := X.ht _ (inM _ q_126)
  have k50 := X.ht _ (inM _ q_130)
  have k9 := X.ht _ (inM _ q_122)
  have k15 := X.ht _ (inM _ q_124)
  have k32 := X.ht _ (inM _ q_136)
  intro n
  induction n with
  | zero => intro s h hf; exact hf.elim
  | succ n ih =>
    intro s h hf
    replace hf : b_X2_clear_55 sh x0 Xc (lp (b_X2_clear_55 sh x0 Xc) n) s h := hf
    unfold b_X2_clear_55 at hf
    refine v_iload_n (pc := 55) X 1 dX2_clear_55 rfl rfl ?_
    refine v_iconst (pc := 56) X (v := (4 : Int32)) dX2_clear_56 (by decide) ?_
    refine v_icmp_ge (pc := 57) X 75 dX2_clear_57 (by decide) (fun c => ?_) (fun c => ?_)
    · replace hf := if_t c hf
      refine v_sub [] rfl ?_
      exact hx h hf
    · replace hf := if_f c hf
      refine v_aload_n (pc := 60) X 0 dX2_clear_60 rfl rfl ?_
      obtain ⟨t17, hf⟩ := hf
      obtain ⟨q18, e_q18, hf⟩ := hf
      refine ge_2_11 (pc := 61) X (fun w h => inM w (inG2 w h)) k32 t17 e_q18 dX2_clear_61 ?_
      refine v_iload_n (pc := 64) X 1 dX2_clear_64 rfl rfl ?_
      obtain ⟨t19, hf⟩ := hf
      obtain ⟨b21, q20, e_q20, hf⟩ := hf
      refine v_aald_9 (pc := 65) X t19 b21 e_q20 dX2_clear_65 ?_
      obtain ⟨t22, hf⟩ := hf
      refine v_callVV (pc := 66) X (As := []) (rest := []) (c_X1_clear l D cA L sh q20 h _ hf) (cwV 0 X.ht (gwV inM q_154 q_155 q_156 q_3 q_157) rfl rfl rfl (by decide +kernel) ⟨Nat.le_of_ble_eq_true rfl, Nat.le_of_ble_eq_true rfl⟩) rfl (by decide) t22 (ent_1 t22) rfl rfl (Nat.le_of_ble_eq_true rfl) ⟨Nat.zero_le _, Nat.zero_le _⟩ dX2_clear_66 (fun h24 hf => ?_)
      refine v_iinc (pc := 69) X 1 (v := s + (1 : Int32)) (lv' := [(1, .int (s + (1 : Int32))), (0, .ref x0)]) dX2_clear_69 rfl rfl (Nat.le_of_ble_eq_true rfl) rfl ?_
      refine v_goto (pc := 72) X 55 dX2_clear_72 (by decide) ?_
      refine v_sub [1, 0] rfl ?_
      exact ih (s + (1 : Int32)) h24 hf

set_option maxHeartbeats 4000000 in
set_option maxRecDepth 100000 in
theorem c_X2_clear (l : Launch) (D : va_G) (cA : Nat → ClassId) (L : List Nat) (sh : Sh) (a0 : Nat) (h : Hp) (K : Hp → Prop) (hf : f_X2_clear sh a0 h K) : Met l yX2_clear (wM yX2_clear cX2_clear 2 none) ({ frames := 1, cells := 0, slots := 0, locals := 21 } : Room) (PreM D cA L sh h [.ref a0]) (QV D cA L sh K) 0 0 (fun q => q ∈ L) := by
  refine met_v (cc := cX2_clear) (nL := 2) (ret := none) [(0, .ref a0)] (by decide) rfl (Nat.le_of_ble_eq_true rfl) rfl ?_
  intro p e s0 m below meth c X hr hlk
  have k37 := X.ht _ (inM _ q_116)
  have k41 := X.ht _ (inM _ q_118)
  have k44 := X.ht _ (inM _ q_120)
  have k47 := X.ht _ (inM _ q_126)
  have k50 := X.ht _ (inM _ q_130)
  have k9 := X.ht _ (inM _ q_122)
  have k15 := X.ht _ (inM _ q_124)
  have k32 := X.ht _ (inM _ q_136)
  unfold f_X2_clear at hf
  refine v_aload_n (pc := 0) X 0 dX2_clear_0 rfl rfl ?_
  refine v_iconst (pc := 1) X (v := (0 : Int32)) dX2_clear_1 (by decide) ?_
  obtain ⟨t1, hf⟩ := hf
  obtain ⟨h2, e_h2, hf⟩ := hf
  refine pu_2_0 (pc := 2) X (fun w h => inM w (inG2 w h)) k37 t1 e_h2 dX2_clear_2 ?_
  refine v_aload_n (pc := 5) X 0 dX2_clear_5 rfl rfl ?_
  refine v_iconst (pc := 6) X (v := (3 : Int32)) dX2_clear_6 (by decide) ?_
  obtain ⟨h3, e_h3, hf⟩ := hf
  refine pu_2_1 (pc := 7) X (fun w h => inM w (inG2 w h)) k41 t1 e_h3 dX2_clear_7 ?_
  refine v_aload_n (pc := 10) X 0 dX2_clear_10 rfl rfl ?_
  refine v_iconst (pc := 11) X (v := (3 : Int32)) dX2_clear_11 (by decide) ?_
  obtain ⟨h4, e_h4, hf⟩ := hf
  refine pu_2_2 (pc := 12) X (fun w h => inM w (inG2 w h)) k44 t1 e_h4 dX2_clear_12 ?_
  refine v_aload_n (pc := 15) X 0 dX2_clear_15 rfl rfl ?_
  refine v_iconst (pc := 16) X (v := (0 : Int32)) dX2_clear_16 (by decide) ?_
  obtain ⟨h5, e_h5, hf⟩ := hf
  refine pu_2_5 (pc := 17) X (fun w h => inM w (inG2 w h)) k47 t1 e_h5 dX2_clear_17 ?_
  refine v_aload_n (pc := 20) X 0 dX2_clear_20 rfl rfl ?_
  refine v_iconst (pc := 21) X (v := (0 : Int32)) dX2_clear_21 (by decide) ?_
  obtain ⟨h6, e_h6, hf⟩ := hf
  refine pu_2_8 (pc := 22) X (fun w h => inM w (inG2 w h)) k50 t1 e_h6 dX2_clear_22 ?_
  refine v_iconst (pc := 25) X (v := (0 : Int32)) dX2_clear_25 (by decide) ?_
  refine v_istore_n (pc := 26) X (i := 1) (lv' := [(1, .int (0 : Int32)), (0, .ref a0)]) dX2_clear_26 rfl (Nat.le_of_ble_eq_true rfl) rfl ?_
  obtain ⟨n, hf⟩ := hf
  refine v_sub [1, 0] rfl ?_
  refine w_X2_clear_27 X hr hlk a0 _ K (fun  h16 hf => ?_) n (0 : Int32) h6 hf
  refine v_iconst (pc := 53) X (v := (0 : Int32)) dX2_clear_53 (by decide) ?_
  refine v_istore_n (pc := 54) X (i := 1) (lv' := [(1, .int (0 : Int32)), (0, .ref a0)]) dX2_clear_54 rfl (Nat.le_of_ble_eq_true rfl) rfl ?_
  obtain ⟨n, hf⟩ := hf
  refine v_sub [1, 0] rfl ?_
  refine w_X2_clear_55 X hr hlk a0 _ K (fun  h25 hf => ?_) n (0 : Int32) h16 hf
  exact v_vret (pc := 75) X hr hlk dX2_clear_75 hf
set_option maxHeartbeats 4000000 in
set_option maxRecDepth 100000 in
theorem w_X2_copyFrom_42 {p : Program} {l : Launch} {e : Env} {s0 : State} {m : MethodId} {args : Array Value} {below : List Frame} {meth : Method} {c : Code} {D : va_G} {cA : Nat → ClassId} {L : List Nat} {sh : Sh} (X : Cx p s0 m c args cX2_copyFrom 3 (wM yX2_copyFrom cX2_copyFrom 3 none) RX2 (fun q => q ∈ L) D cA L sh) (hr : meth.sig.returnType = none) (hlk : meth.locks = false) (x0 : Nat) (x1 : Nat) (Xc : Hp → Prop) (K : Hp → Prop) (hx : ∀  (h1 : Hp), Xc  h1 → V p l e (headSpec (wM yX2_copyFrom cX2_copyFrom 3 none) ({ frames := 2, cells := 0, slots := 0, locals := 44 } : Room)).room s0 m args below meth c (MQ below (QV D cA L sh K) args s0 0 0 (fun q => q ∈ L)) (fun q => q ∈ L) 0 0 D cA L sh 3 h1 78 [(0, .ref x0), (1, .ref x1)] []) : ∀ (n : Nat) (s : Int32) (h : Hp), lp (b_X2_copyFrom_42 sh x0 x1 Xc) n s h → V p l e (headSpec (wM yX2_copyFrom cX2_copyFrom 3 none) ({ frames := 2, cells := 0, slots := 0, locals := 44 } : Room)).room s0 m args below meth c (MQ below (QV D cA L sh K) args s0 0 0 (fun q => q ∈ L)) (fun q => q ∈ L) 0 0 D cA L sh 3 h 42 [(0, .ref x0), (1, .ref x1), (2, .int s)] [] := by
  have k37 := X.ht _ (inM _ q_116)
  have k41 := X.ht _ (inM _ q_118)
  have k44 := X.ht _ (inM _ q_120)
  have k47 := X.ht _ (inM _ q_126)
  have k50 := X.ht _ (inM _ q_130)
  have k9 := X.ht _ (inM _ q_122)
  have k15 := X.ht _ (inM _ q_124)
  have k18 := X.ht _ (inM _ q_128)
  have k21 := X.ht _ (inM _ q_129)
  have k24 := X.ht _ (inM _ q_132)
  have k27 := X.ht _ (inM _ q_134)
  have k32 := X.ht _ (inM _ q_136)
  intro n
  induction n with
  | zero => intro s h hf; exact hf.elim
  | succ n ih =>
    intro s h hf
    replace hf : b_X2_copyFrom_42 sh x0 x1 Xc (lp (b_X2_copyFrom_42 sh x0 x1 Xc) n) s h := hf
    unfold b_X2_copyFrom_42 at hf
    refine v_iload_n (pc := 42) X 2 dX2_copyFrom_42 rfl rfl ?_
    refine v_bipush (pc := 43) X (v := (6 : Int32)) dX2_copyFrom_43 (by decide) ?_
    refine v_icmp_ge (pc := 45) X 78 dX2_copyFrom_45 (by decide) (fun c => ?_) (fun c => ?_)
    · replace hf := if_t c hf
      refine v_sub [0, 1] rfl ?_
      exact hx h hf
    · replace hf := if_f c hf
      refine v_aload_n (pc := 48) X 0 dX2_copyFrom_48 rfl rfl ?_
      obtain ⟨t13, hf⟩ := hf
      obtain ⟨q14, e_q14, hf⟩ := hf
      refine ge_2_3 (pc := 49) X (fun w h => inM w (inG2 w h)) k9 t13 e_q14 dX2_copyFrom_49 ?_
      refine v_iload_n (pc := 52) X 2 dX2_copyFrom_52 rfl rfl ?_
      refine v_aload_n (pc := 53) X 1 dX2_copyFrom_53 rfl rfl ?_
      obtain ⟨t15, hf⟩ := hf
      obtain ⟨q16, e_q16, hf⟩ := hf
      refine ge_2_3 (pc := 54) X (fun w h => inM w (inG2 w h)) k9 t15 e_q16 dX2_copyFrom_54 ?_
      refine v_iload_n (pc := 57) X 2 dX2_copyFrom_57 rfl rfl ?_
      obtain ⟨t17, hf⟩ := hf
      obtain ⟨b19, v18, e_v18, hf⟩ := hf
      refine v_iald (pc := 58) X t17 b19 e_v18 dX2_copyFrom_58 ?_
      obtain ⟨t20, hf⟩ := hf
      obtain ⟨b22, h21, e_h21, hf⟩ := hf
      refine v_iast (pc := 59) X t20 b22 e_h21 dX2_copyFrom_59 ?_
      refine v_aload_n (pc := 60) X 0 dX2_copyFrom_60 rfl rfl ?_
      obtain ⟨q23, e_q23, hf⟩ := hf
      refine ge_2_4 (pc := 61) X (fun w h => inM w (inG2 w h)) k15 t13 e_q23 dX2_copyFrom_61 ?_
      refine v_iload_n (pc := 64) X 2 dX2_copyFrom_64 rfl rfl ?_
      refine v_aload_n (pc := 65) X 1 dX2_copyFrom_65 rfl rfl ?_
      obtain ⟨q24, e_q24, hf⟩ := hf
      refine ge_2_4 (pc := 66) X (fun w h => inM w (inG2 w h)) k15 t15 e_q24 dX2_copyFrom_66 ?_
      refine v_iload_n (pc := 69) X 2 dX2_copyFrom_69 rfl rfl ?_
      obtain ⟨t25, hf⟩ := hf
      obtain ⟨b27, v26, e_v26, hf⟩ := hf
      refine v_iald (pc := 70) X t25 b27 e_v26 dX2_copyFrom_70 ?_
      obtain ⟨t28, hf⟩ := hf
      obtain ⟨b30, h29, e_h29, hf⟩ := hf
      refine v_iast (pc := 71) X t28 b30 e_h29 dX2_copyFrom_71 ?_
      refine v_iinc (pc := 72) X 2 (v := s + (1 : Int32)) (lv' := [(2, .int (s + (1 : Int32))), (0, .ref x0), (1, .ref x1)]) dX2_copyFrom_72 rfl rfl (Nat.le_of_ble_eq_true rfl) rfl ?_
      refine v_goto (pc := 75) X 42 dX2_copyFrom_75 (by decide) ?_
      refine v_sub [1, 2, 0] rfl ?_
      exact ih (s + (1 : Int32)) h29 hf

set_option maxHeartbeats 4000000 in
set_option maxRecDepth 100000 in
theorem w_X2_copyFrom_80 {p : Program} {l : Launch} {e : Env} {s0 : State} {m : MethodId} {args : Array Value} {below : List Frame} {meth : Method} {c : Code} {D : va_G} {cA : Nat → ClassId} {L : List Nat} {sh : Sh} (X : Cx p s0 m c args cX2_copyFrom 3 (wM yX2_copyFrom cX2_copyFrom 3 none) RX2 (fun q => q ∈ L) D cA L sh) (hr : meth.sig.returnType = none) (hlk : meth.locks = false) (x0 : Nat) (x1 : Nat) (Xc : Hp → Prop) (K : Hp → Prop) (hx : ∀  (h1 : Hp), Xc  h1 → V p l e (headSpec (wM yX2_copyFrom cX2_copyFrom 3 none) ({ frames := 2, cells := 0, slots := 0, locals := 44 } : Room)).room s0 m args below meth c (MQ below (QV D cA L sh K) args s0 0 0 (fun q => q ∈ L)) (fun q => q ∈ L) 0 0 D cA L sh 3 h1 124 [(0, .ref x0), (1, .ref x1)] []) : ∀ (n : Nat) (s : Int32) (h : Hp), lp (b_X2_copyFrom_80 sh x0 x1 Xc) n s h → V p l e (headSpec (wM yX2_copyFrom cX2_copyFrom 3 none) ({ frames := 2, cells := 0, slots := 0, locals := 44 } : Room)).room s0 m args below meth c (MQ below (QV D cA L sh K) args s0 0 0 (fun q => q ∈ L)) (fun q => q ∈ L) 0 0 D cA L sh 3 h 80 [(0, .ref x0), (1, .ref x1), (2, .int s)] [] := by
  have k37 := X.ht _ (inM _ q_116)
  have k41 := X.ht _ (inM _ q_118)
  have k44 := X.ht _ (inM _ q_120)
  have k47 := X.ht _ (inM _ q_126)
  have k50 := X.ht _ (inM _ q_130)
  have k9 := X.ht _ (inM _ q_122)
  have k15 := X.ht _ (inM _ q_124)
  have k18 := X.ht _ (inM _ q_128)
  have k21 := X.ht _ (inM _ q_129)
  have k24 := X.ht _ (inM _ q_132)
  have k27 := X.ht _ (inM _ q_134)
  have k32 := X.ht _ (inM _ q_136)
  intro n
  induction n with
  | zero => intro s h hf; exact hf.elim
  | succ n ih =>
    intro s h hf
    replace hf : b_X2_copyFrom_80 sh x0 x1 Xc (lp (b_X2_copyFrom_80 sh x0 x1 Xc) n) s h := hf
    unfold b_X2_copyFrom_80 at hf
    refine v_iload_n (pc := 80) X 2 dX2_copyFrom_80 rfl rfl ?_
    refine v_aload_n (pc := 81) X 0 dX2_copyFrom_81 rfl rfl ?_
    obtain ⟨t32, hf⟩ := hf
    obtain ⟨v33, e_v33, hf⟩ := hf
    refine ge_2_5 (pc := 82) X (fun w h => inM w (inG2 w h)) k47 t32 e_v33 dX2_copyFrom_82 ?_
    refine v_icmp_ge (pc := 85) X 124 dX2_copyFrom_85 (by decide) (fun c => ?_) (fun c => ?_)
    · replace hf := if_t c hf
      refine v_sub [0, 1] rfl ?_
      exact hx h hf
    · replace hf := if_f c hf
      refine v_iload_n (pc := 88) X 2 dX2_copyFrom_88 rfl rfl ?_
      refine v_bipush (pc := 89) X (v := (100 : Int32)) dX2_copyFrom_89 (by decide) ?_
      refine v_icmp_ge (pc := 91) X 124 dX2_copyFrom_91 (by decide) (fun c => ?_) (fun c => ?_)
      · replace hf := if_t c hf
        refine v_sub [0, 1] rfl ?_
        exact hx h hf
      · replace hf := if_f c hf
        refine v_aload_n (pc := 94) X 0 dX2_copyFrom_94 rfl rfl ?_
        obtain ⟨q34, e_q34, hf⟩ := hf
        refine ge_2_6 (pc := 95) X (fun w h => inM w (inG2 w h)) k18 t32 e_q34 dX2_copyFrom_95 ?_
        refine v_iload_n (pc := 98) X 2 dX2_copyFrom_98 rfl rfl ?_
        refine v_aload_n (pc := 99) X 1 dX2_copyFrom_99 rfl rfl ?_
        obtain ⟨t35, hf⟩ := hf
        obtain ⟨q36, e_q36, hf⟩ := hf
        refine ge_2_6 (pc := 100) X (fun w h => inM w (inG2 w h)) k18 t35 e_q36 dX2_copyFrom_100 ?_
        refine v_iload_n (pc := 103) X 2 dX2_copyFrom_103 rfl rfl ?_
        obtain ⟨t37, hf⟩ := hf
        obtain ⟨b39, v38, e_v38, hf⟩ := hf
        refine v_iald (pc := 104) X t37 b39 e_v38 dX2_copyFrom_104 ?_
        obtain ⟨t40, hf⟩ := hf
        obtain ⟨b42, h41, e_h41, hf⟩ := hf
        refine v_iast (pc := 105) X t40 b42 e_h41 dX2_copyFrom_105 ?_
        refine v_aload_n (pc := 106) X 0 dX2_copyFrom_106 rfl rfl ?_
        obtain ⟨q43, e_q43, hf⟩ := hf
        refine ge_2_7 (pc := 107) X (fun w h => inM w (inG2 w h)) k21 t32 e_q43 dX2_copyFrom_107 ?_
        refine v_iload_n (pc := 110) X 2 dX2_copyFrom_110 rfl rfl ?_
        refine v_aload_n (pc := 111) X 1 dX2_copyFrom_111 rfl rfl ?_
        obtain ⟨q44, e_q44, hf⟩ := hf
        refine ge_2_7 (pc := 112) X (fun w h => inM w (inG2 w h)) k21 t35 e_q44 dX2_copyFrom_112 ?_
        refine v_iload_n (pc := 115) X 2 dX2_copyFrom_115 rfl rfl ?_
        obtain ⟨t45, hf⟩ := hf
        obtain ⟨b47, v46, e_v46, hf⟩ := hf
        refine v_iald (pc := 116) X t45 b47 e_v46 dX2_copyFrom_116 ?_
        obtain ⟨t48, hf⟩ := hf
        obtain ⟨b50, h49, e_h49, hf⟩ := hf
        refine v_iast (pc := 117) X t48 b50 e_h49 dX2_copyFrom_117 ?_
        refine v_iinc (pc := 118) X 2 (v := s + (1 : Int32)) (lv' := [(2, .int (s + (1 : Int32))), (0, .ref x0), (1, .ref x1)]) dX2_copyFrom_118 rfl rfl (Nat.le_of_ble_eq_true rfl) rfl ?_
        refine v_goto (pc := 121) X 80 dX2_copyFrom_121 (by decide) ?_
        refine v_sub [1, 2, 0] rfl ?_
        exact ih (s + (1 : Int32)) h49 hf

set_option maxHeartbeats 4000000 in
set_option maxRecDepth 100000 in
theorem w_X2_copyFrom_126 {p : Program} {l : Launch} {e : Env} {s0 : State} {m : MethodId} {args : Array Value} {below : List Frame} {meth : Method} {c : Code} {D : va_G} {cA : Nat → ClassId} {L : List Nat} {sh : Sh} (X : Cx p s0 m c args cX2_copyFrom 3 (wM yX2_copyFrom cX2_copyFrom 3 none) RX2 (fun q => q ∈ L) D cA L sh) (hr : meth.sig.returnType = none) (hlk : meth.locks = false) (x0 : Nat) (x1 : Nat) (Xc : Hp → Prop) (K : Hp → Prop) (hx : ∀  (h1 : Hp), Xc  h1 → V p l e (headSpec (wM yX2_copyFrom cX2_copyFrom 3 none) ({ frames := 2, cells := 0, slots := 0, locals := 44 } : Room)).room s0 m args below meth c (MQ below (QV D cA L sh K) args s0 0 0 (fun q => q ∈ L)) (fun q => q ∈ L) 0 0 D cA L sh 3 h1 162 [(0, .ref x0), (1, .ref x1)] []) : ∀ (n : Nat) (s : Int32) (h : Hp), lp (b_X2_copyFrom_126 sh x0 x1 Xc) n s h → V p l e (headSpec (wM yX2_copyFrom cX2_copyFrom 3 none) ({ frames := 2, cells := 0, slots := 0, locals := 44 } : Room)).room s0 m args below meth c (MQ below (QV D cA L sh K) args s0 0 0 (fun q => q ∈ L)) (fun q => q ∈ L) 0 0 D cA L sh 3 h 126 [(0, .ref x0), (1, .ref x1), (2, .int s)] [] := by
  have k37 := X.ht _ (inM _ q_116)
  have k41 := X.ht _ (inM _ q_118)
  have k44 := X.ht _ (inM _ q_120)
  have k47 := X.ht _ (inM _ q_126)
  have k50 := X.ht _ (inM _ q_130)
  have k9 := X.ht _ (inM _ q_122)
  have k15 := X.ht _ (inM _ q_124)
  have k18 := X.ht _ (inM _ q_128)
  have k21 := X.ht _ (inM _ q_129)
  have k24 := X.ht _ (inM _ q_132)
  have k27 := X.ht _ (inM _ q_134)
  have k32 := X.ht _ (inM _ q_136)
  intro n
  induction n with
  | zero => intro s h hf; exact hf.elim
  | succ n ih =>
    intro s h hf
    replace hf : b_X2_copyFrom_126 sh x0 x1 Xc (lp (b_X2_copyFrom_126 sh x0 x1 Xc) n) s h := hf
    unfold b_X2_copyFrom_126 at hf
    refine v_iload_n (pc := 126) X 2 dX2_copyFrom_126 rfl rfl ?_
    refine v_bipush (pc := 127) X (v := (12 : Int32)) dX2_copyFrom_127 (by decide) ?_
    refine v_icmp_ge (pc := 129) X 162 dX2_copyFrom_129 (by decide) (fun c => ?_) (fun c => ?_)
    · replace hf := if_t c hf
      refine v_sub [0, 1] rfl ?_
      exact hx h hf
    · replace hf := if_f c hf
      refine v_aload_n (pc := 132) X 0 dX2_copyFrom_132 rfl rfl ?_
      obtain ⟨t52, hf⟩ := hf
      obtain ⟨q53, e_q53, hf⟩ := hf
      refine ge_2_9 (pc := 133) X (fun w h => inM w (inG2 w h)) k24 t52 e_q53 dX2_copyFrom_133 ?_
      refine v_iload_n (pc := 136) X 2 dX2_copyFrom_136 rfl rfl ?_
      refine v_aload_n (pc := 137) X 1 dX2_copyFrom_137 rfl rfl ?_
      obtain ⟨t54, hf⟩ := hf
      obtain ⟨q55, e_q55, hf⟩ := hf
      refine ge_2_9 (pc := 138) X (fun w h => inM w (inG2 w h)) k24 t54 e_q55 dX2_copyFrom_138 ?_
      refine v_iload_n (pc := 141) X 2 dX2_copyFrom_141 rfl rfl ?_
      obtain ⟨t56, hf⟩ := hf
      obtain ⟨b58, v57, e_v57, hf⟩ := hf
      refine v_iald (pc := 142) X t56 b58 e_v57 dX2_copyFrom_142 ?_
      obtain ⟨t59, hf⟩ := hf
      obtain ⟨b61, h60, e_h60, hf⟩ := hf
      refine v_iast (pc := 143) X t59 b61 e_h60 dX2_copyFrom_143 ?_
      refine v_aload_n (pc := 144) X 0 dX2_copyFrom_144 rfl rfl ?_
      obtain ⟨q62, e_q62, hf⟩ := hf
      refine ge_2_10 (pc := 145) X (fun w h => inM w (inG2 w h)) k27 t52 e_q62 dX2_copyFrom_145 ?_
      refine v_iload_n (pc := 148) X 2 dX2_copyFrom_148 rfl rfl ?_
      refine v_aload_n (pc := 149) X 1 dX2_copyFrom_149 rfl rfl ?_
      obtain ⟨q63, e_q63, hf⟩ := hf
      refine ge_2_10 (pc := 150) X (fun w h => inM w (inG2 w h)) k27 t54 e_q63 dX2_copyFrom_150 ?_
      refine v_iload_n (pc := 153) X 2 dX2_copyFrom_153 rfl rfl ?_
      obtain ⟨t64, hf⟩ := hf
      obtain ⟨b66, v65, e_v65, hf⟩ := hf
      refine v_iald (pc := 154) X t64 b66 e_v65 dX2_copyFrom_154 ?_
      obtain ⟨t67, hf⟩ := hf
      obtain ⟨b69, h68, e_h68, hf⟩ := hf
      refine v_iast (pc := 155) X t67 b69 e_h68 dX2_copyFrom_155 ?_
      refine v_iinc (pc := 156) X 2 (v := s + (1 : Int32)) (lv' := [(2, .int (s + (1 : Int32))), (0, .ref x0), (1, .ref x1)]) dX2_copyFrom_156 rfl rfl (Nat.le_of_ble_eq_true rfl) rfl ?_
      refine v_goto (pc := 159) X 126 dX2_copyFrom_159 (by decide) ?_
      refine v_sub [1, 2, 0] rfl ?_
      exact ih (s + (1 : Int32)) h68 hf

set_option maxHeartbeats 4000000 in
set_option maxRecDepth 100000 in
theorem w_X2_copyFrom_164 {p : Program} {l : Launch} {e : Env} {s0 : State} {m : MethodId} {args : Array Value} {below : List Frame} {meth : Method} {c : Code} {D : va_G} {cA : Nat → ClassId} {L : List Nat} {sh : Sh} (X : Cx p s0 m c args cX2_copyFrom 3 (wM yX2_copyFrom cX2_copyFrom 3 none) RX2 (fun q => q ∈ L) D cA L sh) (hr : meth.sig.returnType = none) (hlk : meth.locks = false) (x0 : Nat) (x1 : Nat) (Xc : Hp → Prop) (K : Hp → Prop) (hx : ∀  (h1 : Hp), Xc  h1 → V p l e (headSpec (wM yX2_copyFrom cX2_copyFrom 3 none) ({ frames := 2, cells := 0, slots := 0, locals := 44 } : Room)).room s0 m args below meth c (MQ below (QV D cA L sh K) args s0 0 0 (fun q => q ∈ L)) (fun q => q ∈ L) 0 0 D cA L sh 3 h1 190 [] []) : ∀ (n : Nat) (s : Int32) (h : Hp), lp (b_X2_copyFrom_164 sh x0 x1 Xc) n s h → V p l e (headSpec (wM yX2_copyFrom cX2_copyFrom 3 none) ({ frames := 2, cells := 0, slots := 0, locals := 44 } : Room)).room s0 m args below meth c (MQ below (QV D cA L sh K) args s0 0 0 (fun q => q ∈ L)) (fun q => q ∈ L) 0 0 D cA L sh 3 h 164 [(0, .ref x0), (1, .ref x1), (2, .int s)] [] := by
  have k37 := X.ht _ (inM _ q_116)
  have k41 := X.ht _ (inM _ q_118)
  have k44 := X.ht _ (inM _ q_120)
  have k47 := X.ht _ (inM _ q_126)
  have k50 := X.ht _ (inM _ q_130)
  have k9 := X.ht _ (inM _ q_122)
  have k15 := X.ht _ (inM _ q_124)
  have k18 := X.ht _ (inM _ q_128)
  have k21 := X.ht _ (inM _ q_129)
  have k24 := X.ht _ (inM _ q_132)
  have k27 := X.ht _ (inM _ q_134)
  have k32 := X.ht _ (inM _ q_136)
  intro n
  induction n with
  | zero => intro s h hf; exact hf.elim
  | succ n ih =>
    intro s h hf
    replace hf : b_X2_copyFrom_164 sh x0 x1 Xc (lp (b_X2_copyFrom_164 sh x0 x1 Xc) n) s h := hf
    unfold b_X2_copyFrom_164 at hf
    refine v_iload_n (pc := 164) X 2 dX2_copyFrom_164 rfl rfl ?_
    refine v_iconst (pc := 165) X (v := (4 : Int32)) dX2_copyFrom_165 (by decide) ?_
    refine v_icmp_ge (pc := 166) X 190 dX2_copyFrom_166 (by decide) (fun c => ?_) (fun c => ?_)
    · replace hf := if_t c hf
      refine v_sub [] rfl ?_
      exact hx h hf
    · replace hf := if_f c hf
      refine v_aload_n (pc := 169) X 0 dX2_copyFrom_169 rfl rfl ?_
      obtain ⟨t71, hf⟩ := hf
      obtain ⟨q72, e_q72, hf⟩ := hf
      refine ge_2_11 (pc := 170) X (fun w h => inM w (inG2 w h)) k32 t71 e_q72 dX2_copyFrom_170 ?_
      refine v_iload_n (pc := 173) X 2 dX2_copyFrom_173 rfl rfl ?_
      obtain ⟨t73, hf⟩ := hf
      obtain ⟨b75, q74, e_q74, hf⟩ := hf
      refine v_aald_9 (pc := 174) X t73 b75 e_q74 dX2_copyFrom_174 ?_
      refine v_aload_n (pc := 175) X 1 dX2_copyFrom_175 rfl rfl ?_
      obtain ⟨t76, hf⟩ := hf
      obtain ⟨q77, e_q77, hf⟩ := hf
      refine ge_2_11 (pc := 176) X (fun w h => inM w (inG2 w h)) k32 t76 e_q77 dX2_copyFrom_176 ?_
      refine v_iload_n (pc := 179) X 2 dX2_copyFrom_179 rfl rfl ?_
      obtain ⟨t78, hf⟩ := hf
      obtain ⟨b80, q79, e_q79, hf⟩ := hf
      refine v_aald_9 (pc := 180) X t78 b80 e_q79 dX2_copyFrom_180 ?_
      obtain ⟨t81, hf⟩ := hf
      refine v_callVV (pc := 181) X (As := [.ref q79]) (rest := []) (c_X1_copyFrom l D cA L sh q74 q79 h _ hf) (cwV 1 X.ht (gwV inM q_324 q_325 q_326 q_3 q_327) rfl rfl rfl (by decide +kernel) ⟨Nat.le_of_ble_eq_true rfl, Nat.le_of_ble_eq_true rfl⟩) rfl (by decide) t81 (ent_1 t81) rfl rfl (Nat.le_of_ble_eq_true rfl) ⟨Nat.zero_le _, Nat.zero_le _⟩ dX2_copyFrom_181 (fun h83 hf => ?_)
      refine v_iinc (pc := 184) X 2 (v := s + (1 : Int32)) (lv' := [(2, .int (s + (1 : Int32))), (0, .ref x0), (1, .ref x1)]) dX2_copyFrom_184 rfl rfl (Nat.le_of_ble_eq_true rfl) rfl ?_
      refine v_goto (pc := 187) X 164 dX2_copyFrom_187 (by decide) ?_
      refine v_sub [1, 2, 0] rfl ?_
      exact ih (s + (1 : Int32)) h83 hf

set_option maxHeartbeats 4000000 in
set_option maxRecDepth 100000 in
theorem c_X2_copyFrom (l : Launch) (D : va_G) (cA : Nat → ClassId) (L : List Nat) (sh : Sh) (a0 : Nat) (p1 : Nat) (h : Hp) (K : Hp → Prop) (hf : f_X2_copyFrom sh a0 p1 h K) : Met l yX2_copyFrom (wM yX2_copyFrom cX2_copyFrom 3 none) ({ frames := 2, cells := 0, slots := 0, locals := 44 } : Room) (PreM D cA L sh h [.ref a0, .ref p1]) (QV D cA L sh K) 0 0 (fun q => q ∈ L) := by
  refine met_v (cc := cX2_copyFrom) (nL := 3) (ret := none) [(0, .ref a0), (1, .ref p1)] (by decide) rfl (Nat.le_of_ble_eq_true rfl) rfl ?_
  intro p e s0 m below meth c X hr hlk
  have k37 := X.ht _ (inM _ q_116)
  have k41 := X.ht _ (inM _ q_118)
  have k44 := X.ht _ (inM _ q_120)
  have k47 := X.ht _ (inM _ q_126)
  have k50 := X.ht _ (inM _ q_130)
  have k9 := X.ht _ (inM _ q_122)
  have k15 := X.ht _ (inM _ q_124)
  have k18 := X.ht _ (inM _ q_128)
  have k21 := X.ht _ (inM _ q_129)
  have k24 := X.ht _ (inM _ q_132)
  have k27 := X.ht _ (inM _ q_134)
  have k32 := X.ht _ (inM _ q_136)
  unfold f_X2_copyFrom at hf
  refine v_aload_n (pc := 0) X 0 dX2_copyFrom_0 rfl rfl ?_
  refine v_aload_n (pc := 1) X 1 dX2_copyFrom_1 rfl rfl ?_
  obtain ⟨t1, hf⟩ := hf
  obtain ⟨v2, e_v2, hf⟩ := hf
  refine ge_2_0 (pc := 2) X (fun w h => inM w (inG2 w h)) k37 t1 e_v2 dX2_copyFrom_2 ?_
  obtain ⟨t3, hf⟩ := hf
  obtain ⟨h4, e_h4, hf⟩ := hf
  refine pu_2_0 (pc := 5) X (fun w h => inM w (inG2 w h)) k37 t3 e_h4 dX2_copyFrom_5 ?_
  refine v_aload_n (pc := 8) X 0 dX2_copyFrom_8 rfl rfl ?_
  refine v_aload_n (pc := 9) X 1 dX2_copyFrom_9 rfl rfl ?_
  obtain ⟨v5, e_v5, hf⟩ := hf
  refine ge_2_1 (pc := 10) X (fun w h => inM w (inG2 w h)) k41 t1 e_v5 dX2_copyFrom_10 ?_
  obtain ⟨h6, e_h6, hf⟩ := hf
  refine pu_2_1 (pc := 13) X (fun w h => inM w (inG2 w h)) k41 t3 e_h6 dX2_copyFrom_13 ?_
  refine v_aload_n (pc := 16) X 0 dX2_copyFrom_16 rfl rfl ?_
  refine v_aload_n (pc := 17) X 1 dX2_copyFrom_17 rfl rfl ?_
  obtain ⟨v7, e_v7, hf⟩ := hf
  refine ge_2_2 (pc := 18) X (fun w h => inM w (inG2 w h)) k44 t1 e_v7 dX2_copyFrom_18 ?_
  obtain ⟨h8, e_h8, hf⟩ := hf
  refine pu_2_2 (pc := 21) X (fun w h => inM w (inG2 w h)) k44 t3 e_h8 dX2_copyFrom_21 ?_
  refine v_aload_n (pc := 24) X 0 dX2_copyFrom_24 rfl rfl ?_
  refine v_aload_n (pc := 25) X 1 dX2_copyFrom_25 rfl rfl ?_
  obtain ⟨v9, e_v9, hf⟩ := hf
  refine ge_2_5 (pc := 26) X (fun w h => inM w (inG2 w h)) k47 t1 e_v9 dX2_copyFrom_26 ?_
  obtain ⟨h10, e_h10, hf⟩ := hf
  refine pu_2_5 (pc := 29) X (fun w h => inM w (inG2 w h)) k47 t3 e_h10 dX2_copyFrom_29 ?_
  refine v_aload_n (pc := 32) X 0 dX2_copyFrom_32 rfl rfl ?_
  refine v_aload_n (pc := 33) X 1 dX2_copyFrom_33 rfl rfl ?_
  obtain ⟨v11, e_v11, hf⟩ := hf
  refine ge_2_8 (pc := 34) X (fun w h => inM w (inG2 w h)) k50 t1 e_v11 dX2_copyFrom_34 ?_
  obtain ⟨h12, e_h12, hf⟩ := hf
  refine pu_2_8 (pc := 37) X (fun w h => inM w (inG2 w h)) k50 t3 e_h12 dX2_copyFrom_37 ?_
  refine v_iconst (pc := 40) X (v := (0 : Int32)) dX2_copyFrom_40 (by decide) ?_
  refine v_istore_n (pc := 41) X (i := 2) (lv' := [(2, .int (0 : Int32)), (0, .ref a0), (1, .ref p1)]) dX2_copyFrom_41 rfl (Nat.le_of_ble_eq_true rfl) rfl ?_
  obtain ⟨n, hf⟩ := hf
  refine v_sub [1, 2, 0] rfl ?_
  refine w_X2_copyFrom_42 X hr hlk a0 p1 _ K (fun  h31 hf => ?_) n (0 : Int32) h12 hf
  refine v_iconst (pc := 78) X (v := (0 : Int32)) dX2_copyFrom_78 (by decide) ?_
  refine v_istore_n (pc := 79) X (i := 2) (lv' := [(2, .int (0 : Int32)), (0, .ref a0), (1, .ref p1)]) dX2_copyFrom_79 rfl (Nat.le_of_ble_eq_true rfl) rfl ?_
  obtain ⟨n, hf⟩ := hf
  refine v_sub [1, 2, 0] rfl ?_
  refine w_X2_copyFrom_80 X hr hlk a0 p1 _ K (fun  h51 hf => ?_) n (0 : Int32) h31 hf
  refine v_iconst (pc := 124) X (v := (0 : Int32)) dX2_copyFrom_124 (by decide) ?_
  refine v_istore_n (pc := 125) X (i := 2) (lv' := [(2, .int (0 : Int32)), (0, .ref a0), (1, .ref p1)]) dX2_copyFrom_125 rfl (Nat.le_of_ble_eq_true rfl) rfl ?_
  obtain ⟨n, hf⟩ := hf
  refine v_sub [1, 2, 0] rfl ?_
  refine w_X2_copyFrom_126 X hr hlk a0 p1 _ K (fun  h70 hf => ?_) n (0 : Int32) h51 hf
  refine v_iconst (pc := 162) X (v := (0 : Int32)) dX2_copyFrom_162 (by decide) ?_
  refine v_istore_n (pc := 163) X (i := 2) (lv' := [(2, .int (0 : Int32)), (0, .ref a0), (1, .ref p1)]) dX2_copyFrom_163 rfl (Nat.le_of_ble_eq_true rfl) rfl ?_
  obtain ⟨n, hf⟩ := hf
  refine v_sub [1, 2, 0] rfl ?_
  refine w_X2_copyFrom_164 X hr hlk a0 p1 _ K (fun  h84 hf => ?_) n (0 : Int32) h70 hf
  exact v_vret (pc := 190) X hr hlk dX2_copyFrom_190 hf
set_option maxHeartbeats 4000000 in
set_option maxRecDepth 100000 in
theorem w_X2_finish_8 {p : Program} {l : Launch} {e : Env} {s0 : State} {m : MethodId} {args : Array Value} {below : List Frame} {meth : Method} {c : Code} {D : va_G} {cA : Nat → ClassId} {L : List Nat} {sh : Sh} (X : Cx p s0 m c args cX2_finish 4 (wM yX2_finish cX2_finish 4 (some .int)) RX2 (fun q => q ∈ L) D cA L sh) (hr : meth.sig.returnType = (some .int)) (hlk : meth.locks = false) (x0 : Nat) (x1 : Int32) (Xc : Hp → Prop) (K : Int32 → Hp → Prop) (hx : ∀  (h1 : Hp), Xc  h1 → V p l e (headSpec (wM yX2_finish cX2_finish 4 (some .int)) ({ frames := 3, cells := 0, slots := 0, locals := 71 } : Room)).room s0 m args below meth c (MQ below (QI D cA L sh K) args s0 0 0 (fun q => q ∈ L)) (fun q => q ∈ L) 0 0 D cA L sh 4 h1 49 [] []) : ∀ (n : Nat) (s : Int32) (h : Hp), lp (b_X2_finish_8 sh x0 x1 Xc K) n s h → V p l e (headSpec (wM yX2_finish cX2_finish 4 (some .int)) ({ frames := 3, cells := 0, slots := 0, locals := 71 } : Room)).room s0 m args below meth c (MQ below (QI D cA L sh K) args s0 0 0 (fun q => q ∈ L)) (fun q => q ∈ L) 0 0 D cA L sh 4 h 8 [(0, .ref x0), (1, .int x1), (2, .int s)] [] := by
  have k32 := X.ht _ (inM _ q_136)
  have k44 := X.ht _ (inM _ q_120)
  intro n
  induction n with
  | zero => intro s h hf; exact hf.elim
  | succ n ih =>
    intro s h hf
    replace hf : b_X2_finish_8 sh x0 x1 Xc K (lp (b_X2_finish_8 sh x0 x1 Xc K) n) s h := hf
    unfold b_X2_finish_8 at hf
    refine v_iload_n (pc := 8) X 2 dX2_finish_8 rfl rfl ?_
    refine v_iconst (pc := 9) X (v := (4 : Int32)) dX2_finish_9 (by decide) ?_
    refine v_icmp_ge (pc := 10) X 49 dX2_finish_10 (by decide) (fun c => ?_) (fun c => ?_)
    · replace hf := if_t c hf
      refine v_sub [] rfl ?_
      exact hx h hf
    · replace hf := if_f c hf
      refine v_aload_n (pc := 13) X 0 dX2_finish_13 rfl rfl ?_
      obtain ⟨t1, hf⟩ := hf
      obtain ⟨q2, e_q2, hf⟩ := hf
      refine ge_2_11 (pc := 14) X (fun w h => inM w (inG2 w h)) k32 t1 e_q2 dX2_finish_14 ?_
      refine v_iload_n (pc := 17) X 2 dX2_finish_17 rfl rfl ?_
      obtain ⟨t3, hf⟩ := hf
      obtain ⟨b5, q4, e_q4, hf⟩ := hf
      refine v_aald_9 (pc := 18) X t3 b5 e_q4 dX2_finish_18 ?_
      refine v_iload_n (pc := 19) X 1 dX2_finish_19 rfl rfl ?_
      obtain ⟨t6, hf⟩ := hf
      refine v_callVN (pc := 20) X (As := [.int x1]) (rest := []) (c_X1_workOf l D cA L sh q4 x1 h _ hf) (cwV 1 X.ht (gwV inM q_293 q_294 q_295 q_3 q_296) rfl rfl rfl (by decide +kernel) ⟨Nat.le_of_ble_eq_true rfl, Nat.le_of_ble_eq_true rfl⟩) rfl (by decide) t6 (ent_1 t6) rfl rfl (Nat.le_of_ble_eq_true rfl) ⟨Nat.zero_le _, Nat.zero_le _⟩ dX2_finish_20 (fun r7 h8 hf => ?_)
      rcases r7 with _ | q9
      · replace hf := hf.1 rfl
        refine v_astore_nN (pc := 23) X (i := 3) (lv' := [(3, .null), (0, .ref x0), (1, .int x1), (2, .int s)]) dX2_finish_23 rfl (Nat.le_of_ble_eq_true rfl) rfl ?_
        refine v_aload_nN (pc := 24) X 0 dX2_finish_24 rfl rfl ?_
        refine v_ifnullN (pc := 25) X 43 dX2_finish_25 (by decide) ?_
        refine v_iinc (pc := 43) X 3 (v := s + (1 : Int32)) (lv' := [(2, .int (s + (1 : Int32))), (3, .null), (0, .ref x0), (1, .int x1)]) dX2_finish_43 rfl rfl (Nat.le_of_ble_eq_true rfl) rfl ?_
        refine v_goto (pc := 46) X 8 dX2_finish_46 (by decide) ?_
        refine v_sub [2, 3, 0] rfl ?_
        exact ih (s + (1 : Int32)) h8 hf
      · replace hf := hf.2 q9 rfl
        refine v_astore_n (pc := 23) X (i := 3) (lv' := [(3, .ref q9), (0, .ref x0), (1, .int x1), (2, .int s)]) dX2_finish_23 rfl (Nat.le_of_ble_eq_true rfl) rfl ?_
        refine v_aload_n (pc := 24) X 0 dX2_finish_24 rfl rfl ?_
        refine v_ifnull (pc := 25) X dX2_finish_25 ?_
        refine v_aload_n (pc := 28) X 1 dX2_finish_28 rfl rfl ?_
        obtain ⟨q10, e_q10, hf⟩ := hf
        refine ge_2_11 (pc := 29) X (fun w h => inM w (inG2 w h)) k32 t1 e_q10 dX2_finish_29 ?_
        refine v_iload_n (pc := 32) X 3 dX2_finish_32 rfl rfl ?_
        obtain ⟨t11, hf⟩ := hf
        obtain ⟨b13, q12, e_q12, hf⟩ := hf
        refine v_aald_9 (pc := 33) X t11 b13 e_q12 dX2_finish_33 ?_
        refine v_aload_n (pc := 34) X 0 dX2_finish_34 rfl rfl ?_
        refine v_aload_n (pc := 35) X 1 dX2_finish_35 rfl rfl ?_
        obtain ⟨v14, e_v14, hf⟩ := hf
        refine ge_2_2 (pc := 36) X (fun w h => inM w (inG2 w h)) k44 t1 e_v14 dX2_finish_36 ?_
        obtain ⟨t15, hf⟩ := hf
        refine v_callVI (pc := 39) X (As := [.ref q9, .int v14]) (rest := []) (c_X1_release l D cA L sh q12 q9 v14 h8 _ hf) (cwV 2 X.ht (gwV inM q_297 q_298 q_299 q_3 q_300) rfl rfl rfl (by decide +kernel) ⟨Nat.le_of_ble_eq_true rfl, Nat.le_of_ble_eq_true rfl⟩) rfl (by decide) t15 (ent_1 t15) rfl rfl (Nat.le_of_ble_eq_true rfl) ⟨Nat.zero_le _, Nat.zero_le _⟩ dX2_finish_39 (fun r16 h17 hf => ?_)
        exact v_iret (pc := 42) X hr hlk dX2_finish_42 hf

set_option maxHeartbeats 4000000 in
set_option maxRecDepth 100000 in
theorem c_X2_finish (l : Launch) (D : va_G) (cA : Nat → ClassId) (L : List Nat) (sh : Sh) (a0 : Nat) (p1 : Int32) (h : Hp) (K : Int32 → Hp → Prop) (hf : f_X2_finish sh a0 p1 h K) : Met l yX2_finish (wM yX2_finish cX2_finish 4 (some .int)) ({ frames := 3, cells := 0, slots := 0, locals := 71 } : Room) (PreM D cA L sh h [.ref a0, .int p1]) (QI D cA L sh K) 0 0 (fun q => q ∈ L) := by
  refine met_v (cc := cX2_finish) (nL := 4) (ret := (some .int)) [(0, .ref a0), (1, .int p1)] (by decide) rfl (Nat.le_of_ble_eq_true rfl) rfl ?_
  intro p e s0 m below meth c X hr hlk
  have k32 := X.ht _ (inM _ q_136)
  have k44 := X.ht _ (inM _ q_120)
  unfold f_X2_finish at hf
  refine v_iload_n (pc := 0) X 1 dX2_finish_0 rfl rfl ?_
  refine v_if_ge (pc := 1) X 6 dX2_finish_1 (by decide) (fun c => ?_) (fun c => ?_)
  · replace hf := if_t c hf
    refine v_iconst (pc := 6) X (v := (0 : Int32)) dX2_finish_6 (by decide) ?_
    refine v_istore_n (pc := 7) X (i := 2) (lv' := [(2, .int (0 : Int32)), (0, .ref a0), (1, .int p1)]) dX2_finish_7 rfl (Nat.le_of_ble_eq_true rfl) rfl ?_
    obtain ⟨n, hf⟩ := hf
    refine v_sub [1, 2, 0] rfl ?_
    refine w_X2_finish_8 X hr hlk a0 p1 _ K (fun  h18 hf => ?_) n (0 : Int32) h hf
    refine v_bipush (pc := 49) X (v := (-2 : Int32)) dX2_finish_49 (by decide) ?_
    exact v_iret (pc := 51) X hr hlk dX2_finish_51 hf
  · replace hf := if_f c hf
    refine v_iconst (pc := 4) X (v := (-1 : Int32)) dX2_finish_4 (by decide) ?_
    exact v_iret (pc := 5) X hr hlk dX2_finish_5 hf
set_option maxHeartbeats 4000000 in
set_option maxRecDepth 100000 in
theorem w_X2_handsWith_4 {p : Program} {l : Launch} {e : Env} {s0 : State} {m : MethodId} {args : Array Value} {below : List Frame} {meth : Method} {c : Code} {D : va_G} {cA : Nat → ClassId} {L : List Nat} {sh : Sh} (X : Cx p s0 m c args cX2_handsWith 4 (wM yX2_handsWith cX2_handsWith 4 (some .int)) RX2 (fun q => q ∈ L) D cA L sh) (hr : meth.sig.returnType = (some .int)) (hlk : meth.locks = false) (x0 : Nat) (x1 : Int32) (Xc : Int32 → Hp → Prop) (K : Int32 → Hp → Prop) (hx : ∀ (y2 : Int32) (h1 : Hp), Xc y2 h1 → V p l e (headSpec (wM yX2_handsWith cX2_handsWith 4 (some .int)) ({ frames := 1, cells := 0, slots := 0, locals := 22 } : Room)).room s0 m args below meth c (MQ below (QI D cA L sh K) args s0 0 0 (fun q => q ∈ L)) (fun q => q ∈ L) 0 0 D cA L sh 4 h1 31 [(2, .int y2)] []) : ∀ (n : Nat) (s : Int32 × Int32) (h : Hp), lp (b_X2_handsWith_4 sh x0 x1 Xc) n s h → V p l e (headSpec (wM yX2_handsWith cX2_handsWith 4 (some .int)) ({ frames := 1, cells := 0, slots := 0, locals := 22 } : Room)).room s0 m args below meth c (MQ below (QI D cA L sh K) args s0 0 0 (fun q => q ∈ L)) (fun q => q ∈ L) 0 0 D cA L sh 4 h 4 [(0, .ref x0), (1, .int x1), (2, .int s.1), (3, .int s.2)] [] := by
  have k32 := X.ht _ (inM _ q_136)
  intro n
  induction n with
  | zero => intro s h hf; exact hf.elim
  | succ n ih =>
    intro s h hf
    replace hf : b_X2_handsWith_4 sh x0 x1 Xc (lp (b_X2_handsWith_4 sh x0 x1 Xc) n) s h := hf
    unfold b_X2_handsWith_4 at hf
    refine v_iload_n (pc := 4) X 3 dX2_handsWith_4 rfl rfl ?_
    refine v_iconst (pc := 5) X (v := (4 : Int32)) dX2_handsWith_5 (by decide) ?_
    refine v_icmp_ge (pc := 6) X 31 dX2_handsWith_6 (by decide) (fun c => ?_) (fun c => ?_)
    · replace hf := if_t c hf
      refine v_sub [2] rfl ?_
      exact hx s.1 h hf
    · replace hf := if_f c hf
      refine v_aload_n (pc := 9) X 0 dX2_handsWith_9 rfl rfl ?_
      obtain ⟨t1, hf⟩ := hf
      obtain ⟨q2, e_q2, hf⟩ := hf
      refine ge_2_11 (pc := 10) X (fun w h => inM w (inG2 w h)) k32 t1 e_q2 dX2_handsWith_10 ?_
      refine v_iload_n (pc := 13) X 3 dX2_handsWith_13 rfl rfl ?_
      obtain ⟨t3, hf⟩ := hf
      obtain ⟨b5, q4, e_q4, hf⟩ := hf
      refine v_aald_9 (pc := 14) X t3 b5 e_q4 dX2_handsWith_14 ?_
      refine v_iload_n (pc := 15) X 1 dX2_handsWith_15 rfl rfl ?_
      obtain ⟨t6, hf⟩ := hf
      refine v_callVI (pc := 16) X (As := [.int x1]) (rest := []) (c_X1_freshEntryOf l D cA L sh q4 x1 h _ hf) (cwV 1 X.ht (gwV inM q_209 q_210 q_211 q_3 q_212) rfl rfl rfl (by decide +kernel) ⟨Nat.le_of_ble_eq_true rfl, Nat.le_of_ble_eq_true rfl⟩) rfl (by decide) t6 (ent_1 t6) rfl rfl (Nat.le_of_ble_eq_true rfl) ⟨Nat.zero_le _, Nat.zero_le _⟩ dX2_handsWith_16 (fun r7 h8 hf => ?_)
      refine v_if_lt (pc := 19) X 25 dX2_handsWith_19 (by decide) (fun c => ?_) (fun c => ?_)
      · replace hf := if_t c hf
        refine v_iinc (pc := 25) X 3 (v := s.2 + (1 : Int32)) (lv' := [(3, .int (s.2 + (1 : Int32))), (0, .ref x0), (1, .int x1), (2, .int s.1)]) dX2_handsWith_25 rfl rfl (Nat.le_of_ble_eq_true rfl) rfl ?_
        refine v_goto (pc := 28) X 4 dX2_handsWith_28 (by decide) ?_
        refine v_sub [1, 2, 3, 0] rfl ?_
        exact ih (s.1, s.2 + (1 : Int32)) h8 hf
      · replace hf := if_f c hf
        refine v_iinc (pc := 22) X 2 (v := s.1 + (1 : Int32)) (lv' := [(2, .int (s.1 + (1 : Int32))), (0, .ref x0), (1, .int x1), (3, .int s.2)]) dX2_handsWith_22 rfl rfl (Nat.le_of_ble_eq_true rfl) rfl ?_
        refine v_iinc (pc := 25) X 3 (v := s.2 + (1 : Int32)) (lv' := [(3, .int (s.2 + (1 : Int32))), (2, .int (s.1 + (1 : Int32))), (0, .ref x0), (1, .int x1)]) dX2_handsWith_25 rfl rfl (Nat.le_of_ble_eq_true rfl) rfl ?_
        refine v_goto (pc := 28) X 4 dX2_handsWith_28 (by decide) ?_
        refine v_sub [2, 3, 1, 0] rfl ?_
        exact ih (s.1 + (1 : Int32), s.2 + (1 : Int32)) h8 hf

set_option maxHeartbeats 4000000 in
set_option maxRecDepth 100000 in
theorem c_X2_handsWith (l : Launch) (D : va_G) (cA : Nat → ClassId) (L : List Nat) (sh : Sh) (a0 : Nat) (p1 : Int32) (h : Hp) (K : Int32 → Hp → Prop) (hf : f_X2_handsWith sh a0 p1 h K) : Met l yX2_handsWith (wM yX2_handsWith cX2_handsWith 4 (some .int)) ({ frames := 1, cells := 0, slots := 0, locals := 22 } : Room) (PreM D cA L sh h [.ref a0, .int p1]) (QI D cA L sh K) 0 0 (fun q => q ∈ L) := by
  refine met_v (cc := cX2_handsWith) (nL := 4) (ret := (some .int)) [(0, .ref a0), (1, .int p1)] (by decide) rfl (Nat.le_of_ble_eq_true rfl) rfl ?_
  intro p e s0 m below meth c X hr hlk
  have k32 := X.ht _ (inM _ q_136)
  unfold f_X2_handsWith at hf
  refine v_iconst (pc := 0) X (v := (0 : Int32)) dX2_handsWith_0 (by decide) ?_
  refine v_istore_n (pc := 1) X (i := 2) (lv' := [(2, .int (0 : Int32)), (0, .ref a0), (1, .int p1)]) dX2_handsWith_1 rfl (Nat.le_of_ble_eq_true rfl) rfl ?_
  refine v_iconst (pc := 2) X (v := (0 : Int32)) dX2_handsWith_2 (by decide) ?_
  refine v_istore_n (pc := 3) X (i := 3) (lv' := [(3, .int (0 : Int32)), (2, .int (0 : Int32)), (0, .ref a0), (1, .int p1)]) dX2_handsWith_3 rfl (Nat.le_of_ble_eq_true rfl) rfl ?_
  obtain ⟨n, hf⟩ := hf
  refine v_sub [2, 3, 1, 0] rfl ?_
  refine w_X2_handsWith_4 X hr hlk a0 p1 _ K (fun y9 h10 hf => ?_) n ((0 : Int32), (0 : Int32)) h hf
  refine v_iload_n (pc := 31) X 0 dX2_handsWith_31 rfl rfl ?_
  exact v_iret (pc := 32) X hr hlk dX2_handsWith_32 hf
set_option maxHeartbeats 4000000 in
set_option maxRecDepth 100000 in
theorem w_X2_loadsOfAll_4 {p : Program} {l : Launch} {e : Env} {s0 : State} {m : MethodId} {args : Array Value} {below : List Frame} {meth : Method} {c : Code} {D : va_G} {cA : Nat → ClassId} {L : List Nat} {sh : Sh} (X : Cx p s0 m c args cX2_loadsOfAll 3 (wM yX2_loadsOfAll cX2_loadsOfAll 3 (some .int)) RX2 (fun q => q ∈ L) D cA L sh) (hr : meth.sig.returnType = (some .int)) (hlk : meth.locks = false) (x0 : Nat) (Xc : Int32 → Hp → Prop) (K : Int32 → Hp → Prop) (hx : ∀ (y1 : Int32) (h1 : Hp), Xc y1 h1 → V p l e (headSpec (wM yX2_loadsOfAll cX2_loadsOfAll 3 (some .int)) ({ frames := 0, cells := 0, slots := 0, locals := 0 } : Room)).room s0 m args below meth c (MQ below (QI D cA L sh K) args s0 0 0 (fun q => q ∈ L)) (fun q => q ∈ L) 0 0 D cA L sh 3 h1 27 [(1, .int y1)] []) : ∀ (n : Nat) (s : Int32 × Int32) (h : Hp), lp (b_X2_loadsOfAll_4 sh x0 Xc) n s h → V p l e (headSpec (wM yX2_loadsOfAll cX2_loadsOfAll 3 (some .int)) ({ frames := 0, cells := 0, slots := 0, locals := 0 } : Room)).room s0 m args below meth c (MQ below (QI D cA L sh K) args s0 0 0 (fun q => q ∈ L)) (fun q => q ∈ L) 0 0 D cA L sh 3 h 4 [(0, .ref x0), (1, .int s.1), (2, .int s.2)] [] := by
  have k32 := X.ht _ (inM _ q_136)
  have k145 := X.ht _ (inM _ q_93)
  intro n
  induction n with
  | zero => intro s h hf; exact hf.elim
  | succ n ih =>
    intro s h hf
    replace hf : b_X2_loadsOfAll_4 sh x0 Xc (lp (b_X2_loadsOfAll_4 sh x0 Xc) n) s h := hf
    unfold b_X2_loadsOfAll_4 at hf
    refine v_iload_n (pc := 4) X 2 dX2_loadsOfAll_4 rfl rfl ?_
    refine v_iconst (pc := 5) X (v := (4 : Int32)) dX2_loadsOfAll_5 (by decide) ?_
    refine v_icmp_ge (pc := 6) X 27 dX2_loadsOfAll_6 (by decide) (fun c => ?_) (fun c => ?_)
    · replace hf := if_t c hf
      refine v_sub [1] rfl ?_
      exact hx s.1 h hf
    · replace hf := if_f c hf
      refine v_iload_n (pc := 9) X 1 dX2_loadsOfAll_9 rfl rfl ?_
      refine v_aload_n (pc := 10) X 0 dX2_loadsOfAll_10 rfl rfl ?_
      obtain ⟨t1, hf⟩ := hf
      obtain ⟨q2, e_q2, hf⟩ := hf
      refine ge_2_11 (pc := 11) X (fun w h => inM w (inG2 w h)) k32 t1 e_q2 dX2_loadsOfAll_11 ?_
      refine v_iload_n (pc := 14) X 2 dX2_loadsOfAll_14 rfl rfl ?_
      obtain ⟨t3, hf⟩ := hf
      obtain ⟨b5, q4, e_q4, hf⟩ := hf
      refine v_aald_9 (pc := 15) X t3 b5 e_q4 dX2_loadsOfAll_15 ?_
      obtain ⟨t6, hf⟩ := hf
      obtain ⟨v7, e_v7, hf⟩ := hf
      refine ge_1_2 (pc := 16) X (fun w h => inM w (inG1 w h)) k145 t6 e_v7 dX2_loadsOfAll_16 ?_
      refine v_iadd (pc := 19) X dX2_loadsOfAll_19 ?_
      refine v_istore_n (pc := 20) X (i := 1) (lv' := [(1, .int (s.1 + v7)), (0, .ref x0), (2, .int s.2)]) dX2_loadsOfAll_20 rfl (Nat.le_of_ble_eq_true rfl) rfl ?_
      refine v_iinc (pc := 21) X 2 (v := s.2 + (1 : Int32)) (lv' := [(2, .int (s.2 + (1 : Int32))), (1, .int (s.1 + v7)), (0, .ref x0)]) dX2_loadsOfAll_21 rfl rfl (Nat.le_of_ble_eq_true rfl) rfl ?_
      refine v_goto (pc := 24) X 4 dX2_loadsOfAll_24 (by decide) ?_
      refine v_sub [2, 1, 0] rfl ?_
      exact ih (s.1 + v7, s.2 + (1 : Int32)) h hf

set_option maxHeartbeats 4000000 in
set_option maxRecDepth 100000 in
theorem c_X2_loadsOfAll (l : Launch) (D : va_G) (cA : Nat → ClassId) (L : List Nat) (sh : Sh) (a0 : Nat) (h : Hp) (K : Int32 → Hp → Prop) (hf : f_X2_loadsOfAll sh a0 h K) : Met l yX2_loadsOfAll (wM yX2_loadsOfAll cX2_loadsOfAll 3 (some .int)) ({ frames := 0, cells := 0, slots := 0, locals := 0 } : Room) (PreM D cA L sh h [.ref a0]) (QI D cA L sh K) 0 0 (fun q => q ∈ L) := by
  refine met_v (cc := cX2_loadsOfAll) (nL := 3) (ret := (some .int)) [(0, .ref a0)] (by decide) rfl (Nat.le_of_ble_eq_true rfl) rfl ?_
  intro p e s0 m below meth c X hr hlk
  have k32 := X.ht _ (inM _ q_136)
  have k145 := X.ht _ (inM _ q_93)
  unfold f_X2_loadsOfAll at hf
  refine v_iconst (pc := 0) X (v := (0 : Int32)) dX2_loadsOfAll_0 (by decide) ?_
  refine v_istore_n (pc := 1) X (i := 1) (lv' := [(1, .int (0 : Int32)), (0, .ref a0)]) dX2_loadsOfAll_1 rfl (Nat.le_of_ble_eq_true rfl) rfl ?_
  refine v_iconst (pc := 2) X (v := (0 : Int32)) dX2_loadsOfAll_2 (by decide) ?_
  refine v_istore_n (pc := 3) X (i := 2) (lv' := [(2, .int (0 : Int32)), (1, .int (0 : Int32)), (0, .ref a0)]) dX2_loadsOfAll_3 rfl (Nat.le_of_ble_eq_true rfl) rfl ?_
  obtain ⟨n, hf⟩ := hf
  refine v_sub [2, 1, 0] rfl ?_
  refine w_X2_loadsOfAll_4 X hr hlk a0 _ K (fun y8 h9 hf => ?_) n ((0 : Int32), (0 : Int32)) h hf
  refine v_iload_n (pc := 27) X 0 dX2_loadsOfAll_27 rfl rfl ?_
  exact v_iret (pc := 28) X hr hlk dX2_loadsOfAll_28 hf
set_option maxHeartbeats 4000000 in
set_option maxRecDepth 100000 in
theorem w_X2_noticesOnTheirWay_4 {p : Program} {l : Launch} {e : Env} {s0 : State} {m : MethodId} {args : Array Value} {below : List Frame} {meth : Method} {c : Code} {D : va_G} {cA : Nat → ClassId} {L : List Nat} {sh : Sh} (X : Cx p s0 m c args cX2_noticesOnTheirWay 3 (wM yX2_noticesOnTheirWay cX2_noticesOnTheirWay 3 (some .int)) RX2 (fun q => q ∈ L) D cA L sh) (hr : meth.sig.returnType = (some .int)) (hlk : meth.locks = false) (x0 : Nat) (Xc : Int32 → Hp → Prop) (K : Int32 → Hp → Prop) (hx : ∀ (y1 : Int32) (h1 : Hp), Xc y1 h1 → V p l e (headSpec (wM yX2_noticesOnTheirWay cX2_noticesOnTheirWay 3 (some .int)) ({ frames := 0, cells := 0, slots := 0, locals := 0 } : Room)).room s0 m args below meth c (MQ below (QI D cA L sh K) args s0 0 0 (fun q => q ∈ L)) (fun q => q ∈ L) 0 0 D cA L sh 3 h1 40 [(1, .int y1)] []) : ∀ (n : Nat) (s : Int32 × Int32) (h : Hp), lp (b_X2_noticesOnTheirWay_4 sh x0 Xc) n s h → V p l e (headSpec (wM yX2_noticesOnTheirWay cX2_noticesOnTheirWay 3 (some .int)) ({ frames := 0, cells := 0, slots := 0, locals := 0 } : Room)).room s0 m args below meth c (MQ below (QI D cA L sh K) args s0 0 0 (fun q => q ∈ L)) (fun q => q ∈ L) 0 0 D cA L sh 3 h 4 [(0, .ref x0), (1, .int s.1), (2, .int s.2)] [] := by
  have k47 := X.ht _ (inM _ q_126)
  have k21 := X.ht _ (inM _ q_129)
  have k37 := X.ht _ (inM _ q_116)
  intro n
  induction n with
  | zero => intro s h hf; exact hf.elim
  | succ n ih =>
    intro s h hf
    replace hf : b_X2_noticesOnTheirWay_4 sh x0 Xc (lp (b_X2_noticesOnTheirWay_4 sh x0 Xc) n) s h := hf
    unfold b_X2_noticesOnTheirWay_4 at hf
    refine v_iload_n (pc := 4) X 2 dX2_noticesOnTheirWay_4 rfl rfl ?_
    refine v_aload_n (pc := 5) X 0 dX2_noticesOnTheirWay_5 rfl rfl ?_
    obtain ⟨t1, hf⟩ := hf
    obtain ⟨v2, e_v2, hf⟩ := hf
    refine ge_2_5 (pc := 6) X (fun w h => inM w (inG2 w h)) k47 t1 e_v2 dX2_noticesOnTheirWay_6 ?_
    refine v_icmp_ge (pc := 9) X 40 dX2_noticesOnTheirWay_9 (by decide) (fun c => ?_) (fun c => ?_)
    · replace hf := if_t c hf
      refine v_sub [1] rfl ?_
      exact hx s.1 h hf
    · replace hf := if_f c hf
      refine v_iload_n (pc := 12) X 2 dX2_noticesOnTheirWay_12 rfl rfl ?_
      refine v_bipush (pc := 13) X (v := (100 : Int32)) dX2_noticesOnTheirWay_13 (by decide) ?_
      refine v_icmp_ge (pc := 15) X 40 dX2_noticesOnTheirWay_15 (by decide) (fun c => ?_) (fun c => ?_)
      · replace hf := if_t c hf
        refine v_sub [1] rfl ?_
        exact hx s.1 h hf
      · replace hf := if_f c hf
        refine v_aload_n (pc := 18) X 0 dX2_noticesOnTheirWay_18 rfl rfl ?_
        obtain ⟨q3, e_q3, hf⟩ := hf
        refine ge_2_7 (pc := 19) X (fun w h => inM w (inG2 w h)) k21 t1 e_q3 dX2_noticesOnTheirWay_19 ?_
        refine v_iload_n (pc := 22) X 2 dX2_noticesOnTheirWay_22 rfl rfl ?_
        obtain ⟨t4, hf⟩ := hf
        obtain ⟨b6, v5, e_v5, hf⟩ := hf
        refine v_iald (pc := 23) X t4 b6 e_v5 dX2_noticesOnTheirWay_23 ?_
        refine v_aload_n (pc := 24) X 0 dX2_noticesOnTheirWay_24 rfl rfl ?_
        obtain ⟨v7, e_v7, hf⟩ := hf
        refine ge_2_0 (pc := 25) X (fun w h => inM w (inG2 w h)) k37 t1 e_v7 dX2_noticesOnTheirWay_25 ?_
        refine v_icmp_le (pc := 28) X 34 dX2_noticesOnTheirWay_28 (by decide) (fun c => ?_) (fun c => ?_)
        · replace hf := if_t c hf
          refine v_iinc (pc := 34) X 2 (v := s.2 + (1 : Int32)) (lv' := [(2, .int (s.2 + (1 : Int32))), (0, .ref x0), (1, .int s.1)]) dX2_noticesOnTheirWay_34 rfl rfl (Nat.le_of_ble_eq_true rfl) rfl ?_
          refine v_goto (pc := 37) X 4 dX2_noticesOnTheirWay_37 (by decide) ?_
          refine v_sub [1, 2, 0] rfl ?_
          exact ih (s.1, s.2 + (1 : Int32)) h hf
        · replace hf := if_f c hf
          refine v_iinc (pc := 31) X 1 (v := s.1 + (1 : Int32)) (lv' := [(1, .int (s.1 + (1 : Int32))), (0, .ref x0), (2, .int s.2)]) dX2_noticesOnTheirWay_31 rfl rfl (Nat.le_of_ble_eq_true rfl) rfl ?_
          refine v_iinc (pc := 34) X 2 (v := s.2 + (1 : Int32)) (lv' := [(2, .int (s.2 + (1 : Int32))), (1, .int (s.1 + (1 : Int32))), (0, .ref x0)]) dX2_noticesOnTheirWay_34 rfl rfl (Nat.le_of_ble_eq_true rfl) rfl ?_
          refine v_goto (pc := 37) X 4 dX2_noticesOnTheirWay_37 (by decide) ?_
          refine v_sub [2, 1, 0] rfl ?_
          exact ih (s.1 + (1 : Int32), s.2 + (1 : Int32)) h hf

set_option maxHeartbeats 4000000 in
set_option maxRecDepth 100000 in
theorem c_X2_noticesOnTheirWay (l : Launch) (D : va_G) (cA : Nat → ClassId) (L : List Nat) (sh : Sh) (a0 : Nat) (h : Hp) (K : Int32 → Hp → Prop) (hf : f_X2_noticesOnTheirWay sh a0 h K) : Met l yX2_noticesOnTheirWay (wM yX2_noticesOnTheirWay cX2_noticesOnTheirWay 3 (some .int)) ({ frames := 0, cells := 0, slots := 0, locals := 0 } : Room) (PreM D cA L sh h [.ref a0]) (QI D cA L sh K) 0 0 (fun q => q ∈ L) := by
  refine met_v (cc := cX2_noticesOnTheirWay) (nL := 3) (ret := (some .int)) [(0, .ref a0)] (by decide) rfl (Nat.le_of_ble_eq_true rfl) rfl ?_
  intro p e s0 m below meth c X hr hlk
  have k47 := X.ht _ (inM _ q_126)
  have k21 := X.ht _ (inM _ q_129)
  have k37 := X.ht _ (inM _ q_116)
  unfold f_X2_noticesOnTheirWay at hf
  refine v_iconst (pc := 0) X (v := (0 : Int32)) dX2_noticesOnTheirWay_0 (by decide) ?_
  refine v_istore_n (pc := 1) X (i := 1) (lv' := [(1, .int (0 : Int32)), (0, .ref a0)]) dX2_noticesOnTheirWay_1 rfl (Nat.le_of_ble_eq_true rfl) rfl ?_
  refine v_iconst (pc := 2) X (v := (0 : Int32)) dX2_noticesOnTheirWay_2 (by decide) ?_
  refine v_istore_n (pc := 3) X (i := 2) (lv' := [(2, .int (0 : Int32)), (1, .int (0 : Int32)), (0, .ref a0)]) dX2_noticesOnTheirWay_3 rfl (Nat.le_of_ble_eq_true rfl) rfl ?_
  obtain ⟨n, hf⟩ := hf
  refine v_sub [2, 1, 0] rfl ?_
  refine w_X2_noticesOnTheirWay_4 X hr hlk a0 _ K (fun y8 h9 hf => ?_) n ((0 : Int32), (0 : Int32)) h hf
  refine v_iload_n (pc := 40) X 0 dX2_noticesOnTheirWay_40 rfl rfl ?_
  exact v_iret (pc := 41) X hr hlk dX2_noticesOnTheirWay_41 hf
set_option maxHeartbeats 4000000 in
set_option maxRecDepth 100000 in
theorem w_X2_pass_34 {p : Program} {l : Launch} {e : Env} {s0 : State} {m : MethodId} {args : Array Value} {below : List Frame} {meth : Method} {c : Code} {D : va_G} {cA : Nat → ClassId} {L : List Nat} {sh : Sh} (X : Cx p s0 m c args cX2_pass 6 (wM yX2_pass cX2_pass 6 (some .int)) RX2 (fun q => q ∈ L) D cA L sh) (hr : meth.sig.returnType = (some .int)) (hlk : meth.locks = false) (x0 : Nat) (x1 : Int32) (x3 : Int32) (x4 : Int32) (Xc : Int32 → Hp → Prop) (K : Int32 → Hp → Prop) (hx : ∀ (y2 : Int32) (h1 : Hp), Xc y2 h1 → V p l e (headSpec (wM yX2_pass cX2_pass 6 (some .int)) ({ frames := 3, cells := 0, slots := 0, locals := 70 } : Room)).room s0 m args below meth c (MQ below (QI D cA L sh K) args s0 0 0 (fun q => q ∈ L)) (fun q => q ∈ L) 0 0 D cA L sh 6 h1 82 [(0, .ref x0), (1, .int x1), (2, .int y2), (3, .int x3), (4, .int x4)] []) : ∀ (n : Nat) (s : Int32 × Int32) (h : Hp), lp (b_X2_pass_34 sh x0 x1 x3 x4 Xc) n s h → V p l e (headSpec (wM yX2_pass cX2_pass 6 (some .int)) ({ frames := 3, cells := 0, slots := 0, locals := 70 } : Room)).room s0 m args below meth c (MQ below (QI D cA L sh K) args s0 0 0 (fun q => q ∈ L)) (fun q => q ∈ L) 0 0 D cA L sh 6 h 34 [(0, .ref x0), (1, .int x1), (3, .int x3), (4, .int x4), (2, .int s.1), (5, .int s.2)] [] := by
  have k47 := X.ht _ (inM _ q_126)
  have k21 := X.ht _ (inM _ q_129)
  have k37 := X.ht _ (inM _ q_116)
  have kl123 := X.ht _ (inM _ q_366)
  have ks123 := X.ht _ (inM _ q_367)
  have ki123 := X.ht _ (inM _ q_7)
  have kc123 := X.ht _ (inM _ q_368)
  intro n
  induction n with
  | zero => intro s h hf; exact hf.elim
  | succ n ih =>
    intro s h hf
    replace hf : b_X2_pass_34 sh x0 x1 x3 x4 Xc (lp (b_X2_pass_34 sh x0 x1 x3 x4 Xc) n) s h := hf
    unfold b_X2_pass_34 at hf
    refine v_iload (pc := 34) X 5 dX2_pass_34 rfl ?_
    refine v_aload_n (pc := 36) X 0 dX2_pass_36 rfl rfl ?_
    obtain ⟨t2, hf⟩ := hf
    obtain ⟨v3, e_v3, hf⟩ := hf
    refine ge_2_5 (pc := 37) X (fun w h => inM w (inG2 w h)) k47 t2 e_v3 dX2_pass_37 ?_
    refine v_icmp_ge (pc := 40) X 82 dX2_pass_40 (by decide) (fun c => ?_) (fun c => ?_)
    · replace hf := if_t c hf
      refine v_sub [0, 1, 4, 2, 3] rfl ?_
      exact hx s.1 h hf
    · replace hf := if_f c hf
      refine v_iload (pc := 43) X 5 dX2_pass_43 rfl ?_
      refine v_bipush (pc := 45) X (v := (100 : Int32)) dX2_pass_45 (by decide) ?_
      refine v_icmp_ge (pc := 47) X 82 dX2_pass_47 (by decide) (fun c => ?_) (fun c => ?_)
      · replace hf := if_t c hf
        refine v_sub [0, 1, 4, 2, 3] rfl ?_
        exact hx s.1 h hf
      · replace hf := if_f c hf
        refine v_aload_n (pc := 50) X 0 dX2_pass_50 rfl rfl ?_
        obtain ⟨q4, e_q4, hf⟩ := hf
        refine ge_2_7 (pc := 51) X (fun w h => inM w (inG2 w h)) k21 t2 e_q4 dX2_pass_51 ?_
        refine v_iload (pc := 54) X 5 dX2_pass_54 rfl ?_
        obtain ⟨t5, hf⟩ := hf
        obtain ⟨b7, v6, e_v6, hf⟩ := hf
        refine v_iald (pc := 56) X t5 b7 e_v6 dX2_pass_56 ?_
        refine v_aload_n (pc := 57) X 0 dX2_pass_57 rfl rfl ?_
        obtain ⟨v8, e_v8, hf⟩ := hf
        refine ge_2_0 (pc := 58) X (fun w h => inM w (inG2 w h)) k37 t2 e_v8 dX2_pass_58 ?_
        refine v_iload (pc := 61) X 3 dX2_pass_61 rfl ?_
        refine v_iadd (pc := 63) X dX2_pass_63 ?_
        refine v_icmp_ne (pc := 64) X 76 dX2_pass_64 (by decide) (fun c => ?_) (fun c => ?_)
        · replace hf := if_f c hf
          refine v_iinc (pc := 76) X 5 (v := s.2 + (1 : Int32)) (lv' := [(5, .int (s.2 + (1 : Int32))), (0, .ref x0), (1, .int x1), (3, .int x3), (4, .int x4), (2, .int s.1)]) dX2_pass_76 rfl rfl (Nat.le_of_ble_eq_true rfl) rfl ?_
          refine v_goto (pc := 79) X 34 dX2_pass_79 (by decide) ?_
          refine v_sub [1, 2, 3, 4, 5, 0] rfl ?_
          exact ih (s.1, s.2 + (1 : Int32)) h hf
        · replace hf := if_t c hf
          refine v_aload_n (pc := 67) X 0 dX2_pass_67 rfl rfl ?_
          refine v_iload (pc := 68) X 5 dX2_pass_68 rfl ?_
          refine v_callVV (pc := 70) X (As := [.int s.2]) (rest := []) (c_X2_arrive l D cA L sh x0 s.2 h _ hf) (cwV 1 X.ht (gwV inM q_340 q_341 q_441 q_2 q_342) rfl rfl rfl (by decide +kernel) ⟨Nat.le_of_ble_eq_true rfl, Nat.le_of_ble_eq_true rfl⟩) rfl (by decide) t2 (ent_2 t2) rfl rfl (Nat.le_of_ble_eq_true rfl) ⟨Nat.zero_le _, Nat.zero_le _⟩ dX2_pass_70 (fun h10 hf => ?_)
          refine v_iinc (pc := 73) X 4 (v := s.1 + (4 : Int32)) (lv' := [(2, .int (s.1 + (4 : Int32))), (0, .ref x0), (1, .int x1), (3, .int x3), (4, .int x4), (5, .int s.2)]) dX2_pass_73 rfl rfl (Nat.le_of_ble_eq_true rfl) rfl ?_
          refine v_iinc (pc := 76) X 5 (v := s.2 + (1 : Int32)) (lv' := [(5, .int (s.2 + (1 : Int32))), (2, .int (s.1 + (4 : Int32))), (0, .ref x0), (1, .int x1), (3, .int x3), (4, .int x4)]) dX2_pass_76 rfl rfl (Nat.le_of_ble_eq_true rfl) rfl ?_
          refine v_goto (pc := 79) X 34 dX2_pass_79 (by decide) ?_
          refine v_sub [2, 3, 4, 5, 1, 0] rfl ?_
          exact ih (s.1 + (4 : Int32), s.2 + (1 : Int32)) h10 hf

set_option maxHeartbeats 4000000 in
set_option maxRecDepth 100000 in
theorem w_X2_pass_25 {p : Program} {l : Launch} {e : Env} {s0 : State} {m : MethodId} {args : Array Value} {below : List Frame} {meth : Method} {c : Code} {D : va_G} {cA : Nat → ClassId} {L : List Nat} {sh : Sh} (X : Cx p s0 m c args cX2_pass 6 (wM yX2_pass cX2_pass 6 (some .int)) RX2 (fun q => q ∈ L) D cA L sh) (hr : meth.sig.returnType = (some .int)) (hlk : meth.locks = false) (x0 : Nat) (x1 : Int32) (x3 : Int32) (Xc : Int32 → Hp → Prop) (K : Int32 → Hp → Prop) (hx : ∀ (y2 : Int32) (h1 : Hp), Xc y2 h1 → V p l e (headSpec (wM yX2_pass cX2_pass 6 (some .int)) ({ frames := 3, cells := 0, slots := 0, locals := 70 } : Room)).room s0 m args below meth c (MQ below (QI D cA L sh K) args s0 0 0 (fun q => q ∈ L)) (fun q => q ∈ L) 0 0 D cA L sh 6 h1 88 [(0, .ref x0), (1, .int x1), (2, .int y2)] []) : ∀ (n : Nat) (s : Int32 × Int32) (h : Hp), lp (b_X2_pass_25 sh x0 x1 x3 Xc) n s h → V p l e (headSpec (wM yX2_pass cX2_pass 6 (some .int)) ({ frames := 3, cells := 0, slots := 0, locals := 70 } : Room)).room s0 m args below meth c (MQ below (QI D cA L sh K) args s0 0 0 (fun q => q ∈ L)) (fun q => q ∈ L) 0 0 D cA L sh 6 h 25 [(0, .ref x0), (1, .int x1), (3, .int x3), (2, .int s.1), (4, .int s.2)] [] := by
  have k47 := X.ht _ (inM _ q_126)
  have k21 := X.ht _ (inM _ q_129)
  have k37 := X.ht _ (inM _ q_116)
  have kl123 := X.ht _ (inM _ q_366)
  have ks123 := X.ht _ (inM _ q_367)
  have ki123 := X.ht _ (inM _ q_7)
  have kc123 := X.ht _ (inM _ q_368)
  intro n
  induction n with
  | zero => intro s h hf; exact hf.elim
  | succ n ih =>
    intro s h hf
    replace hf : b_X2_pass_25 sh x0 x1 x3 Xc (lp (b_X2_pass_25 sh x0 x1 x3 Xc) n) s h := hf
    unfold b_X2_pass_25 at hf
    refine v_iload (pc := 25) X 4 dX2_pass_25 rfl ?_
    refine v_iload_n (pc := 27) X 2 dX2_pass_27 rfl rfl ?_
    refine v_icmp_gt (pc := 28) X 88 dX2_pass_28 (by decide) (fun c => ?_) (fun c => ?_)
    · replace hf := if_t c hf
      refine v_sub [0, 1, 3] rfl ?_
      exact hx s.1 h hf
    · replace hf := if_f c hf
      refine v_iconst (pc := 31) X (v := (0 : Int32)) dX2_pass_31 (by decide) ?_
      refine v_istore (pc := 32) X (i := 5) (lv' := [(5, .int (0 : Int32)), (0, .ref x0), (1, .int x1), (3, .int x3), (2, .int s.1), (4, .int s.2)]) dX2_pass_32 (Nat.le_of_ble_eq_true rfl) rfl ?_
      obtain ⟨n, hf⟩ := hf
      refine v_sub [1, 2, 3, 5, 4, 0] rfl ?_
      refine w_X2_pass_34 X hr hlk x0 x1 x3 s.2 _ K (fun y11 h12 hf => ?_) n (s.1, (0 : Int32)) h hf
      refine v_iinc (pc := 82) X 4 (v := s.2 + (1 : Int32)) (lv' := [(4, .int (s.2 + (1 : Int32))), (0, .ref x0), (1, .int x1), (2, .int y11), (3, .int x3)]) dX2_pass_82 rfl rfl (Nat.le_of_ble_eq_true rfl) rfl ?_
      refine v_goto (pc := 85) X 25 dX2_pass_85 (by decide) ?_
      refine v_sub [1, 2, 4, 3, 0] rfl ?_
      exact ih (y11, s.2 + (1 : Int32)) h12 hf

set_option maxHeartbeats 4000000 in
set_option maxRecDepth 100000 in
theorem c_X2_pass (l : Launch) (D : va_G) (cA : Nat → ClassId) (L : List Nat) (sh : Sh) (a0 : Nat) (p1 : Int32) (h : Hp) (K : Int32 → Hp → Prop) (hf : f_X2_pass sh a0 p1 h K) : Met l yX2_pass (wM yX2_pass cX2_pass 6 (some .int)) ({ frames := 3, cells := 0, slots := 0, locals := 70 } : Room) (PreM D cA L sh h [.ref a0, .int p1]) (QI D cA L sh K) 0 0 (fun q => q ∈ L) := by
  refine met_v (cc := cX2_pass) (nL := 6) (ret := (some .int)) [(0, .ref a0), (1, .int p1)] (by decide) rfl (Nat.le_of_ble_eq_true rfl) rfl ?_
  intro p e s0 m below meth c X hr hlk
  have k47 := X.ht _ (inM _ q_126)
  have k21 := X.ht _ (inM _ q_129)
  have k37 := X.ht _ (inM _ q_116)
  have kl123 := X.ht _ (inM _ q_366)
  have ks123 := X.ht _ (inM _ q_367)
  have ki123 := X.ht _ (inM _ q_7)
  have kc123 := X.ht _ (inM _ q_368)
  unfold f_X2_pass at hf
  refine v_iload_n (pc := 0) X 1 dX2_pass_0 rfl rfl ?_
  refine v_iconst (pc := 1) X (v := (1 : Int32)) dX2_pass_1 (by decide) ?_
  refine v_icmp_lt (pc := 2) X 11 dX2_pass_2 (by decide) (fun c => ?_) (fun c => ?_)
  · replace hf := if_t c hf
    refine v_iconst (pc := 11) X (v := (-1 : Int32)) dX2_pass_11 (by decide) ?_
    exact v_iret (pc := 12) X hr hlk dX2_pass_12 hf
  · replace hf := if_f c hf
    refine v_iload_n (pc := 5) X 1 dX2_pass_5 rfl rfl ?_
    refine v_bipush (pc := 6) X (v := (99 : Int32)) dX2_pass_6 (by decide) ?_
    refine v_icmp_le (pc := 8) X 13 dX2_pass_8 (by decide) (fun c => ?_) (fun c => ?_)
    · replace hf := if_t c hf
      refine v_iconst (pc := 13) X (v := (0 : Int32)) dX2_pass_13 (by decide) ?_
      refine v_istore_n (pc := 14) X (i := 2) (lv' := [(2, .int (0 : Int32)), (0, .ref a0), (1, .int p1)]) dX2_pass_14 rfl (Nat.le_of_ble_eq_true rfl) rfl ?_
      refine v_iload_n (pc := 15) X 2 dX2_pass_15 rfl rfl ?_
      refine v_bipush (pc := 16) X (v := (20 : Int32)) dX2_pass_16 (by decide) ?_
      obtain ⟨v1, e_v1, hf⟩ := hf
      refine v_mmin (pc := 18) X kl123 ks123 ki123 kc123 (Nat.le_of_ble_eq_true rfl) (Nat.le_of_ble_eq_true rfl) (Nat.zero_le _) (Nat.zero_le _) dX2_pass_18 ?_
      rw [← e_v1]
      refine v_istore_n (pc := 21) X (i := 3) (lv' := [(3, .int v1), (2, .int (0 : Int32)), (0, .ref a0), (1, .int p1)]) dX2_pass_21 rfl (Nat.le_of_ble_eq_true rfl) rfl ?_
      refine v_iconst (pc := 22) X (v := (1 : Int32)) dX2_pass_22 (by decide) ?_
      refine v_istore (pc := 23) X (i := 4) (lv' := [(4, .int (1 : Int32)), (3, .int v1), (2, .int (0 : Int32)), (0, .ref a0), (1, .int p1)]) dX2_pass_23 (Nat.le_of_ble_eq_true rfl) rfl ?_
      obtain ⟨n, hf⟩ := hf
      refine v_sub [3, 4, 1, 2, 0] rfl ?_
      refine w_X2_pass_25 X hr hlk a0 p1 v1 _ K (fun y13 h14 hf => ?_) n ((0 : Int32), (1 : Int32)) h hf
      refine v_aload_n (pc := 88) X 0 dX2_pass_88 rfl rfl ?_
      refine v_dup (pc := 89) X dX2_pass_89 rfl ?_
      obtain ⟨t15, hf⟩ := hf
      obtain ⟨v16, e_v16, hf⟩ := hf
      refine ge_2_0 (pc := 90) X (fun w h => inM w (inG2 w h)) k37 t15 e_v16 dX2_pass_90 ?_
      refine v_iload_n (pc := 93) X 1 dX2_pass_93 rfl rfl ?_
      refine v_iadd (pc := 94) X dX2_pass_94 ?_
      obtain ⟨h17, e_h17, hf⟩ := hf
      refine pu_2_0 (pc := 95) X (fun w h => inM w (inG2 w h)) k37 t15 e_h17 dX2_pass_95 ?_
      refine v_iload_n (pc := 98) X 2 dX2_pass_98 rfl rfl ?_
      exact v_iret (pc := 99) X hr hlk dX2_pass_99 hf
    · replace hf := if_f c hf
      refine v_iconst (pc := 11) X (v := (-1 : Int32)) dX2_pass_11 (by decide) ?_
      exact v_iret (pc := 12) X hr hlk dX2_pass_12 hf
set_option maxHeartbeats 4000000 in
set_option maxRecDepth 100000 in
theorem w_X2_sessionWith_2 {p : Program} {l : Launch} {e : Env} {s0 : State} {m : MethodId} {args : Array Value} {below : List Frame} {meth : Method} {c : Code} {D : va_G} {cA : Nat → ClassId} {L : List Nat} {sh : Sh} (X : Cx p s0 m c args cX2_sessionWith 3 (wM yX2_sessionWith cX2_sessionWith 3 (some .int)) RX2 (fun q => q ∈ L) D cA L sh) (hr : meth.sig.returnType = (some .int)) (hlk : meth.locks = false) (x0 : Nat) (x1 : Int32) (Xc : Hp → Prop) (K : Int32 → Hp → Prop) (hx : ∀  (h1 : Hp), Xc  h1 → V p l e (headSpec (wM yX2_sessionWith cX2_sessionWith 3 (some .int)) ({ frames := 2, cells := 0, slots := 0, locals := 43 } : Room)).room s0 m args below meth c (MQ below (QI D cA L sh K) args s0 0 0 (fun q => q ∈ L)) (fun q => q ∈ L) 0 0 D cA L sh 3 h1 28 [] []) : ∀ (n : Nat) (s : Int32) (h : Hp), lp (b_X2_sessionWith_2 sh x0 x1 Xc K) n s h → V p l e (headSpec (wM yX2_sessionWith cX2_sessionWith 3 (some .int)) ({ frames := 2, cells := 0, slots := 0, locals := 43 } : Room)).room s0 m args below meth c (MQ below (QI D cA L sh K) args s0 0 0 (fun q => q ∈ L)) (fun q => q ∈ L) 0 0 D cA L sh 3 h 2 [(0, .ref x0), (1, .int x1), (2, .int s)] [] := by
  have k32 := X.ht _ (inM _ q_136)
  intro n
  induction n with
  | zero => intro s h hf; exact hf.elim
  | succ n ih =>
    intro s h hf
    replace hf : b_X2_sessionWith_2 sh x0 x1 Xc K (lp (b_X2_sessionWith_2 sh x0 x1 Xc K) n) s h := hf
    unfold b_X2_sessionWith_2 at hf
    refine v_iload_n (pc := 2) X 2 dX2_sessionWith_2 rfl rfl ?_
    refine v_iconst (pc := 3) X (v := (4 : Int32)) dX2_sessionWith_3 (by decide) ?_
    refine v_icmp_ge (pc := 4) X 28 dX2_sessionWith_4 (by decide) (fun c => ?_) (fun c => ?_)
    · replace hf := if_t c hf
      refine v_sub [] rfl ?_
      exact hx h hf
    · replace hf := if_f c hf
      refine v_aload_n (pc := 7) X 0 dX2_sessionWith_7 rfl rfl ?_
      obtain ⟨t1, hf⟩ := hf
      obtain ⟨q2, e_q2, hf⟩ := hf
      refine ge_2_11 (pc := 8) X (fun w h => inM w (inG2 w h)) k32 t1 e_q2 dX2_sessionWith_8 ?_
      refine v_iload_n (pc := 11) X 2 dX2_sessionWith_11 rfl rfl ?_
      obtain ⟨t3, hf⟩ := hf
      obtain ⟨b5, q4, e_q4, hf⟩ := hf
      refine v_aald_9 (pc := 12) X t3 b5 e_q4 dX2_sessionWith_12 ?_
      refine v_iload_n (pc := 13) X 1 dX2_sessionWith_13 rfl rfl ?_
      obtain ⟨t6, hf⟩ := hf
      refine v_callVN (pc := 14) X (As := [.int x1]) (rest := []) (c_X1_workOf l D cA L sh q4 x1 h _ hf) (cwV 1 X.ht (gwV inM q_293 q_294 q_295 q_3 q_296) rfl rfl rfl (by decide +kernel) ⟨Nat.le_of_ble_eq_true rfl, Nat.le_of_ble_eq_true rfl⟩) rfl (by decide) t6 (ent_1 t6) rfl rfl (Nat.le_of_ble_eq_true rfl) ⟨Nat.zero_le _, Nat.zero_le _⟩ dX2_sessionWith_14 (fun r7 h8 hf => ?_)
      rcases r7 with _ | q9
      · replace hf := hf.1 rfl
        refine v_ifnullN (pc := 17) X 22 dX2_sessionWith_17 (by decide) ?_
        refine v_iinc (pc := 22) X 2 (v := s + (1 : Int32)) (lv' := [(2, .int (s + (1 : Int32))), (0, .ref x0), (1, .int x1)]) dX2_sessionWith_22 rfl rfl (Nat.le_of_ble_eq_true rfl) rfl ?_
        refine v_goto (pc := 25) X 2 dX2_sessionWith_25 (by decide) ?_
        refine v_sub [1, 2, 0] rfl ?_
        exact ih (s + (1 : Int32)) h8 hf
      · replace hf := hf.2 q9 rfl
        refine v_ifnull (pc := 17) X dX2_sessionWith_17 ?_
        refine v_iload_n (pc := 20) X 2 dX2_sessionWith_20 rfl rfl ?_
        exact v_iret (pc := 21) X hr hlk dX2_sessionWith_21 hf

set_option maxHeartbeats 4000000 in
set_option maxRecDepth 100000 in
theorem c_X2_sessionWith (l : Launch) (D : va_G) (cA : Nat → ClassId) (L : List Nat) (sh : Sh) (a0 : Nat) (p1 : Int32) (h : Hp) (K : Int32 → Hp → Prop) (hf : f_X2_sessionWith sh a0 p1 h K) : Met l yX2_sessionWith (wM yX2_sessionWith cX2_sessionWith 3 (some .int)) ({ frames := 2, cells := 0, slots := 0, locals := 43 } : Room) (PreM D cA L sh h [.ref a0, .int p1]) (QI D cA L sh K) 0 0 (fun q => q ∈ L) := by
  refine met_v (cc := cX2_sessionWith) (nL := 3) (ret := (some .int)) [(0, .ref a0), (1, .int p1)] (by decide) rfl (Nat.le_of_ble_eq_true rfl) rfl ?_
  intro p e s0 m below meth c X hr hlk
  have k32 := X.ht _ (inM _ q_136)
  unfold f_X2_sessionWith at hf
  refine v_iconst (pc := 0) X (v := (0 : Int32)) dX2_sessionWith_0 (by decide) ?_
  refine v_istore_n (pc := 1) X (i := 2) (lv' := [(2, .int (0 : Int32)), (0, .ref a0), (1, .int p1)]) dX2_sessionWith_1 rfl (Nat.le_of_ble_eq_true rfl) rfl ?_
  obtain ⟨n, hf⟩ := hf
  refine v_sub [1, 2, 0] rfl ?_
  refine w_X2_sessionWith_2 X hr hlk a0 p1 _ K (fun  h10 hf => ?_) n (0 : Int32) h hf
  refine v_iconst (pc := 28) X (v := (-1 : Int32)) dX2_sessionWith_28 (by decide) ?_
  exact v_iret (pc := 29) X hr hlk dX2_sessionWith_29 hf
set_option maxHeartbeats 4000000 in
set_option maxRecDepth 100000 in
theorem w_X2_statementsAtWork_4 {p : Program} {l : Launch} {e : Env} {s0 : State} {m : MethodId} {args : Array Value} {below : List Frame} {meth : Method} {c : Code} {D : va_G} {cA : Nat → ClassId} {L : List Nat} {sh : Sh} (X : Cx p s0 m c args cX2_statementsAtWork 3 (wM yX2_statementsAtWork cX2_statementsAtWork 3 (some .int)) RX2 (fun q => q ∈ L) D cA L sh) (hr : meth.sig.returnType = (some .int)) (hlk : meth.locks = false) (x0 : Nat) (Xc : Int32 → Hp → Prop) (K : Int32 → Hp → Prop) (hx : ∀ (y1 : Int32) (h1 : Hp), Xc y1 h1 → V p l e (headSpec (wM yX2_statementsAtWork cX2_statementsAtWork 3 (some .int)) ({ frames := 1, cells := 0, slots := 0, locals := 22 } : Room)).room s0 m args below meth c (MQ below (QI D cA L sh K) args s0 0 0 (fun q => q ∈ L)) (fun q => q ∈ L) 0 0 D cA L sh 3 h1 27 [(1, .int y1)] []) : ∀ (n : Nat) (s : Int32 × Int32) (h : Hp), lp (b_X2_statementsAtWork_4 sh x0 Xc) n s h → V p l e (headSpec (wM yX2_statementsAtWork cX2_statementsAtWork 3 (some .int)) ({ frames := 1, cells := 0, slots := 0, locals := 22 } : Room)).room s0 m args below meth c (MQ below (QI D cA L sh K) args s0 0 0 (fun q => q ∈ L)) (fun q => q ∈ L) 0 0 D cA L sh 3 h 4 [(0, .ref x0), (1, .int s.1), (2, .int s.2)] [] := by
  have k32 := X.ht _ (inM _ q_136)
  intro n
  induction n with
  | zero => intro s h hf; exact hf.elim
  | succ n ih =>
    intro s h hf
    replace hf : b_X2_statementsAtWork_4 sh x0 Xc (lp (b_X2_statementsAtWork_4 sh x0 Xc) n) s h := hf
    unfold b_X2_statementsAtWork_4 at hf
    refine v_iload_n (pc := 4) X 2 dX2_statementsAtWork_4 rfl rfl ?_
    refine v_iconst (pc := 5) X (v := (4 : Int32)) dX2_statementsAtWork_5 (by decide) ?_
    refine v_icmp_ge (pc := 6) X 27 dX2_statementsAtWork_6 (by decide) (fun c => ?_) (fun c => ?_)
    · replace hf := if_t c hf
      refine v_sub [1] rfl ?_
      exact hx s.1 h hf
    · replace hf := if_f c hf
      refine v_iload_n (pc := 9) X 1 dX2_statementsAtWork_9 rfl rfl ?_
      refine v_aload_n (pc := 10) X 0 dX2_statementsAtWork_10 rfl rfl ?_
      obtain ⟨t1, hf⟩ := hf
      obtain ⟨q2, e_q2, hf⟩ := hf
      refine ge_2_11 (pc := 11) X (fun w h => inM w (inG2 w h)) k32 t1 e_q2 dX2_statementsAtWork_11 ?_
      refine v_iload_n (pc := 14) X 2 dX2_statementsAtWork_14 rfl rfl ?_
      obtain ⟨t3, hf⟩ := hf
      obtain ⟨b5, q4, e_q4, hf⟩ := hf
      refine v_aald_9 (pc := 15) X t3 b5 e_q4 dX2_statementsAtWork_15 ?_
      obtain ⟨t6, hf⟩ := hf
      refine v_callVI (pc := 16) X (As := []) (rest := [.int s.1]) (c_X1_statementsAtWork l D cA L sh q4 h _ hf) (cwV 0 X.ht (gwV inM q_226 q_227 q_228 q_3 q_229) rfl rfl rfl (by decide +kernel) ⟨Nat.le_of_ble_eq_true rfl, Nat.le_of_ble_eq_true rfl⟩) rfl (by decide) t6 (ent_1 t6) rfl rfl (Nat.le_of_ble_eq_true rfl) ⟨Nat.zero_le _, Nat.zero_le _⟩ dX2_statementsAtWork_16 (fun r7 h8 hf => ?_)
      refine v_iadd (pc := 19) X dX2_statementsAtWork_19 ?_
      refine v_istore_n (pc := 20) X (i := 1) (lv' := [(1, .int (s.1 + r7)), (0, .ref x0), (2, .int s.2)]) dX2_statementsAtWork_20 rfl (Nat.le_of_ble_eq_true rfl) rfl ?_
      refine v_iinc (pc := 21) X 2 (v := s.2 + (1 : Int32)) (lv' := [(2, .int (s.2 + (1 : Int32))), (1, .int (s.1 + r7)), (0, .ref x0)]) dX2_statementsAtWork_21 rfl rfl (Nat.le_of_ble_eq_true rfl) rfl ?_
      refine v_goto (pc := 24) X 4 dX2_statementsAtWork_24 (by decide) ?_
      refine v_sub [2, 1, 0] rfl ?_
      exact ih (s.1 + r7, s.2 + (1 : Int32)) h8 hf

set_option maxHeartbeats 4000000 in
set_option maxRecDepth 100000 in
theorem c_X2_statementsAtWork (l : Launch) (D : va_G) (cA : Nat → ClassId) (L : List Nat) (sh : Sh) (a0 : Nat) (h : Hp) (K : Int32 → Hp → Prop) (hf : f_X2_statementsAtWork sh a0 h K) : Met l yX2_statementsAtWork (wM yX2_statementsAtWork cX2_statementsAtWork 3 (some .int)) ({ frames := 1, cells := 0, slots := 0, locals := 22 } : Room) (PreM D cA L sh h [.ref a0]) (QI D cA L sh K) 0 0 (fun q => q ∈ L) := by
  refine met_v (cc := cX2_statementsAtWork) (nL := 3) (ret := (some .int)) [(0, .ref a0)] (by decide) rfl (Nat.le_of_ble_eq_true rfl) rfl ?_
  intro p e s0 m below meth c X hr hlk
  have k32 := X.ht _ (inM _ q_136)
  unfold f_X2_statementsAtWork at hf
  refine v_iconst (pc := 0) X (v := (0 : Int32)) dX2_statementsAtWork_0 (by decide) ?_
  refine v_istore_n (pc := 1) X (i := 1) (lv' := [(1, .int (0 : Int32)), (0, .ref a0)]) dX2_statementsAtWork_1 rfl (Nat.le_of_ble_eq_true rfl) rfl ?_
  refine v_iconst (pc := 2) X (v := (0 : Int32)) dX2_statementsAtWork_2 (by decide) ?_
  refine v_istore_n (pc := 3) X (i := 2) (lv' := [(2, .int (0 : Int32)), (1, .int (0 : Int32)), (0, .ref a0)]) dX2_statementsAtWork_3 rfl (Nat.le_of_ble_eq_true rfl) rfl ?_
  obtain ⟨n, hf⟩ := hf
  refine v_sub [2, 1, 0] rfl ?_
  refine w_X2_statementsAtWork_4 X hr hlk a0 _ K (fun y9 h10 hf => ?_) n ((0 : Int32), (0 : Int32)) h hf
  refine v_iload_n (pc := 27) X 0 dX2_statementsAtWork_27 rfl rfl ?_
  exact v_iret (pc := 28) X hr hlk dX2_statementsAtWork_28 hf
set_option maxHeartbeats 4000000 in
set_option maxRecDepth 100000 in
theorem w_X2_tablesThatCanChange_4 {p : Program} {l : Launch} {e : Env} {s0 : State} {m : MethodId} {args : Array Value} {below : List Frame} {meth : Method} {c : Code} {D : va_G} {cA : Nat → ClassId} {L : List Nat} {sh : Sh} (X : Cx p s0 m c args cX2_tablesThatCanChange 3 (wM yX2_tablesThatCanChange cX2_tablesThatCanChange 3 (some .int)) RX2 (fun q => q ∈ L) D cA L sh) (hr : meth.sig.returnType = (some .int)) (hlk : meth.locks = false) (x0 : Nat) (Xc : Int32 → Hp → Prop) (K : Int32 → Hp → Prop) (hx : ∀ (y1 : Int32) (h1 : Hp), Xc y1 h1 → V p l e (headSpec (wM yX2_tablesThatCanChange cX2_tablesThatCanChange 3 (some .int)) ({ frames := 3, cells := 0, slots := 0, locals := 68 } : Room)).room s0 m args below meth c (MQ below (QI D cA L sh K) args s0 0 0 (fun q => q ∈ L)) (fun q => q ∈ L) 0 0 D cA L sh 3 h1 30 [(1, .int y1)] []) : ∀ (n : Nat) (s : Int32 × Int32) (h : Hp), lp (b_X2_tablesThatCanChange_4 sh x0 Xc) n s h → V p l e (headSpec (wM yX2_tablesThatCanChange cX2_tablesThatCanChange 3 (some .int)) ({ frames := 3, cells := 0, slots := 0, locals := 68 } : Room)).room s0 m args below meth c (MQ below (QI D cA L sh K) args s0 0 0 (fun q => q ∈ L)) (fun q => q ∈ L) 0 0 D cA L sh 3 h 4 [(0, .ref x0), (1, .int s.1), (2, .int s.2)] [] := by
  intro n
  induction n with
  | zero => intro s h hf; exact hf.elim
  | succ n ih =>
    intro s h hf
    replace hf : b_X2_tablesThatCanChange_4 sh x0 Xc (lp (b_X2_tablesThatCanChange_4 sh x0 Xc) n) s h := hf
    unfold b_X2_tablesThatCanChange_4 at hf
    refine v_iload_n (pc := 4) X 2 dX2_tablesThatCanChange_4 rfl rfl ?_
    refine v_bipush (pc := 5) X (v := (6 : Int32)) dX2_tablesThatCanChange_5 (by decide) ?_
    refine v_icmp_ge (pc := 7) X 30 dX2_tablesThatCanChange_7 (by decide) (fun c => ?_) (fun c => ?_)
    · replace hf := if_t c hf
      refine v_sub [1] rfl ?_
      exact hx s.1 h hf
    · replace hf := if_f c hf
      refine v_aload_n (pc := 10) X 0 dX2_tablesThatCanChange_10 rfl rfl ?_
      refine v_iload_n (pc := 11) X 2 dX2_tablesThatCanChange_11 rfl rfl ?_
      obtain ⟨t1, hf⟩ := hf
      refine v_callVI (pc := 12) X (As := [.int s.2]) (rest := []) (c_X2_canChange l D cA L sh x0 s.2 h _ hf) (cwV 1 X.ht (gwV inM q_234 q_214 q_215 q_2 q_216) rfl rfl rfl (by decide +kernel) ⟨Nat.le_of_ble_eq_true rfl, Nat.le_of_ble_eq_true rfl⟩) rfl (by decide) t1 (ent_2 t1) rfl rfl (Nat.le_of_ble_eq_true rfl) ⟨Nat.zero_le _, Nat.zero_le _⟩ dX2_tablesThatCanChange_12 (fun r2 h3 hf => ?_)
      refine v_if_eq (pc := 15) X 24 dX2_tablesThatCanChange_15 (by decide) (fun c => ?_) (fun c => ?_)
      · replace hf := if_t c hf
        refine v_iinc (pc := 24) X 2 (v := s.2 + (1 : Int32)) (lv' := [(2, .int (s.2 + (1 : Int32))), (0, .ref x0), (1, .int s.1)]) dX2_tablesThatCanChange_24 rfl rfl (Nat.le_of_ble_eq_true rfl) rfl ?_
        refine v_goto (pc := 27) X 4 dX2_tablesThatCanChange_27 (by decide) ?_
        refine v_sub [1, 2, 0] rfl ?_
        exact ih (s.1, s.2 + (1 : Int32)) h3 hf
      · replace hf := if_f c hf
        refine v_iload_n (pc := 18) X 1 dX2_tablesThatCanChange_18 rfl rfl ?_
        refine v_iconst (pc := 19) X (v := (1 : Int32)) dX2_tablesThatCanChange_19 (by decide) ?_
        refine v_iload_n (pc := 20) X 2 dX2_tablesThatCanChange_20 rfl rfl ?_
        refine v_ishl (pc := 21) X dX2_tablesThatCanChange_21 ?_
        refine v_ior (pc := 22) X dX2_tablesThatCanChange_22 ?_
        refine v_istore_n (pc := 23) X (i := 1) (lv' := [(1, .int (s.1 ||| ((1 : Int32) <<< (s.2 &&& 31)))), (0, .ref x0), (2, .int s.2)]) dX2_tablesThatCanChange_23 rfl (Nat.le_of_ble_eq_true rfl) rfl ?_
        refine v_iinc (pc := 24) X 2 (v := s.2 + (1 : Int32)) (lv' := [(2, .int (s.2 + (1 : Int32))), (1, .int (s.1 ||| ((1 : Int32) <<< (s.2 &&& 31)))), (0, .ref x0)]) dX2_tablesThatCanChange_24 rfl rfl (Nat.le_of_ble_eq_true rfl) rfl ?_
        refine v_goto (pc := 27) X 4 dX2_tablesThatCanChange_27 (by decide) ?_
        refine v_sub [2, 1, 0] rfl ?_
        exact ih (s.1 ||| ((1 : Int32) <<< (s.2 &&& 31)), s.2 + (1 : Int32)) h3 hf

set_option maxHeartbeats 4000000 in
set_option maxRecDepth 100000 in
theorem c_X2_tablesThatCanChange (l : Launch) (D : va_G) (cA : Nat → ClassId) (L : List Nat) (sh : Sh) (a0 : Nat) (h : Hp) (K : Int32 → Hp → Prop) (hf : f_X2_tablesThatCanChange sh a0 h K) : Met l yX2_tablesThatCanChange (wM yX2_tablesThatCanChange cX2_tablesThatCanChange 3 (some .int)) ({ frames := 3, cells := 0, slots := 0, locals := 68 } : Room) (PreM D cA L sh h [.ref a0]) (QI D cA L sh K) 0 0 (fun q => q ∈ L) := by
  refine met_v (cc := cX2_tablesThatCanChange) (nL := 3) (ret := (some .int)) [(0, .ref a0)] (by decide) rfl (Nat.le_of_ble_eq_true rfl) rfl ?_
  intro p e s0 m below meth c X hr hlk
  unfold f_X2_tablesThatCanChange at hf
  refine v_iconst (pc := 0) X (v := (0 : Int32)) dX2_tablesThatCanChange_0 (by decide) ?_
  refine v_istore_n (pc := 1) X (i := 1) (lv' := [(1, .int (0 : Int32)), (0, .ref a0)]) dX2_tablesThatCanChange_1 rfl (Nat.le_of_ble_eq_true rfl) rfl ?_
  refine v_iconst (pc := 2) X (v := (0 : Int32)) dX2_tablesThatCanChange_2 (by decide) ?_
  refine v_istore_n (pc := 3) X (i := 2) (lv' := [(2, .int (0 : Int32)), (1, .int (0 : Int32)), (0, .ref a0)]) dX2_tablesThatCanChange_3 rfl (Nat.le_of_ble_eq_true rfl) rfl ?_
  obtain ⟨n, hf⟩ := hf
  refine v_sub [2, 1, 0] rfl ?_
  refine w_X2_tablesThatCanChange_4 X hr hlk a0 _ K (fun y4 h5 hf => ?_) n ((0 : Int32), (0 : Int32)) h hf
  refine v_iload_n (pc := 30) X 0 dX2_tablesThatCanChange_30 rfl rfl ?_
  exact v_iret (pc := 31) X hr hlk dX2_tablesThatCanChange_31 hf
set_option maxHeartbeats 4000000 in
set_option maxRecDepth 100000 in
theorem w_X4_outrunBy_4 {p : Program} {l : Launch} {e : Env} {s0 : State} {m : MethodId} {args : Array Value} {below : List Frame} {meth : Method} {c : Code} {D : va_G} {cA : Nat → ClassId} {L : List Nat} {sh : Sh} (X : Cx p s0 m c args cX4_outrunBy 4 (wM yX4_outrunBy cX4_outrunBy 4 (some .int)) RX4 (fun q => q ∈ L) D cA L sh) (hr : meth.sig.returnType = (some .int)) (hlk : meth.locks = false) (x0 : Nat) (x1 : Nat) (Xc : Int32 → Hp → Prop) (K : Int32 → Hp → Prop) (hx : ∀ (y2 : Int32) (h1 : Hp), Xc y2 h1 → V p l e (headSpec (wM yX4_outrunBy cX4_outrunBy 4 (some .int)) ({ frames := 1, cells := 0, slots := 0, locals := 21 } : Room)).room s0 m args below meth c (MQ below (QI D cA L sh K) args s0 0 0 (fun q => q ∈ L)) (fun q => q ∈ L) 0 0 D cA L sh 4 h1 45 [(2, .int y2)] []) : ∀ (n : Nat) (s : Int32 × Int32) (h : Hp), lp (b_X4_outrunBy_4 sh x0 x1 Xc) n s h → V p l e (headSpec (wM yX4_outrunBy cX4_outrunBy 4 (some .int)) ({ frames := 1, cells := 0, slots := 0, locals := 21 } : Room)).room s0 m args below meth c (MQ below (QI D cA L sh K) args s0 0 0 (fun q => q ∈ L)) (fun q => q ∈ L) 0 0 D cA L sh 4 h 4 [(0, .ref x0), (1, .ref x1), (2, .int s.1), (3, .int s.2)] [] := by
  have k19 := X.ht _ (inM _ q_73)
  have k15 := X.ht _ (inM _ q_80)
  intro n
  induction n with
  | zero => intro s h hf; exact hf.elim
  | succ n ih =>
    intro s h hf
    replace hf : b_X4_outrunBy_4 sh x0 x1 Xc (lp (b_X4_outrunBy_4 sh x0 x1 Xc) n) s h := hf
    unfold b_X4_outrunBy_4 at hf
    refine v_iload_n (pc := 4) X 3 dX4_outrunBy_4 rfl rfl ?_
    refine v_bipush (pc := 5) X (v := (6 : Int32)) dX4_outrunBy_5 (by decide) ?_
    refine v_icmp_ge (pc := 7) X 45 dX4_outrunBy_7 (by decide) (fun c => ?_) (fun c => ?_)
    · replace hf := if_t c hf
      refine v_sub [2] rfl ?_
      exact hx s.1 h hf
    · replace hf := if_f c hf
      refine v_aload_n (pc := 10) X 0 dX4_outrunBy_10 rfl rfl ?_
      obtain ⟨t1, hf⟩ := hf
      obtain ⟨v2, e_v2, hf⟩ := hf
      refine ge_4_1 (pc := 11) X (fun w h => inM w (inG4 w h)) k19 t1 e_v2 dX4_outrunBy_11 ?_
      refine v_iload_n (pc := 14) X 3 dX4_outrunBy_14 rfl rfl ?_
      refine v_callSNI (pc := 15) X (As := [.int v2, .int s.2]) (rest := []) (c_X5_contains l D cA L sh v2 s.2 h _ hf) ⟨va_cnB 2 X.ht (good_wM inM q_269) rfl rfl rfl X.2.1.2.2.2.2.1 (X.ht _ (inM _ q_1)) (by decide +kernel) ⟨Nat.le_of_ble_eq_true rfl, Nat.le_of_ble_eq_true rfl⟩, X.ht _ (inM _ q_268), trivial⟩ rfl rfl (Nat.le_of_ble_eq_true rfl) ⟨Nat.zero_le _, Nat.zero_le _⟩ dX4_outrunBy_15 (fun r3 h4 hf => ?_)
      refine v_if_eq (pc := 18) X 39 dX4_outrunBy_18 (by decide) (fun c => ?_) (fun c => ?_)
      · replace hf := if_t c hf
        refine v_iinc (pc := 39) X 3 (v := s.2 + (1 : Int32)) (lv' := [(3, .int (s.2 + (1 : Int32))), (0, .ref x0), (1, .ref x1), (2, .int s.1)]) dX4_outrunBy_39 rfl rfl (Nat.le_of_ble_eq_true rfl) rfl ?_
        refine v_goto (pc := 42) X 4 dX4_outrunBy_42 (by decide) ?_
        refine v_sub [1, 2, 3, 0] rfl ?_
        exact ih (s.1, s.2 + (1 : Int32)) h4 hf
      · replace hf := if_f c hf
        refine v_aload_n (pc := 21) X 0 dX4_outrunBy_21 rfl rfl ?_
        obtain ⟨q5, e_q5, hf⟩ := hf
        refine ge_4_3 (pc := 22) X (fun w h => inM w (inG4 w h)) k15 t1 e_q5 dX4_outrunBy_22 ?_
        refine v_iload_n (pc := 25) X 3 dX4_outrunBy_25 rfl rfl ?_
        obtain ⟨t6, hf⟩ := hf
        obtain ⟨b8, v7, e_v7, hf⟩ := hf
        refine v_iald (pc := 26) X t6 b8 e_v7 dX4_outrunBy_26 ?_
        refine v_aload_n (pc := 27) X 1 dX4_outrunBy_27 rfl rfl ?_
        refine v_iload_n (pc := 28) X 3 dX4_outrunBy_28 rfl rfl ?_
        obtain ⟨t9, hf⟩ := hf
        obtain ⟨b11, v10, e_v10, hf⟩ := hf
        refine v_iald (pc := 29) X t9 b11 e_v10 dX4_outrunBy_29 ?_
        refine v_icmp_ge (pc := 30) X 39 dX4_outrunBy_30 (by decide) (fun c => ?_) (fun c => ?_)
        · replace hf := if_t c hf
          refine v_iinc (pc := 39) X 3 (v := s.2 + (1 : Int32)) (lv' := [(3, .int (s.2 + (1 : Int32))), (0, .ref x0), (1, .ref x1), (2, .int s.1)]) dX4_outrunBy_39 rfl rfl (Nat.le_of_ble_eq_true rfl) rfl ?_
          refine v_goto (pc := 42) X 4 dX4_outrunBy_42 (by decide) ?_
          refine v_sub [1, 2, 3, 0] rfl ?_
          exact ih (s.1, s.2 + (1 : Int32)) h4 hf
        · replace hf := if_f c hf
          refine v_iload_n (pc := 33) X 2 dX4_outrunBy_33 rfl rfl ?_
          refine v_iconst (pc := 34) X (v := (1 : Int32)) dX4_outrunBy_34 (by decide) ?_
          refine v_iload_n (pc := 35) X 3 dX4_outrunBy_35 rfl rfl ?_
          refine v_ishl (pc := 36) X dX4_outrunBy_36 ?_
          refine v_ior (pc := 37) X dX4_outrunBy_37 ?_
          refine v_istore_n (pc := 38) X (i := 2) (lv' := [(2, .int (s.1 ||| ((1 : Int32) <<< (s.2 &&& 31)))), (0, .ref x0), (1, .ref x1), (3, .int s.2)]) dX4_outrunBy_38 rfl (Nat.le_of_ble_eq_true rfl) rfl ?_
          refine v_iinc (pc := 39) X 3 (v := s.2 + (1 : Int32)) (lv' := [(3, .int (s.2 + (1 : Int32))), (2, .int (s.1 ||| ((1 : Int32) <<< (s.2 &&& 31)))), (0, .ref x0), (1, .ref x1)]) dX4_outrunBy_39 rfl rfl (Nat.le_of_ble_eq_true rfl) rfl ?_
          refine v_goto (pc := 42) X 4 dX4_outrunBy_42 (by decide) ?_
          refine v_sub [2, 3, 1, 0] rfl ?_
          exact ih (s.1 ||| ((1 : Int32) <<< (s.2 &&& 31)), s.2 + (1 : Int32)) h4 hf

set_option maxHeartbeats 4000000 in
set_option maxRecDepth 100000 in
theorem c_X4_outrunBy (l : Launch) (D : va_G) (cA : Nat → ClassId) (L : List Nat) (sh : Sh) (a0 : Nat) (p1 : Nat) (h : Hp) (K : Int32 → Hp → Prop) (hf : f_X4_outrunBy sh a0 p1 h K) : Met l yX4_outrunBy (wM yX4_outrunBy cX4_outrunBy 4 (some .int)) ({ frames := 1, cells := 0, slots := 0, locals := 21 } : Room) (PreM D cA L sh h [.ref a0, .ref p1]) (QI D cA L sh K) 0 0 (fun q => q ∈ L) := by
  refine met_v (cc := cX4_outrunBy) (nL := 4) (ret := (some .int)) [(0, .ref a0), (1, .ref p1)] (by decide) rfl (Nat.le_of_ble_eq_true rfl) rfl ?_
  intro p e s0 m below meth c X hr hlk
  have k19 := X.ht _ (inM _ q_73)
  have k15 := X.ht _ (inM _ q_80)
  unfold f_X4_outrunBy at hf
  refine v_iconst (pc := 0) X (v := (0 : Int32)) dX4_outrunBy_0 (by decide) ?_
  refine v_istore_n (pc := 1) X (i := 2) (lv' := [(2, .int (0 : Int32)), (0, .ref a0), (1, .ref p1)]) dX4_outrunBy_1 rfl (Nat.le_of_ble_eq_true rfl) rfl ?_
  refine v_iconst (pc := 2) X (v := (0 : Int32)) dX4_outrunBy_2 (by decide) ?_
  refine v_istore_n (pc := 3) X (i := 3) (lv' := [(3, .int (0 : Int32)), (2, .int (0 : Int32)), (0, .ref a0), (1, .ref p1)]) dX4_outrunBy_3 rfl (Nat.le_of_ble_eq_true rfl) rfl ?_
  obtain ⟨n, hf⟩ := hf
  refine v_sub [2, 3, 1, 0] rfl ?_
  refine w_X4_outrunBy_4 X hr hlk a0 p1 _ K (fun y12 h13 hf => ?_) n ((0 : Int32), (0 : Int32)) h hf
  refine v_iload_n (pc := 45) X 0 dX4_outrunBy_45 rfl rfl ?_
  exact v_iret (pc := 46) X hr hlk dX4_outrunBy_46 hf
set_option maxHeartbeats 4000000 in
set_option maxRecDepth 100000 in
theorem w_X5_record_40 {p : Program} {l : Launch} {e : Env} {s0 : State} {m : MethodId} {args : Array Value} {below : List Frame} {meth : Method} {c : Code} {D : va_G} {cA : Nat → ClassId} {L : List Nat} {sh : Sh} (X : Cx p s0 m c args cX5_record 3 (wM yX5_record cX5_record 3 none) RX5 (fun q => q ∈ L) D cA L sh) (hr : meth.sig.returnType = none) (hlk : meth.locks = false) (x0 : Nat) (x1 : Nat) (Xc : Hp → Prop) (K : Hp → Prop) (hx : ∀  (h1 : Hp), Xc  h1 → V p l e (headSpec (wM yX5_record cX5_record 3 none) ({ frames := 0, cells := 0, slots := 0, locals := 0 } : Room)).room s0 m args below meth c (MQ below (QV D cA L sh K) args s0 0 0 (fun q => q ∈ L)) (fun q => q ∈ L) 0 0 D cA L sh 3 h1 65 [(0, .ref x0), (1, .ref x1)] []) : ∀ (n : Nat) (s : Int32) (h : Hp), lp (b_X5_record_40 sh x0 x1 Xc) n s h → V p l e (headSpec (wM yX5_record cX5_record 3 none) ({ frames := 0, cells := 0, slots := 0, locals := 0 } : Room)).room s0 m args below meth c (MQ below (QV D cA L sh K) args s0 0 0 (fun q => q ∈ L)) (fun q => q ∈ L) 0 0 D cA L sh 3 h 40 [(0, .ref x0), (1, .ref x1), (2, .int s)] [] := by
  have k29 := X.ht _ (inM _ q_177)
  have k33 := X.ht _ (inM _ q_178)
  have k10 := X.ht _ (inM _ q_173)
  have k19 := X.ht _ (inM _ q_174)
  intro n
  induction n with
  | zero => intro s h hf; exact hf.elim
  | succ n ih =>
    intro s h hf
    replace hf : b_X5_record_40 sh x0 x1 Xc (lp (b_X5_record_40 sh x0 x1 Xc) n) s h := hf
    unfold b_X5_record_40 at hf
    refine v_iload_n (pc := 40) X 2 dX5_record_40 rfl rfl ?_
    refine v_iconst (pc := 41) X (v := (4 : Int32)) dX5_record_41 (by decide) ?_
    refine v_icmp_ge (pc := 42) X 65 dX5_record_42 (by decide) (fun c => ?_) (fun c => ?_)
    · replace hf := if_t c hf
      refine v_sub [0, 1] rfl ?_
      exact hx h hf
    · replace hf := if_f c hf
      refine v_aload_n (pc := 45) X 0 dX5_record_45 rfl rfl ?_
      obtain ⟨t7, hf⟩ := hf
      obtain ⟨q8, e_q8, hf⟩ := hf
      refine ge_5_4 (pc := 46) X (fun w h => inM w (inG5 w h)) k29 t7 e_q8 dX5_record_46 ?_
      refine v_iload_n (pc := 49) X 2 dX5_record_49 rfl rfl ?_
      refine v_iconst (pc := 50) X (v := (1 : Int32)) dX5_record_50 (by decide) ?_
      refine v_isub (pc := 51) X dX5_record_51 ?_
      refine v_aload_n (pc := 52) X 0 dX5_record_52 rfl rfl ?_
      obtain ⟨q9, e_q9, hf⟩ := hf
      refine ge_5_4 (pc := 53) X (fun w h => inM w (inG5 w h)) k29 t7 e_q9 dX5_record_53 ?_
      refine v_iload_n (pc := 56) X 2 dX5_record_56 rfl rfl ?_
      obtain ⟨t10, hf⟩ := hf
      obtain ⟨b12, q11, e_q11, hf⟩ := hf
      refine v_aald_10 (pc := 57) X t10 b12 e_q11 dX5_record_57 ?_
      obtain ⟨t13, hf⟩ := hf
      obtain ⟨t14, hf⟩ := hf
      obtain ⟨b16, h15, e_h15, hf⟩ := hf
      refine v_aast_10 (pc := 58) X t13 t14 b16 e_h15 dX5_record_58 ?_
      refine v_iinc (pc := 59) X 2 (v := s + (1 : Int32)) (lv' := [(2, .int (s + (1 : Int32))), (0, .ref x0), (1, .ref x1)]) dX5_record_59 rfl rfl (Nat.le_of_ble_eq_true rfl) rfl ?_
      refine v_goto (pc := 62) X 40 dX5_record_62 (by decide) ?_
      refine v_sub [1, 2, 0] rfl ?_
      exact ih (s + (1 : Int32)) h15 hf

set_option maxHeartbeats 4000000 in
set_option maxRecDepth 100000 in
theorem c_X5_record (l : Launch) (D : va_G) (cA : Nat → ClassId) (L : List Nat) (sh : Sh) (a0 : Nat) (h : Hp) (K : Hp → Prop) (hf : f_X5_record sh a0 h K) : Met l yX5_record (wM yX5_record cX5_record 3 none) ({ frames := 0, cells := 0, slots := 0, locals := 0 } : Room) (PreM D cA L sh h [.ref a0]) (QV D cA L sh K) 0 0 (fun q => q ∈ L) := by
  refine met_v (cc := cX5_record) (nL := 3) (ret := none) [(0, .ref a0)] (by decide) rfl (Nat.le_of_ble_eq_true rfl) rfl ?_
  intro p e s0 m below meth c X hr hlk
  have k29 := X.ht _ (inM _ q_177)
  have k33 := X.ht _ (inM _ q_178)
  have k10 := X.ht _ (inM _ q_173)
  have k19 := X.ht _ (inM _ q_174)
  unfold f_X5_record at hf
  refine v_aload_n (pc := 0) X 0 dX5_record_0 rfl rfl ?_
  obtain ⟨t1, hf⟩ := hf
  obtain ⟨q2, e_q2, hf⟩ := hf
  refine ge_5_4 (pc := 1) X (fun w h => inM w (inG5 w h)) k29 t1 e_q2 dX5_record_1 ?_
  refine v_iconst (pc := 4) X (v := (0 : Int32)) dX5_record_4 (by decide) ?_
  obtain ⟨t3, hf⟩ := hf
  obtain ⟨b5, q4, e_q4, hf⟩ := hf
  refine v_aald_10 (pc := 5) X t3 b5 e_q4 dX5_record_5 ?_
  refine v_astore_n (pc := 6) X (i := 1) (lv' := [(1, .ref q4), (0, .ref a0)]) dX5_record_6 rfl (Nat.le_of_ble_eq_true rfl) rfl ?_
  refine v_aload_n (pc := 7) X 1 dX5_record_7 rfl rfl ?_
  obtain ⟨v6, e_v6, hf⟩ := hf
  refine ge_5_5 (pc := 8) X (fun w h => inM w (inG5 w h)) k33 t1 e_v6 dX5_record_8 ?_
  refine v_iconst (pc := 11) X (v := (4 : Int32)) dX5_record_11 (by decide) ?_
  refine v_icmp_ge (pc := 12) X 38 dX5_record_12 (by decide) (fun c => ?_) (fun c => ?_)
  · replace hf := if_t c hf
    refine v_iconst (pc := 38) X (v := (1 : Int32)) dX5_record_38 (by decide) ?_
    refine v_istore_n (pc := 39) X (i := 2) (lv' := [(2, .int (1 : Int32)), (1, .ref q4), (0, .ref a0)]) dX5_record_39 rfl (Nat.le_of_ble_eq_true rfl) rfl ?_
    obtain ⟨n, hf⟩ := hf
    refine v_sub [2, 1, 0] rfl ?_
    refine w_X5_record_40 X hr hlk a0 q4 _ K (fun  h17 hf => ?_) n (1 : Int32) h hf
    refine v_aload_n (pc := 65) X 0 dX5_record_65 rfl rfl ?_
    obtain ⟨q18, e_q18, hf⟩ := hf
    refine ge_5_4 (pc := 66) X (fun w h => inM w (inG5 w h)) k29 t1 e_q18 dX5_record_66 ?_
    refine v_aload_n (pc := 69) X 0 dX5_record_69 rfl rfl ?_
    obtain ⟨v19, e_v19, hf⟩ := hf
    refine ge_5_5 (pc := 70) X (fun w h => inM w (inG5 w h)) k33 t1 e_v19 dX5_record_70 ?_
    refine v_iconst (pc := 73) X (v := (1 : Int32)) dX5_record_73 (by decide) ?_
    refine v_isub (pc := 74) X dX5_record_74 ?_
    refine v_aload_n (pc := 75) X 0 dX5_record_75 rfl rfl ?_
    obtain ⟨q20, e_q20, hf⟩ := hf
    refine ge_5_0 (pc := 76) X (fun w h => inM w (inG5 w h)) k10 t1 e_q20 dX5_record_76 ?_
    obtain ⟨t21, hf⟩ := hf
    obtain ⟨t22, hf⟩ := hf
    obtain ⟨b24, h23, e_h23, hf⟩ := hf
    refine v_aast_10 (pc := 79) X t21 t22 b24 e_h23 dX5_record_79 ?_
    refine v_aload_n (pc := 80) X 0 dX5_record_80 rfl rfl ?_
    refine v_aload_n (pc := 81) X 0 dX5_record_81 rfl rfl ?_
    obtain ⟨q25, e_q25, hf⟩ := hf
    refine ge_5_1 (pc := 82) X (fun w h => inM w (inG5 w h)) k19 t1 e_q25 dX5_record_82 ?_
    obtain ⟨h26, e_h26, hf⟩ := hf
    refine pu_5_0 (pc := 85) X (fun w h => inM w (inG5 w h)) k10 t1 e_h26 dX5_record_85 ?_
    refine v_aload_n (pc := 88) X 0 dX5_record_88 rfl rfl ?_
    refine v_aload_n (pc := 89) X 1 dX5_record_89 rfl rfl ?_
    obtain ⟨h27, e_h27, hf⟩ := hf
    refine pu_5_1 (pc := 90) X (fun w h => inM w (inG5 w h)) k19 t1 e_h27 dX5_record_90 ?_
    exact v_vret (pc := 93) X hr hlk dX5_record_93 hf
  · replace hf := if_f c hf
    refine v_aload_n (pc := 15) X 1 dX5_record_15 rfl rfl ?_
    obtain ⟨q28, e_q28, hf⟩ := hf
    refine ge_5_4 (pc := 16) X (fun w h => inM w (inG5 w h)) k29 t1 e_q28 dX5_record_16 ?_
    refine v_aload_n (pc := 19) X 1 dX5_record_19 rfl rfl ?_
    obtain ⟨v29, e_v29, hf⟩ := hf
    refine ge_5_5 (pc := 20) X (fun w h => inM w (inG5 w h)) k33 t1 e_v29 dX5_record_20 ?_
    obtain ⟨t30, hf⟩ := hf
    obtain ⟨b32, q31, e_q31, hf⟩ := hf
    refine v_aald_10 (pc := 23) X t30 b32 e_q31 dX5_record_23 ?_
    refine v_astore_n (pc := 24) X (i := 1) (lv' := [(1, .ref q31), (0, .ref a0)]) dX5_record_24 rfl (Nat.le_of_ble_eq_true rfl) rfl ?_
    refine v_aload_n (pc := 25) X 1 dX5_record_25 rfl rfl ?_
    refine v_dup (pc := 26) X dX5_record_26 rfl ?_
    obtain ⟨v33, e_v33, hf⟩ := hf
    refine ge_5_5 (pc := 27) X (fun w h => inM w (inG5 w h)) k33 t1 e_v33 dX5_record_27 ?_
    refine v_iconst (pc := 30) X (v := (1 : Int32)) dX5_record_30 (by decide) ?_
    refine v_iadd (pc := 31) X dX5_record_31 ?_
    obtain ⟨h34, e_h34, hf⟩ := hf
    refine pu_5_5 (pc := 32) X (fun w h => inM w (inG5 w h)) k33 t1 e_h34 dX5_record_32 ?_
    refine v_goto (pc := 35) X 65 dX5_record_35 (by decide) ?_
    refine v_aload_n (pc := 65) X 1 dX5_record_65 rfl rfl ?_
    obtain ⟨q35, e_q35, hf⟩ := hf
    refine ge_5_4 (pc := 66) X (fun w h => inM w (inG5 w h)) k29 t1 e_q35 dX5_record_66 ?_
    refine v_aload_n (pc := 69) X 1 dX5_record_69 rfl rfl ?_
    obtain ⟨v36, e_v36, hf⟩ := hf
    refine ge_5_5 (pc := 70) X (fun w h => inM w (inG5 w h)) k33 t1 e_v36 dX5_record_70 ?_
    refine v_iconst (pc := 73) X (v := (1 : Int32)) dX5_record_73 (by decide) ?_
    refine v_isub (pc := 74) X dX5_record_74 ?_
    refine v_aload_n (pc := 75) X 1 dX5_record_75 rfl rfl ?_
    obtain ⟨q37, e_q37, hf⟩ := hf
    refine ge_5_0 (pc := 76) X (fun w h => inM w (inG5 w h)) k10 t1 e_q37 dX5_record_76 ?_
    obtain ⟨t38, hf⟩ := hf
    obtain ⟨t39, hf⟩ := hf
    obtain ⟨b41, h40, e_h40, hf⟩ := hf
    refine v_aast_10 (pc := 79) X t38 t39 b41 e_h40 dX5_record_79 ?_
    refine v_aload_n (pc := 80) X 1 dX5_record_80 rfl rfl ?_
    refine v_aload_n (pc := 81) X 1 dX5_record_81 rfl rfl ?_
    obtain ⟨q42, e_q42, hf⟩ := hf
    refine ge_5_1 (pc := 82) X (fun w h => inM w (inG5 w h)) k19 t1 e_q42 dX5_record_82 ?_
    obtain ⟨h43, e_h43, hf⟩ := hf
    refine pu_5_0 (pc := 85) X (fun w h => inM w (inG5 w h)) k10 t1 e_h43 dX5_record_85 ?_
    refine v_aload_n (pc := 88) X 1 dX5_record_88 rfl rfl ?_
    refine v_aload_n (pc := 89) X 0 dX5_record_89 rfl rfl ?_
    obtain ⟨h44, e_h44, hf⟩ := hf
    refine pu_5_1 (pc := 90) X (fun w h => inM w (inG5 w h)) k19 t1 e_h44 dX5_record_90 ?_
    exact v_vret (pc := 93) X hr hlk dX5_record_93 hf
set_option maxHeartbeats 4000000 in
set_option maxRecDepth 100000 in
theorem c_X5_settle (l : Launch) (D : va_G) (cA : Nat → ClassId) (L : List Nat) (sh : Sh) (a0 : Nat) (p1 : Int32) (h : Hp) (K : Int32 → Hp → Prop) (hf : f_X5_settle sh a0 p1 h K) : Met l yX5_settle (wM yX5_settle cX5_settle 2 (some .int)) ({ frames := 1, cells := 0, slots := 0, locals := 22 } : Room) (PreM D cA L sh h [.ref a0, .int p1]) (QI D cA L sh K) 0 0 (fun q => q ∈ L) := by
  refine met_v (cc := cX5_settle) (nL := 2) (ret := (some .int)) [(0, .ref a0), (1, .int p1)] (by decide) rfl (Nat.le_of_ble_eq_true rfl) rfl ?_
  intro p e s0 m below meth c X hr hlk
  unfold f_X5_settle at hf
  refine v_iload_n (pc := 0) X 1 dX5_settle_0 rfl rfl ?_
  refine v_if_lt (pc := 1) X 8 dX5_settle_1 (by decide) (fun c => ?_) (fun c => ?_)
  · replace hf := if_t c hf
    refine v_iload_n (pc := 8) X 1 dX5_settle_8 rfl rfl ?_
    exact v_iret (pc := 9) X hr hlk dX5_settle_9 hf
  · replace hf := if_f c hf
    refine v_aload_n (pc := 4) X 0 dX5_settle_4 rfl rfl ?_
    obtain ⟨t1, hf⟩ := hf
    refine v_callVV (pc := 5) X (As := []) (rest := []) (c_X5_record l D cA L sh a0 h _ hf) (cwV 0 X.ht (gwV inM q_346 q_347 q_443 q_1 q_348) rfl rfl rfl (by decide +kernel) ⟨Nat.le_of_ble_eq_true rfl, Nat.le_of_ble_eq_true rfl⟩) rfl (by decide) t1 (ent_5 t1) rfl rfl (Nat.le_of_ble_eq_true rfl) ⟨Nat.zero_le _, Nat.zero_le _⟩ dX5_settle_5 (fun h3 hf => ?_)
    refine v_iload_n (pc := 8) X 1 dX5_settle_8 rfl rfl ?_
    exact v_iret (pc := 9) X hr hlk dX5_settle_9 hf
set_option maxHeartbeats 4000000 in
set_option maxRecDepth 100000 in
theorem c_X5_alter (l : Launch) (D : va_G) (cA : Nat → ClassId) (L : List Nat) (sh : Sh) (a0 : Nat) (p1 : Int32) (p2 : Int32) (h : Hp) (K : Int32 → Hp → Prop) (hf : f_X5_alter sh a0 p1 p2 h K) : Met l yX5_alter (wM yX5_alter cX5_alter 3 (some .int)) ({ frames := 4, cells := 0, slots := 0, locals := 93 } : Room) (PreM D cA L sh h [.ref a0, .int p1, .int p2]) (QI D cA L sh K) 0 0 (fun q => q ∈ L) := by
  refine met_v (cc := cX5_alter) (nL := 3) (ret := (some .int)) [(0, .ref a0), (1, .int p1), (2, .int p2)] (by decide) rfl (Nat.le_of_ble_eq_true rfl) rfl ?_
  intro p e s0 m below meth c X hr hlk
  have k19 := X.ht _ (inM _ q_174)
  have k10 := X.ht _ (inM _ q_173)
  unfold f_X5_alter at hf
  refine v_aload_n (pc := 0) X 0 dX5_alter_0 rfl rfl ?_
  obtain ⟨t1, hf⟩ := hf
  obtain ⟨q2, e_q2, hf⟩ := hf
  refine ge_5_1 (pc := 1) X (fun w h => inM w (inG5 w h)) k19 t1 e_q2 dX5_alter_1 ?_
  refine v_aload_n (pc := 4) X 0 dX5_alter_4 rfl rfl ?_
  obtain ⟨q3, e_q3, hf⟩ := hf
  refine ge_5_0 (pc := 5) X (fun w h => inM w (inG5 w h)) k10 t1 e_q3 dX5_alter_5 ?_
  obtain ⟨t4, hf⟩ := hf
  refine v_callVV (pc := 8) X (As := [.ref q3]) (rest := []) (c_X2_copyFrom l D cA L sh q2 q3 h _ hf) (cwV 1 X.ht (gwV inM q_320 q_321 q_322 q_2 q_323) rfl rfl rfl (by decide +kernel) ⟨Nat.le_of_ble_eq_true rfl, Nat.le_of_ble_eq_true rfl⟩) rfl (by decide) t4 (ent_2 t4) rfl rfl (Nat.le_of_ble_eq_true rfl) ⟨Nat.zero_le _, Nat.zero_le _⟩ dX5_alter_8 (fun h6 hf => ?_)
  refine v_aload_n (pc := 11) X 0 dX5_alter_11 rfl rfl ?_
  refine v_aload_n (pc := 12) X 0 dX5_alter_12 rfl rfl ?_
  obtain ⟨q7, e_q7, hf⟩ := hf
  refine ge_5_1 (pc := 13) X (fun w h => inM w (inG5 w h)) k19 t1 e_q7 dX5_alter_13 ?_
  refine v_iload_n (pc := 16) X 1 dX5_alter_16 rfl rfl ?_
  refine v_iload_n (pc := 17) X 2 dX5_alter_17 rfl rfl ?_
  obtain ⟨t8, hf⟩ := hf
  refine v_callVI (pc := 18) X (As := [.int p1, .int p2]) (rest := [.ref a0]) (c_X2_changeTable l D cA L sh q7 p1 p2 h6 _ hf) (cwV 2 X.ht (gwV inM q_336 q_337 q_338 q_2 q_339) rfl rfl rfl (by decide +kernel) ⟨Nat.le_of_ble_eq_true rfl, Nat.le_of_ble_eq_true rfl⟩) rfl (by decide) t8 (ent_2 t8) rfl rfl (Nat.le_of_ble_eq_true rfl) ⟨Nat.zero_le _, Nat.zero_le _⟩ dX5_alter_18 (fun r9 h10 hf => ?_)
  refine v_callVI (pc := 21) X (As := [.int r9]) (rest := []) (c_X5_settle l D cA L sh a0 r9 h10 _ hf) (cwV 1 X.ht (gwV inM q_343 q_344 q_442 q_1 q_345) rfl rfl rfl (by decide +kernel) ⟨Nat.le_of_ble_eq_true rfl, Nat.le_of_ble_eq_true rfl⟩) rfl (by decide) t1 (ent_5 t1) rfl rfl (Nat.le_of_ble_eq_true rfl) ⟨Nat.zero_le _, Nat.zero_le _⟩ dX5_alter_21 (fun r11 h12 hf => ?_)
  exact v_iret (pc := 24) X hr hlk dX5_alter_24 hf
set_option maxHeartbeats 4000000 in
set_option maxRecDepth 100000 in
theorem w_X5_loadsWithRoom_30 {p : Program} {l : Launch} {e : Env} {s0 : State} {m : MethodId} {args : Array Value} {below : List Frame} {meth : Method} {c : Code} {D : va_G} {cA : Nat → ClassId} {L : List Nat} {sh : Sh} (X : Cx p s0 m c args cX5_loadsWithRoom 5 (wM yX5_loadsWithRoom cX5_loadsWithRoom 5 (some .int)) RX5 (fun q => q ∈ L) D cA L sh) (hr : meth.sig.returnType = (some .int)) (hlk : meth.locks = false) (x0 : Nat) (Xc : Hp → Prop) (K : Int32 → Hp → Prop) (hx : ∀  (h1 : Hp), Xc  h1 → V p l e (headSpec (wM yX5_loadsWithRoom cX5_loadsWithRoom 5 (some .int)) ({ frames := 4, cells := 0, slots := 0, locals := 99 } : Room)).room s0 m args below meth c (MQ below (QI D cA L sh K) args s0 0 0 (fun q => q ∈ L)) (fun q => q ∈ L) 0 0 D cA L sh 5 h1 96 [(0, .ref x0)] []) : ∀ (n : Nat) (s : Int32) (h : Hp), lp (b_X5_loadsWithRoom_30 sh x0 Xc K) n s h → V p l e (headSpec (wM yX5_loadsWithRoom cX5_loadsWithRoom 5 (some .int)) ({ frames := 4, cells := 0, slots := 0, locals := 99 } : Room)).room s0 m args below meth c (MQ below (QI D cA L sh K) args s0 0 0 (fun q => q ∈ L)) (fun q => q ∈ L) 0 0 D cA L sh 5 h 30 [(0, .ref x0), (2, .int s)] [] := by
  have k19 := X.ht _ (inM _ q_174)
  have k197 := X.ht _ (inM _ q_121)
  have k10 := X.ht _ (inM _ q_173)
  have k181 := X.ht _ (inM _ q_131)
  have k211 := X.ht _ (inM _ q_133)
  have k214 := X.ht _ (inM _ q_135)
  have kl206 := X.ht _ (inM _ q_246)
  have ks206 := X.ht _ (inM _ q_247)
  have ki206 := X.ht _ (inM _ q_7)
  have kc206 := X.ht _ (inM _ q_248)
  intro n
  induction n with
  | zero => intro s h hf; exact hf.elim
  | succ n ih =>
    intro s h hf
    replace hf : b_X5_loadsWithRoom_30 sh x0 Xc K (lp (b_X5_loadsWithRoom_30 sh x0 Xc K) n) s h := hf
    unfold b_X5_loadsWithRoom_30 at hf
    refine v_iload_n (pc := 30) X 1 dX5_loadsWithRoom_30 rfl rfl ?_
    refine v_aload_n (pc := 31) X 0 dX5_loadsWithRoom_31 rfl rfl ?_
    obtain ⟨t13, hf⟩ := hf
    obtain ⟨q14, e_q14, hf⟩ := hf
    refine ge_5_0 (pc := 32) X (fun w h => inM w (inG5 w h)) k10 t13 e_q14 dX5_loadsWithRoom_32 ?_
    obtain ⟨t15, hf⟩ := hf
    obtain ⟨v16, e_v16, hf⟩ := hf
    refine ge_2_8 (pc := 35) X (fun w h => inM w (inG2 w h)) k181 t15 e_v16 dX5_loadsWithRoom_35 ?_
    refine v_icmp_ge (pc := 38) X 96 dX5_loadsWithRoom_38 (by decide) (fun c => ?_) (fun c => ?_)
    · replace hf := if_t c hf
      refine v_sub [0] rfl ?_
      exact hx h hf
    · replace hf := if_f c hf
      refine v_iload_n (pc := 41) X 1 dX5_loadsWithRoom_41 rfl rfl ?_
      refine v_bipush (pc := 42) X (v := (12 : Int32)) dX5_loadsWithRoom_42 (by decide) ?_
      refine v_irem (pc := 44) X dX5_loadsWithRoom_44 (by decide) ?_
      refine v_istore_n (pc := 45) X (i := 3) (lv' := [(3, .int (s - s / (12 : Int32) * (12 : Int32))), (0, .ref x0), (2, .int s)]) dX5_loadsWithRoom_45 rfl (Nat.le_of_ble_eq_true rfl) rfl ?_
      refine v_aload_n (pc := 46) X 1 dX5_loadsWithRoom_46 rfl rfl ?_
      obtain ⟨q17, e_q17, hf⟩ := hf
      refine ge_5_1 (pc := 47) X (fun w h => inM w (inG5 w h)) k19 t13 e_q17 dX5_loadsWithRoom_47 ?_
      refine v_aload_n (pc := 50) X 1 dX5_loadsWithRoom_50 rfl rfl ?_
      obtain ⟨q18, e_q18, hf⟩ := hf
      refine ge_5_0 (pc := 51) X (fun w h => inM w (inG5 w h)) k10 t13 e_q18 dX5_loadsWithRoom_51 ?_
      obtain ⟨t19, hf⟩ := hf
      obtain ⟨q20, e_q20, hf⟩ := hf
      refine ge_2_9 (pc := 54) X (fun w h => inM w (inG2 w h)) k211 t19 e_q20 dX5_loadsWithRoom_54 ?_
      refine v_iload_n (pc := 57) X 0 dX5_loadsWithRoom_57 rfl rfl ?_
      obtain ⟨t21, hf⟩ := hf
      obtain ⟨b23, v22, e_v22, hf⟩ := hf
      refine v_iald (pc := 58) X t21 b23 e_v22 dX5_loadsWithRoom_58 ?_
      refine v_aload_n (pc := 59) X 1 dX5_loadsWithRoom_59 rfl rfl ?_
      obtain ⟨q24, e_q24, hf⟩ := hf
      refine ge_5_0 (pc := 60) X (fun w h => inM w (inG5 w h)) k10 t13 e_q24 dX5_loadsWithRoom_60 ?_
      obtain ⟨t25, hf⟩ := hf
      obtain ⟨q26, e_q26, hf⟩ := hf
      refine ge_2_10 (pc := 63) X (fun w h => inM w (inG2 w h)) k214 t25 e_q26 dX5_loadsWithRoom_63 ?_
      refine v_iload_n (pc := 66) X 0 dX5_loadsWithRoom_66 rfl rfl ?_
      obtain ⟨t27, hf⟩ := hf
      obtain ⟨b29, v28, e_v28, hf⟩ := hf
      refine v_iald (pc := 67) X t27 b29 e_v28 dX5_loadsWithRoom_67 ?_
      obtain ⟨t30, hf⟩ := hf
      refine v_callVI (pc := 68) X (As := [.int v22, .int v28]) (rest := []) (c_X2_begin l D cA L sh q17 v22 v28 h _ hf) (cwV 2 X.ht (gwV inM q_249 q_250 q_251 q_2 q_252) rfl rfl rfl (by decide +kernel) ⟨Nat.le_of_ble_eq_true rfl, Nat.le_of_ble_eq_true rfl⟩) rfl (by decide) t30 (ent_2 t30) rfl rfl (Nat.le_of_ble_eq_true rfl) ⟨Nat.zero_le _, Nat.zero_le _⟩ dX5_loadsWithRoom_68 (fun r31 h32 hf => ?_)
      refine v_istore (pc := 71) X (i := 4) (lv' := [(4, .int r31), (3, .int (s - s / (12 : Int32) * (12 : Int32))), (0, .ref x0), (2, .int s)]) dX5_loadsWithRoom_71 (Nat.le_of_ble_eq_true rfl) rfl ?_
      refine v_iload (pc := 73) X 0 dX5_loadsWithRoom_73 rfl ?_
      refine v_if_ge (pc := 75) X 80 dX5_loadsWithRoom_75 (by decide) (fun c => ?_) (fun c => ?_)
      · replace hf := if_t c hf
        refine v_aload_n (pc := 80) X 2 dX5_loadsWithRoom_80 rfl rfl ?_
        obtain ⟨q33, e_q33, hf⟩ := hf
        refine ge_5_1 (pc := 81) X (fun w h => inM w (inG5 w h)) k19 t13 e_q33 dX5_loadsWithRoom_81 ?_
        refine v_iload (pc := 84) X 0 dX5_loadsWithRoom_84 rfl ?_
        obtain ⟨t34, hf⟩ := hf
        refine v_callVI (pc := 86) X (As := [.int r31]) (rest := []) (c_X2_finish l D cA L sh q33 r31 h32 _ hf) (cwV 1 X.ht (gwV inM q_289 q_290 q_291 q_2 q_292) rfl rfl rfl (by decide +kernel) ⟨Nat.le_of_ble_eq_true rfl, Nat.le_of_ble_eq_true rfl⟩) rfl (by decide) t34 (ent_2 t34) rfl rfl (Nat.le_of_ble_eq_true rfl) ⟨Nat.zero_le _, Nat.zero_le _⟩ dX5_loadsWithRoom_86 (fun r35 h36 hf => ?_)
        refine v_pop (pc := 89) X dX5_loadsWithRoom_89 rfl ?_
        refine v_iinc (pc := 90) X 3 (v := s + (1 : Int32)) (lv' := [(2, .int (s + (1 : Int32))), (4, .int r31), (3, .int (s - s / (12 : Int32) * (12 : Int32))), (0, .ref x0)]) dX5_loadsWithRoom_90 rfl rfl (Nat.le_of_ble_eq_true rfl) rfl ?_
        refine v_goto (pc := 93) X 30 dX5_loadsWithRoom_93 (by decide) ?_
        refine v_sub [3, 0] rfl ?_
        exact ih (s + (1 : Int32)) h36 hf
      · replace hf := if_f c hf
        refine v_iconst (pc := 78) X (v := (-1 : Int32)) dX5_loadsWithRoom_78 (by decide) ?_
        exact v_iret (pc := 79) X hr hlk dX5_loadsWithRoom_79 hf

set_option maxHeartbeats 4000000 in
set_option maxRecDepth 100000 in
theorem c_X5_loadsWithRoom (l : Launch) (D : va_G) (cA : Nat → ClassId) (L : List Nat) (sh : Sh) (a0 : Nat) (p1 : Int32) (h : Hp) (K : Int32 → Hp → Prop) (hf : f_X5_loadsWithRoom sh a0 p1 h K) : Met l yX5_loadsWithRoom (wM yX5_loadsWithRoom cX5_loadsWithRoom 5 (some .int)) ({ frames := 4, cells := 0, slots := 0, locals := 99 } : Room) (PreM D cA L sh h [.ref a0, .int p1]) (QI D cA L sh K) 0 0 (fun q => q ∈ L) := by
  refine met_v (cc := cX5_loadsWithRoom) (nL := 5) (ret := (some .int)) [(0, .ref a0), (1, .int p1)] (by decide) rfl (Nat.le_of_ble_eq_true rfl) rfl ?_
  intro p e s0 m below meth c X hr hlk
  have k19 := X.ht _ (inM _ q_174)
  have k197 := X.ht _ (inM _ q_121)
  have k10 := X.ht _ (inM _ q_173)
  have k181 := X.ht _ (inM _ q_131)
  have k211 := X.ht _ (inM _ q_133)
  have k214 := X.ht _ (inM _ q_135)
  have kl206 := X.ht _ (inM _ q_246)
  have ks206 := X.ht _ (inM _ q_247)
  have ki206 := X.ht _ (inM _ q_7)
  have kc206 := X.ht _ (inM _ q_248)
  unfold f_X5_loadsWithRoom at hf
  refine v_aload_n (pc := 0) X 0 dX5_loadsWithRoom_0 rfl rfl ?_
  obtain ⟨t1, hf⟩ := hf
  obtain ⟨q2, e_q2, hf⟩ := hf
  refine ge_5_1 (pc := 1) X (fun w h => inM w (inG5 w h)) k19 t1 e_q2 dX5_loadsWithRoom_1 ?_
  obtain ⟨t3, hf⟩ := hf
  refine v_callVV (pc := 4) X (As := []) (rest := []) (c_X2_clear l D cA L sh q2 h _ hf) (cwV 0 X.ht (gwV inM q_150 q_151 q_152 q_2 q_153) rfl rfl rfl (by decide +kernel) ⟨Nat.le_of_ble_eq_true rfl, Nat.le_of_ble_eq_true rfl⟩) rfl (by decide) t3 (ent_2 t3) rfl rfl (Nat.le_of_ble_eq_true rfl) ⟨Nat.zero_le _, Nat.zero_le _⟩ dX5_loadsWithRoom_4 (fun h5 hf => ?_)
  refine v_aload_n (pc := 7) X 0 dX5_loadsWithRoom_7 rfl rfl ?_
  obtain ⟨q6, e_q6, hf⟩ := hf
  refine ge_5_1 (pc := 8) X (fun w h => inM w (inG5 w h)) k19 t1 e_q6 dX5_loadsWithRoom_8 ?_
  refine v_iload_n (pc := 11) X 1 dX5_loadsWithRoom_11 rfl rfl ?_
  obtain ⟨t7, hf⟩ := hf
  obtain ⟨h8, e_h8, hf⟩ := hf
  refine pu_2_2 (pc := 12) X (fun w h => inM w (inG2 w h)) k197 t7 e_h8 dX5_loadsWithRoom_12 ?_
  refine v_iconst (pc := 15) X (v := (0 : Int32)) dX5_loadsWithRoom_15 (by decide) ?_
  refine v_aload_n (pc := 16) X 0 dX5_loadsWithRoom_16 rfl rfl ?_
  obtain ⟨q9, e_q9, hf⟩ := hf
  refine ge_5_0 (pc := 17) X (fun w h => inM w (inG5 w h)) k10 t1 e_q9 dX5_loadsWithRoom_17 ?_
  obtain ⟨t10, hf⟩ := hf
  obtain ⟨v11, e_v11, hf⟩ := hf
  refine ge_2_8 (pc := 20) X (fun w h => inM w (inG2 w h)) k181 t10 e_v11 dX5_loadsWithRoom_20 ?_
  refine v_bipush (pc := 23) X (v := (12 : Int32)) dX5_loadsWithRoom_23 (by decide) ?_
  refine v_isub (pc := 25) X dX5_loadsWithRoom_25 ?_
  obtain ⟨v12, e_v12, hf⟩ := hf
  refine v_mmax (pc := 26) X kl206 ks206 ki206 kc206 (Nat.le_of_ble_eq_true rfl) (Nat.le_of_ble_eq_true rfl) (Nat.zero_le _) (Nat.zero_le _) dX5_loadsWithRoom_26 ?_
  rw [← e_v12]
  refine v_istore_n (pc := 29) X (i := 2) (lv' := [(2, .int v12), (0, .ref a0), (1, .int p1)]) dX5_loadsWithRoom_29 rfl (Nat.le_of_ble_eq_true rfl) rfl ?_
  obtain ⟨n, hf⟩ := hf
  refine v_sub [1, 0] rfl ?_
  refine w_X5_loadsWithRoom_30 X hr hlk a0 _ K (fun  h37 hf => ?_) n v12 h8 hf
  refine v_aload_n (pc := 96) X 0 dX5_loadsWithRoom_96 rfl rfl ?_
  obtain ⟨q38, e_q38, hf⟩ := hf
  refine ge_5_1 (pc := 97) X (fun w h => inM w (inG5 w h)) k19 t1 e_q38 dX5_loadsWithRoom_97 ?_
  obtain ⟨t39, hf⟩ := hf
  refine v_callVI (pc := 100) X (As := []) (rest := []) (c_X2_loadsOfAll l D cA L sh q38 h37 _ hf) (cwV 0 X.ht (gwV inM q_235 q_236 q_237 q_2 q_238) rfl rfl rfl (by decide +kernel) ⟨Nat.le_of_ble_eq_true rfl, Nat.le_of_ble_eq_true rfl⟩) rfl (by decide) t39 (ent_2 t39) rfl rfl (Nat.le_of_ble_eq_true rfl) ⟨Nat.zero_le _, Nat.zero_le _⟩ dX5_loadsWithRoom_100 (fun r40 h41 hf => ?_)
  exact v_iret (pc := 103) X hr hlk dX5_loadsWithRoom_103 hf
set_option maxHeartbeats 4000000 in
set_option maxRecDepth 100000 in
theorem w_X5_bestRoom_31 {p : Program} {l : Launch} {e : Env} {s0 : State} {m : MethodId} {args : Array Value} {below : List Frame} {meth : Method} {c : Code} {D : va_G} {cA : Nat → ClassId} {L : List Nat} {sh : Sh} (X : Cx p s0 m c args cX5_bestRoom 6 (wM yX5_bestRoom cX5_bestRoom 6 (some .int)) RX5 (fun q => q ∈ L) D cA L sh) (hr : meth.sig.returnType = (some .int)) (hlk : meth.locks = false) (x0 : Nat) (x1 : Int32) (Xc : Int32 → Int32 → Hp → Prop) (K : Int32 → Hp → Prop) (hx : ∀ (y2 : Int32) (y3 : Int32) (h1 : Hp), Xc y2 y3 h1 → V p l e (headSpec (wM yX5_bestRoom cX5_bestRoom 6 (some .int)) ({ frames := 5, cells := 0, slots := 0, locals := 123 } : Room)).room s0 m args below meth c (MQ below (QI D cA L sh K) args s0 0 0 (fun q => q ∈ L)) (fun q => q ∈ L) 0 0 D cA L sh 6 h1 73 [(1, .int x1), (2, .int y2), (3, .int y3)] []) : ∀ (n : Nat) (s : Int32 × Int32 × Int32) (h : Hp), lp (b_X5_bestRoom_31 sh x0 x1 Xc) n s h → V p l e (headSpec (wM yX5_bestRoom cX5_bestRoom 6 (some .int)) ({ frames := 5, cells := 0, slots := 0, locals := 123 } : Room)).room s0 m args below meth c (MQ below (QI D cA L sh K) args s0 0 0 (fun q => q ∈ L)) (fun q => q ∈ L) 0 0 D cA L sh 6 h 31 [(0, .ref x0), (1, .int x1), (2, .int s.1), (3, .int s.2.1), (4, .int s.2.2)] [] := by
  have k10 := X.ht _ (inM _ q_173)
  have k181 := X.ht _ (inM _ q_131)
  intro n
  induction n with
  | zero => intro s h hf; exact hf.elim
  | succ n ih =>
    intro s h hf
    replace hf : b_X5_bestRoom_31 sh x0 x1 Xc (lp (b_X5_bestRoom_31 sh x0 x1 Xc) n) s h := hf
    unfold b_X5_bestRoom_31 at hf
    refine v_iload (pc := 31) X 4 dX5_bestRoom_31 rfl ?_
    refine v_bipush (pc := 33) X (v := (8 : Int32)) dX5_bestRoom_33 (by decide) ?_
    refine v_icmp_gt (pc := 35) X 73 dX5_bestRoom_35 (by decide) (fun c => ?_) (fun c => ?_)
    · replace hf := if_t c hf
      refine v_sub [1, 2, 3] rfl ?_
      exact hx s.1 s.2.1 h hf
    · replace hf := if_f c hf
      refine v_aload_n (pc := 38) X 0 dX5_bestRoom_38 rfl rfl ?_
      refine v_iload (pc := 39) X 4 dX5_bestRoom_39 rfl ?_
      obtain ⟨t5, hf⟩ := hf
      refine v_callVI (pc := 41) X (As := [.int s.2.2]) (rest := []) (c_X5_loadsWithRoom l D cA L sh x0 s.2.2 h _ hf) (cwV 1 X.ht (gwV inM q_243 q_244 q_436 q_1 q_245) rfl rfl rfl (by decide +kernel) ⟨Nat.le_of_ble_eq_true rfl, Nat.le_of_ble_eq_true rfl⟩) rfl (by decide) t5 (ent_5 t5) rfl rfl (Nat.le_of_ble_eq_true rfl) ⟨Nat.zero_le _, Nat.zero_le _⟩ dX5_bestRoom_41 (fun r6 h7 hf => ?_)
      refine v_istore (pc := 44) X (i := 5) (lv' := [(5, .int r6), (0, .ref x0), (1, .int x1), (2, .int s.1), (3, .int s.2.1), (4, .int s.2.2)]) dX5_bestRoom_44 (Nat.le_of_ble_eq_true rfl) rfl ?_
      refine v_iload (pc := 46) X 0 dX5_bestRoom_46 rfl ?_
      refine v_if_lt (pc := 48) X 67 dX5_bestRoom_48 (by decide) (fun c => ?_) (fun c => ?_)
      · replace hf := if_t c hf
        refine v_iinc (pc := 67) X 5 (v := s.2.2 + (1 : Int32)) (lv' := [(4, .int (s.2.2 + (1 : Int32))), (5, .int r6), (0, .ref x0), (1, .int x1), (2, .int s.1), (3, .int s.2.1)]) dX5_bestRoom_67 rfl rfl (Nat.le_of_ble_eq_true rfl) rfl ?_
        refine v_goto (pc := 70) X 31 dX5_bestRoom_70 (by decide) ?_
        refine v_sub [2, 3, 4, 5, 0] rfl ?_
        exact ih (s.1, s.2.1, s.2.2 + (1 : Int32)) h7 hf
      · replace hf := if_f c hf
        refine v_iload_n (pc := 51) X 4 dX5_bestRoom_51 rfl rfl ?_
        refine v_if_lt (pc := 52) X 61 dX5_bestRoom_52 (by decide) (fun c => ?_) (fun c => ?_)
        · replace hf := if_t c hf
          refine v_iload (pc := 61) X 5 dX5_bestRoom_61 rfl ?_
          refine v_istore_n (pc := 63) X (i := 2) (lv' := [(2, .int s.2.2), (5, .int r6), (0, .ref x0), (1, .int x1), (3, .int s.2.1), (4, .int s.2.2)]) dX5_bestRoom_63 rfl (Nat.le_of_ble_eq_true rfl) rfl ?_
          refine v_iload (pc := 64) X 1 dX5_bestRoom_64 rfl ?_
          refine v_istore_n (pc := 66) X (i := 3) (lv' := [(3, .int r6), (2, .int s.2.2), (5, .int r6), (0, .ref x0), (1, .int x1), (4, .int s.2.2)]) dX5_bestRoom_66 rfl (Nat.le_of_ble_eq_true rfl) rfl ?_
          refine v_iinc (pc := 67) X 5 (v := s.2.2 + (1 : Int32)) (lv' := [(4, .int (s.2.2 + (1 : Int32))), (3, .int r6), (2, .int s.2.2), (5, .int r6), (0, .ref x0), (1, .int x1)]) dX5_bestRoom_67 rfl rfl (Nat.le_of_ble_eq_true rfl) rfl ?_
          refine v_goto (pc := 70) X 31 dX5_bestRoom_70 (by decide) ?_
          refine v_sub [4, 5, 2, 1, 0] rfl ?_
          exact ih (s.2.2, r6, s.2.2 + (1 : Int32)) h7 hf
        · replace hf := if_f c hf
          refine v_iload (pc := 55) X 0 dX5_bestRoom_55 rfl ?_
          refine v_iload_n (pc := 57) X 4 dX5_bestRoom_57 rfl rfl ?_
          refine v_icmp_ge (pc := 58) X 67 dX5_bestRoom_58 (by decide) (fun c => ?_) (fun c => ?_)
          · replace hf := if_t c hf
            refine v_iinc (pc := 67) X 5 (v := s.2.2 + (1 : Int32)) (lv' := [(4, .int (s.2.2 + (1 : Int32))), (5, .int r6), (0, .ref x0), (1, .int x1), (2, .int s.1), (3, .int s.2.1)]) dX5_bestRoom_67 rfl rfl (Nat.le_of_ble_eq_true rfl) rfl ?_
            refine v_goto (pc := 70) X 31 dX5_bestRoom_70 (by decide) ?_
            refine v_sub [2, 3, 4, 5, 0] rfl ?_
            exact ih (s.1, s.2.1, s.2.2 + (1 : Int32)) h7 hf
          · replace hf := if_f c hf
            refine v_iload (pc := 61) X 5 dX5_bestRoom_61 rfl ?_
            refine v_istore_n (pc := 63) X (i := 2) (lv' := [(2, .int s.2.2), (5, .int r6), (0, .ref x0), (1, .int x1), (3, .int s.2.1), (4, .int s.2.2)]) dX5_bestRoom_63 rfl (Nat.le_of_ble_eq_true rfl) rfl ?_
            refine v_iload (pc := 64) X 1 dX5_bestRoom_64 rfl ?_
            refine v_istore_n (pc := 66) X (i := 3) (lv' := [(3, .int r6), (2, .int s.2.2), (5, .int r6), (0, .ref x0), (1, .int x1), (4, .int s.2.2)]) dX5_bestRoom_66 rfl (Nat.le_of_ble_eq_true rfl) rfl ?_
            refine v_iinc (pc := 67) X 5 (v := s.2.2 + (1 : Int32)) (lv' := [(4, .int (s.2.2 + (1 : Int32))), (3, .int r6), (2, .int s.2.2), (5, .int r6), (0, .ref x0), (1, .int x1)]) dX5_bestRoom_67 rfl rfl (Nat.le_of_ble_eq_true rfl) rfl ?_
            refine v_goto (pc := 70) X 31 dX5_bestRoom_70 (by decide) ?_
            refine v_sub [4, 5, 2, 1, 0] rfl ?_
            exact ih (s.2.2, r6, s.2.2 + (1 : Int32)) h7 hf

set_option maxHeartbeats 4000000 in
set_option maxRecDepth 100000 in
theorem c_X5_bestRoom (l : Launch) (D : va_G) (cA : Nat → ClassId) (L : List Nat) (sh : Sh) (a0 : Nat) (p1 : Int32) (h : Hp) (K : Int32 → Hp → Prop) (hf : f_X5_bestRoom sh a0 p1 h K) : Met l yX5_bestRoom (wM yX5_bestRoom cX5_bestRoom 6 (some .int)) ({ frames := 5, cells := 0, slots := 0, locals := 123 } : Room) (PreM D cA L sh h [.ref a0, .int p1]) (QI D cA L sh K) 0 0 (fun q => q ∈ L) := by
  refine met_v (cc := cX5_bestRoom) (nL := 6) (ret := (some .int)) [(0, .ref a0), (1, .int p1)] (by decide) rfl (Nat.le_of_ble_eq_true rfl) rfl ?_
  intro p e s0 m below meth c X hr hlk
  have k10 := X.ht _ (inM _ q_173)
  have k181 := X.ht _ (inM _ q_131)
  unfold f_X5_bestRoom at hf
  refine v_iload_n (pc := 0) X 1 dX5_bestRoom_0 rfl rfl ?_
  refine v_if_lt (pc := 1) X 9 dX5_bestRoom_1 (by decide) (fun c => ?_) (fun c => ?_)
  · replace hf := if_t c hf
    refine v_iconst (pc := 9) X (v := (-1 : Int32)) dX5_bestRoom_9 (by decide) ?_
    exact v_iret (pc := 10) X hr hlk dX5_bestRoom_10 hf
  · replace hf := if_f c hf
    refine v_iload_n (pc := 4) X 1 dX5_bestRoom_4 rfl rfl ?_
    refine v_iconst (pc := 5) X (v := (1 : Int32)) dX5_bestRoom_5 (by decide) ?_
    refine v_icmp_le (pc := 6) X 11 dX5_bestRoom_6 (by decide) (fun c => ?_) (fun c => ?_)
    · replace hf := if_t c hf
      refine v_aload_n (pc := 11) X 0 dX5_bestRoom_11 rfl rfl ?_
      obtain ⟨t1, hf⟩ := hf
      obtain ⟨q2, e_q2, hf⟩ := hf
      refine ge_5_0 (pc := 12) X (fun w h => inM w (inG5 w h)) k10 t1 e_q2 dX5_bestRoom_12 ?_
      obtain ⟨t3, hf⟩ := hf
      obtain ⟨v4, e_v4, hf⟩ := hf
      refine ge_2_8 (pc := 15) X (fun w h => inM w (inG2 w h)) k181 t3 e_v4 dX5_bestRoom_15 ?_
      refine v_if_ne (pc := 18) X 24 dX5_bestRoom_18 (by decide) (fun c => ?_) (fun c => ?_)
      · replace hf := if_f c hf
        refine v_iconst (pc := 24) X (v := (-1 : Int32)) dX5_bestRoom_24 (by decide) ?_
        refine v_istore_n (pc := 25) X (i := 2) (lv' := [(2, .int (-1 : Int32)), (0, .ref a0), (1, .int p1)]) dX5_bestRoom_25 rfl (Nat.le_of_ble_eq_true rfl) rfl ?_
        refine v_iconst (pc := 26) X (v := (-1 : Int32)) dX5_bestRoom_26 (by decide) ?_
        refine v_istore_n (pc := 27) X (i := 3) (lv' := [(3, .int (-1 : Int32)), (2, .int (-1 : Int32)), (0, .ref a0), (1, .int p1)]) dX5_bestRoom_27 rfl (Nat.le_of_ble_eq_true rfl) rfl ?_
        refine v_iconst (pc := 28) X (v := (1 : Int32)) dX5_bestRoom_28 (by decide) ?_
        refine v_istore (pc := 29) X (i := 4) (lv' := [(4, .int (1 : Int32)), (3, .int (-1 : Int32)), (2, .int (-1 : Int32)), (0, .ref a0), (1, .int p1)]) dX5_bestRoom_29 (Nat.le_of_ble_eq_true rfl) rfl ?_
        obtain ⟨n, hf⟩ := hf
        refine v_sub [3, 4, 2, 1, 0] rfl ?_
        refine w_X5_bestRoom_31 X hr hlk a0 p1 _ K (fun y8 y9 h10 hf => ?_) n ((-1 : Int32), (-1 : Int32), (1 : Int32)) h hf
        refine v_iload_n (pc := 73) X 0 dX5_bestRoom_73 rfl rfl ?_
        refine v_if_ne (pc := 74) X 81 dX5_bestRoom_74 (by decide) (fun c => ?_) (fun c => ?_)
        · replace hf := if_f c hf
          refine v_iload_n (pc := 81) X 2 dX5_bestRoom_81 rfl rfl ?_
          exact v_iret (pc := 82) X hr hlk dX5_bestRoom_82 hf
        · replace hf := if_t c hf
          refine v_iload_n (pc := 77) X 1 dX5_bestRoom_77 rfl rfl ?_
          refine v_goto (pc := 78) X 82 dX5_bestRoom_78 (by decide) ?_
          exact v_iret (pc := 82) X hr hlk dX5_bestRoom_82 hf
      · replace hf := if_t c hf
        refine v_bipush (pc := 21) X (v := (-4 : Int32)) dX5_bestRoom_21 (by decide) ?_
        exact v_iret (pc := 23) X hr hlk dX5_bestRoom_23 hf
    · replace hf := if_f c hf
      refine v_iconst (pc := 9) X (v := (-1 : Int32)) dX5_bestRoom_9 (by decide) ?_
      exact v_iret (pc := 10) X hr hlk dX5_bestRoom_10 hf

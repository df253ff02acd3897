set_option maxHeartbeats 4000000 in
set_option maxRecDepth 100000 in
theorem c_X6_does (l : Launch) (D : va_G) (cA : Nat → ClassId) (L : List Nat) (sh : Sh) (a0 : Nat) (h : Hp) (K : Int32 → Hp → Prop) (hf : f_X6_does sh a0 h K) : Met l yX6_does (wM yX6_does cX6_does 3 (some .int)) ({ frames := 7, cells := 0, slots := 0, locals := 160 } : Room) (PreM D cA L sh h [.ref a0]) (QI D cA L sh K) 0 0 (fun q => q ∈ L) := by
  refine met_v (cc := cX6_does) (nL := 3) (ret := (some .int)) [(0, .ref a0)] (by decide) rfl (Nat.le_of_ble_eq_true rfl) rfl ?_
  intro p e s0 m below meth c X hr hlk
  have k174 := X.ht _ (inM _ q_498)
  have k180 := X.ht _ (inM _ q_499)
  have k183 := X.ht _ (inM _ q_500)
  unfold f_X6_does at hf
  refine v_aload_n (pc := 0) X 0 dX6_does_0 rfl rfl ?_
  obtain ⟨t1, hf⟩ := hf
  obtain ⟨v2, e_v2, hf⟩ := hf
  refine ge_6_13 (pc := 1) X (fun w h => inM w (inG6 w h)) k174 t1 e_v2 dX6_does_1 ?_
  refine v_bipush (pc := 4) X (v := (115 : Int32)) dX6_does_4 (by decide) ?_
  refine v_icmp_ne (pc := 6) X 59 dX6_does_6 (by decide) (fun c => ?_) (fun c => ?_)
  · replace hf := if_f c hf
    refine v_aload_n (pc := 59) X 0 dX6_does_59 rfl rfl ?_
    obtain ⟨v3, e_v3, hf⟩ := hf
    refine ge_6_13 (pc := 60) X (fun w h => inM w (inG6 w h)) k174 t1 e_v3 dX6_does_60 ?_
    refine v_bipush (pc := 63) X (v := (99 : Int32)) dX6_does_63 (by decide) ?_
    refine v_icmp_ne (pc := 65) X 83 dX6_does_65 (by decide) (fun c => ?_) (fun c => ?_)
    · replace hf := if_f c hf
      refine v_aload_n (pc := 83) X 0 dX6_does_83 rfl rfl ?_
      obtain ⟨v4, e_v4, hf⟩ := hf
      refine ge_6_13 (pc := 84) X (fun w h => inM w (inG6 w h)) k174 t1 e_v4 dX6_does_84 ?_
      refine v_bipush (pc := 87) X (v := (101 : Int32)) dX6_does_87 (by decide) ?_
      refine v_icmp_ne (pc := 89) X 103 dX6_does_89 (by decide) (fun c => ?_) (fun c => ?_)
      · replace hf := if_f c hf
        refine v_aload_n (pc := 103) X 0 dX6_does_103 rfl rfl ?_
        obtain ⟨v5, e_v5, hf⟩ := hf
        refine ge_6_14 (pc := 104) X (fun w h => inM w (inG6 w h)) k180 t1 e_v5 dX6_does_104 ?_
        refine v_iconst (pc := 107) X (v := (1 : Int32)) dX6_does_107 (by decide) ?_
        refine v_bipush (pc := 108) X (v := (99 : Int32)) dX6_does_108 (by decide) ?_
        refine v_callSI (pc := 110) X (As := [.int v5, .int (1 : Int32), .int (99 : Int32)]) (rest := []) (c_X6_in l D cA L sh v5 (1 : Int32) (99 : Int32) h _ hf) (va_cwS 3 X.ht (gwS inM q_533 q_534 q_7 q_535) rfl rfl rfl (by decide +kernel) ⟨Nat.le_of_ble_eq_true rfl, Nat.le_of_ble_eq_true rfl⟩) rfl rfl (Nat.le_of_ble_eq_true rfl) ⟨Nat.zero_le _, Nat.zero_le _⟩ dX6_does_110 (fun r6 h7 hf => ?_)
        refine v_if_eq (pc := 113) X 120 dX6_does_113 (by decide) (fun c => ?_) (fun c => ?_)
        · replace hf := if_t c hf
          refine v_iconst (pc := 120) X (v := (-1 : Int32)) dX6_does_120 (by decide) ?_
          refine v_istore_n (pc := 121) X (i := 1) (lv' := [(1, .int (-1 : Int32)), (0, .ref a0)]) dX6_does_121 rfl (Nat.le_of_ble_eq_true rfl) rfl ?_
          refine v_iload_n (pc := 122) X 0 dX6_does_122 rfl rfl ?_
          refine v_if_ne (pc := 123) X 179 dX6_does_123 (by decide) (fun _ => ?_) (fun c => absurd c (by decide))
          refine v_iload_n (pc := 179) X 0 dX6_does_179 rfl rfl ?_
          exact v_iret (pc := 180) X hr hlk dX6_does_180 hf
        · replace hf := if_f c hf
          refine v_iconst (pc := 116) X (v := (0 : Int32)) dX6_does_116 (by decide) ?_
          refine v_goto (pc := 117) X 121 dX6_does_117 (by decide) ?_
          refine v_istore_n (pc := 121) X (i := 1) (lv' := [(1, .int (0 : Int32)), (0, .ref a0)]) dX6_does_121 rfl (Nat.le_of_ble_eq_true rfl) rfl ?_
          refine v_iload_n (pc := 122) X 0 dX6_does_122 rfl rfl ?_
          refine v_if_ne (pc := 123) X 179 dX6_does_123 (by decide) (fun c => absurd c (by decide)) (fun _ => ?_)
          refine v_aload_n (pc := 126) X 1 dX6_does_126 rfl rfl ?_
          obtain ⟨v8, e_v8, hf⟩ := hf
          refine ge_6_13 (pc := 127) X (fun w h => inM w (inG6 w h)) k174 t1 e_v8 dX6_does_127 ?_
          refine v_bipush (pc := 130) X (v := (99 : Int32)) dX6_does_130 (by decide) ?_
          refine v_icmp_ne (pc := 132) X 150 dX6_does_132 (by decide) (fun c => ?_) (fun c => ?_)
          · replace hf := if_f c hf
            refine v_aload_n (pc := 150) X 1 dX6_does_150 rfl rfl ?_
            obtain ⟨v9, e_v9, hf⟩ := hf
            refine ge_6_13 (pc := 151) X (fun w h => inM w (inG6 w h)) k174 t1 e_v9 dX6_does_151 ?_
            refine v_bipush (pc := 154) X (v := (101 : Int32)) dX6_does_154 (by decide) ?_
            refine v_icmp_ne (pc := 156) X 170 dX6_does_156 (by decide) (fun c => ?_) (fun c => ?_)
            · replace hf := if_f c hf
              refine v_aload_n (pc := 170) X 1 dX6_does_170 rfl rfl ?_
              refine v_aload_n (pc := 171) X 1 dX6_does_171 rfl rfl ?_
              obtain ⟨v10, e_v10, hf⟩ := hf
              refine ge_6_14 (pc := 172) X (fun w h => inM w (inG6 w h)) k180 t1 e_v10 dX6_does_172 ?_
              refine v_callVI (pc := 175) X (As := [.int v10]) (rest := []) (c_X6_ticks l D cA L sh a0 v10 h7 _ hf) (cwV 1 X.ht (gwV inM q_620 q_621 q_769 q_7 q_622) rfl rfl rfl (by decide +kernel) ⟨Nat.le_of_ble_eq_true rfl, Nat.le_of_ble_eq_true rfl⟩) rfl (by decide) t1 (ent_6 t1) rfl rfl (Nat.le_of_ble_eq_true rfl) ⟨Nat.zero_le _, Nat.zero_le _⟩ dX6_does_175 (fun r11 h12 hf => ?_)
              refine v_istore_n (pc := 178) X (i := 2) (lv' := [(2, .int r11), (1, .int (0 : Int32)), (0, .ref a0)]) dX6_does_178 rfl (Nat.le_of_ble_eq_true rfl) rfl ?_
              refine v_iload_n (pc := 179) X 1 dX6_does_179 rfl rfl ?_
              exact v_iret (pc := 180) X hr hlk dX6_does_180 hf
            · replace hf := if_t c hf
              refine v_aload_n (pc := 159) X 1 dX6_does_159 rfl rfl ?_
              refine v_aload_n (pc := 160) X 1 dX6_does_160 rfl rfl ?_
              obtain ⟨v13, e_v13, hf⟩ := hf
              refine ge_6_14 (pc := 161) X (fun w h => inM w (inG6 w h)) k180 t1 e_v13 dX6_does_161 ?_
              refine v_callVI (pc := 164) X (As := [.int v13]) (rest := []) (c_X6_ends l D cA L sh a0 v13 h7 _ hf) (cwV 1 X.ht (gwV inM q_613 q_614 q_768 q_7 q_615) rfl rfl rfl (by decide +kernel) ⟨Nat.le_of_ble_eq_true rfl, Nat.le_of_ble_eq_true rfl⟩) rfl (by decide) t1 (ent_6 t1) rfl rfl (Nat.le_of_ble_eq_true rfl) ⟨Nat.zero_le _, Nat.zero_le _⟩ dX6_does_164 (fun r14 h15 hf => ?_)
              refine v_goto (pc := 167) X 178 dX6_does_167 (by decide) ?_
              refine v_istore_n (pc := 178) X (i := 2) (lv' := [(2, .int r14), (1, .int (0 : Int32)), (0, .ref a0)]) dX6_does_178 rfl (Nat.le_of_ble_eq_true rfl) rfl ?_
              refine v_iload_n (pc := 179) X 1 dX6_does_179 rfl rfl ?_
              exact v_iret (pc := 180) X hr hlk dX6_does_180 hf
          · replace hf := if_t c hf
            refine v_aload_n (pc := 135) X 1 dX6_does_135 rfl rfl ?_
            refine v_aload_n (pc := 136) X 1 dX6_does_136 rfl rfl ?_
            obtain ⟨v16, e_v16, hf⟩ := hf
            refine ge_6_14 (pc := 137) X (fun w h => inM w (inG6 w h)) k180 t1 e_v16 dX6_does_137 ?_
            refine v_aload_n (pc := 140) X 1 dX6_does_140 rfl rfl ?_
            obtain ⟨v17, e_v17, hf⟩ := hf
            refine ge_6_15 (pc := 141) X (fun w h => inM w (inG6 w h)) k183 t1 e_v17 dX6_does_141 ?_
            refine v_callVI (pc := 144) X (As := [.int v16, .int v17]) (rest := []) (c_X6_alters l D cA L sh a0 v16 v17 h7 _ hf) (cwV 2 X.ht (gwV inM q_545 q_546 q_751 q_7 q_547) rfl rfl rfl (by decide +kernel) ⟨Nat.le_of_ble_eq_true rfl, Nat.le_of_ble_eq_true rfl⟩) rfl (by decide) t1 (ent_6 t1) rfl rfl (Nat.le_of_ble_eq_true rfl) ⟨Nat.zero_le _, Nat.zero_le _⟩ dX6_does_144 (fun r18 h19 hf => ?_)
            refine v_goto (pc := 147) X 178 dX6_does_147 (by decide) ?_
            refine v_istore_n (pc := 178) X (i := 2) (lv' := [(2, .int r18), (1, .int (0 : Int32)), (0, .ref a0)]) dX6_does_178 rfl (Nat.le_of_ble_eq_true rfl) rfl ?_
            refine v_iload_n (pc := 179) X 1 dX6_does_179 rfl rfl ?_
            exact v_iret (pc := 180) X hr hlk dX6_does_180 hf
      · replace hf := if_t c hf
        refine v_aload_n (pc := 92) X 0 dX6_does_92 rfl rfl ?_
        refine v_aload_n (pc := 93) X 0 dX6_does_93 rfl rfl ?_
        obtain ⟨v20, e_v20, hf⟩ := hf
        refine ge_6_14 (pc := 94) X (fun w h => inM w (inG6 w h)) k180 t1 e_v20 dX6_does_94 ?_
        refine v_callVI (pc := 97) X (As := [.int v20]) (rest := []) (c_X6_endFault l D cA L sh a0 v20 h _ hf) (cwV 1 X.ht (gwV inM q_607 q_608 q_766 q_7 q_609) rfl rfl rfl (by decide +kernel) ⟨Nat.le_of_ble_eq_true rfl, Nat.le_of_ble_eq_true rfl⟩) rfl (by decide) t1 (ent_6 t1) rfl rfl (Nat.le_of_ble_eq_true rfl) ⟨Nat.zero_le _, Nat.zero_le _⟩ dX6_does_97 (fun r21 h22 hf => ?_)
        refine v_goto (pc := 100) X 121 dX6_does_100 (by decide) ?_
        refine v_istore_n (pc := 121) X (i := 1) (lv' := [(1, .int r21), (0, .ref a0)]) dX6_does_121 rfl (Nat.le_of_ble_eq_true rfl) rfl ?_
        refine v_iload_n (pc := 122) X 0 dX6_does_122 rfl rfl ?_
        refine v_if_ne (pc := 123) X 179 dX6_does_123 (by decide) (fun c => ?_) (fun c => ?_)
        · replace hf := if_f c hf
          refine v_iload_n (pc := 179) X 0 dX6_does_179 rfl rfl ?_
          exact v_iret (pc := 180) X hr hlk dX6_does_180 hf
        · replace hf := if_t c hf
          refine v_aload_n (pc := 126) X 1 dX6_does_126 rfl rfl ?_
          obtain ⟨v23, e_v23, hf⟩ := hf
          refine ge_6_13 (pc := 127) X (fun w h => inM w (inG6 w h)) k174 t1 e_v23 dX6_does_127 ?_
          refine v_bipush (pc := 130) X (v := (99 : Int32)) dX6_does_130 (by decide) ?_
          refine v_icmp_ne (pc := 132) X 150 dX6_does_132 (by decide) (fun c => ?_) (fun c => ?_)
          · replace hf := if_f c hf
            refine v_aload_n (pc := 150) X 1 dX6_does_150 rfl rfl ?_
            obtain ⟨v24, e_v24, hf⟩ := hf
            refine ge_6_13 (pc := 151) X (fun w h => inM w (inG6 w h)) k174 t1 e_v24 dX6_does_151 ?_
            refine v_bipush (pc := 154) X (v := (101 : Int32)) dX6_does_154 (by decide) ?_
            refine v_icmp_ne (pc := 156) X 170 dX6_does_156 (by decide) (fun c => ?_) (fun c => ?_)
            · replace hf := if_f c hf
              refine v_aload_n (pc := 170) X 1 dX6_does_170 rfl rfl ?_
              refine v_aload_n (pc := 171) X 1 dX6_does_171 rfl rfl ?_
              obtain ⟨v25, e_v25, hf⟩ := hf
              refine ge_6_14 (pc := 172) X (fun w h => inM w (inG6 w h)) k180 t1 e_v25 dX6_does_172 ?_
              refine v_callVI (pc := 175) X (As := [.int v25]) (rest := []) (c_X6_ticks l D cA L sh a0 v25 h22 _ hf) (cwV 1 X.ht (gwV inM q_620 q_621 q_769 q_7 q_622) rfl rfl rfl (by decide +kernel) ⟨Nat.le_of_ble_eq_true rfl, Nat.le_of_ble_eq_true rfl⟩) rfl (by decide) t1 (ent_6 t1) rfl rfl (Nat.le_of_ble_eq_true rfl) ⟨Nat.zero_le _, Nat.zero_le _⟩ dX6_does_175 (fun r26 h27 hf => ?_)
              refine v_istore_n (pc := 178) X (i := 2) (lv' := [(2, .int r26), (1, .int r21), (0, .ref a0)]) dX6_does_178 rfl (Nat.le_of_ble_eq_true rfl) rfl ?_
              refine v_iload_n (pc := 179) X 1 dX6_does_179 rfl rfl ?_
              exact v_iret (pc := 180) X hr hlk dX6_does_180 hf
            · replace hf := if_t c hf
              refine v_aload_n (pc := 159) X 1 dX6_does_159 rfl rfl ?_
              refine v_aload_n (pc := 160) X 1 dX6_does_160 rfl rfl ?_
              obtain ⟨v28, e_v28, hf⟩ := hf
              refine ge_6_14 (pc := 161) X (fun w h => inM w (inG6 w h)) k180 t1 e_v28 dX6_does_161 ?_
              refine v_callVI (pc := 164) X (As := [.int v28]) (rest := []) (c_X6_ends l D cA L sh a0 v28 h22 _ hf) (cwV 1 X.ht (gwV inM q_613 q_614 q_768 q_7 q_615) rfl rfl rfl (by decide +kernel) ⟨Nat.le_of_ble_eq_true rfl, Nat.le_of_ble_eq_true rfl⟩) rfl (by decide) t1 (ent_6 t1) rfl rfl (Nat.le_of_ble_eq_true rfl) ⟨Nat.zero_le _, Nat.zero_le _⟩ dX6_does_164 (fun r29 h30 hf => ?_)
              refine v_goto (pc := 167) X 178 dX6_does_167 (by decide) ?_
              refine v_istore_n (pc := 178) X (i := 2) (lv' := [(2, .int r29), (1, .int r21), (0, .ref a0)]) dX6_does_178 rfl (Nat.le_of_ble_eq_true rfl) rfl ?_
              refine v_iload_n (pc := 179) X 1 dX6_does_179 rfl rfl ?_
              exact v_iret (pc := 180) X hr hlk dX6_does_180 hf
          · replace hf := if_t c hf
            refine v_aload_n (pc := 135) X 1 dX6_does_135 rfl rfl ?_
            refine v_aload_n (pc := 136) X 1 dX6_does_136 rfl rfl ?_
            obtain ⟨v31, e_v31, hf⟩ := hf
            refine ge_6_14 (pc := 137) X (fun w h => inM w (inG6 w h)) k180 t1 e_v31 dX6_does_137 ?_
            refine v_aload_n (pc := 140) X 1 dX6_does_140 rfl rfl ?_
            obtain ⟨v32, e_v32, hf⟩ := hf
            refine ge_6_15 (pc := 141) X (fun w h => inM w (inG6 w h)) k183 t1 e_v32 dX6_does_141 ?_
            refine v_callVI (pc := 144) X (As := [.int v31, .int v32]) (rest := []) (c_X6_alters l D cA L sh a0 v31 v32 h22 _ hf) (cwV 2 X.ht (gwV inM q_545 q_546 q_751 q_7 q_547) rfl rfl rfl (by decide +kernel) ⟨Nat.le_of_ble_eq_true rfl, Nat.le_of_ble_eq_true rfl⟩) rfl (by decide) t1 (ent_6 t1) rfl rfl (Nat.le_of_ble_eq_true rfl) ⟨Nat.zero_le _, Nat.zero_le _⟩ dX6_does_144 (fun r33 h34 hf => ?_)
            refine v_goto (pc := 147) X 178 dX6_does_147 (by decide) ?_
            refine v_istore_n (pc := 178) X (i := 2) (lv' := [(2, .int r33), (1, .int r21), (0, .ref a0)]) dX6_does_178 rfl (Nat.le_of_ble_eq_true rfl) rfl ?_
            refine v_iload_n (pc := 179) X 1 dX6_does_179 rfl rfl ?_
            exact v_iret (pc := 180) X hr hlk dX6_does_180 hf
    · replace hf := if_t c hf
      refine v_aload_n (pc := 68) X 0 dX6_does_68 rfl rfl ?_
      refine v_aload_n (pc := 69) X 0 dX6_does_69 rfl rfl ?_
      obtain ⟨v35, e_v35, hf⟩ := hf
      refine ge_6_14 (pc := 70) X (fun w h => inM w (inG6 w h)) k180 t1 e_v35 dX6_does_70 ?_
      refine v_aload_n (pc := 73) X 0 dX6_does_73 rfl rfl ?_
      obtain ⟨v36, e_v36, hf⟩ := hf
      refine ge_6_15 (pc := 74) X (fun w h => inM w (inG6 w h)) k183 t1 e_v36 dX6_does_74 ?_
      refine v_callVI (pc := 77) X (As := [.int v35, .int v36]) (rest := []) (c_X6_alterFault l D cA L sh a0 v35 v36 h _ hf) (cwV 2 X.ht (gwV inM q_527 q_528 q_748 q_7 q_529) rfl rfl rfl (by decide +kernel) ⟨Nat.le_of_ble_eq_true rfl, Nat.le_of_ble_eq_true rfl⟩) rfl (by decide) t1 (ent_6 t1) rfl rfl (Nat.le_of_ble_eq_true rfl) ⟨Nat.zero_le _, Nat.zero_le _⟩ dX6_does_77 (fun r37 h38 hf => ?_)
      refine v_goto (pc := 80) X 121 dX6_does_80 (by decide) ?_
      refine v_istore_n (pc := 121) X (i := 1) (lv' := [(1, .int r37), (0, .ref a0)]) dX6_does_121 rfl (Nat.le_of_ble_eq_true rfl) rfl ?_
      refine v_iload_n (pc := 122) X 0 dX6_does_122 rfl rfl ?_
      refine v_if_ne (pc := 123) X 179 dX6_does_123 (by decide) (fun c => ?_) (fun c => ?_)
      · replace hf := if_f c hf
        refine v_iload_n (pc := 179) X 0 dX6_does_179 rfl rfl ?_
        exact v_iret (pc := 180) X hr hlk dX6_does_180 hf
      · replace hf := if_t c hf
        refine v_aload_n (pc := 126) X 1 dX6_does_126 rfl rfl ?_
        obtain ⟨v39, e_v39, hf⟩ := hf
        refine ge_6_13 (pc := 127) X (fun w h => inM w (inG6 w h)) k174 t1 e_v39 dX6_does_127 ?_
        refine v_bipush (pc := 130) X (v := (99 : Int32)) dX6_does_130 (by decide) ?_
        refine v_icmp_ne (pc := 132) X 150 dX6_does_132 (by decide) (fun c => ?_) (fun c => ?_)
        · replace hf := if_f c hf
          refine v_aload_n (pc := 150) X 1 dX6_does_150 rfl rfl ?_
          obtain ⟨v40, e_v40, hf⟩ := hf
          refine ge_6_13 (pc := 151) X (fun w h => inM w (inG6 w h)) k174 t1 e_v40 dX6_does_151 ?_
          refine v_bipush (pc := 154) X (v := (101 : Int32)) dX6_does_154 (by decide) ?_
          refine v_icmp_ne (pc := 156) X 170 dX6_does_156 (by decide) (fun c => ?_) (fun c => ?_)
          · replace hf := if_f c hf
            refine v_aload_n (pc := 170) X 1 dX6_does_170 rfl rfl ?_
            refine v_aload_n (pc := 171) X 1 dX6_does_171 rfl rfl ?_
            obtain ⟨v41, e_v41, hf⟩ := hf
            refine ge_6_14 (pc := 172) X (fun w h => inM w (inG6 w h)) k180 t1 e_v41 dX6_does_172 ?_
            refine v_callVI (pc := 175) X (As := [.int v41]) (rest := []) (c_X6_ticks l D cA L sh a0 v41 h38 _ hf) (cwV 1 X.ht (gwV inM q_620 q_621 q_769 q_7 q_622) rfl rfl rfl (by decide +kernel) ⟨Nat.le_of_ble_eq_true rfl, Nat.le_of_ble_eq_true rfl⟩) rfl (by decide) t1 (ent_6 t1) rfl rfl (Nat.le_of_ble_eq_true rfl) ⟨Nat.zero_le _, Nat.zero_le _⟩ dX6_does_175 (fun r42 h43 hf => ?_)
            refine v_istore_n (pc := 178) X (i := 2) (lv' := [(2, .int r42), (1, .int r37), (0, .ref a0)]) dX6_does_178 rfl (Nat.le_of_ble_eq_true rfl) rfl ?_
            refine v_iload_n (pc := 179) X 1 dX6_does_179 rfl rfl ?_
            exact v_iret (pc := 180) X hr hlk dX6_does_180 hf
          · replace hf := if_t c hf
            refine v_aload_n (pc := 159) X 1 dX6_does_159 rfl rfl ?_
            refine v_aload_n (pc := 160) X 1 dX6_does_160 rfl rfl ?_
            obtain ⟨v44, e_v44, hf⟩ := hf
            refine ge_6_14 (pc := 161) X (fun w h => inM w (inG6 w h)) k180 t1 e_v44 dX6_does_161 ?_
            refine v_callVI (pc := 164) X (As := [.int v44]) (rest := []) (c_X6_ends l D cA L sh a0 v44 h38 _ hf) (cwV 1 X.ht (gwV inM q_613 q_614 q_768 q_7 q_615) rfl rfl rfl (by decide +kernel) ⟨Nat.le_of_ble_eq_true rfl, Nat.le_of_ble_eq_true rfl⟩) rfl (by decide) t1 (ent_6 t1) rfl rfl (Nat.le_of_ble_eq_true rfl) ⟨Nat.zero_le _, Nat.zero_le _⟩ dX6_does_164 (fun r45 h46 hf => ?_)
            refine v_goto (pc := 167) X 178 dX6_does_167 (by decide) ?_
            refine v_istore_n (pc := 178) X (i := 2) (lv' := [(2, .int r45), (1, .int r37), (0, .ref a0)]) dX6_does_178 rfl (Nat.le_of_ble_eq_true rfl) rfl ?_
            refine v_iload_n (pc := 179) X 1 dX6_does_179 rfl rfl ?_
            exact v_iret (pc := 180) X hr hlk dX6_does_180 hf
        · replace hf := if_t c hf
          refine v_aload_n (pc := 135) X 1 dX6_does_135 rfl rfl ?_
          refine v_aload_n (pc := 136) X 1 dX6_does_136 rfl rfl ?_
          obtain ⟨v47, e_v47, hf⟩ := hf
          refine ge_6_14 (pc := 137) X (fun w h => inM w (inG6 w h)) k180 t1 e_v47 dX6_does_137 ?_
          refine v_aload_n (pc := 140) X 1 dX6_does_140 rfl rfl ?_
          obtain ⟨v48, e_v48, hf⟩ := hf
          refine ge_6_15 (pc := 141) X (fun w h => inM w (inG6 w h)) k183 t1 e_v48 dX6_does_141 ?_
          refine v_callVI (pc := 144) X (As := [.int v47, .int v48]) (rest := []) (c_X6_alters l D cA L sh a0 v47 v48 h38 _ hf) (cwV 2 X.ht (gwV inM q_545 q_546 q_751 q_7 q_547) rfl rfl rfl (by decide +kernel) ⟨Nat.le_of_ble_eq_true rfl, Nat.le_of_ble_eq_true rfl⟩) rfl (by decide) t1 (ent_6 t1) rfl rfl (Nat.le_of_ble_eq_true rfl) ⟨Nat.zero_le _, Nat.zero_le _⟩ dX6_does_144 (fun r49 h50 hf => ?_)
          refine v_goto (pc := 147) X 178 dX6_does_147 (by decide) ?_
          refine v_istore_n (pc := 178) X (i := 2) (lv' := [(2, .int r49), (1, .int r37), (0, .ref a0)]) dX6_does_178 rfl (Nat.le_of_ble_eq_true rfl) rfl ?_
          refine v_iload_n (pc := 179) X 1 dX6_does_179 rfl rfl ?_
          exact v_iret (pc := 180) X hr hlk dX6_does_180 hf
  · replace hf := if_t c hf
    refine v_aload_n (pc := 9) X 0 dX6_does_9 rfl rfl ?_
    obtain ⟨v51, e_v51, hf⟩ := hf
    refine ge_6_14 (pc := 10) X (fun w h => inM w (inG6 w h)) k180 t1 e_v51 dX6_does_10 ?_
    refine v_callSI (pc := 13) X (As := [.int v51]) (rest := []) (c_X6_isSession l D cA L sh v51 h _ hf) (va_cwS 1 X.ht (gwS inM q_573 q_574 q_7 q_575) rfl rfl rfl (by decide +kernel) ⟨Nat.le_of_ble_eq_true rfl, Nat.le_of_ble_eq_true rfl⟩) rfl rfl (Nat.le_of_ble_eq_true rfl) ⟨Nat.zero_le _, Nat.zero_le _⟩ dX6_does_13 (fun r52 h53 hf => ?_)
    refine v_if_eq (pc := 16) X 47 dX6_does_16 (by decide) (fun c => ?_) (fun c => ?_)
    · replace hf := if_t c hf
      refine v_iconst (pc := 47) X (v := (-1 : Int32)) dX6_does_47 (by decide) ?_
      refine v_istore_n (pc := 48) X (i := 1) (lv' := [(1, .int (-1 : Int32)), (0, .ref a0)]) dX6_does_48 rfl (Nat.le_of_ble_eq_true rfl) rfl ?_
      refine v_iload_n (pc := 49) X 0 dX6_does_49 rfl rfl ?_
      refine v_if_ge (pc := 50) X 57 dX6_does_50 (by decide) (fun c => absurd c (by decide)) (fun _ => ?_)
      refine v_iload_n (pc := 53) X 0 dX6_does_53 rfl rfl ?_
      refine v_goto (pc := 54) X 58 dX6_does_54 (by decide) ?_
      exact v_iret (pc := 58) X hr hlk dX6_does_58 hf
    · replace hf := if_f c hf
      refine v_aload_n (pc := 19) X 0 dX6_does_19 rfl rfl ?_
      obtain ⟨v54, e_v54, hf⟩ := hf
      refine ge_6_15 (pc := 20) X (fun w h => inM w (inG6 w h)) k183 t1 e_v54 dX6_does_20 ?_
      refine v_iconst (pc := 23) X (v := (1 : Int32)) dX6_does_23 (by decide) ?_
      refine v_bipush (pc := 24) X (v := (63 : Int32)) dX6_does_24 (by decide) ?_
      refine v_callSI (pc := 26) X (As := [.int v54, .int (1 : Int32), .int (63 : Int32)]) (rest := []) (c_X6_in l D cA L sh v54 (1 : Int32) (63 : Int32) h53 _ hf) (va_cwS 3 X.ht (gwS inM q_533 q_534 q_7 q_535) rfl rfl rfl (by decide +kernel) ⟨Nat.le_of_ble_eq_true rfl, Nat.le_of_ble_eq_true rfl⟩) rfl rfl (Nat.le_of_ble_eq_true rfl) ⟨Nat.zero_le _, Nat.zero_le _⟩ dX6_does_26 (fun r55 h56 hf => ?_)
      refine v_if_eq (pc := 29) X 47 dX6_does_29 (by decide) (fun c => ?_) (fun c => ?_)
      · replace hf := if_t c hf
        refine v_iconst (pc := 47) X (v := (-1 : Int32)) dX6_does_47 (by decide) ?_
        refine v_istore_n (pc := 48) X (i := 1) (lv' := [(1, .int (-1 : Int32)), (0, .ref a0)]) dX6_does_48 rfl (Nat.le_of_ble_eq_true rfl) rfl ?_
        refine v_iload_n (pc := 49) X 0 dX6_does_49 rfl rfl ?_
        refine v_if_ge (pc := 50) X 57 dX6_does_50 (by decide) (fun c => absurd c (by decide)) (fun _ => ?_)
        refine v_iload_n (pc := 53) X 0 dX6_does_53 rfl rfl ?_
        refine v_goto (pc := 54) X 58 dX6_does_54 (by decide) ?_
        exact v_iret (pc := 58) X hr hlk dX6_does_58 hf
      · replace hf := if_f c hf
        refine v_aload_n (pc := 32) X 0 dX6_does_32 rfl rfl ?_
        refine v_aload_n (pc := 33) X 0 dX6_does_33 rfl rfl ?_
        obtain ⟨v57, e_v57, hf⟩ := hf
        refine ge_6_14 (pc := 34) X (fun w h => inM w (inG6 w h)) k180 t1 e_v57 dX6_does_34 ?_
        refine v_aload_n (pc := 37) X 0 dX6_does_37 rfl rfl ?_
        obtain ⟨v58, e_v58, hf⟩ := hf
        refine ge_6_15 (pc := 38) X (fun w h => inM w (inG6 w h)) k183 t1 e_v58 dX6_does_38 ?_
        refine v_callVI (pc := 41) X (As := [.int v57, .int v58]) (rest := []) (c_X6_starts l D cA L sh a0 v57 v58 h56 _ hf) (cwV 2 X.ht (gwV inM q_579 q_580 q_758 q_7 q_581) rfl rfl rfl (by decide +kernel) ⟨Nat.le_of_ble_eq_true rfl, Nat.le_of_ble_eq_true rfl⟩) rfl (by decide) t1 (ent_6 t1) rfl rfl (Nat.le_of_ble_eq_true rfl) ⟨Nat.zero_le _, Nat.zero_le _⟩ dX6_does_41 (fun r59 h60 hf => ?_)
        refine v_goto (pc := 44) X 48 dX6_does_44 (by decide) ?_
        refine v_istore_n (pc := 48) X (i := 1) (lv' := [(1, .int r59), (0, .ref a0)]) dX6_does_48 rfl (Nat.le_of_ble_eq_true rfl) rfl ?_
        refine v_iload_n (pc := 49) X 0 dX6_does_49 rfl rfl ?_
        refine v_if_ge (pc := 50) X 57 dX6_does_50 (by decide) (fun c => ?_) (fun c => ?_)
        · replace hf := if_t c hf
          refine v_iconst (pc := 57) X (v := (0 : Int32)) dX6_does_57 (by decide) ?_
          exact v_iret (pc := 58) X hr hlk dX6_does_58 hf
        · replace hf := if_f c hf
          refine v_iload_n (pc := 53) X 0 dX6_does_53 rfl rfl ?_
          refine v_goto (pc := 54) X 58 dX6_does_54 (by decide) ?_
          exact v_iret (pc := 58) X hr hlk dX6_does_58 hf
set_option maxHeartbeats 4000000 in
set_option maxRecDepth 100000 in
theorem c_X6_end (l : Launch) (D : va_G) (cA : Nat → ClassId) (L : List Nat) (sh : Sh) (a0 : Nat) (p1 : Int32) (h : Hp) (K : Int32 → Hp → Prop) (hf : f_X6_end sh a0 p1 h K) : Met l yX6_end (wM yX6_end cX6_end 3 (some .int)) ({ frames := 5, cells := 0, slots := 0, locals := 114 } : Room) (PreM D cA L sh h [.ref a0, .int p1]) (QI D cA L sh K) 0 0 (fun q => q ∈ L) := by
  refine met_v (cc := cX6_end) (nL := 3) (ret := (some .int)) [(0, .ref a0), (1, .int p1)] (by decide) rfl (Nat.le_of_ble_eq_true rfl) rfl ?_
  intro p e s0 m below meth c X hr hlk
  unfold f_X6_end at hf
  refine v_aload_n (pc := 0) X 0 dX6_end_0 rfl rfl ?_
  refine v_iload_n (pc := 1) X 1 dX6_end_1 rfl rfl ?_
  obtain ⟨t1, hf⟩ := hf
  refine v_callVI (pc := 2) X (As := [.int p1]) (rest := []) (c_X6_endFault l D cA L sh a0 p1 h _ hf) (cwV 1 X.ht (gwV inM q_607 q_608 q_766 q_7 q_609) rfl rfl rfl (by decide +kernel) ⟨Nat.le_of_ble_eq_true rfl, Nat.le_of_ble_eq_true rfl⟩) rfl (by decide) t1 (ent_6 t1) rfl rfl (Nat.le_of_ble_eq_true rfl) ⟨Nat.zero_le _, Nat.zero_le _⟩ dX6_end_2 (fun r2 h3 hf => ?_)
  refine v_istore_n (pc := 5) X (i := 2) (lv' := [(2, .int r2), (0, .ref a0), (1, .int p1)]) dX6_end_5 rfl (Nat.le_of_ble_eq_true rfl) rfl ?_
  refine v_iload_n (pc := 6) X 0 dX6_end_6 rfl rfl ?_
  refine v_if_ge (pc := 7) X 12 dX6_end_7 (by decide) (fun c => ?_) (fun c => ?_)
  · replace hf := if_t c hf
    refine v_aload_n (pc := 12) X 1 dX6_end_12 rfl rfl ?_
    refine v_callVV (pc := 13) X (As := []) (rest := []) (c_X6_know l D cA L sh a0 h3 _ hf) (cwV 0 X.ht (gwV inM q_542 q_543 q_750 q_7 q_544) rfl rfl rfl (by decide +kernel) ⟨Nat.le_of_ble_eq_true rfl, Nat.le_of_ble_eq_true rfl⟩) rfl (by decide) t1 (ent_6 t1) rfl rfl (Nat.le_of_ble_eq_true rfl) ⟨Nat.zero_le _, Nat.zero_le _⟩ dX6_end_13 (fun h5 hf => ?_)
    refine v_aload_n (pc := 16) X 1 dX6_end_16 rfl rfl ?_
    refine v_iload_n (pc := 17) X 2 dX6_end_17 rfl rfl ?_
    refine v_callVI (pc := 18) X (As := [.int p1]) (rest := []) (c_X6_ends l D cA L sh a0 p1 h5 _ hf) (cwV 1 X.ht (gwV inM q_613 q_614 q_768 q_7 q_615) rfl rfl rfl (by decide +kernel) ⟨Nat.le_of_ble_eq_true rfl, Nat.le_of_ble_eq_true rfl⟩) rfl (by decide) t1 (ent_6 t1) rfl rfl (Nat.le_of_ble_eq_true rfl) ⟨Nat.zero_le _, Nat.zero_le _⟩ dX6_end_18 (fun r6 h7 hf => ?_)
    exact v_iret (pc := 21) X hr hlk dX6_end_21 hf
  · replace hf := if_f c hf
    refine v_iload_n (pc := 10) X 0 dX6_end_10 rfl rfl ?_
    exact v_iret (pc := 11) X hr hlk dX6_end_11 hf
set_option maxHeartbeats 4000000 in
set_option maxRecDepth 100000 in
theorem c_X6_entry (l : Launch) (D : va_G) (cA : Nat → ClassId) (L : List Nat) (sh : Sh) (a0 : Nat) (p1 : Int32) (p2 : Int32) (p3 : Int32) (h : Hp) (K : Int32 → Hp → Prop) (hf : f_X6_entry sh a0 p1 p2 p3 h K) : Met l yX6_entry (wM yX6_entry cX6_entry 4 (some .int)) ({ frames := 2, cells := 0, slots := 0, locals := 43 } : Room) (PreM D cA L sh h [.ref a0, .int p1, .int p2, .int p3]) (QI D cA L sh K) 0 0 (fun q => q ∈ L) := by
  refine met_v (cc := cX6_entry) (nL := 4) (ret := (some .int)) [(0, .ref a0), (1, .int p1), (2, .int p2), (3, .int p3)] (by decide) rfl (Nat.le_of_ble_eq_true rfl) rfl ?_
  intro p e s0 m below meth c X hr hlk
  have k7 := X.ht _ (inM _ q_485)
  unfold f_X6_entry at hf
  refine v_iload_n (pc := 0) X 1 dX6_entry_0 rfl rfl ?_
  refine v_callSI (pc := 1) X (As := [.int p1]) (rest := []) (c_X6_isSession l D cA L sh p1 h _ hf) (va_cwS 1 X.ht (gwS inM q_573 q_574 q_7 q_575) rfl rfl rfl (by decide +kernel) ⟨Nat.le_of_ble_eq_true rfl, Nat.le_of_ble_eq_true rfl⟩) rfl rfl (Nat.le_of_ble_eq_true rfl) ⟨Nat.zero_le _, Nat.zero_le _⟩ dX6_entry_1 (fun r1 h2 hf => ?_)
  refine v_if_eq (pc := 4) X 20 dX6_entry_4 (by decide) (fun c => ?_) (fun c => ?_)
  · replace hf := if_t c hf
    refine v_iconst (pc := 20) X (v := (-1 : Int32)) dX6_entry_20 (by decide) ?_
    exact v_iret (pc := 21) X hr hlk dX6_entry_21 hf
  · replace hf := if_f c hf
    refine v_iload_n (pc := 7) X 2 dX6_entry_7 rfl rfl ?_
    refine v_if_lt (pc := 8) X 20 dX6_entry_8 (by decide) (fun c => ?_) (fun c => ?_)
    · replace hf := if_t c hf
      refine v_iconst (pc := 20) X (v := (-1 : Int32)) dX6_entry_20 (by decide) ?_
      exact v_iret (pc := 21) X hr hlk dX6_entry_21 hf
    · replace hf := if_f c hf
      refine v_iload_n (pc := 11) X 3 dX6_entry_11 rfl rfl ?_
      refine v_iconst (pc := 12) X (v := (0 : Int32)) dX6_entry_12 (by decide) ?_
      refine v_iconst (pc := 13) X (v := (5 : Int32)) dX6_entry_13 (by decide) ?_
      refine v_callSI (pc := 14) X (As := [.int p3, .int (0 : Int32), .int (5 : Int32)]) (rest := []) (c_X6_in l D cA L sh p3 (0 : Int32) (5 : Int32) h2 _ hf) (va_cwS 3 X.ht (gwS inM q_533 q_534 q_7 q_535) rfl rfl rfl (by decide +kernel) ⟨Nat.le_of_ble_eq_true rfl, Nat.le_of_ble_eq_true rfl⟩) rfl rfl (Nat.le_of_ble_eq_true rfl) ⟨Nat.zero_le _, Nat.zero_le _⟩ dX6_entry_14 (fun r3 h4 hf => ?_)
      refine v_if_ne (pc := 17) X 22 dX6_entry_17 (by decide) (fun c => ?_) (fun c => ?_)
      · replace hf := if_f c hf
        refine v_iload_n (pc := 22) X 2 dX6_entry_22 rfl rfl ?_
        refine v_aload_n (pc := 23) X 0 dX6_entry_23 rfl rfl ?_
        obtain ⟨t5, hf⟩ := hf
        obtain ⟨q6, e_q6, hf⟩ := hf
        refine ge_6_0 (pc := 24) X (fun w h => inM w (inG6 w h)) k7 t5 e_q6 dX6_entry_24 ?_
        refine v_iload_n (pc := 27) X 1 dX6_entry_27 rfl rfl ?_
        refine v_bipush (pc := 28) X (v := (6 : Int32)) dX6_entry_28 (by decide) ?_
        refine v_callSI (pc := 30) X (As := [.int p1, .int (6 : Int32)]) (rest := [.ref q6, .int p2]) (c_X6_of l D cA L sh p1 (6 : Int32) h4 _ hf) (va_cwS 2 X.ht (gwS inM q_551 q_552 q_7 q_553) rfl rfl rfl (by decide +kernel) ⟨Nat.le_of_ble_eq_true rfl, Nat.le_of_ble_eq_true rfl⟩) rfl rfl (Nat.le_of_ble_eq_true rfl) ⟨Nat.zero_le _, Nat.zero_le _⟩ dX6_entry_30 (fun r7 h8 hf => ?_)
        obtain ⟨t9, hf⟩ := hf
        obtain ⟨b11, v10, e_v10, hf⟩ := hf
        refine v_iald (pc := 33) X t9 b11 e_v10 dX6_entry_33 ?_
        refine v_icmp_ge (pc := 34) X 51 dX6_entry_34 (by decide) (fun c => ?_) (fun c => ?_)
        · replace hf := if_t c hf
          refine v_bipush (pc := 51) X (v := (-4 : Int32)) dX6_entry_51 (by decide) ?_
          exact v_iret (pc := 53) X hr hlk dX6_entry_53 hf
        · replace hf := if_f c hf
          refine v_aload_n (pc := 37) X 0 dX6_entry_37 rfl rfl ?_
          obtain ⟨q12, e_q12, hf⟩ := hf
          refine ge_6_0 (pc := 38) X (fun w h => inM w (inG6 w h)) k7 t5 e_q12 dX6_entry_38 ?_
          refine v_iload_n (pc := 41) X 1 dX6_entry_41 rfl rfl ?_
          refine v_iload_n (pc := 42) X 2 dX6_entry_42 rfl rfl ?_
          refine v_iload_n (pc := 43) X 3 dX6_entry_43 rfl rfl ?_
          refine v_callSI (pc := 44) X (As := [.int p1, .int p2, .int p3]) (rest := [.ref q12]) (c_X6_ofEntry l D cA L sh p1 p2 p3 h8 _ hf) (va_cwS 3 X.ht (gwS inM q_557 q_558 q_7 q_559) rfl rfl rfl (by decide +kernel) ⟨Nat.le_of_ble_eq_true rfl, Nat.le_of_ble_eq_true rfl⟩) rfl rfl (Nat.le_of_ble_eq_true rfl) ⟨Nat.zero_le _, Nat.zero_le _⟩ dX6_entry_44 (fun r13 h14 hf => ?_)
          obtain ⟨t15, hf⟩ := hf
          obtain ⟨b17, v16, e_v16, hf⟩ := hf
          refine v_iald (pc := 47) X t15 b17 e_v16 dX6_entry_47 ?_
          refine v_goto (pc := 48) X 53 dX6_entry_48 (by decide) ?_
          exact v_iret (pc := 53) X hr hlk dX6_entry_53 hf
      · replace hf := if_t c hf
        refine v_iconst (pc := 20) X (v := (-1 : Int32)) dX6_entry_20 (by decide) ?_
        exact v_iret (pc := 21) X hr hlk dX6_entry_21 hf
set_option maxHeartbeats 4000000 in
set_option maxRecDepth 100000 in
theorem w_X6_putAside_2 {p : Program} {l : Launch} {e : Env} {s0 : State} {m : MethodId} {args : Array Value} {below : List Frame} {meth : Method} {c : Code} {D : va_G} {cA : Nat → ClassId} {L : List Nat} {sh : Sh} (X : Cx p s0 m c args cX6_putAside 2 (wM yX6_putAside cX6_putAside 2 none) RX6 (fun q => q ∈ L) D cA L sh) (hr : meth.sig.returnType = none) (hlk : meth.locks = false) (x0 : Nat) (Xc : Hp → Prop) (K : Hp → Prop) (hx : ∀  (h1 : Hp), Xc  h1 → V p l e (headSpec (wM yX6_putAside cX6_putAside 2 none) ({ frames := 0, cells := 0, slots := 0, locals := 0 } : Room)).room s0 m args below meth c (MQ below (QV D cA L sh K) args s0 0 0 (fun q => q ∈ L)) (fun q => q ∈ L) 0 0 D cA L sh 2 h1 27 [] []) : ∀ (n : Nat) (s : Int32) (h : Hp), lp (b_X6_putAside_2 sh x0 Xc) n s h → V p l e (headSpec (wM yX6_putAside cX6_putAside 2 none) ({ frames := 0, cells := 0, slots := 0, locals := 0 } : Room)).room s0 m args below meth c (MQ below (QV D cA L sh K) args s0 0 0 (fun q => q ∈ L)) (fun q => q ∈ L) 0 0 D cA L sh 2 h 2 [(0, .ref x0), (1, .int s)] [] := by
  have k13 := X.ht _ (inM _ q_486)
  have k7 := X.ht _ (inM _ q_485)
  intro n
  induction n with
  | zero => intro s h hf; exact hf.elim
  | succ n ih =>
    intro s h hf
    replace hf : b_X6_putAside_2 sh x0 Xc (lp (b_X6_putAside_2 sh x0 Xc) n) s h := hf
    unfold b_X6_putAside_2 at hf
    refine v_iload_n (pc := 2) X 1 dX6_putAside_2 rfl rfl ?_
    refine v_sipush (pc := 3) X (v := (623 : Int32)) dX6_putAside_3 (by decide) ?_
    refine v_icmp_ge (pc := 6) X 27 dX6_putAside_6 (by decide) (fun c => ?_) (fun c => ?_)
    · replace hf := if_t c hf
      refine v_sub [] rfl ?_
      exact hx h hf
    · replace hf := if_f c hf
      refine v_aload_n (pc := 9) X 0 dX6_putAside_9 rfl rfl ?_
      obtain ⟨t1, hf⟩ := hf
      obtain ⟨q2, e_q2, hf⟩ := hf
      refine ge_6_1 (pc := 10) X (fun w h => inM w (inG6 w h)) k13 t1 e_q2 dX6_putAside_10 ?_
      refine v_iload_n (pc := 13) X 1 dX6_putAside_13 rfl rfl ?_
      refine v_aload_n (pc := 14) X 0 dX6_putAside_14 rfl rfl ?_
      obtain ⟨q3, e_q3, hf⟩ := hf
      refine ge_6_0 (pc := 15) X (fun w h => inM w (inG6 w h)) k7 t1 e_q3 dX6_putAside_15 ?_
      refine v_iload_n (pc := 18) X 1 dX6_putAside_18 rfl rfl ?_
      obtain ⟨t4, hf⟩ := hf
      obtain ⟨b6, v5, e_v5, hf⟩ := hf
      refine v_iald (pc := 19) X t4 b6 e_v5 dX6_putAside_19 ?_
      obtain ⟨t7, hf⟩ := hf
      obtain ⟨b9, h8, e_h8, hf⟩ := hf
      refine v_iast (pc := 20) X t7 b9 e_h8 dX6_putAside_20 ?_
      refine v_iinc (pc := 21) X 1 (v := s + (1 : Int32)) (lv' := [(1, .int (s + (1 : Int32))), (0, .ref x0)]) dX6_putAside_21 rfl rfl (Nat.le_of_ble_eq_true rfl) rfl ?_
      refine v_goto (pc := 24) X 2 dX6_putAside_24 (by decide) ?_
      refine v_sub [1, 0] rfl ?_
      exact ih (s + (1 : Int32)) h8 hf

set_option maxHeartbeats 4000000 in
set_option maxRecDepth 100000 in
theorem c_X6_putAside (l : Launch) (D : va_G) (cA : Nat → ClassId) (L : List Nat) (sh : Sh) (a0 : Nat) (h : Hp) (K : Hp → Prop) (hf : f_X6_putAside sh a0 h K) : Met l yX6_putAside (wM yX6_putAside cX6_putAside 2 none) ({ frames := 0, cells := 0, slots := 0, locals := 0 } : Room) (PreM D cA L sh h [.ref a0]) (QV D cA L sh K) 0 0 (fun q => q ∈ L) := by
  refine met_v (cc := cX6_putAside) (nL := 2) (ret := none) [(0, .ref a0)] (by decide) rfl (Nat.le_of_ble_eq_true rfl) rfl ?_
  intro p e s0 m below meth c X hr hlk
  have k13 := X.ht _ (inM _ q_486)
  have k7 := X.ht _ (inM _ q_485)
  unfold f_X6_putAside at hf
  refine v_iconst (pc := 0) X (v := (0 : Int32)) dX6_putAside_0 (by decide) ?_
  refine v_istore_n (pc := 1) X (i := 1) (lv' := [(1, .int (0 : Int32)), (0, .ref a0)]) dX6_putAside_1 rfl (Nat.le_of_ble_eq_true rfl) rfl ?_
  obtain ⟨n, hf⟩ := hf
  refine v_sub [1, 0] rfl ?_
  refine w_X6_putAside_2 X hr hlk a0 _ K (fun  h10 hf => ?_) n (0 : Int32) h hf
  exact v_vret (pc := 27) X hr hlk dX6_putAside_27 hf
set_option maxHeartbeats 4000000 in
set_option maxRecDepth 100000 in
theorem c_X6_sign (l : Launch) (D : va_G) (cA : Nat → ClassId) (L : List Nat) (sh : Sh) (a0 : Nat) (p1 : Int32) (p2 : Int32) (h : Hp) (K : Int32 → Hp → Prop) (hf : f_X6_sign sh a0 p1 p2 h K) : Met l yX6_sign (wM yX6_sign cX6_sign 4 (some .int)) ({ frames := 1, cells := 0, slots := 0, locals := 22 } : Room) (PreM D cA L sh h [.ref a0, .int p1, .int p2]) (QI D cA L sh K) 0 0 (fun q => q ∈ L) := by
  refine met_v (cc := cX6_sign) (nL := 4) (ret := (some .int)) [(0, .ref a0), (1, .int p1), (2, .int p2)] (by decide) rfl (Nat.le_of_ble_eq_true rfl) rfl ?_
  intro p e s0 m below meth c X hr hlk
  have k165 := X.ht _ (inM _ q_496)
  have k145 := X.ht _ (inM _ q_492)
  have k22 := X.ht _ (inM _ q_491)
  have k168 := X.ht _ (inM _ q_497)
  unfold f_X6_sign at hf
  refine v_aload_n (pc := 0) X 0 dX6_sign_0 rfl rfl ?_
  obtain ⟨t1, hf⟩ := hf
  obtain ⟨v2, e_v2, hf⟩ := hf
  refine ge_6_11 (pc := 1) X (fun w h => inM w (inG6 w h)) k165 t1 e_v2 dX6_sign_1 ?_
  refine v_aload_n (pc := 4) X 0 dX6_sign_4 rfl rfl ?_
  obtain ⟨v3, e_v3, hf⟩ := hf
  refine ge_6_7 (pc := 5) X (fun w h => inM w (inG6 w h)) k145 t1 e_v3 dX6_sign_5 ?_
  refine v_icmp_ge (pc := 8) X 23 dX6_sign_8 (by decide) (fun c => ?_) (fun c => ?_)
  · replace hf := if_t c hf
    refine v_iconst (pc := 23) X (v := (0 : Int32)) dX6_sign_23 (by decide) ?_
    refine v_istore_n (pc := 24) X (i := 3) (lv' := [(3, .int (0 : Int32)), (0, .ref a0), (1, .int p1), (2, .int p2)]) dX6_sign_24 rfl (Nat.le_of_ble_eq_true rfl) rfl ?_
    refine v_aload_n (pc := 25) X 1 dX6_sign_25 rfl rfl ?_
    refine v_aload_n (pc := 26) X 1 dX6_sign_26 rfl rfl ?_
    obtain ⟨v4, e_v4, hf⟩ := hf
    refine ge_6_12 (pc := 27) X (fun w h => inM w (inG6 w h)) k168 t1 e_v4 dX6_sign_27 ?_
    refine v_if_ne (pc := 30) X 42 dX6_sign_30 (by decide) (fun c => ?_) (fun c => ?_)
    · replace hf := if_f c hf
      refine v_iconst (pc := 42) X (v := (1 : Int32)) dX6_sign_42 (by decide) ?_
      refine v_goto (pc := 43) X 47 dX6_sign_43 (by decide) ?_
      obtain ⟨h5, e_h5, hf⟩ := hf
      refine pu_6_12 (pc := 47) X (fun w h => inM w (inG6 w h)) k168 t1 (by decide) e_h5 dX6_sign_47 ?_
      refine v_aload_n (pc := 50) X 1 dX6_sign_50 rfl rfl ?_
      refine v_dup (pc := 51) X dX6_sign_51 rfl ?_
      obtain ⟨v6, e_v6, hf⟩ := hf
      refine ge_6_11 (pc := 52) X (fun w h => inM w (inG6 w h)) k165 t1 e_v6 dX6_sign_52 ?_
      refine v_aload_n (pc := 55) X 1 dX6_sign_55 rfl rfl ?_
      obtain ⟨v7, e_v7, hf⟩ := hf
      refine ge_6_12 (pc := 56) X (fun w h => inM w (inG6 w h)) k168 t1 e_v7 dX6_sign_56 ?_
      refine v_if_eq (pc := 59) X 66 dX6_sign_59 (by decide) (fun c => ?_) (fun c => ?_)
      · replace hf := if_t c hf
        refine v_iconst (pc := 66) X (v := (1 : Int32)) dX6_sign_66 (by decide) ?_
        refine v_iadd (pc := 67) X dX6_sign_67 ?_
        obtain ⟨h8, e_h8, hf⟩ := hf
        refine pu_6_11 (pc := 68) X (fun w h => inM w (inG6 w h)) k165 t1 e_h8 dX6_sign_68 ?_
        refine v_iload_n (pc := 71) X 0 dX6_sign_71 rfl rfl ?_
        exact v_iret (pc := 72) X hr hlk dX6_sign_72 hf
      · replace hf := if_f c hf
        refine v_iconst (pc := 62) X (v := (0 : Int32)) dX6_sign_62 (by decide) ?_
        refine v_goto (pc := 63) X 67 dX6_sign_63 (by decide) ?_
        refine v_iadd (pc := 67) X dX6_sign_67 ?_
        obtain ⟨h9, e_h9, hf⟩ := hf
        refine pu_6_11 (pc := 68) X (fun w h => inM w (inG6 w h)) k165 t1 e_h9 dX6_sign_68 ?_
        refine v_iload_n (pc := 71) X 0 dX6_sign_71 rfl rfl ?_
        exact v_iret (pc := 72) X hr hlk dX6_sign_72 hf
    · replace hf := if_t c hf
      refine v_iload_n (pc := 33) X 0 dX6_sign_33 rfl rfl ?_
      refine v_iload_n (pc := 34) X 2 dX6_sign_34 rfl rfl ?_
      refine v_iload_n (pc := 35) X 3 dX6_sign_35 rfl rfl ?_
      refine v_callSI (pc := 36) X (As := [.int (0 : Int32), .int p1, .int p2]) (rest := [.ref a0]) (c_X6_in l D cA L sh (0 : Int32) p1 p2 h _ hf) (va_cwS 3 X.ht (gwS inM q_533 q_534 q_7 q_535) rfl rfl rfl (by decide +kernel) ⟨Nat.le_of_ble_eq_true rfl, Nat.le_of_ble_eq_true rfl⟩) rfl rfl (Nat.le_of_ble_eq_true rfl) ⟨Nat.zero_le _, Nat.zero_le _⟩ dX6_sign_36 (fun r10 h11 hf => ?_)
      refine v_if_ne (pc := 39) X 46 dX6_sign_39 (by decide) (fun c => ?_) (fun c => ?_)
      · replace hf := if_f c hf
        refine v_iconst (pc := 46) X (v := (0 : Int32)) dX6_sign_46 (by decide) ?_
        obtain ⟨h12, e_h12, hf⟩ := hf
        refine pu_6_12 (pc := 47) X (fun w h => inM w (inG6 w h)) k168 t1 (by decide) e_h12 dX6_sign_47 ?_
        refine v_aload_n (pc := 50) X 1 dX6_sign_50 rfl rfl ?_
        refine v_dup (pc := 51) X dX6_sign_51 rfl ?_
        obtain ⟨v13, e_v13, hf⟩ := hf
        refine ge_6_11 (pc := 52) X (fun w h => inM w (inG6 w h)) k165 t1 e_v13 dX6_sign_52 ?_
        refine v_aload_n (pc := 55) X 1 dX6_sign_55 rfl rfl ?_
        obtain ⟨v14, e_v14, hf⟩ := hf
        refine ge_6_12 (pc := 56) X (fun w h => inM w (inG6 w h)) k168 t1 e_v14 dX6_sign_56 ?_
        refine v_if_eq (pc := 59) X 66 dX6_sign_59 (by decide) (fun c => ?_) (fun c => ?_)
        · replace hf := if_t c hf
          refine v_iconst (pc := 66) X (v := (1 : Int32)) dX6_sign_66 (by decide) ?_
          refine v_iadd (pc := 67) X dX6_sign_67 ?_
          obtain ⟨h15, e_h15, hf⟩ := hf
          refine pu_6_11 (pc := 68) X (fun w h => inM w (inG6 w h)) k165 t1 e_h15 dX6_sign_68 ?_
          refine v_iload_n (pc := 71) X 0 dX6_sign_71 rfl rfl ?_
          exact v_iret (pc := 72) X hr hlk dX6_sign_72 hf
        · replace hf := if_f c hf
          refine v_iconst (pc := 62) X (v := (0 : Int32)) dX6_sign_62 (by decide) ?_
          refine v_goto (pc := 63) X 67 dX6_sign_63 (by decide) ?_
          refine v_iadd (pc := 67) X dX6_sign_67 ?_
          obtain ⟨h16, e_h16, hf⟩ := hf
          refine pu_6_11 (pc := 68) X (fun w h => inM w (inG6 w h)) k165 t1 e_h16 dX6_sign_68 ?_
          refine v_iload_n (pc := 71) X 0 dX6_sign_71 rfl rfl ?_
          exact v_iret (pc := 72) X hr hlk dX6_sign_72 hf
      · replace hf := if_t c hf
        refine v_iconst (pc := 42) X (v := (1 : Int32)) dX6_sign_42 (by decide) ?_
        refine v_goto (pc := 43) X 47 dX6_sign_43 (by decide) ?_
        obtain ⟨h17, e_h17, hf⟩ := hf
        refine pu_6_12 (pc := 47) X (fun w h => inM w (inG6 w h)) k168 t1 (by decide) e_h17 dX6_sign_47 ?_
        refine v_aload_n (pc := 50) X 1 dX6_sign_50 rfl rfl ?_
        refine v_dup (pc := 51) X dX6_sign_51 rfl ?_
        obtain ⟨v18, e_v18, hf⟩ := hf
        refine ge_6_11 (pc := 52) X (fun w h => inM w (inG6 w h)) k165 t1 e_v18 dX6_sign_52 ?_
        refine v_aload_n (pc := 55) X 1 dX6_sign_55 rfl rfl ?_
        obtain ⟨v19, e_v19, hf⟩ := hf
        refine ge_6_12 (pc := 56) X (fun w h => inM w (inG6 w h)) k168 t1 e_v19 dX6_sign_56 ?_
        refine v_if_eq (pc := 59) X 66 dX6_sign_59 (by decide) (fun c => ?_) (fun c => ?_)
        · replace hf := if_t c hf
          refine v_iconst (pc := 66) X (v := (1 : Int32)) dX6_sign_66 (by decide) ?_
          refine v_iadd (pc := 67) X dX6_sign_67 ?_
          obtain ⟨h20, e_h20, hf⟩ := hf
          refine pu_6_11 (pc := 68) X (fun w h => inM w (inG6 w h)) k165 t1 e_h20 dX6_sign_68 ?_
          refine v_iload_n (pc := 71) X 0 dX6_sign_71 rfl rfl ?_
          exact v_iret (pc := 72) X hr hlk dX6_sign_72 hf
        · replace hf := if_f c hf
          refine v_iconst (pc := 62) X (v := (0 : Int32)) dX6_sign_62 (by decide) ?_
          refine v_goto (pc := 63) X 67 dX6_sign_63 (by decide) ?_
          refine v_iadd (pc := 67) X dX6_sign_67 ?_
          obtain ⟨h21, e_h21, hf⟩ := hf
          refine pu_6_11 (pc := 68) X (fun w h => inM w (inG6 w h)) k165 t1 e_h21 dX6_sign_68 ?_
          refine v_iload_n (pc := 71) X 0 dX6_sign_71 rfl rfl ?_
          exact v_iret (pc := 72) X hr hlk dX6_sign_72 hf
  · replace hf := if_f c hf
    refine v_aload_n (pc := 11) X 0 dX6_sign_11 rfl rfl ?_
    obtain ⟨q22, e_q22, hf⟩ := hf
    refine ge_6_6 (pc := 12) X (fun w h => inM w (inG6 w h)) k22 t1 e_q22 dX6_sign_12 ?_
    refine v_aload_n (pc := 15) X 0 dX6_sign_15 rfl rfl ?_
    obtain ⟨v23, e_v23, hf⟩ := hf
    refine ge_6_11 (pc := 16) X (fun w h => inM w (inG6 w h)) k165 t1 e_v23 dX6_sign_16 ?_
    obtain ⟨t24, hf⟩ := hf
    obtain ⟨b26, v25, e_v25, hf⟩ := hf
    refine v_iald (pc := 19) X t24 b26 e_v25 dX6_sign_19 ?_
    refine v_goto (pc := 20) X 24 dX6_sign_20 (by decide) ?_
    refine v_istore_n (pc := 24) X (i := 3) (lv' := [(3, .int v25), (0, .ref a0), (1, .int p1), (2, .int p2)]) dX6_sign_24 rfl (Nat.le_of_ble_eq_true rfl) rfl ?_
    refine v_aload_n (pc := 25) X 1 dX6_sign_25 rfl rfl ?_
    refine v_aload_n (pc := 26) X 1 dX6_sign_26 rfl rfl ?_
    obtain ⟨v27, e_v27, hf⟩ := hf
    refine ge_6_12 (pc := 27) X (fun w h => inM w (inG6 w h)) k168 t1 e_v27 dX6_sign_27 ?_
    refine v_if_ne (pc := 30) X 42 dX6_sign_30 (by decide) (fun c => ?_) (fun c => ?_)
    · replace hf := if_f c hf
      refine v_iconst (pc := 42) X (v := (1 : Int32)) dX6_sign_42 (by decide) ?_
      refine v_goto (pc := 43) X 47 dX6_sign_43 (by decide) ?_
      obtain ⟨h28, e_h28, hf⟩ := hf
      refine pu_6_12 (pc := 47) X (fun w h => inM w (inG6 w h)) k168 t1 (by decide) e_h28 dX6_sign_47 ?_
      refine v_aload_n (pc := 50) X 1 dX6_sign_50 rfl rfl ?_
      refine v_dup (pc := 51) X dX6_sign_51 rfl ?_
      obtain ⟨v29, e_v29, hf⟩ := hf
      refine ge_6_11 (pc := 52) X (fun w h => inM w (inG6 w h)) k165 t1 e_v29 dX6_sign_52 ?_
      refine v_aload_n (pc := 55) X 1 dX6_sign_55 rfl rfl ?_
      obtain ⟨v30, e_v30, hf⟩ := hf
      refine ge_6_12 (pc := 56) X (fun w h => inM w (inG6 w h)) k168 t1 e_v30 dX6_sign_56 ?_
      refine v_if_eq (pc := 59) X 66 dX6_sign_59 (by decide) (fun c => ?_) (fun c => ?_)
      · replace hf := if_t c hf
        refine v_iconst (pc := 66) X (v := (1 : Int32)) dX6_sign_66 (by decide) ?_
        refine v_iadd (pc := 67) X dX6_sign_67 ?_
        obtain ⟨h31, e_h31, hf⟩ := hf
        refine pu_6_11 (pc := 68) X (fun w h => inM w (inG6 w h)) k165 t1 e_h31 dX6_sign_68 ?_
        refine v_iload_n (pc := 71) X 0 dX6_sign_71 rfl rfl ?_
        exact v_iret (pc := 72) X hr hlk dX6_sign_72 hf
      · replace hf := if_f c hf
        refine v_iconst (pc := 62) X (v := (0 : Int32)) dX6_sign_62 (by decide) ?_
        refine v_goto (pc := 63) X 67 dX6_sign_63 (by decide) ?_
        refine v_iadd (pc := 67) X dX6_sign_67 ?_
        obtain ⟨h32, e_h32, hf⟩ := hf
        refine pu_6_11 (pc := 68) X (fun w h => inM w (inG6 w h)) k165 t1 e_h32 dX6_sign_68 ?_
        refine v_iload_n (pc := 71) X 0 dX6_sign_71 rfl rfl ?_
        exact v_iret (pc := 72) X hr hlk dX6_sign_72 hf
    · replace hf := if_t c hf
      refine v_iload_n (pc := 33) X 0 dX6_sign_33 rfl rfl ?_
      refine v_iload_n (pc := 34) X 2 dX6_sign_34 rfl rfl ?_
      refine v_iload_n (pc := 35) X 3 dX6_sign_35 rfl rfl ?_
      refine v_callSI (pc := 36) X (As := [.int v25, .int p1, .int p2]) (rest := [.ref a0]) (c_X6_in l D cA L sh v25 p1 p2 h _ hf) (va_cwS 3 X.ht (gwS inM q_533 q_534 q_7 q_535) rfl rfl rfl (by decide +kernel) ⟨Nat.le_of_ble_eq_true rfl, Nat.le_of_ble_eq_true rfl⟩) rfl rfl (Nat.le_of_ble_eq_true rfl) ⟨Nat.zero_le _, Nat.zero_le _⟩ dX6_sign_36 (fun r33 h34 hf => ?_)
      refine v_if_ne (pc := 39) X 46 dX6_sign_39 (by decide) (fun c => ?_) (fun c => ?_)
      · replace hf := if_f c hf
        refine v_iconst (pc := 46) X (v := (0 : Int32)) dX6_sign_46 (by decide) ?_
        obtain ⟨h35, e_h35, hf⟩ := hf
        refine pu_6_12 (pc := 47) X (fun w h => inM w (inG6 w h)) k168 t1 (by decide) e_h35 dX6_sign_47 ?_
        refine v_aload_n (pc := 50) X 1 dX6_sign_50 rfl rfl ?_
        refine v_dup (pc := 51) X dX6_sign_51 rfl ?_
        obtain ⟨v36, e_v36, hf⟩ := hf
        refine ge_6_11 (pc := 52) X (fun w h => inM w (inG6 w h)) k165 t1 e_v36 dX6_sign_52 ?_
        refine v_aload_n (pc := 55) X 1 dX6_sign_55 rfl rfl ?_
        obtain ⟨v37, e_v37, hf⟩ := hf
        refine ge_6_12 (pc := 56) X (fun w h => inM w (inG6 w h)) k168 t1 e_v37 dX6_sign_56 ?_
        refine v_if_eq (pc := 59) X 66 dX6_sign_59 (by decide) (fun c => ?_) (fun c => ?_)
        · replace hf := if_t c hf
          refine v_iconst (pc := 66) X (v := (1 : Int32)) dX6_sign_66 (by decide) ?_
          refine v_iadd (pc := 67) X dX6_sign_67 ?_
          obtain ⟨h38, e_h38, hf⟩ := hf
          refine pu_6_11 (pc := 68) X (fun w h => inM w (inG6 w h)) k165 t1 e_h38 dX6_sign_68 ?_
          refine v_iload_n (pc := 71) X 0 dX6_sign_71 rfl rfl ?_
          exact v_iret (pc := 72) X hr hlk dX6_sign_72 hf
        · replace hf := if_f c hf
          refine v_iconst (pc := 62) X (v := (0 : Int32)) dX6_sign_62 (by decide) ?_
          refine v_goto (pc := 63) X 67 dX6_sign_63 (by decide) ?_
          refine v_iadd (pc := 67) X dX6_sign_67 ?_
          obtain ⟨h39, e_h39, hf⟩ := hf
          refine pu_6_11 (pc := 68) X (fun w h => inM w (inG6 w h)) k165 t1 e_h39 dX6_sign_68 ?_
          refine v_iload_n (pc := 71) X 0 dX6_sign_71 rfl rfl ?_
          exact v_iret (pc := 72) X hr hlk dX6_sign_72 hf
      · replace hf := if_t c hf
        refine v_iconst (pc := 42) X (v := (1 : Int32)) dX6_sign_42 (by decide) ?_
        refine v_goto (pc := 43) X 47 dX6_sign_43 (by decide) ?_
        obtain ⟨h40, e_h40, hf⟩ := hf
        refine pu_6_12 (pc := 47) X (fun w h => inM w (inG6 w h)) k168 t1 (by decide) e_h40 dX6_sign_47 ?_
        refine v_aload_n (pc := 50) X 1 dX6_sign_50 rfl rfl ?_
        refine v_dup (pc := 51) X dX6_sign_51 rfl ?_
        obtain ⟨v41, e_v41, hf⟩ := hf
        refine ge_6_11 (pc := 52) X (fun w h => inM w (inG6 w h)) k165 t1 e_v41 dX6_sign_52 ?_
        refine v_aload_n (pc := 55) X 1 dX6_sign_55 rfl rfl ?_
        obtain ⟨v42, e_v42, hf⟩ := hf
        refine ge_6_12 (pc := 56) X (fun w h => inM w (inG6 w h)) k168 t1 e_v42 dX6_sign_56 ?_
        refine v_if_eq (pc := 59) X 66 dX6_sign_59 (by decide) (fun c => ?_) (fun c => ?_)
        · replace hf := if_t c hf
          refine v_iconst (pc := 66) X (v := (1 : Int32)) dX6_sign_66 (by decide) ?_
          refine v_iadd (pc := 67) X dX6_sign_67 ?_
          obtain ⟨h43, e_h43, hf⟩ := hf
          refine pu_6_11 (pc := 68) X (fun w h => inM w (inG6 w h)) k165 t1 e_h43 dX6_sign_68 ?_
          refine v_iload_n (pc := 71) X 0 dX6_sign_71 rfl rfl ?_
          exact v_iret (pc := 72) X hr hlk dX6_sign_72 hf
        · replace hf := if_f c hf
          refine v_iconst (pc := 62) X (v := (0 : Int32)) dX6_sign_62 (by decide) ?_
          refine v_goto (pc := 63) X 67 dX6_sign_63 (by decide) ?_
          refine v_iadd (pc := 67) X dX6_sign_67 ?_
          obtain ⟨h44, e_h44, hf⟩ := hf
          refine pu_6_11 (pc := 68) X (fun w h => inM w (inG6 w h)) k165 t1 e_h44 dX6_sign_68 ?_
          refine v_iload_n (pc := 71) X 0 dX6_sign_71 rfl rfl ?_
          exact v_iret (pc := 72) X hr hlk dX6_sign_72 hf
set_option maxHeartbeats 4000000 in
set_option maxRecDepth 100000 in
theorem w_X6_number_14 {p : Program} {l : Launch} {e : Env} {s0 : State} {m : MethodId} {args : Array Value} {below : List Frame} {meth : Method} {c : Code} {D : va_G} {cA : Nat → ClassId} {L : List Nat} {sh : Sh} (X : Cx p s0 m c args cX6_number 3 (wM yX6_number cX6_number 3 (some .int)) RX6 (fun q => q ∈ L) D cA L sh) (hr : meth.sig.returnType = (some .int)) (hlk : meth.locks = false) (x0 : Nat) (Xc : Int32 → Hp → Prop) (K : Int32 → Hp → Prop) (hx : ∀ (y1 : Int32) (h1 : Hp), Xc y1 h1 → V p l e (headSpec (wM yX6_number cX6_number 3 (some .int)) ({ frames := 2, cells := 0, slots := 0, locals := 45 } : Room)).room s0 m args below meth c (MQ below (QI D cA L sh K) args s0 0 0 (fun q => q ∈ L)) (fun q => q ∈ L) 0 0 D cA L sh 3 h1 79 [(1, .int y1)] []) : ∀ (n : Nat) (s : Int32 × Int32) (h : Hp), lp (b_X6_number_14 sh x0 Xc) n s h → V p l e (headSpec (wM yX6_number cX6_number 3 (some .int)) ({ frames := 2, cells := 0, slots := 0, locals := 45 } : Room)).room s0 m args below meth c (MQ below (QI D cA L sh K) args s0 0 0 (fun q => q ∈ L)) (fun q => q ∈ L) 0 0 D cA L sh 3 h 14 [(0, .ref x0), (1, .int s.1), (2, .int s.2)] [] := by
  have k168 := X.ht _ (inM _ q_497)
  have k165 := X.ht _ (inM _ q_496)
  have k145 := X.ht _ (inM _ q_492)
  have k22 := X.ht _ (inM _ q_491)
  intro n
  induction n with
  | zero => intro s h hf; exact hf.elim
  | succ n ih =>
    intro s h hf
    replace hf : b_X6_number_14 sh x0 Xc (lp (b_X6_number_14 sh x0 Xc) n) s h := hf
    unfold b_X6_number_14 at hf
    refine v_iload_n (pc := 14) X 2 dX6_number_14 rfl rfl ?_
    refine v_iconst (pc := 15) X (v := (3 : Int32)) dX6_number_15 (by decide) ?_
    refine v_icmp_ge (pc := 16) X 79 dX6_number_16 (by decide) (fun c => ?_) (fun c => ?_)
    · replace hf := if_t c hf
      refine v_sub [1] rfl ?_
      exact hx s.1 h hf
    · replace hf := if_f c hf
      refine v_aload_n (pc := 19) X 0 dX6_number_19 rfl rfl ?_
      obtain ⟨t4, hf⟩ := hf
      obtain ⟨v5, e_v5, hf⟩ := hf
      refine ge_6_12 (pc := 20) X (fun w h => inM w (inG6 w h)) k168 t4 e_v5 dX6_number_20 ?_
      refine v_if_ne (pc := 23) X 79 dX6_number_23 (by decide) (fun c => ?_) (fun c => ?_)
      · replace hf := if_f c hf
        refine v_sub [1] rfl ?_
        exact hx s.1 h hf
      · replace hf := if_t c hf
        refine v_aload_n (pc := 26) X 0 dX6_number_26 rfl rfl ?_
        obtain ⟨v6, e_v6, hf⟩ := hf
        refine ge_6_11 (pc := 27) X (fun w h => inM w (inG6 w h)) k165 t4 e_v6 dX6_number_27 ?_
        refine v_aload_n (pc := 30) X 0 dX6_number_30 rfl rfl ?_
        obtain ⟨v7, e_v7, hf⟩ := hf
        refine ge_6_7 (pc := 31) X (fun w h => inM w (inG6 w h)) k145 t4 e_v7 dX6_number_31 ?_
        refine v_icmp_ge (pc := 34) X 79 dX6_number_34 (by decide) (fun c => ?_) (fun c => ?_)
        · replace hf := if_t c hf
          refine v_sub [1] rfl ?_
          exact hx s.1 h hf
        · replace hf := if_f c hf
          refine v_aload_n (pc := 37) X 0 dX6_number_37 rfl rfl ?_
          obtain ⟨q8, e_q8, hf⟩ := hf
          refine ge_6_6 (pc := 38) X (fun w h => inM w (inG6 w h)) k22 t4 e_q8 dX6_number_38 ?_
          refine v_aload_n (pc := 41) X 0 dX6_number_41 rfl rfl ?_
          obtain ⟨v9, e_v9, hf⟩ := hf
          refine ge_6_11 (pc := 42) X (fun w h => inM w (inG6 w h)) k165 t4 e_v9 dX6_number_42 ?_
          obtain ⟨t10, hf⟩ := hf
          obtain ⟨b12, v11, e_v11, hf⟩ := hf
          refine v_iald (pc := 45) X t10 b12 e_v11 dX6_number_45 ?_
          refine v_bipush (pc := 46) X (v := (48 : Int32)) dX6_number_46 (by decide) ?_
          refine v_bipush (pc := 48) X (v := (57 : Int32)) dX6_number_48 (by decide) ?_
          refine v_callSI (pc := 50) X (As := [.int v11, .int (48 : Int32), .int (57 : Int32)]) (rest := []) (c_X6_in l D cA L sh v11 (48 : Int32) (57 : Int32) h _ hf) (va_cwS 3 X.ht (gwS inM q_533 q_534 q_7 q_535) rfl rfl rfl (by decide +kernel) ⟨Nat.le_of_ble_eq_true rfl, Nat.le_of_ble_eq_true rfl⟩) rfl rfl (Nat.le_of_ble_eq_true rfl) ⟨Nat.zero_le _, Nat.zero_le _⟩ dX6_number_50 (fun r13 h14 hf => ?_)
          refine v_if_eq (pc := 53) X 79 dX6_number_53 (by decide) (fun c => ?_) (fun c => ?_)
          · replace hf := if_t c hf
            refine v_sub [1] rfl ?_
            exact hx s.1 h14 hf
          · replace hf := if_f c hf
            refine v_bipush (pc := 56) X (v := (10 : Int32)) dX6_number_56 (by decide) ?_
            refine v_iload_n (pc := 58) X 1 dX6_number_58 rfl rfl ?_
            refine v_imul (pc := 59) X dX6_number_59 ?_
            refine v_aload_n (pc := 60) X 0 dX6_number_60 rfl rfl ?_
            refine v_bipush (pc := 61) X (v := (48 : Int32)) dX6_number_61 (by decide) ?_
            refine v_bipush (pc := 63) X (v := (57 : Int32)) dX6_number_63 (by decide) ?_
            refine v_callVI (pc := 65) X (As := [.int (48 : Int32), .int (57 : Int32)]) (rest := [.int ((10 : Int32) * s.1)]) (c_X6_sign l D cA L sh x0 (48 : Int32) (57 : Int32) h14 _ hf) (cwV 2 X.ht (gwV inM q_726 q_727 q_783 q_7 q_728) rfl rfl rfl (by decide +kernel) ⟨Nat.le_of_ble_eq_true rfl, Nat.le_of_ble_eq_true rfl⟩) rfl (by decide) t4 (ent_6 t4) rfl rfl (Nat.le_of_ble_eq_true rfl) ⟨Nat.zero_le _, Nat.zero_le _⟩ dX6_number_65 (fun r15 h16 hf => ?_)
            refine v_iadd (pc := 68) X dX6_number_68 ?_
            refine v_bipush (pc := 69) X (v := (48 : Int32)) dX6_number_69 (by decide) ?_
            refine v_isub (pc := 71) X dX6_number_71 ?_
            refine v_istore_n (pc := 72) X (i := 1) (lv' := [(1, .int ((((10 : Int32) * s.1) + r15) - (48 : Int32))), (0, .ref x0), (2, .int s.2)]) dX6_number_72 rfl (Nat.le_of_ble_eq_true rfl) rfl ?_
            refine v_iinc (pc := 73) X 2 (v := s.2 + (1 : Int32)) (lv' := [(2, .int (s.2 + (1 : Int32))), (1, .int ((((10 : Int32) * s.1) + r15) - (48 : Int32))), (0, .ref x0)]) dX6_number_73 rfl rfl (Nat.le_of_ble_eq_true rfl) rfl ?_
            refine v_goto (pc := 76) X 14 dX6_number_76 (by decide) ?_
            refine v_sub [2, 1, 0] rfl ?_
            exact ih ((((10 : Int32) * s.1) + r15) - (48 : Int32), s.2 + (1 : Int32)) h16 hf

set_option maxHeartbeats 4000000 in
set_option maxRecDepth 100000 in
theorem c_X6_number (l : Launch) (D : va_G) (cA : Nat → ClassId) (L : List Nat) (sh : Sh) (a0 : Nat) (h : Hp) (K : Int32 → Hp → Prop) (hf : f_X6_number sh a0 h K) : Met l yX6_number (wM yX6_number cX6_number 3 (some .int)) ({ frames := 2, cells := 0, slots := 0, locals := 45 } : Room) (PreM D cA L sh h [.ref a0]) (QI D cA L sh K) 0 0 (fun q => q ∈ L) := by
  refine met_v (cc := cX6_number) (nL := 3) (ret := (some .int)) [(0, .ref a0)] (by decide) rfl (Nat.le_of_ble_eq_true rfl) rfl ?_
  intro p e s0 m below meth c X hr hlk
  have k168 := X.ht _ (inM _ q_497)
  have k165 := X.ht _ (inM _ q_496)
  have k145 := X.ht _ (inM _ q_492)
  have k22 := X.ht _ (inM _ q_491)
  unfold f_X6_number at hf
  refine v_aload_n (pc := 0) X 0 dX6_number_0 rfl rfl ?_
  refine v_bipush (pc := 1) X (v := (48 : Int32)) dX6_number_1 (by decide) ?_
  refine v_bipush (pc := 3) X (v := (57 : Int32)) dX6_number_3 (by decide) ?_
  obtain ⟨t1, hf⟩ := hf
  refine v_callVI (pc := 5) X (As := [.int (48 : Int32), .int (57 : Int32)]) (rest := []) (c_X6_sign l D cA L sh a0 (48 : Int32) (57 : Int32) h _ hf) (cwV 2 X.ht (gwV inM q_726 q_727 q_783 q_7 q_728) rfl rfl rfl (by decide +kernel) ⟨Nat.le_of_ble_eq_true rfl, Nat.le_of_ble_eq_true rfl⟩) rfl (by decide) t1 (ent_6 t1) rfl rfl (Nat.le_of_ble_eq_true rfl) ⟨Nat.zero_le _, Nat.zero_le _⟩ dX6_number_5 (fun r2 h3 hf => ?_)
  refine v_bipush (pc := 8) X (v := (48 : Int32)) dX6_number_8 (by decide) ?_
  refine v_isub (pc := 10) X dX6_number_10 ?_
  refine v_istore_n (pc := 11) X (i := 1) (lv' := [(1, .int (r2 - (48 : Int32))), (0, .ref a0)]) dX6_number_11 rfl (Nat.le_of_ble_eq_true rfl) rfl ?_
  refine v_iconst (pc := 12) X (v := (1 : Int32)) dX6_number_12 (by decide) ?_
  refine v_istore_n (pc := 13) X (i := 2) (lv' := [(2, .int (1 : Int32)), (1, .int (r2 - (48 : Int32))), (0, .ref a0)]) dX6_number_13 rfl (Nat.le_of_ble_eq_true rfl) rfl ?_
  obtain ⟨n, hf⟩ := hf
  refine v_sub [2, 1, 0] rfl ?_
  refine w_X6_number_14 X hr hlk a0 _ K (fun y17 h18 hf => ?_) n (r2 - (48 : Int32), (1 : Int32)) h3 hf
  refine v_iload_n (pc := 79) X 0 dX6_number_79 rfl rfl ?_
  exact v_iret (pc := 80) X hr hlk dX6_number_80 hf
set_option maxHeartbeats 4000000 in
set_option maxRecDepth 100000 in
theorem jw_X6_read_161 {p : Program} {l : Launch} {e : Env} {s0 : State} {m : MethodId} {args : Array Value} {below : List Frame} {meth : Method} {c : Code} {D : va_G} {cA : Nat → ClassId} {L : List Nat} {sh : Sh} (X : Cx p s0 m c args cX6_read 5 (wM yX6_read cX6_read 5 none) RX6 (fun q => q ∈ L) D cA L sh) (hr : meth.sig.returnType = none) (hlk : meth.locks = false) (x0 : Nat) (K : Hp → Prop) (h : Hp) (hf : j_X6_read_161 sh x0 h K) : V p l e (headSpec (wM yX6_read cX6_read 5 none) ({ frames := 3, cells := 0, slots := 0, locals := 67 } : Room)).room s0 m args below meth c (MQ below (QV D cA L sh K) args s0 0 0 (fun q => q ∈ L)) (fun q => q ∈ L) 0 0 D cA L sh 5 h 161 [(0, .ref x0)] [] := by
  have k165 := X.ht _ (inM _ q_496)
  have k145 := X.ht _ (inM _ q_492)
  have k22 := X.ht _ (inM _ q_491)
  have k168 := X.ht _ (inM _ q_497)
  have k174 := X.ht _ (inM _ q_498)
  have k180 := X.ht _ (inM _ q_499)
  have k183 := X.ht _ (inM _ q_500)
  unfold j_X6_read_161 at hf
  refine v_aload_n (pc := 161) X 0 dX6_read_161 rfl rfl ?_
  refine v_bipush (pc := 162) X (v := (59 : Int32)) dX6_read_162 (by decide) ?_
  refine v_bipush (pc := 164) X (v := (59 : Int32)) dX6_read_164 (by decide) ?_
  obtain ⟨t17, hf⟩ := hf
  refine v_callVI (pc := 166) X (As := [.int (59 : Int32), .int (59 : Int32)]) (rest := []) (c_X6_sign l D cA L sh x0 (59 : Int32) (59 : Int32) h _ hf) (cwV 2 X.ht (gwV inM q_726 q_727 q_783 q_7 q_728) rfl rfl rfl (by decide +kernel) ⟨Nat.le_of_ble_eq_true rfl, Nat.le_of_ble_eq_true rfl⟩) rfl (by decide) t17 (ent_6 t17) rfl rfl (Nat.le_of_ble_eq_true rfl) ⟨Nat.zero_le _, Nat.zero_le _⟩ dX6_read_166 (fun r18 h19 hf => ?_)
  refine v_istore (pc := 169) X (i := 4) (lv' := [(4, .int r18), (0, .ref x0)]) dX6_read_169 (Nat.le_of_ble_eq_true rfl) rfl ?_
  exact v_vret (pc := 171) X hr hlk dX6_read_171 hf

set_option maxHeartbeats 4000000 in
set_option maxRecDepth 100000 in
theorem jw_X6_read_138 {p : Program} {l : Launch} {e : Env} {s0 : State} {m : MethodId} {args : Array Value} {below : List Frame} {meth : Method} {c : Code} {D : va_G} {cA : Nat → ClassId} {L : List Nat} {sh : Sh} (X : Cx p s0 m c args cX6_read 5 (wM yX6_read cX6_read 5 none) RX6 (fun q => q ∈ L) D cA L sh) (hr : meth.sig.returnType = none) (hlk : meth.locks = false) (x0 : Nat) (x2 : Int32) (K : Hp → Prop) (h : Hp) (hf : j_X6_read_138 sh x0 x2 h K) : V p l e (headSpec (wM yX6_read cX6_read 5 none) ({ frames := 3, cells := 0, slots := 0, locals := 67 } : Room)).room s0 m args below meth c (MQ below (QV D cA L sh K) args s0 0 0 (fun q => q ∈ L)) (fun q => q ∈ L) 0 0 D cA L sh 5 h 138 [(0, .ref x0), (2, .int x2)] [] := by
  have k165 := X.ht _ (inM _ q_496)
  have k145 := X.ht _ (inM _ q_492)
  have k22 := X.ht _ (inM _ q_491)
  have k168 := X.ht _ (inM _ q_497)
  have k174 := X.ht _ (inM _ q_498)
  have k180 := X.ht _ (inM _ q_499)
  have k183 := X.ht _ (inM _ q_500)
  unfold j_X6_read_138 at hf
  refine v_aload_n (pc := 138) X 0 dX6_read_138 rfl rfl ?_
  refine v_iload_n (pc := 139) X 1 dX6_read_139 rfl rfl ?_
  refine v_if_eq (pc := 140) X 157 dX6_read_140 (by decide) (fun c => ?_) (fun c => ?_)
  · replace hf := if_t c hf
    refine v_iconst (pc := 157) X (v := (0 : Int32)) dX6_read_157 (by decide) ?_
    obtain ⟨t15, hf⟩ := hf
    obtain ⟨h16, e_h16, hf⟩ := hf
    refine pu_6_15 (pc := 158) X (fun w h => inM w (inG6 w h)) k183 t15 e_h16 dX6_read_158 ?_
    refine v_sub [0] rfl ?_
    exact jw_X6_read_161 X hr hlk x0 K h16 hf
  · replace hf := if_f c hf
    refine v_aload_n (pc := 143) X 0 dX6_read_143 rfl rfl ?_
    obtain ⟨t20, hf⟩ := hf
    obtain ⟨v21, e_v21, hf⟩ := hf
    refine ge_6_12 (pc := 144) X (fun w h => inM w (inG6 w h)) k168 t20 e_v21 dX6_read_144 ?_
    refine v_if_ne (pc := 147) X 157 dX6_read_147 (by decide) (fun c => ?_) (fun c => ?_)
    · replace hf := if_f c hf
      refine v_iconst (pc := 157) X (v := (0 : Int32)) dX6_read_157 (by decide) ?_
      obtain ⟨h22, e_h22, hf⟩ := hf
      refine pu_6_15 (pc := 158) X (fun w h => inM w (inG6 w h)) k183 t20 e_h22 dX6_read_158 ?_
      refine v_sub [0] rfl ?_
      exact jw_X6_read_161 X hr hlk x0 K h22 hf
    · replace hf := if_t c hf
      refine v_aload_n (pc := 150) X 0 dX6_read_150 rfl rfl ?_
      refine v_callVI (pc := 151) X (As := []) (rest := [.ref x0]) (c_X6_number l D cA L sh x0 h _ hf) (cwV 0 X.ht (gwV inM q_723 q_724 q_782 q_7 q_725) rfl rfl rfl (by decide +kernel) ⟨Nat.le_of_ble_eq_true rfl, Nat.le_of_ble_eq_true rfl⟩) rfl (by decide) t20 (ent_6 t20) rfl rfl (Nat.le_of_ble_eq_true rfl) ⟨Nat.zero_le _, Nat.zero_le _⟩ dX6_read_151 (fun r23 h24 hf => ?_)
      refine v_goto (pc := 154) X 158 dX6_read_154 (by decide) ?_
      obtain ⟨h25, e_h25, hf⟩ := hf
      refine pu_6_15 (pc := 158) X (fun w h => inM w (inG6 w h)) k183 t20 e_h25 dX6_read_158 ?_
      refine v_sub [0] rfl ?_
      exact jw_X6_read_161 X hr hlk x0 K h25 hf

set_option maxHeartbeats 4000000 in
set_option maxRecDepth 100000 in
theorem jw_X6_read_121 {p : Program} {l : Launch} {e : Env} {s0 : State} {m : MethodId} {args : Array Value} {below : List Frame} {meth : Method} {c : Code} {D : va_G} {cA : Nat → ClassId} {L : List Nat} {sh : Sh} (X : Cx p s0 m c args cX6_read 5 (wM yX6_read cX6_read 5 none) RX6 (fun q => q ∈ L) D cA L sh) (hr : meth.sig.returnType = none) (hlk : meth.locks = false) (x0 : Nat) (x2 : Int32) (K : Hp → Prop) (h : Hp) (hf : j_X6_read_121 sh x0 x2 h K) : V p l e (headSpec (wM yX6_read cX6_read 5 none) ({ frames := 3, cells := 0, slots := 0, locals := 67 } : Room)).room s0 m args below meth c (MQ below (QV D cA L sh K) args s0 0 0 (fun q => q ∈ L)) (fun q => q ∈ L) 0 0 D cA L sh 5 h 121 [(0, .ref x0), (2, .int x2)] [] := by
  have k165 := X.ht _ (inM _ q_496)
  have k145 := X.ht _ (inM _ q_492)
  have k22 := X.ht _ (inM _ q_491)
  have k168 := X.ht _ (inM _ q_497)
  have k174 := X.ht _ (inM _ q_498)
  have k180 := X.ht _ (inM _ q_499)
  have k183 := X.ht _ (inM _ q_500)
  unfold j_X6_read_121 at hf
  refine v_iload_n (pc := 121) X 1 dX6_read_121 rfl rfl ?_
  refine v_if_eq (pc := 122) X 136 dX6_read_122 (by decide) (fun c => ?_) (fun c => ?_)
  · replace hf := if_t c hf
    refine v_iconst (pc := 136) X (v := (0 : Int32)) dX6_read_136 (by decide) ?_
    refine v_istore_n (pc := 137) X (i := 3) (lv' := [(3, .int (0 : Int32)), (0, .ref x0), (2, .int x2)]) dX6_read_137 rfl (Nat.le_of_ble_eq_true rfl) rfl ?_
    refine v_sub [1, 2] rfl ?_
    exact jw_X6_read_138 X hr hlk x0 x2 K h hf
  · replace hf := if_f c hf
    refine v_aload_n (pc := 125) X 0 dX6_read_125 rfl rfl ?_
    refine v_bipush (pc := 126) X (v := (44 : Int32)) dX6_read_126 (by decide) ?_
    refine v_bipush (pc := 128) X (v := (44 : Int32)) dX6_read_128 (by decide) ?_
    obtain ⟨t26, hf⟩ := hf
    refine v_callVI (pc := 130) X (As := [.int (44 : Int32), .int (44 : Int32)]) (rest := []) (c_X6_sign l D cA L sh x0 (44 : Int32) (44 : Int32) h _ hf) (cwV 2 X.ht (gwV inM q_726 q_727 q_783 q_7 q_728) rfl rfl rfl (by decide +kernel) ⟨Nat.le_of_ble_eq_true rfl, Nat.le_of_ble_eq_true rfl⟩) rfl (by decide) t26 (ent_6 t26) rfl rfl (Nat.le_of_ble_eq_true rfl) ⟨Nat.zero_le _, Nat.zero_le _⟩ dX6_read_130 (fun r27 h28 hf => ?_)
    refine v_goto (pc := 133) X 137 dX6_read_133 (by decide) ?_
    refine v_istore_n (pc := 137) X (i := 3) (lv' := [(3, .int r27), (0, .ref x0), (2, .int x2)]) dX6_read_137 rfl (Nat.le_of_ble_eq_true rfl) rfl ?_
    refine v_sub [1, 2] rfl ?_
    exact jw_X6_read_138 X hr hlk x0 x2 K h28 hf

set_option maxHeartbeats 4000000 in
set_option maxRecDepth 100000 in
theorem jw_X6_read_103 {p : Program} {l : Launch} {e : Env} {s0 : State} {m : MethodId} {args : Array Value} {below : List Frame} {meth : Method} {c : Code} {D : va_G} {cA : Nat → ClassId} {L : List Nat} {sh : Sh} (X : Cx p s0 m c args cX6_read 5 (wM yX6_read cX6_read 5 none) RX6 (fun q => q ∈ L) D cA L sh) (hr : meth.sig.returnType = none) (hlk : meth.locks = false) (x0 : Nat) (x1 : Int32) (K : Hp → Prop) (h : Hp) (hf : j_X6_read_103 sh x0 x1 h K) : V p l e (headSpec (wM yX6_read cX6_read 5 none) ({ frames := 3, cells := 0, slots := 0, locals := 67 } : Room)).room s0 m args below meth c (MQ below (QV D cA L sh K) args s0 0 0 (fun q => q ∈ L)) (fun q => q ∈ L) 0 0 D cA L sh 5 h 103 [(0, .ref x0), (1, .int x1)] [] := by
  have k165 := X.ht _ (inM _ q_496)
  have k145 := X.ht _ (inM _ q_492)
  have k22 := X.ht _ (inM _ q_491)
  have k168 := X.ht _ (inM _ q_497)
  have k174 := X.ht _ (inM _ q_498)
  have k180 := X.ht _ (inM _ q_499)
  have k183 := X.ht _ (inM _ q_500)
  unfold j_X6_read_103 at hf
  refine v_iload_n (pc := 103) X 1 dX6_read_103 rfl rfl ?_
  refine v_bipush (pc := 104) X (v := (99 : Int32)) dX6_read_104 (by decide) ?_
  refine v_icmp_eq (pc := 106) X 115 dX6_read_106 (by decide) (fun c => ?_) (fun c => ?_)
  · replace hf := if_t c hf
    refine v_iconst (pc := 115) X (v := (1 : Int32)) dX6_read_115 (by decide) ?_
    refine v_goto (pc := 116) X 120 dX6_read_116 (by decide) ?_
    refine v_istore_n (pc := 120) X (i := 2) (lv' := [(2, .int (1 : Int32)), (0, .ref x0), (1, .int x1)]) dX6_read_120 rfl (Nat.le_of_ble_eq_true rfl) rfl ?_
    refine v_sub [1, 0] rfl ?_
    exact jw_X6_read_121 X hr hlk x0 (1 : Int32) K h hf
  · replace hf := if_f c hf
    refine v_iload_n (pc := 109) X 1 dX6_read_109 rfl rfl ?_
    refine v_bipush (pc := 110) X (v := (115 : Int32)) dX6_read_110 (by decide) ?_
    refine v_icmp_ne (pc := 112) X 119 dX6_read_112 (by decide) (fun c => ?_) (fun c => ?_)
    · replace hf := if_f c hf
      refine v_iconst (pc := 119) X (v := (0 : Int32)) dX6_read_119 (by decide) ?_
      refine v_istore_n (pc := 120) X (i := 2) (lv' := [(2, .int (0 : Int32)), (0, .ref x0), (1, .int x1)]) dX6_read_120 rfl (Nat.le_of_ble_eq_true rfl) rfl ?_
      refine v_sub [1, 0] rfl ?_
      exact jw_X6_read_121 X hr hlk x0 (0 : Int32) K h hf
    · replace hf := if_t c hf
      refine v_iconst (pc := 115) X (v := (1 : Int32)) dX6_read_115 (by decide) ?_
      refine v_goto (pc := 116) X 120 dX6_read_116 (by decide) ?_
      refine v_istore_n (pc := 120) X (i := 2) (lv' := [(2, .int (1 : Int32)), (0, .ref x0), (1, .int x1)]) dX6_read_120 rfl (Nat.le_of_ble_eq_true rfl) rfl ?_
      refine v_sub [1, 0] rfl ?_
      exact jw_X6_read_121 X hr hlk x0 (1 : Int32) K h hf

set_option maxHeartbeats 4000000 in
set_option maxRecDepth 100000 in
theorem jw_X6_read_58 {p : Program} {l : Launch} {e : Env} {s0 : State} {m : MethodId} {args : Array Value} {below : List Frame} {meth : Method} {c : Code} {D : va_G} {cA : Nat → ClassId} {L : List Nat} {sh : Sh} (X : Cx p s0 m c args cX6_read 5 (wM yX6_read cX6_read 5 none) RX6 (fun q => q ∈ L) D cA L sh) (hr : meth.sig.returnType = none) (hlk : meth.locks = false) (x0 : Nat) (x1 : Int32) (K : Hp → Prop) (h : Hp) (hf : j_X6_read_58 sh x0 x1 h K) : V p l e (headSpec (wM yX6_read cX6_read 5 none) ({ frames := 3, cells := 0, slots := 0, locals := 67 } : Room)).room s0 m args below meth c (MQ below (QV D cA L sh K) args s0 0 0 (fun q => q ∈ L)) (fun q => q ∈ L) 0 0 D cA L sh 5 h 58 [(0, .ref x0), (1, .int x1)] [] := by
  have k165 := X.ht _ (inM _ q_496)
  have k145 := X.ht _ (inM _ q_492)
  have k22 := X.ht _ (inM _ q_491)
  have k168 := X.ht _ (inM _ q_497)
  have k174 := X.ht _ (inM _ q_498)
  have k180 := X.ht _ (inM _ q_499)
  have k183 := X.ht _ (inM _ q_500)
  unfold j_X6_read_58 at hf
  refine v_aload_n (pc := 58) X 0 dX6_read_58 rfl rfl ?_
  refine v_dup (pc := 59) X dX6_read_59 rfl ?_
  obtain ⟨t6, hf⟩ := hf
  obtain ⟨v7, e_v7, hf⟩ := hf
  refine ge_6_11 (pc := 60) X (fun w h => inM w (inG6 w h)) k165 t6 e_v7 dX6_read_60 ?_
  refine v_aload_n (pc := 63) X 0 dX6_read_63 rfl rfl ?_
  obtain ⟨v8, e_v8, hf⟩ := hf
  refine ge_6_12 (pc := 64) X (fun w h => inM w (inG6 w h)) k168 t6 e_v8 dX6_read_64 ?_
  refine v_if_eq (pc := 67) X 74 dX6_read_67 (by decide) (fun c => ?_) (fun c => ?_)
  · replace hf := if_t c hf
    refine v_iconst (pc := 74) X (v := (1 : Int32)) dX6_read_74 (by decide) ?_
    refine v_iadd (pc := 75) X dX6_read_75 ?_
    obtain ⟨h9, e_h9, hf⟩ := hf
    refine pu_6_11 (pc := 76) X (fun w h => inM w (inG6 w h)) k165 t6 e_h9 dX6_read_76 ?_
    refine v_aload_n (pc := 79) X 0 dX6_read_79 rfl rfl ?_
    refine v_iload_n (pc := 80) X 1 dX6_read_80 rfl rfl ?_
    obtain ⟨h10, e_h10, hf⟩ := hf
    refine pu_6_13 (pc := 81) X (fun w h => inM w (inG6 w h)) k174 t6 e_h10 dX6_read_81 ?_
    refine v_aload_n (pc := 84) X 0 dX6_read_84 rfl rfl ?_
    refine v_aload_n (pc := 85) X 0 dX6_read_85 rfl rfl ?_
    obtain ⟨v11, e_v11, hf⟩ := hf
    refine ge_6_12 (pc := 86) X (fun w h => inM w (inG6 w h)) k168 t6 e_v11 dX6_read_86 ?_
    refine v_if_eq (pc := 89) X 96 dX6_read_89 (by decide) (fun c => ?_) (fun c => ?_)
    · replace hf := if_t c hf
      refine v_aload_n (pc := 96) X 0 dX6_read_96 rfl rfl ?_
      refine v_callVI (pc := 97) X (As := []) (rest := [.ref x0]) (c_X6_number l D cA L sh x0 h10 _ hf) (cwV 0 X.ht (gwV inM q_723 q_724 q_782 q_7 q_725) rfl rfl rfl (by decide +kernel) ⟨Nat.le_of_ble_eq_true rfl, Nat.le_of_ble_eq_true rfl⟩) rfl (by decide) t6 (ent_6 t6) rfl rfl (Nat.le_of_ble_eq_true rfl) ⟨Nat.zero_le _, Nat.zero_le _⟩ dX6_read_97 (fun r12 h13 hf => ?_)
      obtain ⟨h14, e_h14, hf⟩ := hf
      refine pu_6_14 (pc := 100) X (fun w h => inM w (inG6 w h)) k180 t6 e_h14 dX6_read_100 ?_
      refine v_sub [0, 1] rfl ?_
      exact jw_X6_read_103 X hr hlk x0 x1 K h14 hf
    · replace hf := if_f c hf
      refine v_iconst (pc := 92) X (v := (0 : Int32)) dX6_read_92 (by decide) ?_
      refine v_goto (pc := 93) X 100 dX6_read_93 (by decide) ?_
      obtain ⟨h29, e_h29, hf⟩ := hf
      refine pu_6_14 (pc := 100) X (fun w h => inM w (inG6 w h)) k180 t6 e_h29 dX6_read_100 ?_
      refine v_sub [0, 1] rfl ?_
      exact jw_X6_read_103 X hr hlk x0 x1 K h29 hf
  · replace hf := if_f c hf
    refine v_iconst (pc := 70) X (v := (0 : Int32)) dX6_read_70 (by decide) ?_
    refine v_goto (pc := 71) X 75 dX6_read_71 (by decide) ?_
    refine v_iadd (pc := 75) X dX6_read_75 ?_
    obtain ⟨h30, e_h30, hf⟩ := hf
    refine pu_6_11 (pc := 76) X (fun w h => inM w (inG6 w h)) k165 t6 e_h30 dX6_read_76 ?_
    refine v_aload_n (pc := 79) X 0 dX6_read_79 rfl rfl ?_
    refine v_iload_n (pc := 80) X 1 dX6_read_80 rfl rfl ?_
    obtain ⟨h31, e_h31, hf⟩ := hf
    refine pu_6_13 (pc := 81) X (fun w h => inM w (inG6 w h)) k174 t6 e_h31 dX6_read_81 ?_
    refine v_aload_n (pc := 84) X 0 dX6_read_84 rfl rfl ?_
    refine v_aload_n (pc := 85) X 0 dX6_read_85 rfl rfl ?_
    obtain ⟨v32, e_v32, hf⟩ := hf
    refine ge_6_12 (pc := 86) X (fun w h => inM w (inG6 w h)) k168 t6 e_v32 dX6_read_86 ?_
    refine v_if_eq (pc := 89) X 96 dX6_read_89 (by decide) (fun c => ?_) (fun c => ?_)
    · replace hf := if_t c hf
      refine v_aload_n (pc := 96) X 0 dX6_read_96 rfl rfl ?_
      refine v_callVI (pc := 97) X (As := []) (rest := [.ref x0]) (c_X6_number l D cA L sh x0 h31 _ hf) (cwV 0 X.ht (gwV inM q_723 q_724 q_782 q_7 q_725) rfl rfl rfl (by decide +kernel) ⟨Nat.le_of_ble_eq_true rfl, Nat.le_of_ble_eq_true rfl⟩) rfl (by decide) t6 (ent_6 t6) rfl rfl (Nat.le_of_ble_eq_true rfl) ⟨Nat.zero_le _, Nat.zero_le _⟩ dX6_read_97 (fun r33 h34 hf => ?_)
      obtain ⟨h35, e_h35, hf⟩ := hf
      refine pu_6_14 (pc := 100) X (fun w h => inM w (inG6 w h)) k180 t6 e_h35 dX6_read_100 ?_
      refine v_sub [0, 1] rfl ?_
      exact jw_X6_read_103 X hr hlk x0 x1 K h35 hf
    · replace hf := if_f c hf
      refine v_iconst (pc := 92) X (v := (0 : Int32)) dX6_read_92 (by decide) ?_
      refine v_goto (pc := 93) X 100 dX6_read_93 (by decide) ?_
      obtain ⟨h36, e_h36, hf⟩ := hf
      refine pu_6_14 (pc := 100) X (fun w h => inM w (inG6 w h)) k180 t6 e_h36 dX6_read_100 ?_
      refine v_sub [0, 1] rfl ?_
      exact jw_X6_read_103 X hr hlk x0 x1 K h36 hf

set_option maxHeartbeats 4000000 in
set_option maxRecDepth 100000 in
theorem jw_X6_read_25 {p : Program} {l : Launch} {e : Env} {s0 : State} {m : MethodId} {args : Array Value} {below : List Frame} {meth : Method} {c : Code} {D : va_G} {cA : Nat → ClassId} {L : List Nat} {sh : Sh} (X : Cx p s0 m c args cX6_read 5 (wM yX6_read cX6_read 5 none) RX6 (fun q => q ∈ L) D cA L sh) (hr : meth.sig.returnType = none) (hlk : meth.locks = false) (x0 : Nat) (x1 : Int32) (K : Hp → Prop) (h : Hp) (hf : j_X6_read_25 sh x0 x1 h K) : V p l e (headSpec (wM yX6_read cX6_read 5 none) ({ frames := 3, cells := 0, slots := 0, locals := 67 } : Room)).room s0 m args below meth c (MQ below (QV D cA L sh K) args s0 0 0 (fun q => q ∈ L)) (fun q => q ∈ L) 0 0 D cA L sh 5 h 25 [(0, .ref x0), (1, .int x1)] [] := by
  have k165 := X.ht _ (inM _ q_496)
  have k145 := X.ht _ (inM _ q_492)
  have k22 := X.ht _ (inM _ q_491)
  have k168 := X.ht _ (inM _ q_497)
  have k174 := X.ht _ (inM _ q_498)
  have k180 := X.ht _ (inM _ q_499)
  have k183 := X.ht _ (inM _ q_500)
  unfold j_X6_read_25 at hf
  refine v_aload_n (pc := 25) X 0 dX6_read_25 rfl rfl ?_
  refine v_iload_n (pc := 26) X 1 dX6_read_26 rfl rfl ?_
  refine v_bipush (pc := 27) X (v := (99 : Int32)) dX6_read_27 (by decide) ?_
  refine v_icmp_eq (pc := 29) X 54 dX6_read_29 (by decide) (fun c => ?_) (fun c => ?_)
  · replace hf := if_t c hf
    refine v_iconst (pc := 54) X (v := (0 : Int32)) dX6_read_54 (by decide) ?_
    obtain ⟨t4, hf⟩ := hf
    obtain ⟨h5, e_h5, hf⟩ := hf
    refine pu_6_12 (pc := 55) X (fun w h => inM w (inG6 w h)) k168 t4 (by decide) e_h5 dX6_read_55 ?_
    refine v_sub [0, 1] rfl ?_
    exact jw_X6_read_58 X hr hlk x0 x1 K h5 hf
  · replace hf := if_f c hf
    refine v_iload_n (pc := 32) X 1 dX6_read_32 rfl rfl ?_
    refine v_bipush (pc := 33) X (v := (115 : Int32)) dX6_read_33 (by decide) ?_
    refine v_icmp_eq (pc := 35) X 54 dX6_read_35 (by decide) (fun c => ?_) (fun c => ?_)
    · replace hf := if_t c hf
      refine v_iconst (pc := 54) X (v := (0 : Int32)) dX6_read_54 (by decide) ?_
      obtain ⟨t37, hf⟩ := hf
      obtain ⟨h38, e_h38, hf⟩ := hf
      refine pu_6_12 (pc := 55) X (fun w h => inM w (inG6 w h)) k168 t37 (by decide) e_h38 dX6_read_55 ?_
      refine v_sub [0, 1] rfl ?_
      exact jw_X6_read_58 X hr hlk x0 x1 K h38 hf
    · replace hf := if_f c hf
      refine v_iload_n (pc := 38) X 1 dX6_read_38 rfl rfl ?_
      refine v_bipush (pc := 39) X (v := (101 : Int32)) dX6_read_39 (by decide) ?_
      refine v_icmp_eq (pc := 41) X 54 dX6_read_41 (by decide) (fun c => ?_) (fun c => ?_)
      · replace hf := if_t c hf
        refine v_iconst (pc := 54) X (v := (0 : Int32)) dX6_read_54 (by decide) ?_
        obtain ⟨t39, hf⟩ := hf
        obtain ⟨h40, e_h40, hf⟩ := hf
        refine pu_6_12 (pc := 55) X (fun w h => inM w (inG6 w h)) k168 t39 (by decide) e_h40 dX6_read_55 ?_
        refine v_sub [0, 1] rfl ?_
        exact jw_X6_read_58 X hr hlk x0 x1 K h40 hf
      · replace hf := if_f c hf
        refine v_iload_n (pc := 44) X 1 dX6_read_44 rfl rfl ?_
        refine v_bipush (pc := 45) X (v := (116 : Int32)) dX6_read_45 (by decide) ?_
        refine v_icmp_eq (pc := 47) X 54 dX6_read_47 (by decide) (fun c => ?_) (fun c => ?_)
        · replace hf := if_t c hf
          refine v_iconst (pc := 54) X (v := (0 : Int32)) dX6_read_54 (by decide) ?_
          obtain ⟨t41, hf⟩ := hf
          obtain ⟨h42, e_h42, hf⟩ := hf
          refine pu_6_12 (pc := 55) X (fun w h => inM w (inG6 w h)) k168 t41 (by decide) e_h42 dX6_read_55 ?_
          refine v_sub [0, 1] rfl ?_
          exact jw_X6_read_58 X hr hlk x0 x1 K h42 hf
        · replace hf := if_f c hf
          refine v_iconst (pc := 50) X (v := (1 : Int32)) dX6_read_50 (by decide) ?_
          refine v_goto (pc := 51) X 55 dX6_read_51 (by decide) ?_
          obtain ⟨t43, hf⟩ := hf
          obtain ⟨h44, e_h44, hf⟩ := hf
          refine pu_6_12 (pc := 55) X (fun w h => inM w (inG6 w h)) k168 t43 (by decide) e_h44 dX6_read_55 ?_
          refine v_sub [0, 1] rfl ?_
          exact jw_X6_read_58 X hr hlk x0 x1 K h44 hf

set_option maxHeartbeats 4000000 in
set_option maxRecDepth 100000 in
theorem c_X6_read (l : Launch) (D : va_G) (cA : Nat → ClassId) (L : List Nat) (sh : Sh) (a0 : Nat) (h : Hp) (K : Hp → Prop) (hf : f_X6_read sh a0 h K) : Met l yX6_read (wM yX6_read cX6_read 5 none) ({ frames := 3, cells := 0, slots := 0, locals := 67 } : Room) (PreM D cA L sh h [.ref a0]) (QV D cA L sh K) 0 0 (fun q => q ∈ L) := by
  refine met_v (cc := cX6_read) (nL := 5) (ret := none) [(0, .ref a0)] (by decide) rfl (Nat.le_of_ble_eq_true rfl) rfl ?_
  intro p e s0 m below meth c X hr hlk
  have k165 := X.ht _ (inM _ q_496)
  have k145 := X.ht _ (inM _ q_492)
  have k22 := X.ht _ (inM _ q_491)
  have k168 := X.ht _ (inM _ q_497)
  have k174 := X.ht _ (inM _ q_498)
  have k180 := X.ht _ (inM _ q_499)
  have k183 := X.ht _ (inM _ q_500)
  unfold f_X6_read at hf
  refine v_aload_n (pc := 0) X 0 dX6_read_0 rfl rfl ?_
  obtain ⟨t1, hf⟩ := hf
  obtain ⟨v2, e_v2, hf⟩ := hf
  refine ge_6_11 (pc := 1) X (fun w h => inM w (inG6 w h)) k165 t1 e_v2 dX6_read_1 ?_
  refine v_aload_n (pc := 4) X 0 dX6_read_4 rfl rfl ?_
  obtain ⟨v3, e_v3, hf⟩ := hf
  refine ge_6_7 (pc := 5) X (fun w h => inM w (inG6 w h)) k145 t1 e_v3 dX6_read_5 ?_
  refine v_icmp_ge (pc := 8) X 23 dX6_read_8 (by decide) (fun c => ?_) (fun c => ?_)
  · replace hf := if_t c hf
    refine v_iconst (pc := 23) X (v := (0 : Int32)) dX6_read_23 (by decide) ?_
    refine v_istore_n (pc := 24) X (i := 1) (lv' := [(1, .int (0 : Int32)), (0, .ref a0)]) dX6_read_24 rfl (Nat.le_of_ble_eq_true rfl) rfl ?_
    refine v_sub [1, 0] rfl ?_
    exact jw_X6_read_25 X hr hlk a0 (0 : Int32) K h hf
  · replace hf := if_f c hf
    refine v_aload_n (pc := 11) X 0 dX6_read_11 rfl rfl ?_
    obtain ⟨q45, e_q45, hf⟩ := hf
    refine ge_6_6 (pc := 12) X (fun w h => inM w (inG6 w h)) k22 t1 e_q45 dX6_read_12 ?_
    refine v_aload_n (pc := 15) X 0 dX6_read_15 rfl rfl ?_
    obtain ⟨v46, e_v46, hf⟩ := hf
    refine ge_6_11 (pc := 16) X (fun w h => inM w (inG6 w h)) k165 t1 e_v46 dX6_read_16 ?_
    obtain ⟨t47, hf⟩ := hf
    obtain ⟨b49, v48, e_v48, hf⟩ := hf
    refine v_iald (pc := 19) X t47 b49 e_v48 dX6_read_19 ?_
    refine v_goto (pc := 20) X 24 dX6_read_20 (by decide) ?_
    refine v_istore_n (pc := 24) X (i := 1) (lv' := [(1, .int v48), (0, .ref a0)]) dX6_read_24 rfl (Nat.le_of_ble_eq_true rfl) rfl ?_
    refine v_sub [1, 0] rfl ?_
    exact jw_X6_read_25 X hr hlk a0 v48 K h hf
set_option maxHeartbeats 4000000 in
set_option maxRecDepth 100000 in
theorem w_X6_go_12 {p : Program} {l : Launch} {e : Env} {s0 : State} {m : MethodId} {args : Array Value} {below : List Frame} {meth : Method} {c : Code} {D : va_G} {cA : Nat → ClassId} {L : List Nat} {sh : Sh} (X : Cx p s0 m c args cX6_go 2 (wM yX6_go cX6_go 2 (some .int)) RX6 (fun q => q ∈ L) D cA L sh) (hr : meth.sig.returnType = (some .int)) (hlk : meth.locks = false) (x0 : Nat) (Xc : Int32 → Hp → Prop) (K : Int32 → Hp → Prop) (hx : ∀ (y1 : Int32) (h1 : Hp), Xc y1 h1 → V p l e (headSpec (wM yX6_go cX6_go 2 (some .int)) ({ frames := 8, cells := 0, slots := 0, locals := 182 } : Room)).room s0 m args below meth c (MQ below (QI D cA L sh K) args s0 0 0 (fun q => q ∈ L)) (fun q => q ∈ L) 0 0 D cA L sh 2 h1 95 [(1, .int y1)] []) : ∀ (n : Nat) (s : Int32) (h : Hp), lp (b_X6_go_12 sh x0 Xc) n s h → V p l e (headSpec (wM yX6_go cX6_go 2 (some .int)) ({ frames := 8, cells := 0, slots := 0, locals := 182 } : Room)).room s0 m args below meth c (MQ below (QI D cA L sh K) args s0 0 0 (fun q => q ∈ L)) (fun q => q ∈ L) 0 0 D cA L sh 2 h 12 [(0, .ref x0), (1, .int s)] [] := by
  have k165 := X.ht _ (inM _ q_496)
  have k186 := X.ht _ (inM _ q_502)
  have k145 := X.ht _ (inM _ q_492)
  have k189 := X.ht _ (inM _ q_501)
  have k168 := X.ht _ (inM _ q_497)
  have k198 := X.ht _ (inM _ q_503)
  intro n
  induction n with
  | zero => intro s h hf; exact hf.elim
  | succ n ih =>
    intro s h hf
    replace hf : b_X6_go_12 sh x0 Xc (lp (b_X6_go_12 sh x0 Xc) n) s h := hf
    unfold b_X6_go_12 at hf
    refine v_aload_n (pc := 12) X 0 dX6_go_12 rfl rfl ?_
    obtain ⟨t4, hf⟩ := hf
    obtain ⟨v5, e_v5, hf⟩ := hf
    refine ge_6_11 (pc := 13) X (fun w h => inM w (inG6 w h)) k165 t4 e_v5 dX6_go_13 ?_
    refine v_aload_n (pc := 16) X 0 dX6_go_16 rfl rfl ?_
    obtain ⟨v6, e_v6, hf⟩ := hf
    refine ge_6_7 (pc := 17) X (fun w h => inM w (inG6 w h)) k145 t4 e_v6 dX6_go_17 ?_
    refine v_icmp_ge (pc := 20) X 95 dX6_go_20 (by decide) (fun c => ?_) (fun c => ?_)
    · replace hf := if_t c hf
      refine v_sub [1] rfl ?_
      exact hx s h hf
    · replace hf := if_f c hf
      refine v_aload_n (pc := 23) X 0 dX6_go_23 rfl rfl ?_
      obtain ⟨v7, e_v7, hf⟩ := hf
      refine ge_6_17 (pc := 24) X (fun w h => inM w (inG6 w h)) k186 t4 e_v7 dX6_go_24 ?_
      refine v_if_ne (pc := 27) X 95 dX6_go_27 (by decide) (fun c => ?_) (fun c => ?_)
      · replace hf := if_f c hf
        refine v_sub [1] rfl ?_
        exact hx s h hf
      · replace hf := if_t c hf
        refine v_aload_n (pc := 30) X 0 dX6_go_30 rfl rfl ?_
        refine v_aload_n (pc := 31) X 0 dX6_go_31 rfl rfl ?_
        obtain ⟨v8, e_v8, hf⟩ := hf
        refine ge_6_11 (pc := 32) X (fun w h => inM w (inG6 w h)) k165 t4 e_v8 dX6_go_32 ?_
        obtain ⟨h9, e_h9, hf⟩ := hf
        refine pu_6_16 (pc := 35) X (fun w h => inM w (inG6 w h)) k189 t4 e_h9 dX6_go_35 ?_
        refine v_aload_n (pc := 38) X 0 dX6_go_38 rfl rfl ?_
        refine v_callVV (pc := 39) X (As := []) (rest := []) (c_X6_read l D cA L sh x0 h9 _ hf) (cwV 0 X.ht (gwV inM q_720 q_721 q_781 q_7 q_722) rfl rfl rfl (by decide +kernel) ⟨Nat.le_of_ble_eq_true rfl, Nat.le_of_ble_eq_true rfl⟩) rfl (by decide) t4 (ent_6 t4) rfl rfl (Nat.le_of_ble_eq_true rfl) ⟨Nat.zero_le _, Nat.zero_le _⟩ dX6_go_39 (fun h11 hf => ?_)
        refine v_aload_n (pc := 42) X 0 dX6_go_42 rfl rfl ?_
        refine v_aload_n (pc := 43) X 0 dX6_go_43 rfl rfl ?_
        obtain ⟨v12, e_v12, hf⟩ := hf
        refine ge_6_12 (pc := 44) X (fun w h => inM w (inG6 w h)) k168 t4 e_v12 dX6_go_44 ?_
        refine v_if_eq (pc := 47) X 55 dX6_go_47 (by decide) (fun c => ?_) (fun c => ?_)
        · replace hf := if_t c hf
          refine v_aload_n (pc := 55) X 0 dX6_go_55 rfl rfl ?_
          refine v_callVI (pc := 56) X (As := []) (rest := [.ref x0]) (c_X6_does l D cA L sh x0 h11 _ hf) (cwV 0 X.ht (gwV inM q_729 q_730 q_784 q_7 q_731) rfl rfl rfl (by decide +kernel) ⟨Nat.le_of_ble_eq_true rfl, Nat.le_of_ble_eq_true rfl⟩) rfl (by decide) t4 (ent_6 t4) rfl rfl (Nat.le_of_ble_eq_true rfl) ⟨Nat.zero_le _, Nat.zero_le _⟩ dX6_go_56 (fun r13 h14 hf => ?_)
          obtain ⟨h15, e_h15, hf⟩ := hf
          refine pu_6_18 (pc := 59) X (fun w h => inM w (inG6 w h)) k198 t4 e_h15 dX6_go_59 ?_
          refine v_aload_n (pc := 62) X 0 dX6_go_62 rfl rfl ?_
          refine v_aload_n (pc := 63) X 0 dX6_go_63 rfl rfl ?_
          obtain ⟨v16, e_v16, hf⟩ := hf
          refine ge_6_12 (pc := 64) X (fun w h => inM w (inG6 w h)) k168 t4 e_v16 dX6_go_64 ?_
          refine v_if_eq (pc := 67) X 74 dX6_go_67 (by decide) (fun c => ?_) (fun c => ?_)
          · replace hf := if_t c hf
            refine v_aload_n (pc := 74) X 0 dX6_go_74 rfl rfl ?_
            obtain ⟨v17, e_v17, hf⟩ := hf
            refine ge_6_18 (pc := 75) X (fun w h => inM w (inG6 w h)) k198 t4 e_v17 dX6_go_75 ?_
            refine v_if_ge (pc := 78) X 85 dX6_go_78 (by decide) (fun c => ?_) (fun c => ?_)
            · replace hf := if_t c hf
              refine v_iconst (pc := 85) X (v := (0 : Int32)) dX6_go_85 (by decide) ?_
              obtain ⟨h18, e_h18, hf⟩ := hf
              refine pu_6_17 (pc := 86) X (fun w h => inM w (inG6 w h)) k186 t4 e_h18 dX6_go_86 ?_
              refine v_iinc (pc := 89) X 1 (v := s + (1 : Int32)) (lv' := [(1, .int (s + (1 : Int32))), (0, .ref x0)]) dX6_go_89 rfl rfl (Nat.le_of_ble_eq_true rfl) rfl ?_
              refine v_goto (pc := 92) X 12 dX6_go_92 (by decide) ?_
              refine v_sub [1, 0] rfl ?_
              exact ih (s + (1 : Int32)) h18 hf
            · replace hf := if_f c hf
              refine v_iconst (pc := 81) X (v := (2 : Int32)) dX6_go_81 (by decide) ?_
              refine v_goto (pc := 82) X 86 dX6_go_82 (by decide) ?_
              obtain ⟨h19, e_h19, hf⟩ := hf
              refine pu_6_17 (pc := 86) X (fun w h => inM w (inG6 w h)) k186 t4 e_h19 dX6_go_86 ?_
              refine v_iinc (pc := 89) X 1 (v := s + (1 : Int32)) (lv' := [(1, .int (s + (1 : Int32))), (0, .ref x0)]) dX6_go_89 rfl rfl (Nat.le_of_ble_eq_true rfl) rfl ?_
              refine v_goto (pc := 92) X 12 dX6_go_92 (by decide) ?_
              refine v_sub [1, 0] rfl ?_
              exact ih (s + (1 : Int32)) h19 hf
          · replace hf := if_f c hf
            refine v_iconst (pc := 70) X (v := (1 : Int32)) dX6_go_70 (by decide) ?_
            refine v_goto (pc := 71) X 86 dX6_go_71 (by decide) ?_
            obtain ⟨h20, e_h20, hf⟩ := hf
            refine pu_6_17 (pc := 86) X (fun w h => inM w (inG6 w h)) k186 t4 e_h20 dX6_go_86 ?_
            refine v_iinc (pc := 89) X 1 (v := s + (1 : Int32)) (lv' := [(1, .int (s + (1 : Int32))), (0, .ref x0)]) dX6_go_89 rfl rfl (Nat.le_of_ble_eq_true rfl) rfl ?_
            refine v_goto (pc := 92) X 12 dX6_go_92 (by decide) ?_
            refine v_sub [1, 0] rfl ?_
            exact ih (s + (1 : Int32)) h20 hf
        · replace hf := if_f c hf
          refine v_bipush (pc := 50) X (v := (-4 : Int32)) dX6_go_50 (by decide) ?_
          refine v_goto (pc := 52) X 59 dX6_go_52 (by decide) ?_
          obtain ⟨h21, e_h21, hf⟩ := hf
          refine pu_6_18 (pc := 59) X (fun w h => inM w (inG6 w h)) k198 t4 e_h21 dX6_go_59 ?_
          refine v_aload_n (pc := 62) X 0 dX6_go_62 rfl rfl ?_
          refine v_aload_n (pc := 63) X 0 dX6_go_63 rfl rfl ?_
          obtain ⟨v22, e_v22, hf⟩ := hf
          refine ge_6_12 (pc := 64) X (fun w h => inM w (inG6 w h)) k168 t4 e_v22 dX6_go_64 ?_
          refine v_if_eq (pc := 67) X 74 dX6_go_67 (by decide) (fun c => ?_) (fun c => ?_)
          · replace hf := if_t c hf
            refine v_aload_n (pc := 74) X 0 dX6_go_74 rfl rfl ?_
            obtain ⟨v23, e_v23, hf⟩ := hf
            refine ge_6_18 (pc := 75) X (fun w h => inM w (inG6 w h)) k198 t4 e_v23 dX6_go_75 ?_
            refine v_if_ge (pc := 78) X 85 dX6_go_78 (by decide) (fun c => ?_) (fun c => ?_)
            · replace hf := if_t c hf
              refine v_iconst (pc := 85) X (v := (0 : Int32)) dX6_go_85 (by decide) ?_
              obtain ⟨h24, e_h24, hf⟩ := hf
              refine pu_6_17 (pc := 86) X (fun w h => inM w (inG6 w h)) k186 t4 e_h24 dX6_go_86 ?_
              refine v_iinc (pc := 89) X 1 (v := s + (1 : Int32)) (lv' := [(1, .int (s + (1 : Int32))), (0, .ref x0)]) dX6_go_89 rfl rfl (Nat.le_of_ble_eq_true rfl) rfl ?_
              refine v_goto (pc := 92) X 12 dX6_go_92 (by decide) ?_
              refine v_sub [1, 0] rfl ?_
              exact ih (s + (1 : Int32)) h24 hf
            · replace hf := if_f c hf
              refine v_iconst (pc := 81) X (v := (2 : Int32)) dX6_go_81 (by decide) ?_
              refine v_goto (pc := 82) X 86 dX6_go_82 (by decide) ?_
              obtain ⟨h25, e_h25, hf⟩ := hf
              refine pu_6_17 (pc := 86) X (fun w h => inM w (inG6 w h)) k186 t4 e_h25 dX6_go_86 ?_
              refine v_iinc (pc := 89) X 1 (v := s + (1 : Int32)) (lv' := [(1, .int (s + (1 : Int32))), (0, .ref x0)]) dX6_go_89 rfl rfl (Nat.le_of_ble_eq_true rfl) rfl ?_
              refine v_goto (pc := 92) X 12 dX6_go_92 (by decide) ?_
              refine v_sub [1, 0] rfl ?_
              exact ih (s + (1 : Int32)) h25 hf
          · replace hf := if_f c hf
            refine v_iconst (pc := 70) X (v := (1 : Int32)) dX6_go_70 (by decide) ?_
            refine v_goto (pc := 71) X 86 dX6_go_71 (by decide) ?_
            obtain ⟨h26, e_h26, hf⟩ := hf
            refine pu_6_17 (pc := 86) X (fun w h => inM w (inG6 w h)) k186 t4 e_h26 dX6_go_86 ?_
            refine v_iinc (pc := 89) X 1 (v := s + (1 : Int32)) (lv' := [(1, .int (s + (1 : Int32))), (0, .ref x0)]) dX6_go_89 rfl rfl (Nat.le_of_ble_eq_true rfl) rfl ?_
            refine v_goto (pc := 92) X 12 dX6_go_92 (by decide) ?_
            refine v_sub [1, 0] rfl ?_
            exact ih (s + (1 : Int32)) h26 hf

set_option maxHeartbeats 4000000 in
set_option maxRecDepth 100000 in
theorem c_X6_go (l : Launch) (D : va_G) (cA : Nat → ClassId) (L : List Nat) (sh : Sh) (a0 : Nat) (h : Hp) (K : Int32 → Hp → Prop) (hf : f_X6_go sh a0 h K) : Met l yX6_go (wM yX6_go cX6_go 2 (some .int)) ({ frames := 8, cells := 0, slots := 0, locals := 182 } : Room) (PreM D cA L sh h [.ref a0]) (QI D cA L sh K) 0 0 (fun q => q ∈ L) := by
  refine met_v (cc := cX6_go) (nL := 2) (ret := (some .int)) [(0, .ref a0)] (by decide) rfl (Nat.le_of_ble_eq_true rfl) rfl ?_
  intro p e s0 m below meth c X hr hlk
  have k165 := X.ht _ (inM _ q_496)
  have k186 := X.ht _ (inM _ q_502)
  have k145 := X.ht _ (inM _ q_492)
  have k189 := X.ht _ (inM _ q_501)
  have k168 := X.ht _ (inM _ q_497)
  have k198 := X.ht _ (inM _ q_503)
  unfold f_X6_go at hf
  refine v_iconst (pc := 0) X (v := (0 : Int32)) dX6_go_0 (by decide) ?_
  refine v_istore_n (pc := 1) X (i := 1) (lv' := [(1, .int (0 : Int32)), (0, .ref a0)]) dX6_go_1 rfl (Nat.le_of_ble_eq_true rfl) rfl ?_
  refine v_aload_n (pc := 2) X 1 dX6_go_2 rfl rfl ?_
  refine v_iconst (pc := 3) X (v := (0 : Int32)) dX6_go_3 (by decide) ?_
  obtain ⟨t1, hf⟩ := hf
  obtain ⟨h2, e_h2, hf⟩ := hf
  refine pu_6_11 (pc := 4) X (fun w h => inM w (inG6 w h)) k165 t1 e_h2 dX6_go_4 ?_
  refine v_aload_n (pc := 7) X 1 dX6_go_7 rfl rfl ?_
  refine v_iconst (pc := 8) X (v := (0 : Int32)) dX6_go_8 (by decide) ?_
  obtain ⟨h3, e_h3, hf⟩ := hf
  refine pu_6_17 (pc := 9) X (fun w h => inM w (inG6 w h)) k186 t1 e_h3 dX6_go_9 ?_
  obtain ⟨n, hf⟩ := hf
  refine v_sub [1, 0] rfl ?_
  refine w_X6_go_12 X hr hlk a0 _ K (fun y27 h28 hf => ?_) n (0 : Int32) h3 hf
  refine v_iload_n (pc := 95) X 0 dX6_go_95 rfl rfl ?_
  exact v_iret (pc := 96) X hr hlk dX6_go_96 hf
set_option maxHeartbeats 4000000 in
set_option maxRecDepth 100000 in
theorem w_X6_putBack_2 {p : Program} {l : Launch} {e : Env} {s0 : State} {m : MethodId} {args : Array Value} {below : List Frame} {meth : Method} {c : Code} {D : va_G} {cA : Nat → ClassId} {L : List Nat} {sh : Sh} (X : Cx p s0 m c args cX6_putBack 2 (wM yX6_putBack cX6_putBack 2 none) RX6 (fun q => q ∈ L) D cA L sh) (hr : meth.sig.returnType = none) (hlk : meth.locks = false) (x0 : Nat) (Xc : Hp → Prop) (K : Hp → Prop) (hx : ∀  (h1 : Hp), Xc  h1 → V p l e (headSpec (wM yX6_putBack cX6_putBack 2 none) ({ frames := 0, cells := 0, slots := 0, locals := 0 } : Room)).room s0 m args below meth c (MQ below (QV D cA L sh K) args s0 0 0 (fun q => q ∈ L)) (fun q => q ∈ L) 0 0 D cA L sh 2 h1 27 [] []) : ∀ (n : Nat) (s : Int32) (h : Hp), lp (b_X6_putBack_2 sh x0 Xc) n s h → V p l e (headSpec (wM yX6_putBack cX6_putBack 2 none) ({ frames := 0, cells := 0, slots := 0, locals := 0 } : Room)).room s0 m args below meth c (MQ below (QV D cA L sh K) args s0 0 0 (fun q => q ∈ L)) (fun q => q ∈ L) 0 0 D cA L sh 2 h 2 [(0, .ref x0), (1, .int s)] [] := by
  have k7 := X.ht _ (inM _ q_485)
  have k13 := X.ht _ (inM _ q_486)
  intro n
  induction n with
  | zero => intro s h hf; exact hf.elim
  | succ n ih =>
    intro s h hf
    replace hf : b_X6_putBack_2 sh x0 Xc (lp (b_X6_putBack_2 sh x0 Xc) n) s h := hf
    unfold b_X6_putBack_2 at hf
    refine v_iload_n (pc := 2) X 1 dX6_putBack_2 rfl rfl ?_
    refine v_sipush (pc := 3) X (v := (623 : Int32)) dX6_putBack_3 (by decide) ?_
    refine v_icmp_ge (pc := 6) X 27 dX6_putBack_6 (by decide) (fun c => ?_) (fun c => ?_)
    · replace hf := if_t c hf
      refine v_sub [] rfl ?_
      exact hx h hf
    · replace hf := if_f c hf
      refine v_aload_n (pc := 9) X 0 dX6_putBack_9 rfl rfl ?_
      obtain ⟨t1, hf⟩ := hf
      obtain ⟨q2, e_q2, hf⟩ := hf
      refine ge_6_0 (pc := 10) X (fun w h => inM w (inG6 w h)) k7 t1 e_q2 dX6_putBack_10 ?_
      refine v_iload_n (pc := 13) X 1 dX6_putBack_13 rfl rfl ?_
      refine v_aload_n (pc := 14) X 0 dX6_putBack_14 rfl rfl ?_
      obtain ⟨q3, e_q3, hf⟩ := hf
      refine ge_6_1 (pc := 15) X (fun w h => inM w (inG6 w h)) k13 t1 e_q3 dX6_putBack_15 ?_
      refine v_iload_n (pc := 18) X 1 dX6_putBack_18 rfl rfl ?_
      obtain ⟨t4, hf⟩ := hf
      obtain ⟨b6, v5, e_v5, hf⟩ := hf
      refine v_iald (pc := 19) X t4 b6 e_v5 dX6_putBack_19 ?_
      obtain ⟨t7, hf⟩ := hf
      obtain ⟨b9, h8, e_h8, hf⟩ := hf
      refine v_iast (pc := 20) X t7 b9 e_h8 dX6_putBack_20 ?_
      refine v_iinc (pc := 21) X 1 (v := s + (1 : Int32)) (lv' := [(1, .int (s + (1 : Int32))), (0, .ref x0)]) dX6_putBack_21 rfl rfl (Nat.le_of_ble_eq_true rfl) rfl ?_
      refine v_goto (pc := 24) X 2 dX6_putBack_24 (by decide) ?_
      refine v_sub [1, 0] rfl ?_
      exact ih (s + (1 : Int32)) h8 hf

set_option maxHeartbeats 4000000 in
set_option maxRecDepth 100000 in
theorem c_X6_putBack (l : Launch) (D : va_G) (cA : Nat → ClassId) (L : List Nat) (sh : Sh) (a0 : Nat) (h : Hp) (K : Hp → Prop) (hf : f_X6_putBack sh a0 h K) : Met l yX6_putBack (wM yX6_putBack cX6_putBack 2 none) ({ frames := 0, cells := 0, slots := 0, locals := 0 } : Room) (PreM D cA L sh h [.ref a0]) (QV D cA L sh K) 0 0 (fun q => q ∈ L) := by
  refine met_v (cc := cX6_putBack) (nL := 2) (ret := none) [(0, .ref a0)] (by decide) rfl (Nat.le_of_ble_eq_true rfl) rfl ?_
  intro p e s0 m below meth c X hr hlk
  have k7 := X.ht _ (inM _ q_485)
  have k13 := X.ht _ (inM _ q_486)
  unfold f_X6_putBack at hf
  refine v_iconst (pc := 0) X (v := (0 : Int32)) dX6_putBack_0 (by decide) ?_
  refine v_istore_n (pc := 1) X (i := 1) (lv' := [(1, .int (0 : Int32)), (0, .ref a0)]) dX6_putBack_1 rfl (Nat.le_of_ble_eq_true rfl) rfl ?_
  obtain ⟨n, hf⟩ := hf
  refine v_sub [1, 0] rfl ?_
  refine w_X6_putBack_2 X hr hlk a0 _ K (fun  h10 hf => ?_) n (0 : Int32) h hf
  exact v_vret (pc := 27) X hr hlk dX6_putBack_27 hf
set_option maxHeartbeats 4000000 in
set_option maxRecDepth 100000 in
theorem c_X6_look (l : Launch) (D : va_G) (cA : Nat → ClassId) (L : List Nat) (sh : Sh) (a0 : Nat) (h : Hp) (K : Hp → Prop) (hf : f_X6_look sh a0 h K) : Met l yX6_look (wM yX6_look cX6_look 2 none) ({ frames := 9, cells := 0, slots := 0, locals := 203 } : Room) (PreM D cA L sh h [.ref a0]) (QV D cA L sh K) 0 0 (fun q => q ∈ L) := by
  refine met_v (cc := cX6_look) (nL := 2) (ret := none) [(0, .ref a0)] (by decide) rfl (Nat.le_of_ble_eq_true rfl) rfl ?_
  intro p e s0 m below meth c X hr hlk
  unfold f_X6_look at hf
  refine v_aload_n (pc := 0) X 0 dX6_look_0 rfl rfl ?_
  obtain ⟨t1, hf⟩ := hf
  refine v_callVV (pc := 1) X (As := []) (rest := []) (c_X6_putAside l D cA L sh a0 h _ hf) (cwV 0 X.ht (gwV inM q_576 q_577 q_757 q_7 q_578) rfl rfl rfl (by decide +kernel) ⟨Nat.le_of_ble_eq_true rfl, Nat.le_of_ble_eq_true rfl⟩) rfl (by decide) t1 (ent_6 t1) rfl rfl (Nat.le_of_ble_eq_true rfl) ⟨Nat.zero_le _, Nat.zero_le _⟩ dX6_look_1 (fun h3 hf => ?_)
  refine v_aload_n (pc := 4) X 0 dX6_look_4 rfl rfl ?_
  refine v_callVI (pc := 5) X (As := []) (rest := []) (c_X6_go l D cA L sh a0 h3 _ hf) (cwV 0 X.ht (gwV inM q_717 q_718 q_780 q_7 q_719) rfl rfl rfl (by decide +kernel) ⟨Nat.le_of_ble_eq_true rfl, Nat.le_of_ble_eq_true rfl⟩) rfl (by decide) t1 (ent_6 t1) rfl rfl (Nat.le_of_ble_eq_true rfl) ⟨Nat.zero_le _, Nat.zero_le _⟩ dX6_look_5 (fun r4 h5 hf => ?_)
  refine v_istore_n (pc := 8) X (i := 1) (lv' := [(1, .int r4), (0, .ref a0)]) dX6_look_8 rfl (Nat.le_of_ble_eq_true rfl) rfl ?_
  refine v_aload_n (pc := 9) X 1 dX6_look_9 rfl rfl ?_
  refine v_callVV (pc := 10) X (As := []) (rest := []) (c_X6_putBack l D cA L sh a0 h5 _ hf) (cwV 0 X.ht (gwV inM q_600 q_601 q_765 q_7 q_602) rfl rfl rfl (by decide +kernel) ⟨Nat.le_of_ble_eq_true rfl, Nat.le_of_ble_eq_true rfl⟩) rfl (by decide) t1 (ent_6 t1) rfl rfl (Nat.le_of_ble_eq_true rfl) ⟨Nat.zero_le _, Nat.zero_le _⟩ dX6_look_10 (fun h7 hf => ?_)
  exact v_vret (pc := 13) X hr hlk dX6_look_13 hf
set_option maxHeartbeats 4000000 in
set_option maxRecDepth 100000 in
theorem c_X6_fault (l : Launch) (D : va_G) (cA : Nat → ClassId) (L : List Nat) (sh : Sh) (a0 : Nat) (p1 : Int32) (h : Hp) (K : Int32 → Hp → Prop) (hf : f_X6_fault sh a0 p1 h K) : Met l yX6_fault (wM yX6_fault cX6_fault 2 (some .int)) ({ frames := 10, cells := 0, slots := 0, locals := 224 } : Room) (PreM D cA L sh h [.ref a0, .int p1]) (QI D cA L sh K) 0 0 (fun q => q ∈ L) := by
  refine met_v (cc := cX6_fault) (nL := 2) (ret := (some .int)) [(0, .ref a0), (1, .int p1)] (by decide) rfl (Nat.le_of_ble_eq_true rfl) rfl ?_
  intro p e s0 m below meth c X hr hlk
  have k186 := X.ht _ (inM _ q_502)
  have k189 := X.ht _ (inM _ q_501)
  have k198 := X.ht _ (inM _ q_503)
  unfold f_X6_fault at hf
  refine v_iload_n (pc := 0) X 1 dX6_fault_0 rfl rfl ?_
  refine v_iconst (pc := 1) X (v := (0 : Int32)) dX6_fault_1 (by decide) ?_
  refine v_iconst (pc := 2) X (v := (2 : Int32)) dX6_fault_2 (by decide) ?_
  refine v_callSI (pc := 3) X (As := [.int p1, .int (0 : Int32), .int (2 : Int32)]) (rest := []) (c_X6_in l D cA L sh p1 (0 : Int32) (2 : Int32) h _ hf) (va_cwS 3 X.ht (gwS inM q_533 q_534 q_7 q_535) rfl rfl rfl (by decide +kernel) ⟨Nat.le_of_ble_eq_true rfl, Nat.le_of_ble_eq_true rfl⟩) rfl rfl (Nat.le_of_ble_eq_true rfl) ⟨Nat.zero_le _, Nat.zero_le _⟩ dX6_fault_3 (fun r1 h2 hf => ?_)
  refine v_if_ne (pc := 6) X 11 dX6_fault_6 (by decide) (fun c => ?_) (fun c => ?_)
  · replace hf := if_f c hf
    refine v_aload_n (pc := 11) X 0 dX6_fault_11 rfl rfl ?_
    obtain ⟨t3, hf⟩ := hf
    refine v_callVV (pc := 12) X (As := []) (rest := []) (c_X6_look l D cA L sh a0 h2 _ hf) (cwV 0 X.ht (gwV inM q_714 q_715 q_779 q_7 q_716) rfl rfl rfl (by decide +kernel) ⟨Nat.le_of_ble_eq_true rfl, Nat.le_of_ble_eq_true rfl⟩) rfl (by decide) t3 (ent_6 t3) rfl rfl (Nat.le_of_ble_eq_true rfl) ⟨Nat.zero_le _, Nat.zero_le _⟩ dX6_fault_12 (fun h5 hf => ?_)
    refine v_aload_n (pc := 15) X 0 dX6_fault_15 rfl rfl ?_
    obtain ⟨v6, e_v6, hf⟩ := hf
    refine ge_6_17 (pc := 16) X (fun w h => inM w (inG6 w h)) k186 t3 e_v6 dX6_fault_16 ?_
    refine v_if_ne (pc := 19) X 27 dX6_fault_19 (by decide) (fun c => ?_) (fun c => ?_)
    · replace hf := if_f c hf
      refine v_iload_n (pc := 27) X 1 dX6_fault_27 rfl rfl ?_
      refine v_if_ne (pc := 28) X 38 dX6_fault_28 (by decide) (fun c => ?_) (fun c => ?_)
      · replace hf := if_f c hf
        refine v_iload_n (pc := 38) X 1 dX6_fault_38 rfl rfl ?_
        refine v_iconst (pc := 39) X (v := (1 : Int32)) dX6_fault_39 (by decide) ?_
        refine v_icmp_ne (pc := 40) X 50 dX6_fault_40 (by decide) (fun c => ?_) (fun c => ?_)
        · replace hf := if_f c hf
          refine v_aload_n (pc := 50) X 0 dX6_fault_50 rfl rfl ?_
          obtain ⟨v7, e_v7, hf⟩ := hf
          refine ge_6_18 (pc := 51) X (fun w h => inM w (inG6 w h)) k198 t3 e_v7 dX6_fault_51 ?_
          exact v_iret (pc := 54) X hr hlk dX6_fault_54 hf
        · replace hf := if_t c hf
          refine v_aload_n (pc := 43) X 0 dX6_fault_43 rfl rfl ?_
          obtain ⟨v8, e_v8, hf⟩ := hf
          refine ge_6_17 (pc := 44) X (fun w h => inM w (inG6 w h)) k186 t3 e_v8 dX6_fault_44 ?_
          refine v_goto (pc := 47) X 54 dX6_fault_47 (by decide) ?_
          exact v_iret (pc := 54) X hr hlk dX6_fault_54 hf
      · replace hf := if_t c hf
        refine v_aload_n (pc := 31) X 0 dX6_fault_31 rfl rfl ?_
        obtain ⟨v9, e_v9, hf⟩ := hf
        refine ge_6_16 (pc := 32) X (fun w h => inM w (inG6 w h)) k189 t3 e_v9 dX6_fault_32 ?_
        refine v_goto (pc := 35) X 54 dX6_fault_35 (by decide) ?_
        exact v_iret (pc := 54) X hr hlk dX6_fault_54 hf
    · replace hf := if_t c hf
      refine v_bipush (pc := 22) X (v := (-4 : Int32)) dX6_fault_22 (by decide) ?_
      refine v_goto (pc := 24) X 54 dX6_fault_24 (by decide) ?_
      exact v_iret (pc := 54) X hr hlk dX6_fault_54 hf
  · replace hf := if_t c hf
    refine v_iconst (pc := 9) X (v := (-1 : Int32)) dX6_fault_9 (by decide) ?_
    exact v_iret (pc := 10) X hr hlk dX6_fault_10 hf
set_option maxHeartbeats 4000000 in
set_option maxRecDepth 100000 in
theorem w_X6_hands_4 {p : Program} {l : Launch} {e : Env} {s0 : State} {m : MethodId} {args : Array Value} {below : List Frame} {meth : Method} {c : Code} {D : va_G} {cA : Nat → ClassId} {L : List Nat} {sh : Sh} (X : Cx p s0 m c args cX6_hands 4 (wM yX6_hands cX6_hands 4 (some .int)) RX6 (fun q => q ∈ L) D cA L sh) (hr : meth.sig.returnType = (some .int)) (hlk : meth.locks = false) (x0 : Nat) (x1 : Int32) (Xc : Int32 → Hp → Prop) (K : Int32 → Hp → Prop) (hx : ∀ (y2 : Int32) (h1 : Hp), Xc y2 h1 → V p l e (headSpec (wM yX6_hands cX6_hands 4 (some .int)) ({ frames := 3, cells := 0, slots := 0, locals := 69 } : Room)).room s0 m args below meth c (MQ below (QI D cA L sh K) args s0 0 0 (fun q => q ∈ L)) (fun q => q ∈ L) 0 0 D cA L sh 4 h1 33 [(2, .int y2)] []) : ∀ (n : Nat) (s : Int32 × Int32) (h : Hp), lp (b_X6_hands_4 sh x0 x1 Xc) n s h → V p l e (headSpec (wM yX6_hands cX6_hands 4 (some .int)) ({ frames := 3, cells := 0, slots := 0, locals := 69 } : Room)).room s0 m args below meth c (MQ below (QI D cA L sh K) args s0 0 0 (fun q => q ∈ L)) (fun q => q ∈ L) 0 0 D cA L sh 4 h 4 [(0, .ref x0), (1, .int x1), (2, .int s.1), (3, .int s.2)] [] := by
  intro n
  induction n with
  | zero => intro s h hf; exact hf.elim
  | succ n ih =>
    intro s h hf
    replace hf : b_X6_hands_4 sh x0 x1 Xc (lp (b_X6_hands_4 sh x0 x1 Xc) n) s h := hf
    unfold b_X6_hands_4 at hf
    refine v_iload_n (pc := 4) X 3 dX6_hands_4 rfl rfl ?_
    refine v_iconst (pc := 5) X (v := (4 : Int32)) dX6_hands_5 (by decide) ?_
    refine v_icmp_ge (pc := 6) X 33 dX6_hands_6 (by decide) (fun c => ?_) (fun c => ?_)
    · replace hf := if_t c hf
      refine v_sub [2] rfl ?_
      exact hx s.1 h hf
    · replace hf := if_f c hf
      refine v_iload_n (pc := 9) X 2 dX6_hands_9 rfl rfl ?_
      refine v_aload_n (pc := 10) X 0 dX6_hands_10 rfl rfl ?_
      refine v_iload_n (pc := 11) X 3 dX6_hands_11 rfl rfl ?_
      refine v_iload_n (pc := 12) X 1 dX6_hands_12 rfl rfl ?_
      refine v_iconst (pc := 13) X (v := (-1 : Int32)) dX6_hands_13 (by decide) ?_
      obtain ⟨t1, hf⟩ := hf
      refine v_callVI (pc := 14) X (As := [.int s.2, .int x1, .int (-1 : Int32)]) (rest := [.int s.1]) (c_X6_entryOf l D cA L sh x0 s.2 x1 (-1 : Int32) h _ hf) (cwV 3 X.ht (gwV inM q_585 q_586 q_760 q_7 q_587) rfl rfl rfl (by decide +kernel) ⟨Nat.le_of_ble_eq_true rfl, Nat.le_of_ble_eq_true rfl⟩) rfl (by decide) t1 (ent_6 t1) rfl rfl (Nat.le_of_ble_eq_true rfl) ⟨Nat.zero_le _, Nat.zero_le _⟩ dX6_hands_14 (fun r2 h3 hf => ?_)
      refine v_if_ge (pc := 17) X 24 dX6_hands_17 (by decide) (fun c => ?_) (fun c => ?_)
      · replace hf := if_t c hf
        refine v_iconst (pc := 24) X (v := (1 : Int32)) dX6_hands_24 (by decide) ?_
        refine v_iadd (pc := 25) X dX6_hands_25 ?_
        refine v_istore_n (pc := 26) X (i := 2) (lv' := [(2, .int (s.1 + (1 : Int32))), (0, .ref x0), (1, .int x1), (3, .int s.2)]) dX6_hands_26 rfl (Nat.le_of_ble_eq_true rfl) rfl ?_
        refine v_iinc (pc := 27) X 3 (v := s.2 + (1 : Int32)) (lv' := [(3, .int (s.2 + (1 : Int32))), (2, .int (s.1 + (1 : Int32))), (0, .ref x0), (1, .int x1)]) dX6_hands_27 rfl rfl (Nat.le_of_ble_eq_true rfl) rfl ?_
        refine v_goto (pc := 30) X 4 dX6_hands_30 (by decide) ?_
        refine v_sub [2, 3, 1, 0] rfl ?_
        exact ih (s.1 + (1 : Int32), s.2 + (1 : Int32)) h3 hf
      · replace hf := if_f c hf
        refine v_iconst (pc := 20) X (v := (0 : Int32)) dX6_hands_20 (by decide) ?_
        refine v_goto (pc := 21) X 25 dX6_hands_21 (by decide) ?_
        refine v_iadd (pc := 25) X dX6_hands_25 ?_
        refine v_istore_n (pc := 26) X (i := 2) (lv' := [(2, .int (s.1 + (0 : Int32))), (0, .ref x0), (1, .int x1), (3, .int s.2)]) dX6_hands_26 rfl (Nat.le_of_ble_eq_true rfl) rfl ?_
        refine v_iinc (pc := 27) X 3 (v := s.2 + (1 : Int32)) (lv' := [(3, .int (s.2 + (1 : Int32))), (2, .int (s.1 + (0 : Int32))), (0, .ref x0), (1, .int x1)]) dX6_hands_27 rfl rfl (Nat.le_of_ble_eq_true rfl) rfl ?_
        refine v_goto (pc := 30) X 4 dX6_hands_30 (by decide) ?_
        refine v_sub [2, 3, 1, 0] rfl ?_
        exact ih (s.1 + (0 : Int32), s.2 + (1 : Int32)) h3 hf

set_option maxHeartbeats 4000000 in
set_option maxRecDepth 100000 in
theorem c_X6_hands (l : Launch) (D : va_G) (cA : Nat → ClassId) (L : List Nat) (sh : Sh) (a0 : Nat) (p1 : Int32) (h : Hp) (K : Int32 → Hp → Prop) (hf : f_X6_hands sh a0 p1 h K) : Met l yX6_hands (wM yX6_hands cX6_hands 4 (some .int)) ({ frames := 3, cells := 0, slots := 0, locals := 69 } : Room) (PreM D cA L sh h [.ref a0, .int p1]) (QI D cA L sh K) 0 0 (fun q => q ∈ L) := by
  refine met_v (cc := cX6_hands) (nL := 4) (ret := (some .int)) [(0, .ref a0), (1, .int p1)] (by decide) rfl (Nat.le_of_ble_eq_true rfl) rfl ?_
  intro p e s0 m below meth c X hr hlk
  unfold f_X6_hands at hf
  refine v_iconst (pc := 0) X (v := (0 : Int32)) dX6_hands_0 (by decide) ?_
  refine v_istore_n (pc := 1) X (i := 2) (lv' := [(2, .int (0 : Int32)), (0, .ref a0), (1, .int p1)]) dX6_hands_1 rfl (Nat.le_of_ble_eq_true rfl) rfl ?_
  refine v_iconst (pc := 2) X (v := (0 : Int32)) dX6_hands_2 (by decide) ?_
  refine v_istore_n (pc := 3) X (i := 3) (lv' := [(3, .int (0 : Int32)), (2, .int (0 : Int32)), (0, .ref a0), (1, .int p1)]) dX6_hands_3 rfl (Nat.le_of_ble_eq_true rfl) rfl ?_
  obtain ⟨n, hf⟩ := hf
  refine v_sub [2, 3, 1, 0] rfl ?_
  refine w_X6_hands_4 X hr hlk a0 p1 _ K (fun y4 h5 hf => ?_) n ((0 : Int32), (0 : Int32)) h hf
  refine v_iload_n (pc := 33) X 0 dX6_hands_33 rfl rfl ?_
  exact v_iret (pc := 34) X hr hlk dX6_hands_34 hf
set_option maxHeartbeats 4000000 in
set_option maxRecDepth 100000 in
theorem c_X6_inTheWay (l : Launch) (D : va_G) (cA : Nat → ClassId) (L : List Nat) (sh : Sh) (a0 : Nat) (p1 : Int32) (h : Hp) (K : Int32 → Hp → Prop) (hf : f_X6_inTheWay sh a0 p1 h K) : Met l yX6_inTheWay (wM yX6_inTheWay cX6_inTheWay 2 (some .int)) ({ frames := 2, cells := 0, slots := 0, locals := 45 } : Room) (PreM D cA L sh h [.ref a0, .int p1]) (QI D cA L sh K) 0 0 (fun q => q ∈ L) := by
  refine met_v (cc := cX6_inTheWay) (nL := 2) (ret := (some .int)) [(0, .ref a0), (1, .int p1)] (by decide) rfl (Nat.le_of_ble_eq_true rfl) rfl ?_
  intro p e s0 m below meth c X hr hlk
  unfold f_X6_inTheWay at hf
  refine v_iload_n (pc := 0) X 1 dX6_inTheWay_0 rfl rfl ?_
  refine v_callSI (pc := 1) X (As := [.int p1]) (rest := []) (c_X6_isTable l D cA L sh p1 h _ hf) (va_cwS 1 X.ht (gwS inM q_530 q_531 q_7 q_532) rfl rfl rfl (by decide +kernel) ⟨Nat.le_of_ble_eq_true rfl, Nat.le_of_ble_eq_true rfl⟩) rfl rfl (Nat.le_of_ble_eq_true rfl) ⟨Nat.zero_le _, Nat.zero_le _⟩ dX6_inTheWay_1 (fun r1 h2 hf => ?_)
  refine v_if_eq (pc := 4) X 15 dX6_inTheWay_4 (by decide) (fun c => ?_) (fun c => ?_)
  · replace hf := if_t c hf
    refine v_iconst (pc := 15) X (v := (-1 : Int32)) dX6_inTheWay_15 (by decide) ?_
    exact v_iret (pc := 16) X hr hlk dX6_inTheWay_16 hf
  · replace hf := if_f c hf
    refine v_aload_n (pc := 7) X 0 dX6_inTheWay_7 rfl rfl ?_
    refine v_iload_n (pc := 8) X 1 dX6_inTheWay_8 rfl rfl ?_
    obtain ⟨t3, hf⟩ := hf
    refine v_callVI (pc := 9) X (As := [.int p1]) (rest := []) (c_X6_inWay l D cA L sh a0 p1 h2 _ hf) (cwV 1 X.ht (gwV inM q_536 q_537 q_749 q_7 q_538) rfl rfl rfl (by decide +kernel) ⟨Nat.le_of_ble_eq_true rfl, Nat.le_of_ble_eq_true rfl⟩) rfl (by decide) t3 (ent_6 t3) rfl rfl (Nat.le_of_ble_eq_true rfl) ⟨Nat.zero_le _, Nat.zero_le _⟩ dX6_inTheWay_9 (fun r4 h5 hf => ?_)
    refine v_goto (pc := 12) X 16 dX6_inTheWay_12 (by decide) ?_
    exact v_iret (pc := 16) X hr hlk dX6_inTheWay_16 hf
set_option maxHeartbeats 4000000 in
set_option maxRecDepth 100000 in
theorem w_X6_keep_2 {p : Program} {l : Launch} {e : Env} {s0 : State} {m : MethodId} {args : Array Value} {below : List Frame} {meth : Method} {c : Code} {D : va_G} {cA : Nat → ClassId} {L : List Nat} {sh : Sh} (X : Cx p s0 m c args cX6_keep 2 (wM yX6_keep cX6_keep 2 (some .int)) RX6 (fun q => q ∈ L) D cA L sh) (hr : meth.sig.returnType = (some .int)) (hlk : meth.locks = false) (x0 : Nat) (Xc : Hp → Prop) (K : Int32 → Hp → Prop) (hx : ∀  (h1 : Hp), Xc  h1 → V p l e (headSpec (wM yX6_keep cX6_keep 2 (some .int)) ({ frames := 0, cells := 0, slots := 0, locals := 0 } : Room)).room s0 m args below meth c (MQ below (QI D cA L sh K) args s0 0 0 (fun q => q ∈ L)) (fun q => q ∈ L) 0 0 D cA L sh 2 h1 27 [(0, .ref x0)] []) : ∀ (n : Nat) (s : Int32) (h : Hp), lp (b_X6_keep_2 sh x0 Xc) n s h → V p l e (headSpec (wM yX6_keep cX6_keep 2 (some .int)) ({ frames := 0, cells := 0, slots := 0, locals := 0 } : Room)).room s0 m args below meth c (MQ below (QI D cA L sh K) args s0 0 0 (fun q => q ∈ L)) (fun q => q ∈ L) 0 0 D cA L sh 2 h 2 [(0, .ref x0), (1, .int s)] [] := by
  have k19 := X.ht _ (inM _ q_489)
  have k7 := X.ht _ (inM _ q_485)
  have k148 := X.ht _ (inM _ q_490)
  intro n
  induction n with
  | zero => intro s h hf; exact hf.elim
  | succ n ih =>
    intro s h hf
    replace hf : b_X6_keep_2 sh x0 Xc (lp (b_X6_keep_2 sh x0 Xc) n) s h := hf
    unfold b_X6_keep_2 at hf
    refine v_iload_n (pc := 2) X 1 dX6_keep_2 rfl rfl ?_
    refine v_sipush (pc := 3) X (v := (623 : Int32)) dX6_keep_3 (by decide) ?_
    refine v_icmp_ge (pc := 6) X 27 dX6_keep_6 (by decide) (fun c => ?_) (fun c => ?_)
    · replace hf := if_t c hf
      refine v_sub [0] rfl ?_
      exact hx h hf
    · replace hf := if_f c hf
      refine v_aload_n (pc := 9) X 0 dX6_keep_9 rfl rfl ?_
      obtain ⟨t1, hf⟩ := hf
      obtain ⟨q2, e_q2, hf⟩ := hf
      refine ge_6_4 (pc := 10) X (fun w h => inM w (inG6 w h)) k19 t1 e_q2 dX6_keep_10 ?_
      refine v_iload_n (pc := 13) X 1 dX6_keep_13 rfl rfl ?_
      refine v_aload_n (pc := 14) X 0 dX6_keep_14 rfl rfl ?_
      obtain ⟨q3, e_q3, hf⟩ := hf
      refine ge_6_0 (pc := 15) X (fun w h => inM w (inG6 w h)) k7 t1 e_q3 dX6_keep_15 ?_
      refine v_iload_n (pc := 18) X 1 dX6_keep_18 rfl rfl ?_
      obtain ⟨t4, hf⟩ := hf
      obtain ⟨b6, v5, e_v5, hf⟩ := hf
      refine v_iald (pc := 19) X t4 b6 e_v5 dX6_keep_19 ?_
      obtain ⟨t7, hf⟩ := hf
      obtain ⟨b9, h8, e_h8, hf⟩ := hf
      refine v_iast (pc := 20) X t7 b9 e_h8 dX6_keep_20 ?_
      refine v_iinc (pc := 21) X 1 (v := s + (1 : Int32)) (lv' := [(1, .int (s + (1 : Int32))), (0, .ref x0)]) dX6_keep_21 rfl rfl (Nat.le_of_ble_eq_true rfl) rfl ?_
      refine v_goto (pc := 24) X 2 dX6_keep_24 (by decide) ?_
      refine v_sub [1, 0] rfl ?_
      exact ih (s + (1 : Int32)) h8 hf

set_option maxHeartbeats 4000000 in
set_option maxRecDepth 100000 in
theorem c_X6_keep (l : Launch) (D : va_G) (cA : Nat → ClassId) (L : List Nat) (sh : Sh) (a0 : Nat) (h : Hp) (K : Int32 → Hp → Prop) (hf : f_X6_keep sh a0 h K) : Met l yX6_keep (wM yX6_keep cX6_keep 2 (some .int)) ({ frames := 0, cells := 0, slots := 0, locals := 0 } : Room) (PreM D cA L sh h [.ref a0]) (QI D cA L sh K) 0 0 (fun q => q ∈ L) := by
  refine met_v (cc := cX6_keep) (nL := 2) (ret := (some .int)) [(0, .ref a0)] (by decide) rfl (Nat.le_of_ble_eq_true rfl) rfl ?_
  intro p e s0 m below meth c X hr hlk
  have k19 := X.ht _ (inM _ q_489)
  have k7 := X.ht _ (inM _ q_485)
  have k148 := X.ht _ (inM _ q_490)
  unfold f_X6_keep at hf
  refine v_iconst (pc := 0) X (v := (0 : Int32)) dX6_keep_0 (by decide) ?_
  refine v_istore_n (pc := 1) X (i := 1) (lv' := [(1, .int (0 : Int32)), (0, .ref a0)]) dX6_keep_1 rfl (Nat.le_of_ble_eq_true rfl) rfl ?_
  obtain ⟨n, hf⟩ := hf
  refine v_sub [1, 0] rfl ?_
  refine w_X6_keep_2 X hr hlk a0 _ K (fun  h10 hf => ?_) n (0 : Int32) h hf
  refine v_aload_n (pc := 27) X 0 dX6_keep_27 rfl rfl ?_
  refine v_iconst (pc := 28) X (v := (1 : Int32)) dX6_keep_28 (by decide) ?_
  obtain ⟨t11, hf⟩ := hf
  obtain ⟨h12, e_h12, hf⟩ := hf
  refine pu_6_5 (pc := 29) X (fun w h => inM w (inG6 w h)) k148 t11 (by decide) e_h12 dX6_keep_29 ?_
  refine v_aload_n (pc := 32) X 0 dX6_keep_32 rfl rfl ?_
  obtain ⟨q13, e_q13, hf⟩ := hf
  refine ge_6_0 (pc := 33) X (fun w h => inM w (inG6 w h)) k7 t11 e_q13 dX6_keep_33 ?_
  refine v_iconst (pc := 36) X (v := (0 : Int32)) dX6_keep_36 (by decide) ?_
  obtain ⟨t14, hf⟩ := hf
  obtain ⟨b16, v15, e_v15, hf⟩ := hf
  refine v_iald (pc := 37) X t14 b16 e_v15 dX6_keep_37 ?_
  exact v_iret (pc := 38) X hr hlk dX6_keep_38 hf
set_option maxHeartbeats 4000000 in
set_option maxRecDepth 100000 in
theorem w_X6_leastVersion_5 {p : Program} {l : Launch} {e : Env} {s0 : State} {m : MethodId} {args : Array Value} {below : List Frame} {meth : Method} {c : Code} {D : va_G} {cA : Nat → ClassId} {L : List Nat} {sh : Sh} (X : Cx p s0 m c args cX6_leastVersion 6 (wM yX6_leastVersion cX6_leastVersion 6 (some .int)) RX6 (fun q => q ∈ L) D cA L sh) (hr : meth.sig.returnType = (some .int)) (hlk : meth.locks = false) (x0 : Nat) (x1 : Int32) (Xc : Int32 → Hp → Prop) (K : Int32 → Hp → Prop) (hx : ∀ (y2 : Int32) (h1 : Hp), Xc y2 h1 → V p l e (headSpec (wM yX6_leastVersion cX6_leastVersion 6 (some .int)) ({ frames := 1, cells := 0, slots := 0, locals := 21 } : Room)).room s0 m args below meth c (MQ below (QI D cA L sh K) args s0 0 0 (fun q => q ∈ L)) (fun q => q ∈ L) 0 0 D cA L sh 6 h1 86 [(2, .int y2)] []) : ∀ (n : Nat) (s : Int32 × Int32) (h : Hp), lp (b_X6_leastVersion_5 sh x0 x1 Xc) n s h → V p l e (headSpec (wM yX6_leastVersion cX6_leastVersion 6 (some .int)) ({ frames := 1, cells := 0, slots := 0, locals := 21 } : Room)).room s0 m args below meth c (MQ below (QI D cA L sh K) args s0 0 0 (fun q => q ∈ L)) (fun q => q ∈ L) 0 0 D cA L sh 6 h 5 [(0, .ref x0), (1, .int x1), (2, .int s.1), (3, .int s.2)] [] := by
  have k7 := X.ht _ (inM _ q_485)
  intro n
  induction n with
  | zero => intro s h hf; exact hf.elim
  | succ n ih =>
    intro s h hf
    replace hf : b_X6_leastVersion_5 sh x0 x1 Xc (lp (b_X6_leastVersion_5 sh x0 x1 Xc) n) s h := hf
    unfold b_X6_leastVersion_5 at hf
    refine v_iload_n (pc := 5) X 3 dX6_leastVersion_5 rfl rfl ?_
    refine v_aload_n (pc := 6) X 0 dX6_leastVersion_6 rfl rfl ?_
    obtain ⟨t1, hf⟩ := hf
    obtain ⟨q2, e_q2, hf⟩ := hf
    refine ge_6_0 (pc := 7) X (fun w h => inM w (inG6 w h)) k7 t1 e_q2 dX6_leastVersion_7 ?_
    refine v_sipush (pc := 10) X (v := (437 : Int32)) dX6_leastVersion_10 (by decide) ?_
    obtain ⟨t3, hf⟩ := hf
    obtain ⟨b5, v4, e_v4, hf⟩ := hf
    refine v_iald (pc := 13) X t3 b5 e_v4 dX6_leastVersion_13 ?_
    refine v_icmp_ge (pc := 14) X 86 dX6_leastVersion_14 (by decide) (fun c => ?_) (fun c => ?_)
    · replace hf := if_t c hf
      refine v_sub [2] rfl ?_
      exact hx s.1 h hf
    · replace hf := if_f c hf
      refine v_aload_n (pc := 17) X 0 dX6_leastVersion_17 rfl rfl ?_
      obtain ⟨q6, e_q6, hf⟩ := hf
      refine ge_6_0 (pc := 18) X (fun w h => inM w (inG6 w h)) k7 t1 e_q6 dX6_leastVersion_18 ?_
      refine v_iload_n (pc := 21) X 3 dX6_leastVersion_21 rfl rfl ?_
      refine v_iconst (pc := 22) X (v := (4 : Int32)) dX6_leastVersion_22 (by decide) ?_
      refine v_iload_n (pc := 23) X 1 dX6_leastVersion_23 rfl rfl ?_
      refine v_iadd (pc := 24) X dX6_leastVersion_24 ?_
      refine v_callSI (pc := 25) X (As := [.int s.2, .int ((4 : Int32) + x1)]) (rest := [.ref q6]) (c_X6_ofOpen l D cA L sh s.2 ((4 : Int32) + x1) h _ hf) (va_cwS 2 X.ht (gwS inM q_539 q_540 q_7 q_541) rfl rfl rfl (by decide +kernel) ⟨Nat.le_of_ble_eq_true rfl, Nat.le_of_ble_eq_true rfl⟩) rfl rfl (Nat.le_of_ble_eq_true rfl) ⟨Nat.zero_le _, Nat.zero_le _⟩ dX6_leastVersion_25 (fun r7 h8 hf => ?_)
      obtain ⟨t9, hf⟩ := hf
      obtain ⟨b11, v10, e_v10, hf⟩ := hf
      refine v_iald (pc := 28) X t9 b11 e_v10 dX6_leastVersion_28 ?_
      refine v_istore (pc := 29) X (i := 4) (lv' := [(4, .int v10), (0, .ref x0), (1, .int x1), (2, .int s.1), (3, .int s.2)]) dX6_leastVersion_29 (Nat.le_of_ble_eq_true rfl) rfl ?_
      refine v_aload_n (pc := 31) X 1 dX6_leastVersion_31 rfl rfl ?_
      obtain ⟨q12, e_q12, hf⟩ := hf
      refine ge_6_0 (pc := 32) X (fun w h => inM w (inG6 w h)) k7 t1 e_q12 dX6_leastVersion_32 ?_
      refine v_iload_n (pc := 35) X 4 dX6_leastVersion_35 rfl rfl ?_
      refine v_iconst (pc := 36) X (v := (2 : Int32)) dX6_leastVersion_36 (by decide) ?_
      refine v_callSI (pc := 37) X (As := [.int s.2, .int (2 : Int32)]) (rest := [.ref q12]) (c_X6_ofOpen l D cA L sh s.2 (2 : Int32) h8 _ hf) (va_cwS 2 X.ht (gwS inM q_539 q_540 q_7 q_541) rfl rfl rfl (by decide +kernel) ⟨Nat.le_of_ble_eq_true rfl, Nat.le_of_ble_eq_true rfl⟩) rfl rfl (Nat.le_of_ble_eq_true rfl) ⟨Nat.zero_le _, Nat.zero_le _⟩ dX6_leastVersion_37 (fun r13 h14 hf => ?_)
      obtain ⟨t15, hf⟩ := hf
      obtain ⟨b17, v16, e_v16, hf⟩ := hf
      refine v_iald (pc := 40) X t15 b17 e_v16 dX6_leastVersion_40 ?_
      refine v_iload_n (pc := 41) X 2 dX6_leastVersion_41 rfl rfl ?_
      refine v_ishr (pc := 42) X dX6_leastVersion_42 ?_
      refine v_iconst (pc := 43) X (v := (1 : Int32)) dX6_leastVersion_43 (by decide) ?_
      refine v_iand (pc := 44) X dX6_leastVersion_44 ?_
      refine v_iconst (pc := 45) X (v := (1 : Int32)) dX6_leastVersion_45 (by decide) ?_
      refine v_icmp_ne (pc := 46) X 65 dX6_leastVersion_46 (by decide) (fun c => ?_) (fun c => ?_)
      · replace hf := if_f c hf
        refine v_iconst (pc := 65) X (v := (0 : Int32)) dX6_leastVersion_65 (by decide) ?_
        refine v_istore (pc := 66) X (i := 5) (lv' := [(5, .int (0 : Int32)), (4, .int v10), (0, .ref x0), (1, .int x1), (2, .int s.1), (3, .int s.2)]) dX6_leastVersion_66 (Nat.le_of_ble_eq_true rfl) rfl ?_
        refine v_iload (pc := 68) X 0 dX6_leastVersion_68 rfl ?_
        refine v_if_eq (pc := 70) X 78 dX6_leastVersion_70 (by decide) (fun _ => ?_) (fun c => absurd c (by decide))
        refine v_iload_n (pc := 78) X 4 dX6_leastVersion_78 rfl rfl ?_
        refine v_istore_n (pc := 79) X (i := 2) (lv' := [(2, .int s.1), (5, .int (0 : Int32)), (4, .int v10), (0, .ref x0), (1, .int x1), (3, .int s.2)]) dX6_leastVersion_79 rfl (Nat.le_of_ble_eq_true rfl) rfl ?_
        refine v_iinc (pc := 80) X 5 (v := s.2 + (1 : Int32)) (lv' := [(3, .int (s.2 + (1 : Int32))), (2, .int s.1), (5, .int (0 : Int32)), (4, .int v10), (0, .ref x0), (1, .int x1)]) dX6_leastVersion_80 rfl rfl (Nat.le_of_ble_eq_true rfl) rfl ?_
        refine v_goto (pc := 83) X 5 dX6_leastVersion_83 (by decide) ?_
        refine v_sub [4, 5, 1, 0] rfl ?_
        exact ih (s.1, s.2 + (1 : Int32)) h14 hf
      · replace hf := if_t c hf
        refine v_iload_n (pc := 49) X 3 dX6_leastVersion_49 rfl rfl ?_
        refine v_bipush (pc := 50) X (v := (-4 : Int32)) dX6_leastVersion_50 (by decide) ?_
        refine v_icmp_eq (pc := 52) X 61 dX6_leastVersion_52 (by decide) (fun c => ?_) (fun c => ?_)
        · replace hf := if_t c hf
          refine v_iconst (pc := 61) X (v := (1 : Int32)) dX6_leastVersion_61 (by decide) ?_
          refine v_goto (pc := 62) X 66 dX6_leastVersion_62 (by decide) ?_
          refine v_istore (pc := 66) X (i := 5) (lv' := [(5, .int (1 : Int32)), (4, .int v10), (0, .ref x0), (1, .int x1), (2, .int s.1), (3, .int s.2)]) dX6_leastVersion_66 (Nat.le_of_ble_eq_true rfl) rfl ?_
          refine v_iload (pc := 68) X 0 dX6_leastVersion_68 rfl ?_
          refine v_if_eq (pc := 70) X 78 dX6_leastVersion_70 (by decide) (fun c => absurd c (by decide)) (fun _ => ?_)
          refine v_iload (pc := 73) X 1 dX6_leastVersion_73 rfl ?_
          refine v_goto (pc := 75) X 79 dX6_leastVersion_75 (by decide) ?_
          refine v_istore_n (pc := 79) X (i := 2) (lv' := [(2, .int v10), (5, .int (1 : Int32)), (4, .int v10), (0, .ref x0), (1, .int x1), (3, .int s.2)]) dX6_leastVersion_79 rfl (Nat.le_of_ble_eq_true rfl) rfl ?_
          refine v_iinc (pc := 80) X 5 (v := s.2 + (1 : Int32)) (lv' := [(3, .int (s.2 + (1 : Int32))), (2, .int v10), (5, .int (1 : Int32)), (4, .int v10), (0, .ref x0), (1, .int x1)]) dX6_leastVersion_80 rfl rfl (Nat.le_of_ble_eq_true rfl) rfl ?_
          refine v_goto (pc := 83) X 5 dX6_leastVersion_83 (by decide) ?_
          refine v_sub [4, 5, 1, 0] rfl ?_
          exact ih (v10, s.2 + (1 : Int32)) h14 hf
        · replace hf := if_f c hf
          refine v_iload (pc := 55) X 0 dX6_leastVersion_55 rfl ?_
          refine v_iload_n (pc := 57) X 3 dX6_leastVersion_57 rfl rfl ?_
          refine v_icmp_ge (pc := 58) X 65 dX6_leastVersion_58 (by decide) (fun c => ?_) (fun c => ?_)
          · replace hf := if_t c hf
            refine v_iconst (pc := 65) X (v := (0 : Int32)) dX6_leastVersion_65 (by decide) ?_
            refine v_istore (pc := 66) X (i := 5) (lv' := [(5, .int (0 : Int32)), (4, .int v10), (0, .ref x0), (1, .int x1), (2, .int s.1), (3, .int s.2)]) dX6_leastVersion_66 (Nat.le_of_ble_eq_true rfl) rfl ?_
            refine v_iload (pc := 68) X 0 dX6_leastVersion_68 rfl ?_
            refine v_if_eq (pc := 70) X 78 dX6_leastVersion_70 (by decide) (fun _ => ?_) (fun c => absurd c (by decide))
            refine v_iload_n (pc := 78) X 4 dX6_leastVersion_78 rfl rfl ?_
            refine v_istore_n (pc := 79) X (i := 2) (lv' := [(2, .int s.1), (5, .int (0 : Int32)), (4, .int v10), (0, .ref x0), (1, .int x1), (3, .int s.2)]) dX6_leastVersion_79 rfl (Nat.le_of_ble_eq_true rfl) rfl ?_
            refine v_iinc (pc := 80) X 5 (v := s.2 + (1 : Int32)) (lv' := [(3, .int (s.2 + (1 : Int32))), (2, .int s.1), (5, .int (0 : Int32)), (4, .int v10), (0, .ref x0), (1, .int x1)]) dX6_leastVersion_80 rfl rfl (Nat.le_of_ble_eq_true rfl) rfl ?_
            refine v_goto (pc := 83) X 5 dX6_leastVersion_83 (by decide) ?_
            refine v_sub [4, 5, 1, 0] rfl ?_
            exact ih (s.1, s.2 + (1 : Int32)) h14 hf
          · replace hf := if_f c hf
            refine v_iconst (pc := 61) X (v := (1 : Int32)) dX6_leastVersion_61 (by decide) ?_
            refine v_goto (pc := 62) X 66 dX6_leastVersion_62 (by decide) ?_
            refine v_istore (pc := 66) X (i := 5) (lv' := [(5, .int (1 : Int32)), (4, .int v10), (0, .ref x0), (1, .int x1), (2, .int s.1), (3, .int s.2)]) dX6_leastVersion_66 (Nat.le_of_ble_eq_true rfl) rfl ?_
            refine v_iload (pc := 68) X 0 dX6_leastVersion_68 rfl ?_
            refine v_if_eq (pc := 70) X 78 dX6_leastVersion_70 (by decide) (fun c => absurd c (by decide)) (fun _ => ?_)
            refine v_iload (pc := 73) X 1 dX6_leastVersion_73 rfl ?_
            refine v_goto (pc := 75) X 79 dX6_leastVersion_75 (by decide) ?_
            refine v_istore_n (pc := 79) X (i := 2) (lv' := [(2, .int v10), (5, .int (1 : Int32)), (4, .int v10), (0, .ref x0), (1, .int x1), (3, .int s.2)]) dX6_leastVersion_79 rfl (Nat.le_of_ble_eq_true rfl) rfl ?_
            refine v_iinc (pc := 80) X 5 (v := s.2 + (1 : Int32)) (lv' := [(3, .int (s.2 + (1 : Int32))), (2, .int v10), (5, .int (1 : Int32)), (4, .int v10), (0, .ref x0), (1, .int x1)]) dX6_leastVersion_80 rfl rfl (Nat.le_of_ble_eq_true rfl) rfl ?_
            refine v_goto (pc := 83) X 5 dX6_leastVersion_83 (by decide) ?_
            refine v_sub [4, 5, 1, 0] rfl ?_
            exact ih (v10, s.2 + (1 : Int32)) h14 hf

set_option maxHeartbeats 4000000 in
set_option maxRecDepth 100000 in
theorem c_X6_leastVersion (l : Launch) (D : va_G) (cA : Nat → ClassId) (L : List Nat) (sh : Sh) (a0 : Nat) (p1 : Int32) (h : Hp) (K : Int32 → Hp → Prop) (hf : f_X6_leastVersion sh a0 p1 h K) : Met l yX6_leastVersion (wM yX6_leastVersion cX6_leastVersion 6 (some .int)) ({ frames := 1, cells := 0, slots := 0, locals := 21 } : Room) (PreM D cA L sh h [.ref a0, .int p1]) (QI D cA L sh K) 0 0 (fun q => q ∈ L) := by
  refine met_v (cc := cX6_leastVersion) (nL := 6) (ret := (some .int)) [(0, .ref a0), (1, .int p1)] (by decide) rfl (Nat.le_of_ble_eq_true rfl) rfl ?_
  intro p e s0 m below meth c X hr hlk
  have k7 := X.ht _ (inM _ q_485)
  unfold f_X6_leastVersion at hf
  refine v_bipush (pc := 0) X (v := (-4 : Int32)) dX6_leastVersion_0 (by decide) ?_
  refine v_istore_n (pc := 2) X (i := 2) (lv' := [(2, .int (-4 : Int32)), (0, .ref a0), (1, .int p1)]) dX6_leastVersion_2 rfl (Nat.le_of_ble_eq_true rfl) rfl ?_
  refine v_iconst (pc := 3) X (v := (0 : Int32)) dX6_leastVersion_3 (by decide) ?_
  refine v_istore_n (pc := 4) X (i := 3) (lv' := [(3, .int (0 : Int32)), (2, .int (-4 : Int32)), (0, .ref a0), (1, .int p1)]) dX6_leastVersion_4 rfl (Nat.le_of_ble_eq_true rfl) rfl ?_
  obtain ⟨n, hf⟩ := hf
  refine v_sub [2, 3, 1, 0] rfl ?_
  refine w_X6_leastVersion_5 X hr hlk a0 p1 _ K (fun y18 h19 hf => ?_) n ((-4 : Int32), (0 : Int32)) h hf
  refine v_iload_n (pc := 86) X 0 dX6_leastVersion_86 rfl rfl ?_
  exact v_iret (pc := 87) X hr hlk dX6_leastVersion_87 hf
set_option maxHeartbeats 4000000 in
set_option maxRecDepth 100000 in
theorem c_X6_notice (l : Launch) (D : va_G) (cA : Nat → ClassId) (L : List Nat) (sh : Sh) (a0 : Nat) (p1 : Int32) (h : Hp) (K : Int32 → Hp → Prop) (hf : f_X6_notice sh a0 p1 h K) : Met l yX6_notice (wM yX6_notice cX6_notice 2 (some .int)) ({ frames := 0, cells := 0, slots := 0, locals := 0 } : Room) (PreM D cA L sh h [.ref a0, .int p1]) (QI D cA L sh K) 0 0 (fun q => q ∈ L) := by
  refine met_v (cc := cX6_notice) (nL := 2) (ret := (some .int)) [(0, .ref a0), (1, .int p1)] (by decide) rfl (Nat.le_of_ble_eq_true rfl) rfl ?_
  intro p e s0 m below meth c X hr hlk
  have k7 := X.ht _ (inM _ q_485)
  unfold f_X6_notice at hf
  refine v_iload_n (pc := 0) X 1 dX6_notice_0 rfl rfl ?_
  refine v_if_ge (pc := 1) X 8 dX6_notice_1 (by decide) (fun c => ?_) (fun c => ?_)
  · replace hf := if_t c hf
    refine v_iload_n (pc := 8) X 1 dX6_notice_8 rfl rfl ?_
    refine v_aload_n (pc := 9) X 0 dX6_notice_9 rfl rfl ?_
    obtain ⟨t1, hf⟩ := hf
    obtain ⟨q2, e_q2, hf⟩ := hf
    refine ge_6_0 (pc := 10) X (fun w h => inM w (inG6 w h)) k7 t1 e_q2 dX6_notice_10 ?_
    refine v_iconst (pc := 13) X (v := (1 : Int32)) dX6_notice_13 (by decide) ?_
    obtain ⟨t3, hf⟩ := hf
    obtain ⟨b5, v4, e_v4, hf⟩ := hf
    refine v_iald (pc := 14) X t3 b5 e_v4 dX6_notice_14 ?_
    refine v_icmp_ge (pc := 15) X 30 dX6_notice_15 (by decide) (fun c => ?_) (fun c => ?_)
    · replace hf := if_t c hf
      refine v_bipush (pc := 30) X (v := (-4 : Int32)) dX6_notice_30 (by decide) ?_
      exact v_iret (pc := 32) X hr hlk dX6_notice_32 hf
    · replace hf := if_f c hf
      refine v_aload_n (pc := 18) X 0 dX6_notice_18 rfl rfl ?_
      obtain ⟨q6, e_q6, hf⟩ := hf
      refine ge_6_0 (pc := 19) X (fun w h => inM w (inG6 w h)) k7 t1 e_q6 dX6_notice_19 ?_
      refine v_bipush (pc := 22) X (v := (17 : Int32)) dX6_notice_22 (by decide) ?_
      refine v_iload_n (pc := 24) X 1 dX6_notice_24 rfl rfl ?_
      refine v_iadd (pc := 25) X dX6_notice_25 ?_
      obtain ⟨t7, hf⟩ := hf
      obtain ⟨b9, v8, e_v8, hf⟩ := hf
      refine v_iald (pc := 26) X t7 b9 e_v8 dX6_notice_26 ?_
      refine v_goto (pc := 27) X 32 dX6_notice_27 (by decide) ?_
      exact v_iret (pc := 32) X hr hlk dX6_notice_32 hf
  · replace hf := if_f c hf
    refine v_iconst (pc := 4) X (v := (-1 : Int32)) dX6_notice_4 (by decide) ?_
    refine v_goto (pc := 5) X 32 dX6_notice_5 (by decide) ?_
    exact v_iret (pc := 32) X hr hlk dX6_notice_32 hf
set_option maxHeartbeats 4000000 in
set_option maxRecDepth 100000 in
theorem w_X6_older_4 {p : Program} {l : Launch} {e : Env} {s0 : State} {m : MethodId} {args : Array Value} {below : List Frame} {meth : Method} {c : Code} {D : va_G} {cA : Nat → ClassId} {L : List Nat} {sh : Sh} (X : Cx p s0 m c args cX6_older 5 (wM yX6_older cX6_older 5 (some .int)) RX6 (fun q => q ∈ L) D cA L sh) (hr : meth.sig.returnType = (some .int)) (hlk : meth.locks = false) (x0 : Nat) (x1 : Int32) (Xc : Int32 → Hp → Prop) (K : Int32 → Hp → Prop) (hx : ∀ (y2 : Int32) (h1 : Hp), Xc y2 h1 → V p l e (headSpec (wM yX6_older cX6_older 5 (some .int)) ({ frames := 1, cells := 0, slots := 0, locals := 21 } : Room)).room s0 m args below meth c (MQ below (QI D cA L sh K) args s0 0 0 (fun q => q ∈ L)) (fun q => q ∈ L) 0 0 D cA L sh 5 h1 79 [(2, .int y2)] []) : ∀ (n : Nat) (s : Int32 × Int32) (h : Hp), lp (b_X6_older_4 sh x0 x1 Xc) n s h → V p l e (headSpec (wM yX6_older cX6_older 5 (some .int)) ({ frames := 1, cells := 0, slots := 0, locals := 21 } : Room)).room s0 m args below meth c (MQ below (QI D cA L sh K) args s0 0 0 (fun q => q ∈ L)) (fun q => q ∈ L) 0 0 D cA L sh 5 h 4 [(0, .ref x0), (1, .int x1), (2, .int s.1), (3, .int s.2)] [] := by
  have k7 := X.ht _ (inM _ q_485)
  intro n
  induction n with
  | zero => intro s h hf; exact hf.elim
  | succ n ih =>
    intro s h hf
    replace hf : b_X6_older_4 sh x0 x1 Xc (lp (b_X6_older_4 sh x0 x1 Xc) n) s h := hf
    unfold b_X6_older_4 at hf
    refine v_iload_n (pc := 4) X 3 dX6_older_4 rfl rfl ?_
    refine v_bipush (pc := 5) X (v := (6 : Int32)) dX6_older_5 (by decide) ?_
    refine v_icmp_ge (pc := 7) X 79 dX6_older_7 (by decide) (fun c => ?_) (fun c => ?_)
    · replace hf := if_t c hf
      refine v_sub [2] rfl ?_
      exact hx s.1 h hf
    · replace hf := if_f c hf
      refine v_aload_n (pc := 10) X 0 dX6_older_10 rfl rfl ?_
      obtain ⟨t1, hf⟩ := hf
      obtain ⟨q2, e_q2, hf⟩ := hf
      refine ge_6_0 (pc := 11) X (fun w h => inM w (inG6 w h)) k7 t1 e_q2 dX6_older_11 ?_
      refine v_iload_n (pc := 14) X 1 dX6_older_14 rfl rfl ?_
      refine v_iconst (pc := 15) X (v := (2 : Int32)) dX6_older_15 (by decide) ?_
      refine v_callSI (pc := 16) X (As := [.int x1, .int (2 : Int32)]) (rest := [.ref q2]) (c_X6_ofOpen l D cA L sh x1 (2 : Int32) h _ hf) (va_cwS 2 X.ht (gwS inM q_539 q_540 q_7 q_541) rfl rfl rfl (by decide +kernel) ⟨Nat.le_of_ble_eq_true rfl, Nat.le_of_ble_eq_true rfl⟩) rfl rfl (Nat.le_of_ble_eq_true rfl) ⟨Nat.zero_le _, Nat.zero_le _⟩ dX6_older_16 (fun r3 h4 hf => ?_)
      obtain ⟨t5, hf⟩ := hf
      obtain ⟨b7, v6, e_v6, hf⟩ := hf
      refine v_iald (pc := 19) X t5 b7 e_v6 dX6_older_19 ?_
      refine v_iload_n (pc := 20) X 3 dX6_older_20 rfl rfl ?_
      refine v_ishr (pc := 21) X dX6_older_21 ?_
      refine v_iconst (pc := 22) X (v := (1 : Int32)) dX6_older_22 (by decide) ?_
      refine v_iand (pc := 23) X dX6_older_23 ?_
      refine v_iconst (pc := 24) X (v := (1 : Int32)) dX6_older_24 (by decide) ?_
      refine v_icmp_ne (pc := 25) X 55 dX6_older_25 (by decide) (fun c => ?_) (fun c => ?_)
      · replace hf := if_f c hf
        refine v_iconst (pc := 55) X (v := (0 : Int32)) dX6_older_55 (by decide) ?_
        refine v_istore (pc := 56) X (i := 4) (lv' := [(4, .int (0 : Int32)), (0, .ref x0), (1, .int x1), (2, .int s.1), (3, .int s.2)]) dX6_older_56 (Nat.le_of_ble_eq_true rfl) rfl ?_
        refine v_iload_n (pc := 58) X 3 dX6_older_58 rfl rfl ?_
        refine v_iload (pc := 59) X 0 dX6_older_59 rfl ?_
        refine v_if_eq (pc := 61) X 70 dX6_older_61 (by decide) (fun _ => ?_) (fun c => absurd c (by decide))
        refine v_iconst (pc := 70) X (v := (0 : Int32)) dX6_older_70 (by decide) ?_
        refine v_ior (pc := 71) X dX6_older_71 ?_
        refine v_istore_n (pc := 72) X (i := 2) (lv' := [(2, .int (s.1 ||| (0 : Int32))), (4, .int (0 : Int32)), (0, .ref x0), (1, .int x1), (3, .int s.2)]) dX6_older_72 rfl (Nat.le_of_ble_eq_true rfl) rfl ?_
        refine v_iinc (pc := 73) X 4 (v := s.2 + (1 : Int32)) (lv' := [(3, .int (s.2 + (1 : Int32))), (2, .int (s.1 ||| (0 : Int32))), (4, .int (0 : Int32)), (0, .ref x0), (1, .int x1)]) dX6_older_73 rfl rfl (Nat.le_of_ble_eq_true rfl) rfl ?_
        refine v_goto (pc := 76) X 4 dX6_older_76 (by decide) ?_
        refine v_sub [3, 4, 1, 0] rfl ?_
        exact ih (s.1 ||| (0 : Int32), s.2 + (1 : Int32)) h4 hf
      · replace hf := if_t c hf
        refine v_aload_n (pc := 28) X 0 dX6_older_28 rfl rfl ?_
        obtain ⟨q8, e_q8, hf⟩ := hf
        refine ge_6_0 (pc := 29) X (fun w h => inM w (inG6 w h)) k7 t1 e_q8 dX6_older_29 ?_
        refine v_iconst (pc := 32) X (v := (5 : Int32)) dX6_older_32 (by decide) ?_
        refine v_iload_n (pc := 33) X 3 dX6_older_33 rfl rfl ?_
        refine v_iadd (pc := 34) X dX6_older_34 ?_
        obtain ⟨t9, hf⟩ := hf
        obtain ⟨b11, v10, e_v10, hf⟩ := hf
        refine v_iald (pc := 35) X t9 b11 e_v10 dX6_older_35 ?_
        refine v_aload_n (pc := 36) X 0 dX6_older_36 rfl rfl ?_
        obtain ⟨q12, e_q12, hf⟩ := hf
        refine ge_6_0 (pc := 37) X (fun w h => inM w (inG6 w h)) k7 t1 e_q12 dX6_older_37 ?_
        refine v_iload_n (pc := 40) X 1 dX6_older_40 rfl rfl ?_
        refine v_iconst (pc := 41) X (v := (4 : Int32)) dX6_older_41 (by decide) ?_
        refine v_iload_n (pc := 42) X 3 dX6_older_42 rfl rfl ?_
        refine v_iadd (pc := 43) X dX6_older_43 ?_
        refine v_callSI (pc := 44) X (As := [.int x1, .int ((4 : Int32) + s.2)]) (rest := [.ref q12, .int v10]) (c_X6_ofOpen l D cA L sh x1 ((4 : Int32) + s.2) h4 _ hf) (va_cwS 2 X.ht (gwS inM q_539 q_540 q_7 q_541) rfl rfl rfl (by decide +kernel) ⟨Nat.le_of_ble_eq_true rfl, Nat.le_of_ble_eq_true rfl⟩) rfl rfl (Nat.le_of_ble_eq_true rfl) ⟨Nat.zero_le _, Nat.zero_le _⟩ dX6_older_44 (fun r13 h14 hf => ?_)
        obtain ⟨t15, hf⟩ := hf
        obtain ⟨b17, v16, e_v16, hf⟩ := hf
        refine v_iald (pc := 47) X t15 b17 e_v16 dX6_older_47 ?_
        refine v_icmp_le (pc := 48) X 55 dX6_older_48 (by decide) (fun c => ?_) (fun c => ?_)
        · replace hf := if_t c hf
          refine v_iconst (pc := 55) X (v := (0 : Int32)) dX6_older_55 (by decide) ?_
          refine v_istore (pc := 56) X (i := 4) (lv' := [(4, .int (0 : Int32)), (0, .ref x0), (1, .int x1), (2, .int s.1), (3, .int s.2)]) dX6_older_56 (Nat.le_of_ble_eq_true rfl) rfl ?_
          refine v_iload_n (pc := 58) X 3 dX6_older_58 rfl rfl ?_
          refine v_iload (pc := 59) X 0 dX6_older_59 rfl ?_
          refine v_if_eq (pc := 61) X 70 dX6_older_61 (by decide) (fun _ => ?_) (fun c => absurd c (by decide))
          refine v_iconst (pc := 70) X (v := (0 : Int32)) dX6_older_70 (by decide) ?_
          refine v_ior (pc := 71) X dX6_older_71 ?_
          refine v_istore_n (pc := 72) X (i := 2) (lv' := [(2, .int (s.1 ||| (0 : Int32))), (4, .int (0 : Int32)), (0, .ref x0), (1, .int x1), (3, .int s.2)]) dX6_older_72 rfl (Nat.le_of_ble_eq_true rfl) rfl ?_
          refine v_iinc (pc := 73) X 4 (v := s.2 + (1 : Int32)) (lv' := [(3, .int (s.2 + (1 : Int32))), (2, .int (s.1 ||| (0 : Int32))), (4, .int (0 : Int32)), (0, .ref x0), (1, .int x1)]) dX6_older_73 rfl rfl (Nat.le_of_ble_eq_true rfl) rfl ?_
          refine v_goto (pc := 76) X 4 dX6_older_76 (by decide) ?_
          refine v_sub [3, 4, 1, 0] rfl ?_
          exact ih (s.1 ||| (0 : Int32), s.2 + (1 : Int32)) h14 hf
        · replace hf := if_f c hf
          refine v_iconst (pc := 51) X (v := (1 : Int32)) dX6_older_51 (by decide) ?_
          refine v_goto (pc := 52) X 56 dX6_older_52 (by decide) ?_
          refine v_istore (pc := 56) X (i := 4) (lv' := [(4, .int (1 : Int32)), (0, .ref x0), (1, .int x1), (2, .int s.1), (3, .int s.2)]) dX6_older_56 (Nat.le_of_ble_eq_true rfl) rfl ?_
          refine v_iload_n (pc := 58) X 3 dX6_older_58 rfl rfl ?_
          refine v_iload (pc := 59) X 0 dX6_older_59 rfl ?_
          refine v_if_eq (pc := 61) X 70 dX6_older_61 (by decide) (fun c => absurd c (by decide)) (fun _ => ?_)
          refine v_iconst (pc := 64) X (v := (1 : Int32)) dX6_older_64 (by decide) ?_
          refine v_iload_n (pc := 65) X 4 dX6_older_65 rfl rfl ?_
          refine v_ishl (pc := 66) X dX6_older_66 ?_
          refine v_goto (pc := 67) X 71 dX6_older_67 (by decide) ?_
          refine v_ior (pc := 71) X dX6_older_71 ?_
          refine v_istore_n (pc := 72) X (i := 2) (lv' := [(2, .int (s.1 ||| ((1 : Int32) <<< (s.2 &&& 31)))), (4, .int (1 : Int32)), (0, .ref x0), (1, .int x1), (3, .int s.2)]) dX6_older_72 rfl (Nat.le_of_ble_eq_true rfl) rfl ?_
          refine v_iinc (pc := 73) X 4 (v := s.2 + (1 : Int32)) (lv' := [(3, .int (s.2 + (1 : Int32))), (2, .int (s.1 ||| ((1 : Int32) <<< (s.2 &&& 31)))), (4, .int (1 : Int32)), (0, .ref x0), (1, .int x1)]) dX6_older_73 rfl rfl (Nat.le_of_ble_eq_true rfl) rfl ?_
          refine v_goto (pc := 76) X 4 dX6_older_76 (by decide) ?_
          refine v_sub [3, 4, 1, 0] rfl ?_
          exact ih (s.1 ||| ((1 : Int32) <<< (s.2 &&& 31)), s.2 + (1 : Int32)) h14 hf

set_option maxHeartbeats 4000000 in
set_option maxRecDepth 100000 in
theorem c_X6_older (l : Launch) (D : va_G) (cA : Nat → ClassId) (L : List Nat) (sh : Sh) (a0 : Nat) (p1 : Int32) (h : Hp) (K : Int32 → Hp → Prop) (hf : f_X6_older sh a0 p1 h K) : Met l yX6_older (wM yX6_older cX6_older 5 (some .int)) ({ frames := 1, cells := 0, slots := 0, locals := 21 } : Room) (PreM D cA L sh h [.ref a0, .int p1]) (QI D cA L sh K) 0 0 (fun q => q ∈ L) := by
  refine met_v (cc := cX6_older) (nL := 5) (ret := (some .int)) [(0, .ref a0), (1, .int p1)] (by decide) rfl (Nat.le_of_ble_eq_true rfl) rfl ?_
  intro p e s0 m below meth c X hr hlk
  have k7 := X.ht _ (inM _ q_485)
  unfold f_X6_older at hf
  refine v_iconst (pc := 0) X (v := (0 : Int32)) dX6_older_0 (by decide) ?_
  refine v_istore_n (pc := 1) X (i := 2) (lv' := [(2, .int (0 : Int32)), (0, .ref a0), (1, .int p1)]) dX6_older_1 rfl (Nat.le_of_ble_eq_true rfl) rfl ?_
  refine v_iconst (pc := 2) X (v := (0 : Int32)) dX6_older_2 (by decide) ?_
  refine v_istore_n (pc := 3) X (i := 3) (lv' := [(3, .int (0 : Int32)), (2, .int (0 : Int32)), (0, .ref a0), (1, .int p1)]) dX6_older_3 rfl (Nat.le_of_ble_eq_true rfl) rfl ?_
  obtain ⟨n, hf⟩ := hf
  refine v_sub [2, 3, 1, 0] rfl ?_
  refine w_X6_older_4 X hr hlk a0 p1 _ K (fun y18 h19 hf => ?_) n ((0 : Int32), (0 : Int32)) h hf
  refine v_iload_n (pc := 79) X 0 dX6_older_79 rfl rfl ?_
  exact v_iret (pc := 80) X hr hlk dX6_older_80 hf
set_option maxHeartbeats 4000000 in
set_option maxRecDepth 100000 in
theorem w_X6_onWay_4 {p : Program} {l : Launch} {e : Env} {s0 : State} {m : MethodId} {args : Array Value} {below : List Frame} {meth : Method} {c : Code} {D : va_G} {cA : Nat → ClassId} {L : List Nat} {sh : Sh} (X : Cx p s0 m c args cX6_onWay 3 (wM yX6_onWay cX6_onWay 3 (some .int)) RX6 (fun q => q ∈ L) D cA L sh) (hr : meth.sig.returnType = (some .int)) (hlk : meth.locks = false) (x0 : Nat) (Xc : Int32 → Hp → Prop) (K : Int32 → Hp → Prop) (hx : ∀ (y1 : Int32) (h1 : Hp), Xc y1 h1 → V p l e (headSpec (wM yX6_onWay cX6_onWay 3 (some .int)) ({ frames := 0, cells := 0, slots := 0, locals := 0 } : Room)).room s0 m args below meth c (MQ below (QI D cA L sh K) args s0 0 0 (fun q => q ∈ L)) (fun q => q ∈ L) 0 0 D cA L sh 3 h1 46 [(1, .int y1)] []) : ∀ (n : Nat) (s : Int32 × Int32) (h : Hp), lp (b_X6_onWay_4 sh x0 Xc) n s h → V p l e (headSpec (wM yX6_onWay cX6_onWay 3 (some .int)) ({ frames := 0, cells := 0, slots := 0, locals := 0 } : Room)).room s0 m args below meth c (MQ below (QI D cA L sh K) args s0 0 0 (fun q => q ∈ L)) (fun q => q ∈ L) 0 0 D cA L sh 3 h 4 [(0, .ref x0), (1, .int s.1), (2, .int s.2)] [] := by
  have k7 := X.ht _ (inM _ q_485)
  intro n
  induction n with
  | zero => intro s h hf; exact hf.elim
  | succ n ih =>
    intro s h hf
    replace hf : b_X6_onWay_4 sh x0 Xc (lp (b_X6_onWay_4 sh x0 Xc) n) s h := hf
    unfold b_X6_onWay_4 at hf
    refine v_iload_n (pc := 4) X 2 dX6_onWay_4 rfl rfl ?_
    refine v_aload_n (pc := 5) X 0 dX6_onWay_5 rfl rfl ?_
    obtain ⟨t1, hf⟩ := hf
    obtain ⟨q2, e_q2, hf⟩ := hf
    refine ge_6_0 (pc := 6) X (fun w h => inM w (inG6 w h)) k7 t1 e_q2 dX6_onWay_6 ?_
    refine v_iconst (pc := 9) X (v := (1 : Int32)) dX6_onWay_9 (by decide) ?_
    obtain ⟨t3, hf⟩ := hf
    obtain ⟨b5, v4, e_v4, hf⟩ := hf
    refine v_iald (pc := 10) X t3 b5 e_v4 dX6_onWay_10 ?_
    refine v_icmp_ge (pc := 11) X 46 dX6_onWay_11 (by decide) (fun c => ?_) (fun c => ?_)
    · replace hf := if_t c hf
      refine v_sub [1] rfl ?_
      exact hx s.1 h hf
    · replace hf := if_f c hf
      refine v_iload_n (pc := 14) X 1 dX6_onWay_14 rfl rfl ?_
      refine v_aload_n (pc := 15) X 0 dX6_onWay_15 rfl rfl ?_
      obtain ⟨q6, e_q6, hf⟩ := hf
      refine ge_6_0 (pc := 16) X (fun w h => inM w (inG6 w h)) k7 t1 e_q6 dX6_onWay_16 ?_
      refine v_bipush (pc := 19) X (v := (117 : Int32)) dX6_onWay_19 (by decide) ?_
      refine v_iload_n (pc := 21) X 2 dX6_onWay_21 rfl rfl ?_
      refine v_iadd (pc := 22) X dX6_onWay_22 ?_
      obtain ⟨t7, hf⟩ := hf
      obtain ⟨b9, v8, e_v8, hf⟩ := hf
      refine v_iald (pc := 23) X t7 b9 e_v8 dX6_onWay_23 ?_
      refine v_aload_n (pc := 24) X 0 dX6_onWay_24 rfl rfl ?_
      obtain ⟨q10, e_q10, hf⟩ := hf
      refine ge_6_0 (pc := 25) X (fun w h => inM w (inG6 w h)) k7 t1 e_q10 dX6_onWay_25 ?_
      refine v_iconst (pc := 28) X (v := (0 : Int32)) dX6_onWay_28 (by decide) ?_
      obtain ⟨t11, hf⟩ := hf
      obtain ⟨b13, v12, e_v12, hf⟩ := hf
      refine v_iald (pc := 29) X t11 b13 e_v12 dX6_onWay_29 ?_
      refine v_icmp_le (pc := 30) X 37 dX6_onWay_30 (by decide) (fun c => ?_) (fun c => ?_)
      · replace hf := if_t c hf
        refine v_iconst (pc := 37) X (v := (0 : Int32)) dX6_onWay_37 (by decide) ?_
        refine v_iadd (pc := 38) X dX6_onWay_38 ?_
        refine v_istore_n (pc := 39) X (i := 1) (lv' := [(1, .int (s.1 + (0 : Int32))), (0, .ref x0), (2, .int s.2)]) dX6_onWay_39 rfl (Nat.le_of_ble_eq_true rfl) rfl ?_
        refine v_iinc (pc := 40) X 2 (v := s.2 + (1 : Int32)) (lv' := [(2, .int (s.2 + (1 : Int32))), (1, .int (s.1 + (0 : Int32))), (0, .ref x0)]) dX6_onWay_40 rfl rfl (Nat.le_of_ble_eq_true rfl) rfl ?_
        refine v_goto (pc := 43) X 4 dX6_onWay_43 (by decide) ?_
        refine v_sub [2, 1, 0] rfl ?_
        exact ih (s.1 + (0 : Int32), s.2 + (1 : Int32)) h hf
      · replace hf := if_f c hf
        refine v_iconst (pc := 33) X (v := (1 : Int32)) dX6_onWay_33 (by decide) ?_
        refine v_goto (pc := 34) X 38 dX6_onWay_34 (by decide) ?_
        refine v_iadd (pc := 38) X dX6_onWay_38 ?_
        refine v_istore_n (pc := 39) X (i := 1) (lv' := [(1, .int (s.1 + (1 : Int32))), (0, .ref x0), (2, .int s.2)]) dX6_onWay_39 rfl (Nat.le_of_ble_eq_true rfl) rfl ?_
        refine v_iinc (pc := 40) X 2 (v := s.2 + (1 : Int32)) (lv' := [(2, .int (s.2 + (1 : Int32))), (1, .int (s.1 + (1 : Int32))), (0, .ref x0)]) dX6_onWay_40 rfl rfl (Nat.le_of_ble_eq_true rfl) rfl ?_
        refine v_goto (pc := 43) X 4 dX6_onWay_43 (by decide) ?_
        refine v_sub [2, 1, 0] rfl ?_
        exact ih (s.1 + (1 : Int32), s.2 + (1 : Int32)) h hf

set_option maxHeartbeats 4000000 in
set_option maxRecDepth 100000 in
theorem c_X6_onWay (l : Launch) (D : va_G) (cA : Nat → ClassId) (L : List Nat) (sh : Sh) (a0 : Nat) (h : Hp) (K : Int32 → Hp → Prop) (hf : f_X6_onWay sh a0 h K) : Met l yX6_onWay (wM yX6_onWay cX6_onWay 3 (some .int)) ({ frames := 0, cells := 0, slots := 0, locals := 0 } : Room) (PreM D cA L sh h [.ref a0]) (QI D cA L sh K) 0 0 (fun q => q ∈ L) := by
  refine met_v (cc := cX6_onWay) (nL := 3) (ret := (some .int)) [(0, .ref a0)] (by decide) rfl (Nat.le_of_ble_eq_true rfl) rfl ?_
  intro p e s0 m below meth c X hr hlk
  have k7 := X.ht _ (inM _ q_485)
  unfold f_X6_onWay at hf
  refine v_iconst (pc := 0) X (v := (0 : Int32)) dX6_onWay_0 (by decide) ?_
  refine v_istore_n (pc := 1) X (i := 1) (lv' := [(1, .int (0 : Int32)), (0, .ref a0)]) dX6_onWay_1 rfl (Nat.le_of_ble_eq_true rfl) rfl ?_
  refine v_iconst (pc := 2) X (v := (0 : Int32)) dX6_onWay_2 (by decide) ?_
  refine v_istore_n (pc := 3) X (i := 2) (lv' := [(2, .int (0 : Int32)), (1, .int (0 : Int32)), (0, .ref a0)]) dX6_onWay_3 rfl (Nat.le_of_ble_eq_true rfl) rfl ?_
  obtain ⟨n, hf⟩ := hf
  refine v_sub [2, 1, 0] rfl ?_
  refine w_X6_onWay_4 X hr hlk a0 _ K (fun y14 h15 hf => ?_) n ((0 : Int32), (0 : Int32)) h hf
  refine v_iload_n (pc := 46) X 0 dX6_onWay_46 rfl rfl ?_
  exact v_iret (pc := 47) X hr hlk dX6_onWay_47 hf
set_option maxHeartbeats 4000000 in
set_option maxRecDepth 100000 in
theorem c_X6_play (l : Launch) (D : va_G) (cA : Nat → ClassId) (L : List Nat) (sh : Sh) (a0 : Nat) (h : Hp) (K : Int32 → Hp → Prop) (hf : f_X6_play sh a0 h K) : Met l yX6_play (wM yX6_play cX6_play 1 (some .int)) ({ frames := 10, cells := 0, slots := 0, locals := 224 } : Room) (PreM D cA L sh h [.ref a0]) (QI D cA L sh K) 0 0 (fun q => q ∈ L) := by
  refine met_v (cc := cX6_play) (nL := 1) (ret := (some .int)) [(0, .ref a0)] (by decide) rfl (Nat.le_of_ble_eq_true rfl) rfl ?_
  intro p e s0 m below meth c X hr hlk
  have k186 := X.ht _ (inM _ q_502)
  unfold f_X6_play at hf
  refine v_aload_n (pc := 0) X 0 dX6_play_0 rfl rfl ?_
  obtain ⟨t1, hf⟩ := hf
  refine v_callVV (pc := 1) X (As := []) (rest := []) (c_X6_look l D cA L sh a0 h _ hf) (cwV 0 X.ht (gwV inM q_714 q_715 q_779 q_7 q_716) rfl rfl rfl (by decide +kernel) ⟨Nat.le_of_ble_eq_true rfl, Nat.le_of_ble_eq_true rfl⟩) rfl (by decide) t1 (ent_6 t1) rfl rfl (Nat.le_of_ble_eq_true rfl) ⟨Nat.zero_le _, Nat.zero_le _⟩ dX6_play_1 (fun h3 hf => ?_)
  refine v_aload_n (pc := 4) X 0 dX6_play_4 rfl rfl ?_
  obtain ⟨v4, e_v4, hf⟩ := hf
  refine ge_6_17 (pc := 5) X (fun w h => inM w (inG6 w h)) k186 t1 e_v4 dX6_play_5 ?_
  refine v_if_le (pc := 8) X 14 dX6_play_8 (by decide) (fun c => ?_) (fun c => ?_)
  · replace hf := if_t c hf
    refine v_aload_n (pc := 14) X 0 dX6_play_14 rfl rfl ?_
    refine v_callVV (pc := 15) X (As := []) (rest := []) (c_X6_know l D cA L sh a0 h3 _ hf) (cwV 0 X.ht (gwV inM q_542 q_543 q_750 q_7 q_544) rfl rfl rfl (by decide +kernel) ⟨Nat.le_of_ble_eq_true rfl, Nat.le_of_ble_eq_true rfl⟩) rfl (by decide) t1 (ent_6 t1) rfl rfl (Nat.le_of_ble_eq_true rfl) ⟨Nat.zero_le _, Nat.zero_le _⟩ dX6_play_15 (fun h6 hf => ?_)
    refine v_aload_n (pc := 18) X 0 dX6_play_18 rfl rfl ?_
    refine v_callVI (pc := 19) X (As := []) (rest := []) (c_X6_go l D cA L sh a0 h6 _ hf) (cwV 0 X.ht (gwV inM q_717 q_718 q_780 q_7 q_719) rfl rfl rfl (by decide +kernel) ⟨Nat.le_of_ble_eq_true rfl, Nat.le_of_ble_eq_true rfl⟩) rfl (by decide) t1 (ent_6 t1) rfl rfl (Nat.le_of_ble_eq_true rfl) ⟨Nat.zero_le _, Nat.zero_le _⟩ dX6_play_19 (fun r7 h8 hf => ?_)
    exact v_iret (pc := 22) X hr hlk dX6_play_22 hf
  · replace hf := if_f c hf
    refine v_bipush (pc := 11) X (v := (-2 : Int32)) dX6_play_11 (by decide) ?_
    exact v_iret (pc := 13) X hr hlk dX6_play_13 hf
set_option maxHeartbeats 4000000 in
set_option maxRecDepth 100000 in
theorem w_X6_restore_16 {p : Program} {l : Launch} {e : Env} {s0 : State} {m : MethodId} {args : Array Value} {below : List Frame} {meth : Method} {c : Code} {D : va_G} {cA : Nat → ClassId} {L : List Nat} {sh : Sh} (X : Cx p s0 m c args cX6_restore 2 (wM yX6_restore cX6_restore 2 (some .int)) RX6 (fun q => q ∈ L) D cA L sh) (hr : meth.sig.returnType = (some .int)) (hlk : meth.locks = false) (x0 : Nat) (Xc : Hp → Prop) (K : Int32 → Hp → Prop) (hx : ∀  (h1 : Hp), Xc  h1 → V p l e (headSpec (wM yX6_restore cX6_restore 2 (some .int)) ({ frames := 1, cells := 0, slots := 0, locals := 21 } : Room)).room s0 m args below meth c (MQ below (QI D cA L sh K) args s0 0 0 (fun q => q ∈ L)) (fun q => q ∈ L) 0 0 D cA L sh 2 h1 41 [(0, .ref x0)] []) : ∀ (n : Nat) (s : Int32) (h : Hp), lp (b_X6_restore_16 sh x0 Xc) n s h → V p l e (headSpec (wM yX6_restore cX6_restore 2 (some .int)) ({ frames := 1, cells := 0, slots := 0, locals := 21 } : Room)).room s0 m args below meth c (MQ below (QI D cA L sh K) args s0 0 0 (fun q => q ∈ L)) (fun q => q ∈ L) 0 0 D cA L sh 2 h 16 [(0, .ref x0), (1, .int s)] [] := by
  have k148 := X.ht _ (inM _ q_490)
  have k7 := X.ht _ (inM _ q_485)
  have k19 := X.ht _ (inM _ q_489)
  intro n
  induction n with
  | zero => intro s h hf; exact hf.elim
  | succ n ih =>
    intro s h hf
    replace hf : b_X6_restore_16 sh x0 Xc (lp (b_X6_restore_16 sh x0 Xc) n) s h := hf
    unfold b_X6_restore_16 at hf
    refine v_iload_n (pc := 16) X 1 dX6_restore_16 rfl rfl ?_
    refine v_sipush (pc := 17) X (v := (623 : Int32)) dX6_restore_17 (by decide) ?_
    refine v_icmp_ge (pc := 20) X 41 dX6_restore_20 (by decide) (fun c => ?_) (fun c => ?_)
    · replace hf := if_t c hf
      refine v_sub [0] rfl ?_
      exact hx h hf
    · replace hf := if_f c hf
      refine v_aload_n (pc := 23) X 0 dX6_restore_23 rfl rfl ?_
      obtain ⟨t5, hf⟩ := hf
      obtain ⟨q6, e_q6, hf⟩ := hf
      refine ge_6_0 (pc := 24) X (fun w h => inM w (inG6 w h)) k7 t5 e_q6 dX6_restore_24 ?_
      refine v_iload_n (pc := 27) X 1 dX6_restore_27 rfl rfl ?_
      refine v_aload_n (pc := 28) X 0 dX6_restore_28 rfl rfl ?_
      obtain ⟨q7, e_q7, hf⟩ := hf
      refine ge_6_4 (pc := 29) X (fun w h => inM w (inG6 w h)) k19 t5 e_q7 dX6_restore_29 ?_
      refine v_iload_n (pc := 32) X 1 dX6_restore_32 rfl rfl ?_
      obtain ⟨t8, hf⟩ := hf
      obtain ⟨b10, v9, e_v9, hf⟩ := hf
      refine v_iald (pc := 33) X t8 b10 e_v9 dX6_restore_33 ?_
      obtain ⟨t11, hf⟩ := hf
      obtain ⟨b13, h12, e_h12, hf⟩ := hf
      refine v_iast (pc := 34) X t11 b13 e_h12 dX6_restore_34 ?_
      refine v_iinc (pc := 35) X 1 (v := s + (1 : Int32)) (lv' := [(1, .int (s + (1 : Int32))), (0, .ref x0)]) dX6_restore_35 rfl rfl (Nat.le_of_ble_eq_true rfl) rfl ?_
      refine v_goto (pc := 38) X 16 dX6_restore_38 (by decide) ?_
      refine v_sub [1, 0] rfl ?_
      exact ih (s + (1 : Int32)) h12 hf

set_option maxHeartbeats 4000000 in
set_option maxRecDepth 100000 in
theorem c_X6_restore (l : Launch) (D : va_G) (cA : Nat → ClassId) (L : List Nat) (sh : Sh) (a0 : Nat) (h : Hp) (K : Int32 → Hp → Prop) (hf : f_X6_restore sh a0 h K) : Met l yX6_restore (wM yX6_restore cX6_restore 2 (some .int)) ({ frames := 1, cells := 0, slots := 0, locals := 21 } : Room) (PreM D cA L sh h [.ref a0]) (QI D cA L sh K) 0 0 (fun q => q ∈ L) := by
  refine met_v (cc := cX6_restore) (nL := 2) (ret := (some .int)) [(0, .ref a0)] (by decide) rfl (Nat.le_of_ble_eq_true rfl) rfl ?_
  intro p e s0 m below meth c X hr hlk
  have k148 := X.ht _ (inM _ q_490)
  have k7 := X.ht _ (inM _ q_485)
  have k19 := X.ht _ (inM _ q_489)
  unfold f_X6_restore at hf
  refine v_aload_n (pc := 0) X 0 dX6_restore_0 rfl rfl ?_
  obtain ⟨t1, hf⟩ := hf
  obtain ⟨v2, e_v2, hf⟩ := hf
  refine ge_6_5 (pc := 1) X (fun w h => inM w (inG6 w h)) k148 t1 e_v2 dX6_restore_1 ?_
  refine v_if_ne (pc := 4) X 10 dX6_restore_4 (by decide) (fun c => ?_) (fun c => ?_)
  · replace hf := if_f c hf
    refine v_aload_n (pc := 10) X 0 dX6_restore_10 rfl rfl ?_
    refine v_callVV (pc := 11) X (As := []) (rest := []) (c_X6_know l D cA L sh a0 h _ hf) (cwV 0 X.ht (gwV inM q_542 q_543 q_750 q_7 q_544) rfl rfl rfl (by decide +kernel) ⟨Nat.le_of_ble_eq_true rfl, Nat.le_of_ble_eq_true rfl⟩) rfl (by decide) t1 (ent_6 t1) rfl rfl (Nat.le_of_ble_eq_true rfl) ⟨Nat.zero_le _, Nat.zero_le _⟩ dX6_restore_11 (fun h4 hf => ?_)
    refine v_iconst (pc := 14) X (v := (0 : Int32)) dX6_restore_14 (by decide) ?_
    refine v_istore_n (pc := 15) X (i := 1) (lv' := [(1, .int (0 : Int32)), (0, .ref a0)]) dX6_restore_15 rfl (Nat.le_of_ble_eq_true rfl) rfl ?_
    obtain ⟨n, hf⟩ := hf
    refine v_sub [1, 0] rfl ?_
    refine w_X6_restore_16 X hr hlk a0 _ K (fun  h14 hf => ?_) n (0 : Int32) h4 hf
    refine v_aload_n (pc := 41) X 0 dX6_restore_41 rfl rfl ?_
    obtain ⟨q15, e_q15, hf⟩ := hf
    refine ge_6_0 (pc := 42) X (fun w h => inM w (inG6 w h)) k7 t1 e_q15 dX6_restore_42 ?_
    refine v_iconst (pc := 45) X (v := (0 : Int32)) dX6_restore_45 (by decide) ?_
    obtain ⟨t16, hf⟩ := hf
    obtain ⟨b18, v17, e_v17, hf⟩ := hf
    refine v_iald (pc := 46) X t16 b18 e_v17 dX6_restore_46 ?_
    exact v_iret (pc := 47) X hr hlk dX6_restore_47 hf
  · replace hf := if_t c hf
    refine v_bipush (pc := 7) X (v := (-2 : Int32)) dX6_restore_7 (by decide) ?_
    exact v_iret (pc := 9) X hr hlk dX6_restore_9 hf
set_option maxHeartbeats 4000000 in
set_option maxRecDepth 100000 in
theorem w_X6_stale_4 {p : Program} {l : Launch} {e : Env} {s0 : State} {m : MethodId} {args : Array Value} {below : List Frame} {meth : Method} {c : Code} {D : va_G} {cA : Nat → ClassId} {L : List Nat} {sh : Sh} (X : Cx p s0 m c args cX6_stale 4 (wM yX6_stale cX6_stale 4 (some .int)) RX6 (fun q => q ∈ L) D cA L sh) (hr : meth.sig.returnType = (some .int)) (hlk : meth.locks = false) (x0 : Nat) (x1 : Int32) (Xc : Int32 → Hp → Prop) (K : Int32 → Hp → Prop) (hx : ∀ (y2 : Int32) (h1 : Hp), Xc y2 h1 → V p l e (headSpec (wM yX6_stale cX6_stale 4 (some .int)) ({ frames := 2, cells := 0, slots := 0, locals := 43 } : Room)).room s0 m args below meth c (MQ below (QI D cA L sh K) args s0 0 0 (fun q => q ∈ L)) (fun q => q ∈ L) 0 0 D cA L sh 4 h1 39 [(2, .int y2)] []) : ∀ (n : Nat) (s : Int32 × Int32) (h : Hp), lp (b_X6_stale_4 sh x0 x1 Xc) n s h → V p l e (headSpec (wM yX6_stale cX6_stale 4 (some .int)) ({ frames := 2, cells := 0, slots := 0, locals := 43 } : Room)).room s0 m args below meth c (MQ below (QI D cA L sh K) args s0 0 0 (fun q => q ∈ L)) (fun q => q ∈ L) 0 0 D cA L sh 4 h 4 [(0, .ref x0), (1, .int x1), (2, .int s.1), (3, .int s.2)] [] := by
  have k7 := X.ht _ (inM _ q_485)
  intro n
  induction n with
  | zero => intro s h hf; exact hf.elim
  | succ n ih =>
    intro s h hf
    replace hf : b_X6_stale_4 sh x0 x1 Xc (lp (b_X6_stale_4 sh x0 x1 Xc) n) s h := hf
    unfold b_X6_stale_4 at hf
    refine v_iload_n (pc := 4) X 3 dX6_stale_4 rfl rfl ?_
    refine v_aload_n (pc := 5) X 0 dX6_stale_5 rfl rfl ?_
    obtain ⟨t1, hf⟩ := hf
    obtain ⟨q2, e_q2, hf⟩ := hf
    refine ge_6_0 (pc := 6) X (fun w h => inM w (inG6 w h)) k7 t1 e_q2 dX6_stale_6 ?_
    refine v_iload_n (pc := 9) X 1 dX6_stale_9 rfl rfl ?_
    refine v_bipush (pc := 10) X (v := (6 : Int32)) dX6_stale_10 (by decide) ?_
    refine v_callSI (pc := 12) X (As := [.int x1, .int (6 : Int32)]) (rest := [.ref q2, .int s.2]) (c_X6_of l D cA L sh x1 (6 : Int32) h _ hf) (va_cwS 2 X.ht (gwS inM q_551 q_552 q_7 q_553) rfl rfl rfl (by decide +kernel) ⟨Nat.le_of_ble_eq_true rfl, Nat.le_of_ble_eq_true rfl⟩) rfl rfl (Nat.le_of_ble_eq_true rfl) ⟨Nat.zero_le _, Nat.zero_le _⟩ dX6_stale_12 (fun r3 h4 hf => ?_)
    obtain ⟨t5, hf⟩ := hf
    obtain ⟨b7, v6, e_v6, hf⟩ := hf
    refine v_iald (pc := 15) X t5 b7 e_v6 dX6_stale_15 ?_
    refine v_icmp_ge (pc := 16) X 39 dX6_stale_16 (by decide) (fun c => ?_) (fun c => ?_)
    · replace hf := if_t c hf
      refine v_sub [2] rfl ?_
      exact hx s.1 h4 hf
    · replace hf := if_f c hf
      refine v_iload_n (pc := 19) X 2 dX6_stale_19 rfl rfl ?_
      refine v_aload_n (pc := 20) X 0 dX6_stale_20 rfl rfl ?_
      obtain ⟨q8, e_q8, hf⟩ := hf
      refine ge_6_0 (pc := 21) X (fun w h => inM w (inG6 w h)) k7 t1 e_q8 dX6_stale_21 ?_
      refine v_iload_n (pc := 24) X 1 dX6_stale_24 rfl rfl ?_
      refine v_iload_n (pc := 25) X 3 dX6_stale_25 rfl rfl ?_
      refine v_iconst (pc := 26) X (v := (5 : Int32)) dX6_stale_26 (by decide) ?_
      refine v_callSI (pc := 27) X (As := [.int x1, .int s.2, .int (5 : Int32)]) (rest := [.ref q8, .int s.1]) (c_X6_ofEntry l D cA L sh x1 s.2 (5 : Int32) h4 _ hf) (va_cwS 3 X.ht (gwS inM q_557 q_558 q_7 q_559) rfl rfl rfl (by decide +kernel) ⟨Nat.le_of_ble_eq_true rfl, Nat.le_of_ble_eq_true rfl⟩) rfl rfl (Nat.le_of_ble_eq_true rfl) ⟨Nat.zero_le _, Nat.zero_le _⟩ dX6_stale_27 (fun r9 h10 hf => ?_)
      obtain ⟨t11, hf⟩ := hf
      obtain ⟨b13, v12, e_v12, hf⟩ := hf
      refine v_iald (pc := 30) X t11 b13 e_v12 dX6_stale_30 ?_
      refine v_iadd (pc := 31) X dX6_stale_31 ?_
      refine v_istore_n (pc := 32) X (i := 2) (lv' := [(2, .int (s.1 + v12)), (0, .ref x0), (1, .int x1), (3, .int s.2)]) dX6_stale_32 rfl (Nat.le_of_ble_eq_true rfl) rfl ?_
      refine v_iinc (pc := 33) X 3 (v := s.2 + (1 : Int32)) (lv' := [(3, .int (s.2 + (1 : Int32))), (2, .int (s.1 + v12)), (0, .ref x0), (1, .int x1)]) dX6_stale_33 rfl rfl (Nat.le_of_ble_eq_true rfl) rfl ?_
      refine v_goto (pc := 36) X 4 dX6_stale_36 (by decide) ?_
      refine v_sub [2, 3, 1, 0] rfl ?_
      exact ih (s.1 + v12, s.2 + (1 : Int32)) h10 hf

set_option maxHeartbeats 4000000 in
set_option maxRecDepth 100000 in
theorem c_X6_stale (l : Launch) (D : va_G) (cA : Nat → ClassId) (L : List Nat) (sh : Sh) (a0 : Nat) (p1 : Int32) (h : Hp) (K : Int32 → Hp → Prop) (hf : f_X6_stale sh a0 p1 h K) : Met l yX6_stale (wM yX6_stale cX6_stale 4 (some .int)) ({ frames := 2, cells := 0, slots := 0, locals := 43 } : Room) (PreM D cA L sh h [.ref a0, .int p1]) (QI D cA L sh K) 0 0 (fun q => q ∈ L) := by
  refine met_v (cc := cX6_stale) (nL := 4) (ret := (some .int)) [(0, .ref a0), (1, .int p1)] (by decide) rfl (Nat.le_of_ble_eq_true rfl) rfl ?_
  intro p e s0 m below meth c X hr hlk
  have k7 := X.ht _ (inM _ q_485)
  unfold f_X6_stale at hf
  refine v_iconst (pc := 0) X (v := (0 : Int32)) dX6_stale_0 (by decide) ?_
  refine v_istore_n (pc := 1) X (i := 2) (lv' := [(2, .int (0 : Int32)), (0, .ref a0), (1, .int p1)]) dX6_stale_1 rfl (Nat.le_of_ble_eq_true rfl) rfl ?_
  refine v_iconst (pc := 2) X (v := (0 : Int32)) dX6_stale_2 (by decide) ?_
  refine v_istore_n (pc := 3) X (i := 3) (lv' := [(3, .int (0 : Int32)), (2, .int (0 : Int32)), (0, .ref a0), (1, .int p1)]) dX6_stale_3 rfl (Nat.le_of_ble_eq_true rfl) rfl ?_
  obtain ⟨n, hf⟩ := hf
  refine v_sub [2, 3, 1, 0] rfl ?_
  refine w_X6_stale_4 X hr hlk a0 p1 _ K (fun y14 h15 hf => ?_) n ((0 : Int32), (0 : Int32)) h hf
  refine v_iload_n (pc := 39) X 0 dX6_stale_39 rfl rfl ?_
  exact v_iret (pc := 40) X hr hlk dX6_stale_40 hf

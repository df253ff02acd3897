set_option maxHeartbeats 4000000 in
set_option maxRecDepth 100000 in
theorem w_X6_inWay_5 {p : Program} {l : Launch} {e : Env} {s0 : State} {m : MethodId} {args : Array Value} {below : List Frame} {meth : Method} {c : Code} {D : va_G} {cA : Nat → ClassId} {L : List Nat} {sh : Sh} (X : Cx p s0 m c args cX6_inWay 5 (wM yX6_inWay cX6_inWay 5 (some .int)) RX6 (fun q => q ∈ L) D cA L sh) (hr : meth.sig.returnType = (some .int)) (hlk : meth.locks = false) (x0 : Nat) (x1 : Int32) (Xc : Int32 → Hp → Prop) (K : Int32 → Hp → Prop) (hx : ∀ (y2 : Int32) (h1 : Hp), Xc y2 h1 → V p l e (headSpec (wM yX6_inWay cX6_inWay 5 (some .int)) ({ frames := 1, cells := 0, slots := 0, locals := 21 } : Room)).room s0 m args below meth c (MQ below (QI D cA L sh K) args s0 0 0 (fun q => q ∈ L)) (fun q => q ∈ L) 0 0 D cA L sh 5 h1 111 [(2, .int y2)] []) : ∀ (n : Nat) (s : Int32 × Int32) (h : Hp), lp (b_X6_inWay_5 sh x0 x1 Xc) n s h → V p l e (headSpec (wM yX6_inWay cX6_inWay 5 (some .int)) ({ frames := 1, cells := 0, slots := 0, locals := 21 } : Room)).room s0 m args below meth c (MQ below (QI D cA L sh K) args s0 0 0 (fun q => q ∈ L)) (fun q => q ∈ L) 0 0 D cA L sh 5 h 5 [(0, .ref x0), (1, .int x1), (2, .int s.1), (3, .int s.2)] [] := by
  have k7 := X.ht _ (inM _ q_485)
  intro n
  induction n with
  | zero => intro s h hf; exact hf.elim
  | succ n ih =>
    intro s h hf
    replace hf : b_X6_inWay_5 sh x0 x1 Xc (lp (b_X6_inWay_5 sh x0 x1 Xc) n) s h := hf
    unfold b_X6_inWay_5 at hf
    refine v_iload_n (pc := 5) X 3 dX6_inWay_5 rfl rfl ?_
    refine v_aload_n (pc := 6) X 0 dX6_inWay_6 rfl rfl ?_
    obtain ⟨t1, hf⟩ := hf
    obtain ⟨q2, e_q2, hf⟩ := hf
    refine ge_6_0 (pc := 7) X (fun w h => inM w (inG6 w h)) k7 t1 e_q2 dX6_inWay_7 ?_
    refine v_sipush (pc := 10) X (v := (437 : Int32)) dX6_inWay_10 (by decide) ?_
    obtain ⟨t3, hf⟩ := hf
    obtain ⟨b5, v4, e_v4, hf⟩ := hf
    refine v_iald (pc := 13) X t3 b5 e_v4 dX6_inWay_13 ?_
    refine v_icmp_ge (pc := 14) X 111 dX6_inWay_14 (by decide) (fun c => ?_) (fun c => ?_)
    · replace hf := if_t c hf
      refine v_sub [2] rfl ?_
      exact hx s.1 h hf
    · replace hf := if_f c hf
      refine v_aload_n (pc := 17) X 0 dX6_inWay_17 rfl rfl ?_
      obtain ⟨q6, e_q6, hf⟩ := hf
      refine ge_6_0 (pc := 18) X (fun w h => inM w (inG6 w h)) k7 t1 e_q6 dX6_inWay_18 ?_
      refine v_iload_n (pc := 21) X 3 dX6_inWay_21 rfl rfl ?_
      refine v_iconst (pc := 22) X (v := (2 : Int32)) dX6_inWay_22 (by decide) ?_
      refine v_callSI (pc := 23) X (As := [.int s.2, .int (2 : Int32)]) (rest := [.ref q6]) (c_X6_ofOpen l D cA L sh s.2 (2 : Int32) h _ hf) (va_cwS 2 X.ht (gwS inM q_539 q_540 q_7 q_541) rfl rfl rfl (by decide +kernel) ⟨Nat.le_of_ble_eq_true rfl, Nat.le_of_ble_eq_true rfl⟩) rfl rfl (Nat.le_of_ble_eq_true rfl) ⟨Nat.zero_le _, Nat.zero_le _⟩ dX6_inWay_23 (fun r7 h8 hf => ?_)
      obtain ⟨t9, hf⟩ := hf
      obtain ⟨b11, v10, e_v10, hf⟩ := hf
      refine v_iald (pc := 26) X t9 b11 e_v10 dX6_inWay_26 ?_
      refine v_iload_n (pc := 27) X 1 dX6_inWay_27 rfl rfl ?_
      refine v_ishr (pc := 28) X dX6_inWay_28 ?_
      refine v_iconst (pc := 29) X (v := (1 : Int32)) dX6_inWay_29 (by decide) ?_
      refine v_iand (pc := 30) X dX6_inWay_30 ?_
      refine v_iconst (pc := 31) X (v := (1 : Int32)) dX6_inWay_31 (by decide) ?_
      refine v_icmp_ne (pc := 32) X 62 dX6_inWay_32 (by decide) (fun c => ?_) (fun c => ?_)
      · replace hf := if_f c hf
        refine v_iconst (pc := 62) X (v := (0 : Int32)) dX6_inWay_62 (by decide) ?_
        refine v_istore (pc := 63) X (i := 4) (lv' := [(4, .int (0 : Int32)), (0, .ref x0), (1, .int x1), (2, .int s.1), (3, .int s.2)]) dX6_inWay_63 (Nat.le_of_ble_eq_true rfl) rfl ?_
        refine v_iload (pc := 65) X 0 dX6_inWay_65 rfl ?_
        refine v_if_eq (pc := 67) X 103 dX6_inWay_67 (by decide) (fun _ => ?_) (fun c => absurd c (by decide))
        refine v_iload_n (pc := 103) X 3 dX6_inWay_103 rfl rfl ?_
        refine v_istore_n (pc := 104) X (i := 2) (lv' := [(2, .int s.1), (4, .int (0 : Int32)), (0, .ref x0), (1, .int x1), (3, .int s.2)]) dX6_inWay_104 rfl (Nat.le_of_ble_eq_true rfl) rfl ?_
        refine v_iinc (pc := 105) X 4 (v := s.2 + (1 : Int32)) (lv' := [(3, .int (s.2 + (1 : Int32))), (2, .int s.1), (4, .int (0 : Int32)), (0, .ref x0), (1, .int x1)]) dX6_inWay_105 rfl rfl (Nat.le_of_ble_eq_true rfl) rfl ?_
        refine v_goto (pc := 108) X 5 dX6_inWay_108 (by decide) ?_
        refine v_sub [3, 4, 1, 0] rfl ?_
        exact ih (s.1, s.2 + (1 : Int32)) h8 hf
      · replace hf := if_t c hf
        refine v_aload_n (pc := 35) X 0 dX6_inWay_35 rfl rfl ?_
        obtain ⟨q12, e_q12, hf⟩ := hf
        refine ge_6_0 (pc := 36) X (fun w h => inM w (inG6 w h)) k7 t1 e_q12 dX6_inWay_36 ?_
        refine v_iload_n (pc := 39) X 3 dX6_inWay_39 rfl rfl ?_
        refine v_iconst (pc := 40) X (v := (4 : Int32)) dX6_inWay_40 (by decide) ?_
        refine v_iload_n (pc := 41) X 1 dX6_inWay_41 rfl rfl ?_
        refine v_iadd (pc := 42) X dX6_inWay_42 ?_
        refine v_callSI (pc := 43) X (As := [.int s.2, .int ((4 : Int32) + x1)]) (rest := [.ref q12]) (c_X6_ofOpen l D cA L sh s.2 ((4 : Int32) + x1) h8 _ hf) (va_cwS 2 X.ht (gwS inM q_539 q_540 q_7 q_541) rfl rfl rfl (by decide +kernel) ⟨Nat.le_of_ble_eq_true rfl, Nat.le_of_ble_eq_true rfl⟩) rfl rfl (Nat.le_of_ble_eq_true rfl) ⟨Nat.zero_le _, Nat.zero_le _⟩ dX6_inWay_43 (fun r13 h14 hf => ?_)
        obtain ⟨t15, hf⟩ := hf
        obtain ⟨b17, v16, e_v16, hf⟩ := hf
        refine v_iald (pc := 46) X t15 b17 e_v16 dX6_inWay_46 ?_
        refine v_aload_n (pc := 47) X 0 dX6_inWay_47 rfl rfl ?_
        obtain ⟨q18, e_q18, hf⟩ := hf
        refine ge_6_0 (pc := 48) X (fun w h => inM w (inG6 w h)) k7 t1 e_q18 dX6_inWay_48 ?_
        refine v_iconst (pc := 51) X (v := (5 : Int32)) dX6_inWay_51 (by decide) ?_
        refine v_iload_n (pc := 52) X 1 dX6_inWay_52 rfl rfl ?_
        refine v_iadd (pc := 53) X dX6_inWay_53 ?_
        obtain ⟨t19, hf⟩ := hf
        obtain ⟨b21, v20, e_v20, hf⟩ := hf
        refine v_iald (pc := 54) X t19 b21 e_v20 dX6_inWay_54 ?_
        refine v_icmp_ge (pc := 55) X 62 dX6_inWay_55 (by decide) (fun c => ?_) (fun c => ?_)
        · replace hf := if_t c hf
          refine v_iconst (pc := 62) X (v := (0 : Int32)) dX6_inWay_62 (by decide) ?_
          refine v_istore (pc := 63) X (i := 4) (lv' := [(4, .int (0 : Int32)), (0, .ref x0), (1, .int x1), (2, .int s.1), (3, .int s.2)]) dX6_inWay_63 (Nat.le_of_ble_eq_true rfl) rfl ?_
          refine v_iload (pc := 65) X 0 dX6_inWay_65 rfl ?_
          refine v_if_eq (pc := 67) X 103 dX6_inWay_67 (by decide) (fun _ => ?_) (fun c => absurd c (by decide))
          refine v_iload_n (pc := 103) X 3 dX6_inWay_103 rfl rfl ?_
          refine v_istore_n (pc := 104) X (i := 2) (lv' := [(2, .int s.1), (4, .int (0 : Int32)), (0, .ref x0), (1, .int x1), (3, .int s.2)]) dX6_inWay_104 rfl (Nat.le_of_ble_eq_true rfl) rfl ?_
          refine v_iinc (pc := 105) X 4 (v := s.2 + (1 : Int32)) (lv' := [(3, .int (s.2 + (1 : Int32))), (2, .int s.1), (4, .int (0 : Int32)), (0, .ref x0), (1, .int x1)]) dX6_inWay_105 rfl rfl (Nat.le_of_ble_eq_true rfl) rfl ?_
          refine v_goto (pc := 108) X 5 dX6_inWay_108 (by decide) ?_
          refine v_sub [3, 4, 1, 0] rfl ?_
          exact ih (s.1, s.2 + (1 : Int32)) h14 hf
        · replace hf := if_f c hf
          refine v_iconst (pc := 58) X (v := (1 : Int32)) dX6_inWay_58 (by decide) ?_
          refine v_goto (pc := 59) X 63 dX6_inWay_59 (by decide) ?_
          refine v_istore (pc := 63) X (i := 4) (lv' := [(4, .int (1 : Int32)), (0, .ref x0), (1, .int x1), (2, .int s.1), (3, .int s.2)]) dX6_inWay_63 (Nat.le_of_ble_eq_true rfl) rfl ?_
          refine v_iload (pc := 65) X 0 dX6_inWay_65 rfl ?_
          refine v_if_eq (pc := 67) X 103 dX6_inWay_67 (by decide) (fun c => absurd c (by decide)) (fun _ => ?_)
          refine v_iload_n (pc := 70) X 3 dX6_inWay_70 rfl rfl ?_
          refine v_bipush (pc := 71) X (v := (-4 : Int32)) dX6_inWay_71 (by decide) ?_
          refine v_icmp_eq (pc := 73) X 90 dX6_inWay_73 (by decide) (fun c => ?_) (fun c => ?_)
          · replace hf := if_t c hf
            refine v_aload_n (pc := 90) X 1 dX6_inWay_90 rfl rfl ?_
            obtain ⟨q22, e_q22, hf⟩ := hf
            refine ge_6_0 (pc := 91) X (fun w h => inM w (inG6 w h)) k7 t1 e_q22 dX6_inWay_91 ?_
            refine v_iload_n (pc := 94) X 4 dX6_inWay_94 rfl rfl ?_
            refine v_iconst (pc := 95) X (v := (0 : Int32)) dX6_inWay_95 (by decide) ?_
            refine v_callSI (pc := 96) X (As := [.int s.2, .int (0 : Int32)]) (rest := [.ref q22]) (c_X6_ofOpen l D cA L sh s.2 (0 : Int32) h14 _ hf) (va_cwS 2 X.ht (gwS inM q_539 q_540 q_7 q_541) rfl rfl rfl (by decide +kernel) ⟨Nat.le_of_ble_eq_true rfl, Nat.le_of_ble_eq_true rfl⟩) rfl rfl (Nat.le_of_ble_eq_true rfl) ⟨Nat.zero_le _, Nat.zero_le _⟩ dX6_inWay_96 (fun r23 h24 hf => ?_)
            obtain ⟨t25, hf⟩ := hf
            obtain ⟨b27, v26, e_v26, hf⟩ := hf
            refine v_iald (pc := 99) X t25 b27 e_v26 dX6_inWay_99 ?_
            refine v_goto (pc := 100) X 104 dX6_inWay_100 (by decide) ?_
            refine v_istore_n (pc := 104) X (i := 2) (lv' := [(2, .int v26), (4, .int (1 : Int32)), (0, .ref x0), (1, .int x1), (3, .int s.2)]) dX6_inWay_104 rfl (Nat.le_of_ble_eq_true rfl) rfl ?_
            refine v_iinc (pc := 105) X 4 (v := s.2 + (1 : Int32)) (lv' := [(3, .int (s.2 + (1 : Int32))), (2, .int v26), (4, .int (1 : Int32)), (0, .ref x0), (1, .int x1)]) dX6_inWay_105 rfl rfl (Nat.le_of_ble_eq_true rfl) rfl ?_
            refine v_goto (pc := 108) X 5 dX6_inWay_108 (by decide) ?_
            refine v_sub [3, 4, 1, 0] rfl ?_
            exact ih (v26, s.2 + (1 : Int32)) h24 hf
          · replace hf := if_f c hf
            refine v_aload_n (pc := 76) X 1 dX6_inWay_76 rfl rfl ?_
            obtain ⟨q28, e_q28, hf⟩ := hf
            refine ge_6_0 (pc := 77) X (fun w h => inM w (inG6 w h)) k7 t1 e_q28 dX6_inWay_77 ?_
            refine v_iload_n (pc := 80) X 4 dX6_inWay_80 rfl rfl ?_
            refine v_iconst (pc := 81) X (v := (0 : Int32)) dX6_inWay_81 (by decide) ?_
            refine v_callSI (pc := 82) X (As := [.int s.2, .int (0 : Int32)]) (rest := [.ref q28]) (c_X6_ofOpen l D cA L sh s.2 (0 : Int32) h14 _ hf) (va_cwS 2 X.ht (gwS inM q_539 q_540 q_7 q_541) rfl rfl rfl (by decide +kernel) ⟨Nat.le_of_ble_eq_true rfl, Nat.le_of_ble_eq_true rfl⟩) rfl rfl (Nat.le_of_ble_eq_true rfl) ⟨Nat.zero_le _, Nat.zero_le _⟩ dX6_inWay_82 (fun r29 h30 hf => ?_)
            obtain ⟨t31, hf⟩ := hf
            obtain ⟨b33, v32, e_v32, hf⟩ := hf
            refine v_iald (pc := 85) X t31 b33 e_v32 dX6_inWay_85 ?_
            refine v_iload_n (pc := 86) X 3 dX6_inWay_86 rfl rfl ?_
            refine v_icmp_ge (pc := 87) X 103 dX6_inWay_87 (by decide) (fun c => ?_) (fun c => ?_)
            · replace hf := if_t c hf
              refine v_iload_n (pc := 103) X 3 dX6_inWay_103 rfl rfl ?_
              refine v_istore_n (pc := 104) X (i := 2) (lv' := [(2, .int s.1), (4, .int (1 : Int32)), (0, .ref x0), (1, .int x1), (3, .int s.2)]) dX6_inWay_104 rfl (Nat.le_of_ble_eq_true rfl) rfl ?_
              refine v_iinc (pc := 105) X 4 (v := s.2 + (1 : Int32)) (lv' := [(3, .int (s.2 + (1 : Int32))), (2, .int s.1), (4, .int (1 : Int32)), (0, .ref x0), (1, .int x1)]) dX6_inWay_105 rfl rfl (Nat.le_of_ble_eq_true rfl) rfl ?_
              refine v_goto (pc := 108) X 5 dX6_inWay_108 (by decide) ?_
              refine v_sub [3, 4, 1, 0] rfl ?_
              exact ih (s.1, s.2 + (1 : Int32)) h30 hf
            · replace hf := if_f c hf
              refine v_aload_n (pc := 90) X 1 dX6_inWay_90 rfl rfl ?_
              obtain ⟨q34, e_q34, hf⟩ := hf
              refine ge_6_0 (pc := 91) X (fun w h => inM w (inG6 w h)) k7 t1 e_q34 dX6_inWay_91 ?_
              refine v_iload_n (pc := 94) X 4 dX6_inWay_94 rfl rfl ?_
              refine v_iconst (pc := 95) X (v := (0 : Int32)) dX6_inWay_95 (by decide) ?_
              refine v_callSI (pc := 96) X (As := [.int s.2, .int (0 : Int32)]) (rest := [.ref q34]) (c_X6_ofOpen l D cA L sh s.2 (0 : Int32) h30 _ hf) (va_cwS 2 X.ht (gwS inM q_539 q_540 q_7 q_541) rfl rfl rfl (by decide +kernel) ⟨Nat.le_of_ble_eq_true rfl, Nat.le_of_ble_eq_true rfl⟩) rfl rfl (Nat.le_of_ble_eq_true rfl) ⟨Nat.zero_le _, Nat.zero_le _⟩ dX6_inWay_96 (fun r35 h36 hf => ?_)
              obtain ⟨t37, hf⟩ := hf
              obtain ⟨b39, v38, e_v38, hf⟩ := hf
              refine v_iald (pc := 99) X t37 b39 e_v38 dX6_inWay_99 ?_
              refine v_goto (pc := 100) X 104 dX6_inWay_100 (by decide) ?_
              refine v_istore_n (pc := 104) X (i := 2) (lv' := [(2, .int v38), (4, .int (1 : Int32)), (0, .ref x0), (1, .int x1), (3, .int s.2)]) dX6_inWay_104 rfl (Nat.le_of_ble_eq_true rfl) rfl ?_
              refine v_iinc (pc := 105) X 4 (v := s.2 + (1 : Int32)) (lv' := [(3, .int (s.2 + (1 : Int32))), (2, .int v38), (4, .int (1 : Int32)), (0, .ref x0), (1, .int x1)]) dX6_inWay_105 rfl rfl (Nat.le_of_ble_eq_true rfl) rfl ?_
              refine v_goto (pc := 108) X 5 dX6_inWay_108 (by decide) ?_
              refine v_sub [3, 4, 1, 0] rfl ?_
              exact ih (v38, s.2 + (1 : Int32)) h36 hf

set_option maxHeartbeats 4000000 in
set_option maxRecDepth 100000 in
theorem c_X6_inWay (l : Launch) (D : va_G) (cA : Nat → ClassId) (L : List Nat) (sh : Sh) (a0 : Nat) (p1 : Int32) (h : Hp) (K : Int32 → Hp → Prop) (hf : f_X6_inWay sh a0 p1 h K) : Met l yX6_inWay (wM yX6_inWay cX6_inWay 5 (some .int)) ({ frames := 1, cells := 0, slots := 0, locals := 21 } : Room) (PreM D cA L sh h [.ref a0, .int p1]) (QI D cA L sh K) 0 0 (fun q => q ∈ L) := by
  refine met_v (cc := cX6_inWay) (nL := 5) (ret := (some .int)) [(0, .ref a0), (1, .int p1)] (by decide) rfl (Nat.le_of_ble_eq_true rfl) rfl ?_
  intro p e s0 m below meth c X hr hlk
  have k7 := X.ht _ (inM _ q_485)
  unfold f_X6_inWay at hf
  refine v_bipush (pc := 0) X (v := (-4 : Int32)) dX6_inWay_0 (by decide) ?_
  refine v_istore_n (pc := 2) X (i := 2) (lv' := [(2, .int (-4 : Int32)), (0, .ref a0), (1, .int p1)]) dX6_inWay_2 rfl (Nat.le_of_ble_eq_true rfl) rfl ?_
  refine v_iconst (pc := 3) X (v := (0 : Int32)) dX6_inWay_3 (by decide) ?_
  refine v_istore_n (pc := 4) X (i := 3) (lv' := [(3, .int (0 : Int32)), (2, .int (-4 : Int32)), (0, .ref a0), (1, .int p1)]) dX6_inWay_4 rfl (Nat.le_of_ble_eq_true rfl) rfl ?_
  obtain ⟨n, hf⟩ := hf
  refine v_sub [2, 3, 1, 0] rfl ?_
  refine w_X6_inWay_5 X hr hlk a0 p1 _ K (fun y40 h41 hf => ?_) n ((-4 : Int32), (0 : Int32)) h hf
  refine v_iload_n (pc := 111) X 0 dX6_inWay_111 rfl rfl ?_
  exact v_iret (pc := 112) X hr hlk dX6_inWay_112 hf
set_option maxHeartbeats 4000000 in
set_option maxRecDepth 100000 in
theorem c_X6_alterFault (l : Launch) (D : va_G) (cA : Nat → ClassId) (L : List Nat) (sh : Sh) (a0 : Nat) (p1 : Int32) (p2 : Int32) (h : Hp) (K : Int32 → Hp → Prop) (hf : f_X6_alterFault sh a0 p1 p2 h K) : Met l yX6_alterFault (wM yX6_alterFault cX6_alterFault 3 (some .int)) ({ frames := 2, cells := 0, slots := 0, locals := 45 } : Room) (PreM D cA L sh h [.ref a0, .int p1, .int p2]) (QI D cA L sh K) 0 0 (fun q => q ∈ L) := by
  refine met_v (cc := cX6_alterFault) (nL := 3) (ret := (some .int)) [(0, .ref a0), (1, .int p1), (2, .int p2)] (by decide) rfl (Nat.le_of_ble_eq_true rfl) rfl ?_
  intro p e s0 m below meth c X hr hlk
  have k7 := X.ht _ (inM _ q_485)
  unfold f_X6_alterFault at hf
  refine v_iload_n (pc := 0) X 1 dX6_alterFault_0 rfl rfl ?_
  refine v_callSI (pc := 1) X (As := [.int p1]) (rest := []) (c_X6_isTable l D cA L sh p1 h _ hf) (va_cwS 1 X.ht (gwS inM q_530 q_531 q_7 q_532) rfl rfl rfl (by decide +kernel) ⟨Nat.le_of_ble_eq_true rfl, Nat.le_of_ble_eq_true rfl⟩) rfl rfl (Nat.le_of_ble_eq_true rfl) ⟨Nat.zero_le _, Nat.zero_le _⟩ dX6_alterFault_1 (fun r1 h2 hf => ?_)
  refine v_if_eq (pc := 4) X 17 dX6_alterFault_4 (by decide) (fun c => ?_) (fun c => ?_)
  · replace hf := if_t c hf
    refine v_iconst (pc := 17) X (v := (-1 : Int32)) dX6_alterFault_17 (by decide) ?_
    exact v_iret (pc := 18) X hr hlk dX6_alterFault_18 hf
  · replace hf := if_f c hf
    refine v_iload_n (pc := 7) X 2 dX6_alterFault_7 rfl rfl ?_
    refine v_iconst (pc := 8) X (v := (0 : Int32)) dX6_alterFault_8 (by decide) ?_
    refine v_bipush (pc := 9) X (v := (7 : Int32)) dX6_alterFault_9 (by decide) ?_
    refine v_callSI (pc := 11) X (As := [.int p2, .int (0 : Int32), .int (7 : Int32)]) (rest := []) (c_X6_in l D cA L sh p2 (0 : Int32) (7 : Int32) h2 _ hf) (va_cwS 3 X.ht (gwS inM q_533 q_534 q_7 q_535) rfl rfl rfl (by decide +kernel) ⟨Nat.le_of_ble_eq_true rfl, Nat.le_of_ble_eq_true rfl⟩) rfl rfl (Nat.le_of_ble_eq_true rfl) ⟨Nat.zero_le _, Nat.zero_le _⟩ dX6_alterFault_11 (fun r3 h4 hf => ?_)
    refine v_if_ne (pc := 14) X 19 dX6_alterFault_14 (by decide) (fun c => ?_) (fun c => ?_)
    · replace hf := if_f c hf
      refine v_aload_n (pc := 19) X 0 dX6_alterFault_19 rfl rfl ?_
      refine v_iload_n (pc := 20) X 1 dX6_alterFault_20 rfl rfl ?_
      obtain ⟨t5, hf⟩ := hf
      refine v_callVI (pc := 21) X (As := [.int p1]) (rest := []) (c_X6_inWay l D cA L sh a0 p1 h4 _ hf) (cwV 1 X.ht (gwV inM q_536 q_537 q_749 q_7 q_538) rfl rfl rfl (by decide +kernel) ⟨Nat.le_of_ble_eq_true rfl, Nat.le_of_ble_eq_true rfl⟩) rfl (by decide) t5 (ent_6 t5) rfl rfl (Nat.le_of_ble_eq_true rfl) ⟨Nat.zero_le _, Nat.zero_le _⟩ dX6_alterFault_21 (fun r6 h7 hf => ?_)
      refine v_bipush (pc := 24) X (v := (-4 : Int32)) dX6_alterFault_24 (by decide) ?_
      refine v_icmp_ne (pc := 26) X 44 dX6_alterFault_26 (by decide) (fun c => ?_) (fun c => ?_)
      · replace hf := if_f c hf
        refine v_bipush (pc := 44) X (v := (-2 : Int32)) dX6_alterFault_44 (by decide) ?_
        exact v_iret (pc := 46) X hr hlk dX6_alterFault_46 hf
      · replace hf := if_t c hf
        refine v_aload_n (pc := 29) X 0 dX6_alterFault_29 rfl rfl ?_
        obtain ⟨q8, e_q8, hf⟩ := hf
        refine ge_6_0 (pc := 30) X (fun w h => inM w (inG6 w h)) k7 t5 e_q8 dX6_alterFault_30 ?_
        refine v_bipush (pc := 33) X (v := (11 : Int32)) dX6_alterFault_33 (by decide) ?_
        refine v_iload_n (pc := 35) X 1 dX6_alterFault_35 rfl rfl ?_
        refine v_iadd (pc := 36) X dX6_alterFault_36 ?_
        obtain ⟨t9, hf⟩ := hf
        obtain ⟨b11, v10, e_v10, hf⟩ := hf
        refine v_iald (pc := 37) X t9 b11 e_v10 dX6_alterFault_37 ?_
        refine v_iconst (pc := 38) X (v := (1 : Int32)) dX6_alterFault_38 (by decide) ?_
        refine v_iload_n (pc := 39) X 2 dX6_alterFault_39 rfl rfl ?_
        refine v_ishl (pc := 40) X dX6_alterFault_40 ?_
        refine v_icmp_ne (pc := 41) X 47 dX6_alterFault_41 (by decide) (fun c => ?_) (fun c => ?_)
        · replace hf := if_f c hf
          refine v_aload_n (pc := 47) X 0 dX6_alterFault_47 rfl rfl ?_
          obtain ⟨q12, e_q12, hf⟩ := hf
          refine ge_6_0 (pc := 48) X (fun w h => inM w (inG6 w h)) k7 t5 e_q12 dX6_alterFault_48 ?_
          refine v_iconst (pc := 51) X (v := (1 : Int32)) dX6_alterFault_51 (by decide) ?_
          obtain ⟨t13, hf⟩ := hf
          obtain ⟨b15, v14, e_v14, hf⟩ := hf
          refine v_iald (pc := 52) X t13 b15 e_v14 dX6_alterFault_52 ?_
          refine v_bipush (pc := 53) X (v := (100 : Int32)) dX6_alterFault_53 (by decide) ?_
          refine v_icmp_ne (pc := 55) X 63 dX6_alterFault_55 (by decide) (fun c => ?_) (fun c => ?_)
          · replace hf := if_f c hf
            refine v_iconst (pc := 63) X (v := (0 : Int32)) dX6_alterFault_63 (by decide) ?_
            exact v_iret (pc := 64) X hr hlk dX6_alterFault_64 hf
          · replace hf := if_t c hf
            refine v_bipush (pc := 58) X (v := (-3 : Int32)) dX6_alterFault_58 (by decide) ?_
            refine v_goto (pc := 60) X 64 dX6_alterFault_60 (by decide) ?_
            exact v_iret (pc := 64) X hr hlk dX6_alterFault_64 hf
        · replace hf := if_t c hf
          refine v_bipush (pc := 44) X (v := (-2 : Int32)) dX6_alterFault_44 (by decide) ?_
          exact v_iret (pc := 46) X hr hlk dX6_alterFault_46 hf
    · replace hf := if_t c hf
      refine v_iconst (pc := 17) X (v := (-1 : Int32)) dX6_alterFault_17 (by decide) ?_
      exact v_iret (pc := 18) X hr hlk dX6_alterFault_18 hf
set_option maxHeartbeats 4000000 in
set_option maxRecDepth 100000 in
theorem w_X6_know_51 {p : Program} {l : Launch} {e : Env} {s0 : State} {m : MethodId} {args : Array Value} {below : List Frame} {meth : Method} {c : Code} {D : va_G} {cA : Nat → ClassId} {L : List Nat} {sh : Sh} (X : Cx p s0 m c args cX6_know 2 (wM yX6_know cX6_know 2 none) RX6 (fun q => q ∈ L) D cA L sh) (hr : meth.sig.returnType = none) (hlk : meth.locks = false) (x0 : Nat) (Xc : Hp → Prop) (K : Hp → Prop) (hx : ∀  (h1 : Hp), Xc  h1 → V p l e (headSpec (wM yX6_know cX6_know 2 none) ({ frames := 0, cells := 0, slots := 0, locals := 0 } : Room)).room s0 m args below meth c (MQ below (QV D cA L sh K) args s0 0 0 (fun q => q ∈ L)) (fun q => q ∈ L) 0 0 D cA L sh 2 h1 85 [(0, .ref x0)] []) : ∀ (n : Nat) (s : Int32) (h : Hp), lp (b_X6_know_51 sh x0 Xc) n s h → V p l e (headSpec (wM yX6_know cX6_know 2 none) ({ frames := 0, cells := 0, slots := 0, locals := 0 } : Room)).room s0 m args below meth c (MQ below (QV D cA L sh K) args s0 0 0 (fun q => q ∈ L)) (fun q => q ∈ L) 0 0 D cA L sh 2 h 51 [(0, .ref x0), (1, .int s)] [] := by
  have k42 := X.ht _ (inM _ q_488)
  have k16 := X.ht _ (inM _ q_487)
  have k7 := X.ht _ (inM _ q_485)
  intro n
  induction n with
  | zero => intro s h hf; exact hf.elim
  | succ n ih =>
    intro s h hf
    replace hf : b_X6_know_51 sh x0 Xc (lp (b_X6_know_51 sh x0 Xc) n) s h := hf
    unfold b_X6_know_51 at hf
    refine v_iload_n (pc := 51) X 1 dX6_know_51 rfl rfl ?_
    refine v_sipush (pc := 52) X (v := (623 : Int32)) dX6_know_52 (by decide) ?_
    refine v_icmp_ge (pc := 55) X 85 dX6_know_55 (by decide) (fun c => ?_) (fun c => ?_)
    · replace hf := if_t c hf
      refine v_sub [0] rfl ?_
      exact hx h hf
    · replace hf := if_f c hf
      refine v_aload_n (pc := 58) X 0 dX6_know_58 rfl rfl ?_
      obtain ⟨t3, hf⟩ := hf
      obtain ⟨q4, e_q4, hf⟩ := hf
      refine ge_6_2 (pc := 59) X (fun w h => inM w (inG6 w h)) k16 t3 e_q4 dX6_know_59 ?_
      refine v_sipush (pc := 62) X (v := (623 : Int32)) dX6_know_62 (by decide) ?_
      refine v_aload_n (pc := 65) X 0 dX6_know_65 rfl rfl ?_
      obtain ⟨v5, e_v5, hf⟩ := hf
      refine ge_6_3 (pc := 66) X (fun w h => inM w (inG6 w h)) k42 t3 e_v5 dX6_know_66 ?_
      refine v_imul (pc := 69) X dX6_know_69 ?_
      refine v_iload_n (pc := 70) X 1 dX6_know_70 rfl rfl ?_
      refine v_iadd (pc := 71) X dX6_know_71 ?_
      refine v_aload_n (pc := 72) X 0 dX6_know_72 rfl rfl ?_
      obtain ⟨q6, e_q6, hf⟩ := hf
      refine ge_6_0 (pc := 73) X (fun w h => inM w (inG6 w h)) k7 t3 e_q6 dX6_know_73 ?_
      refine v_iload_n (pc := 76) X 1 dX6_know_76 rfl rfl ?_
      obtain ⟨t7, hf⟩ := hf
      obtain ⟨b9, v8, e_v8, hf⟩ := hf
      refine v_iald (pc := 77) X t7 b9 e_v8 dX6_know_77 ?_
      obtain ⟨t10, hf⟩ := hf
      obtain ⟨b12, h11, e_h11, hf⟩ := hf
      refine v_iast (pc := 78) X t10 b12 e_h11 dX6_know_78 ?_
      refine v_iinc (pc := 79) X 1 (v := s + (1 : Int32)) (lv' := [(1, .int (s + (1 : Int32))), (0, .ref x0)]) dX6_know_79 rfl rfl (Nat.le_of_ble_eq_true rfl) rfl ?_
      refine v_goto (pc := 82) X 51 dX6_know_82 (by decide) ?_
      refine v_sub [1, 0] rfl ?_
      exact ih (s + (1 : Int32)) h11 hf

set_option maxHeartbeats 4000000 in
set_option maxRecDepth 100000 in
theorem w_X6_know_10 {p : Program} {l : Launch} {e : Env} {s0 : State} {m : MethodId} {args : Array Value} {below : List Frame} {meth : Method} {c : Code} {D : va_G} {cA : Nat → ClassId} {L : List Nat} {sh : Sh} (X : Cx p s0 m c args cX6_know 2 (wM yX6_know cX6_know 2 none) RX6 (fun q => q ∈ L) D cA L sh) (hr : meth.sig.returnType = none) (hlk : meth.locks = false) (x0 : Nat) (Xc : Hp → Prop) (K : Hp → Prop) (hx : ∀  (h1 : Hp), Xc  h1 → V p l e (headSpec (wM yX6_know cX6_know 2 none) ({ frames := 0, cells := 0, slots := 0, locals := 0 } : Room)).room s0 m args below meth c (MQ below (QV D cA L sh K) args s0 0 0 (fun q => q ∈ L)) (fun q => q ∈ L) 0 0 D cA L sh 2 h1 39 [(0, .ref x0)] []) : ∀ (n : Nat) (s : Int32) (h : Hp), lp (b_X6_know_10 sh x0 Xc) n s h → V p l e (headSpec (wM yX6_know cX6_know 2 none) ({ frames := 0, cells := 0, slots := 0, locals := 0 } : Room)).room s0 m args below meth c (MQ below (QV D cA L sh K) args s0 0 0 (fun q => q ∈ L)) (fun q => q ∈ L) 0 0 D cA L sh 2 h 10 [(0, .ref x0), (1, .int s)] [] := by
  have k42 := X.ht _ (inM _ q_488)
  have k16 := X.ht _ (inM _ q_487)
  have k7 := X.ht _ (inM _ q_485)
  intro n
  induction n with
  | zero => intro s h hf; exact hf.elim
  | succ n ih =>
    intro s h hf
    replace hf : b_X6_know_10 sh x0 Xc (lp (b_X6_know_10 sh x0 Xc) n) s h := hf
    unfold b_X6_know_10 at hf
    refine v_iload_n (pc := 10) X 1 dX6_know_10 rfl rfl ?_
    refine v_sipush (pc := 11) X (v := (1869 : Int32)) dX6_know_11 (by decide) ?_
    refine v_icmp_ge (pc := 14) X 39 dX6_know_14 (by decide) (fun c => ?_) (fun c => ?_)
    · replace hf := if_t c hf
      refine v_sub [0] rfl ?_
      exact hx h hf
    · replace hf := if_f c hf
      refine v_aload_n (pc := 17) X 0 dX6_know_17 rfl rfl ?_
      obtain ⟨t16, hf⟩ := hf
      obtain ⟨q17, e_q17, hf⟩ := hf
      refine ge_6_2 (pc := 18) X (fun w h => inM w (inG6 w h)) k16 t16 e_q17 dX6_know_18 ?_
      refine v_iload_n (pc := 21) X 1 dX6_know_21 rfl rfl ?_
      refine v_aload_n (pc := 22) X 0 dX6_know_22 rfl rfl ?_
      obtain ⟨q18, e_q18, hf⟩ := hf
      refine ge_6_2 (pc := 23) X (fun w h => inM w (inG6 w h)) k16 t16 e_q18 dX6_know_23 ?_
      refine v_sipush (pc := 26) X (v := (623 : Int32)) dX6_know_26 (by decide) ?_
      refine v_iload_n (pc := 29) X 1 dX6_know_29 rfl rfl ?_
      refine v_iadd (pc := 30) X dX6_know_30 ?_
      obtain ⟨t19, hf⟩ := hf
      obtain ⟨b21, v20, e_v20, hf⟩ := hf
      refine v_iald (pc := 31) X t19 b21 e_v20 dX6_know_31 ?_
      obtain ⟨t22, hf⟩ := hf
      obtain ⟨b24, h23, e_h23, hf⟩ := hf
      refine v_iast (pc := 32) X t22 b24 e_h23 dX6_know_32 ?_
      refine v_iinc (pc := 33) X 1 (v := s + (1 : Int32)) (lv' := [(1, .int (s + (1 : Int32))), (0, .ref x0)]) dX6_know_33 rfl rfl (Nat.le_of_ble_eq_true rfl) rfl ?_
      refine v_goto (pc := 36) X 10 dX6_know_36 (by decide) ?_
      refine v_sub [1, 0] rfl ?_
      exact ih (s + (1 : Int32)) h23 hf

set_option maxHeartbeats 4000000 in
set_option maxRecDepth 100000 in
theorem c_X6_know (l : Launch) (D : va_G) (cA : Nat → ClassId) (L : List Nat) (sh : Sh) (a0 : Nat) (h : Hp) (K : Hp → Prop) (hf : f_X6_know sh a0 h K) : Met l yX6_know (wM yX6_know cX6_know 2 none) ({ frames := 0, cells := 0, slots := 0, locals := 0 } : Room) (PreM D cA L sh h [.ref a0]) (QV D cA L sh K) 0 0 (fun q => q ∈ L) := by
  refine met_v (cc := cX6_know) (nL := 2) (ret := none) [(0, .ref a0)] (by decide) rfl (Nat.le_of_ble_eq_true rfl) rfl ?_
  intro p e s0 m below meth c X hr hlk
  have k42 := X.ht _ (inM _ q_488)
  have k16 := X.ht _ (inM _ q_487)
  have k7 := X.ht _ (inM _ q_485)
  unfold f_X6_know at hf
  refine v_aload_n (pc := 0) X 0 dX6_know_0 rfl rfl ?_
  obtain ⟨t1, hf⟩ := hf
  obtain ⟨v2, e_v2, hf⟩ := hf
  refine ge_6_3 (pc := 1) X (fun w h => inM w (inG6 w h)) k42 t1 e_v2 dX6_know_1 ?_
  refine v_iconst (pc := 4) X (v := (4 : Int32)) dX6_know_4 (by decide) ?_
  refine v_icmp_ne (pc := 5) X 49 dX6_know_5 (by decide) (fun c => ?_) (fun c => ?_)
  · replace hf := if_f c hf
    refine v_iconst (pc := 49) X (v := (0 : Int32)) dX6_know_49 (by decide) ?_
    refine v_istore_n (pc := 50) X (i := 1) (lv' := [(1, .int (0 : Int32)), (0, .ref a0)]) dX6_know_50 rfl (Nat.le_of_ble_eq_true rfl) rfl ?_
    obtain ⟨n, hf⟩ := hf
    refine v_sub [1, 0] rfl ?_
    refine w_X6_know_51 X hr hlk a0 _ K (fun  h13 hf => ?_) n (0 : Int32) h hf
    refine v_aload_n (pc := 85) X 0 dX6_know_85 rfl rfl ?_
    refine v_dup (pc := 86) X dX6_know_86 rfl ?_
    obtain ⟨v14, e_v14, hf⟩ := hf
    refine ge_6_3 (pc := 87) X (fun w h => inM w (inG6 w h)) k42 t1 e_v14 dX6_know_87 ?_
    refine v_iconst (pc := 90) X (v := (1 : Int32)) dX6_know_90 (by decide) ?_
    refine v_iadd (pc := 91) X dX6_know_91 ?_
    obtain ⟨h15, e_h15, hf⟩ := hf
    refine pu_6_3 (pc := 92) X (fun w h => inM w (inG6 w h)) k42 t1 e_h15 dX6_know_92 ?_
    exact v_vret (pc := 95) X hr hlk dX6_know_95 hf
  · replace hf := if_t c hf
    refine v_iconst (pc := 8) X (v := (0 : Int32)) dX6_know_8 (by decide) ?_
    refine v_istore_n (pc := 9) X (i := 1) (lv' := [(1, .int (0 : Int32)), (0, .ref a0)]) dX6_know_9 rfl (Nat.le_of_ble_eq_true rfl) rfl ?_
    obtain ⟨n, hf⟩ := hf
    refine v_sub [1, 0] rfl ?_
    refine w_X6_know_10 X hr hlk a0 _ K (fun  h25 hf => ?_) n (0 : Int32) h hf
    refine v_aload_n (pc := 39) X 0 dX6_know_39 rfl rfl ?_
    refine v_dup (pc := 40) X dX6_know_40 rfl ?_
    obtain ⟨v26, e_v26, hf⟩ := hf
    refine ge_6_3 (pc := 41) X (fun w h => inM w (inG6 w h)) k42 t1 e_v26 dX6_know_41 ?_
    refine v_iconst (pc := 44) X (v := (1 : Int32)) dX6_know_44 (by decide) ?_
    refine v_isub (pc := 45) X dX6_know_45 ?_
    obtain ⟨h27, e_h27, hf⟩ := hf
    refine pu_6_3 (pc := 46) X (fun w h => inM w (inG6 w h)) k42 t1 e_h27 dX6_know_46 ?_
    refine v_iconst (pc := 49) X (v := (0 : Int32)) dX6_know_49 (by decide) ?_
    refine v_istore_n (pc := 50) X (i := 1) (lv' := [(1, .int (0 : Int32)), (0, .ref a0)]) dX6_know_50 rfl (Nat.le_of_ble_eq_true rfl) rfl ?_
    obtain ⟨n, hf⟩ := hf
    refine v_sub [1, 0] rfl ?_
    refine w_X6_know_51 X hr hlk a0 _ K (fun  h28 hf => ?_) n (0 : Int32) h27 hf
    refine v_aload_n (pc := 85) X 0 dX6_know_85 rfl rfl ?_
    refine v_dup (pc := 86) X dX6_know_86 rfl ?_
    obtain ⟨v29, e_v29, hf⟩ := hf
    refine ge_6_3 (pc := 87) X (fun w h => inM w (inG6 w h)) k42 t1 e_v29 dX6_know_87 ?_
    refine v_iconst (pc := 90) X (v := (1 : Int32)) dX6_know_90 (by decide) ?_
    refine v_iadd (pc := 91) X dX6_know_91 ?_
    obtain ⟨h30, e_h30, hf⟩ := hf
    refine pu_6_3 (pc := 92) X (fun w h => inM w (inG6 w h)) k42 t1 e_h30 dX6_know_92 ?_
    exact v_vret (pc := 95) X hr hlk dX6_know_95 hf
set_option maxHeartbeats 4000000 in
set_option maxRecDepth 100000 in
theorem c_X6_ofEntry (l : Launch) (D : va_G) (cA : Nat → ClassId) (L : List Nat) (sh : Sh) (p0 : Int32) (p1 : Int32) (p2 : Int32) (h : Hp) (K : Int32 → Hp → Prop) (hf : f_X6_ofEntry sh p0 p1 p2 h K) : Met l yX6_ofEntry (wM yX6_ofEntry cX6_ofEntry 3 (some .int)) ({ frames := 1, cells := 0, slots := 0, locals := 21 } : Room) (PreM D cA L sh h [.int p0, .int p1, .int p2]) (QI D cA L sh K) 0 0 (fun q => q ∈ L) := by
  refine met_v (cc := cX6_ofEntry) (nL := 3) (ret := (some .int)) [(0, .int p0), (1, .int p1), (2, .int p2)] (by decide) rfl (Nat.le_of_ble_eq_true rfl) rfl ?_
  intro p e s0 m below meth c X hr hlk
  unfold f_X6_ofEntry at hf
  refine v_iload_n (pc := 0) X 0 dX6_ofEntry_0 rfl rfl ?_
  refine v_bipush (pc := 1) X (v := (7 : Int32)) dX6_ofEntry_1 (by decide) ?_
  refine v_bipush (pc := 3) X (v := (6 : Int32)) dX6_ofEntry_3 (by decide) ?_
  refine v_iload_n (pc := 5) X 1 dX6_ofEntry_5 rfl rfl ?_
  refine v_imul (pc := 6) X dX6_ofEntry_6 ?_
  refine v_iadd (pc := 7) X dX6_ofEntry_7 ?_
  refine v_iload_n (pc := 8) X 2 dX6_ofEntry_8 rfl rfl ?_
  refine v_iadd (pc := 9) X dX6_ofEntry_9 ?_
  refine v_callSI (pc := 10) X (As := [.int p0, .int (((7 : Int32) + ((6 : Int32) * p1)) + p2)]) (rest := []) (c_X6_of l D cA L sh p0 (((7 : Int32) + ((6 : Int32) * p1)) + p2) h _ hf) (va_cwS 2 X.ht (gwS inM q_551 q_552 q_7 q_553) rfl rfl rfl (by decide +kernel) ⟨Nat.le_of_ble_eq_true rfl, Nat.le_of_ble_eq_true rfl⟩) rfl rfl (Nat.le_of_ble_eq_true rfl) ⟨Nat.zero_le _, Nat.zero_le _⟩ dX6_ofEntry_10 (fun r1 h2 hf => ?_)
  exact v_iret (pc := 13) X hr hlk dX6_ofEntry_13 hf
set_option maxHeartbeats 4000000 in
set_option maxRecDepth 100000 in
theorem w_X6_remove_22 {p : Program} {l : Launch} {e : Env} {s0 : State} {m : MethodId} {args : Array Value} {below : List Frame} {meth : Method} {c : Code} {D : va_G} {cA : Nat → ClassId} {L : List Nat} {sh : Sh} (X : Cx p s0 m c args cX6_remove 4 (wM yX6_remove cX6_remove 4 none) RX6 (fun q => q ∈ L) D cA L sh) (hr : meth.sig.returnType = none) (hlk : meth.locks = false) (x0 : Nat) (x1 : Int32) (Xc : Hp → Prop) (K : Hp → Prop) (hx : ∀  (h1 : Hp), Xc  h1 → V p l e (headSpec (wM yX6_remove cX6_remove 4 none) ({ frames := 2, cells := 0, slots := 0, locals := 43 } : Room)).room s0 m args below meth c (MQ below (QV D cA L sh K) args s0 0 0 (fun q => q ∈ L)) (fun q => q ∈ L) 0 0 D cA L sh 4 h1 63 [] []) : ∀ (n : Nat) (s : Int32) (h : Hp), lp (b_X6_remove_22 sh x0 x1 Xc) n s h → V p l e (headSpec (wM yX6_remove cX6_remove 4 none) ({ frames := 2, cells := 0, slots := 0, locals := 43 } : Room)).room s0 m args below meth c (MQ below (QV D cA L sh K) args s0 0 0 (fun q => q ∈ L)) (fun q => q ∈ L) 0 0 D cA L sh 4 h 22 [(0, .ref x0), (1, .int x1), (3, .int s)] [] := by
  have k7 := X.ht _ (inM _ q_485)
  intro n
  induction n with
  | zero => intro s h hf; exact hf.elim
  | succ n ih =>
    intro s h hf
    replace hf : b_X6_remove_22 sh x0 x1 Xc (lp (b_X6_remove_22 sh x0 x1 Xc) n) s h := hf
    unfold b_X6_remove_22 at hf
    refine v_iload_n (pc := 22) X 2 dX6_remove_22 rfl rfl ?_
    refine v_iload_n (pc := 23) X 1 dX6_remove_23 rfl rfl ?_
    refine v_aload_n (pc := 24) X 0 dX6_remove_24 rfl rfl ?_
    obtain ⟨t12, hf⟩ := hf
    obtain ⟨q13, e_q13, hf⟩ := hf
    refine ge_6_0 (pc := 25) X (fun w h => inM w (inG6 w h)) k7 t12 e_q13 dX6_remove_25 ?_
    refine v_iload_n (pc := 28) X 1 dX6_remove_28 rfl rfl ?_
    refine v_bipush (pc := 29) X (v := (6 : Int32)) dX6_remove_29 (by decide) ?_
    refine v_callSI (pc := 31) X (As := [.int x1, .int (6 : Int32)]) (rest := [.ref q13, .int x1, .int s]) (c_X6_of l D cA L sh x1 (6 : Int32) h _ hf) (va_cwS 2 X.ht (gwS inM q_551 q_552 q_7 q_553) rfl rfl rfl (by decide +kernel) ⟨Nat.le_of_ble_eq_true rfl, Nat.le_of_ble_eq_true rfl⟩) rfl rfl (Nat.le_of_ble_eq_true rfl) ⟨Nat.zero_le _, Nat.zero_le _⟩ dX6_remove_31 (fun r14 h15 hf => ?_)
    obtain ⟨t16, hf⟩ := hf
    obtain ⟨b18, v17, e_v17, hf⟩ := hf
    refine v_iald (pc := 34) X t16 b18 e_v17 dX6_remove_34 ?_
    refine v_iconst (pc := 35) X (v := (0 : Int32)) dX6_remove_35 (by decide) ?_
    refine v_callSI (pc := 36) X (As := [.int x1, .int v17, .int (0 : Int32)]) (rest := [.int s]) (c_X6_ofEntry l D cA L sh x1 v17 (0 : Int32) h15 _ hf) (va_cwS 3 X.ht (gwS inM q_557 q_558 q_7 q_559) rfl rfl rfl (by decide +kernel) ⟨Nat.le_of_ble_eq_true rfl, Nat.le_of_ble_eq_true rfl⟩) rfl rfl (Nat.le_of_ble_eq_true rfl) ⟨Nat.zero_le _, Nat.zero_le _⟩ dX6_remove_36 (fun r19 h20 hf => ?_)
    refine v_icmp_ge (pc := 39) X 63 dX6_remove_39 (by decide) (fun c => ?_) (fun c => ?_)
    · replace hf := if_t c hf
      refine v_sub [] rfl ?_
      exact hx h20 hf
    · replace hf := if_f c hf
      refine v_aload_n (pc := 42) X 0 dX6_remove_42 rfl rfl ?_
      obtain ⟨q21, e_q21, hf⟩ := hf
      refine ge_6_0 (pc := 43) X (fun w h => inM w (inG6 w h)) k7 t12 e_q21 dX6_remove_43 ?_
      refine v_iload_n (pc := 46) X 2 dX6_remove_46 rfl rfl ?_
      refine v_aload_n (pc := 47) X 0 dX6_remove_47 rfl rfl ?_
      obtain ⟨q22, e_q22, hf⟩ := hf
      refine ge_6_0 (pc := 48) X (fun w h => inM w (inG6 w h)) k7 t12 e_q22 dX6_remove_48 ?_
      refine v_iload_n (pc := 51) X 2 dX6_remove_51 rfl rfl ?_
      refine v_bipush (pc := 52) X (v := (6 : Int32)) dX6_remove_52 (by decide) ?_
      refine v_iadd (pc := 54) X dX6_remove_54 ?_
      obtain ⟨t23, hf⟩ := hf
      obtain ⟨b25, v24, e_v24, hf⟩ := hf
      refine v_iald (pc := 55) X t23 b25 e_v24 dX6_remove_55 ?_
      obtain ⟨t26, hf⟩ := hf
      obtain ⟨b28, h27, e_h27, hf⟩ := hf
      refine v_iast (pc := 56) X t26 b28 e_h27 dX6_remove_56 ?_
      refine v_iinc (pc := 57) X 2 (v := s + (1 : Int32)) (lv' := [(3, .int (s + (1 : Int32))), (0, .ref x0), (1, .int x1)]) dX6_remove_57 rfl rfl (Nat.le_of_ble_eq_true rfl) rfl ?_
      refine v_goto (pc := 60) X 22 dX6_remove_60 (by decide) ?_
      refine v_sub [1, 2, 0] rfl ?_
      exact ih (s + (1 : Int32)) h27 hf

set_option maxHeartbeats 4000000 in
set_option maxRecDepth 100000 in
theorem c_X6_remove (l : Launch) (D : va_G) (cA : Nat → ClassId) (L : List Nat) (sh : Sh) (a0 : Nat) (p1 : Int32) (p2 : Int32) (h : Hp) (K : Hp → Prop) (hf : f_X6_remove sh a0 p1 p2 h K) : Met l yX6_remove (wM yX6_remove cX6_remove 4 none) ({ frames := 2, cells := 0, slots := 0, locals := 43 } : Room) (PreM D cA L sh h [.ref a0, .int p1, .int p2]) (QV D cA L sh K) 0 0 (fun q => q ∈ L) := by
  refine met_v (cc := cX6_remove) (nL := 4) (ret := none) [(0, .ref a0), (1, .int p1), (2, .int p2)] (by decide) rfl (Nat.le_of_ble_eq_true rfl) rfl ?_
  intro p e s0 m below meth c X hr hlk
  have k7 := X.ht _ (inM _ q_485)
  unfold f_X6_remove at hf
  refine v_aload_n (pc := 0) X 0 dX6_remove_0 rfl rfl ?_
  obtain ⟨t1, hf⟩ := hf
  obtain ⟨q2, e_q2, hf⟩ := hf
  refine ge_6_0 (pc := 1) X (fun w h => inM w (inG6 w h)) k7 t1 e_q2 dX6_remove_1 ?_
  refine v_iload_n (pc := 4) X 1 dX6_remove_4 rfl rfl ?_
  refine v_bipush (pc := 5) X (v := (6 : Int32)) dX6_remove_5 (by decide) ?_
  refine v_callSI (pc := 7) X (As := [.int p1, .int (6 : Int32)]) (rest := [.ref q2]) (c_X6_of l D cA L sh p1 (6 : Int32) h _ hf) (va_cwS 2 X.ht (gwS inM q_551 q_552 q_7 q_553) rfl rfl rfl (by decide +kernel) ⟨Nat.le_of_ble_eq_true rfl, Nat.le_of_ble_eq_true rfl⟩) rfl rfl (Nat.le_of_ble_eq_true rfl) ⟨Nat.zero_le _, Nat.zero_le _⟩ dX6_remove_7 (fun r3 h4 hf => ?_)
  refine v_dup2 (pc := 10) X dX6_remove_10 rfl rfl ?_
  obtain ⟨t5, hf⟩ := hf
  obtain ⟨b7, v6, e_v6, hf⟩ := hf
  refine v_iald (pc := 11) X t5 b7 e_v6 dX6_remove_11 ?_
  refine v_iconst (pc := 12) X (v := (1 : Int32)) dX6_remove_12 (by decide) ?_
  refine v_isub (pc := 13) X dX6_remove_13 ?_
  obtain ⟨b9, h8, e_h8, hf⟩ := hf
  refine v_iast (pc := 14) X t5 b9 e_h8 dX6_remove_14 ?_
  refine v_iload_n (pc := 15) X 1 dX6_remove_15 rfl rfl ?_
  refine v_iload_n (pc := 16) X 2 dX6_remove_16 rfl rfl ?_
  refine v_iconst (pc := 17) X (v := (0 : Int32)) dX6_remove_17 (by decide) ?_
  refine v_callSI (pc := 18) X (As := [.int p1, .int p2, .int (0 : Int32)]) (rest := []) (c_X6_ofEntry l D cA L sh p1 p2 (0 : Int32) h8 _ hf) (va_cwS 3 X.ht (gwS inM q_557 q_558 q_7 q_559) rfl rfl rfl (by decide +kernel) ⟨Nat.le_of_ble_eq_true rfl, Nat.le_of_ble_eq_true rfl⟩) rfl rfl (Nat.le_of_ble_eq_true rfl) ⟨Nat.zero_le _, Nat.zero_le _⟩ dX6_remove_18 (fun r10 h11 hf => ?_)
  refine v_istore_n (pc := 21) X (i := 3) (lv' := [(3, .int r10), (0, .ref a0), (1, .int p1), (2, .int p2)]) dX6_remove_21 rfl (Nat.le_of_ble_eq_true rfl) rfl ?_
  obtain ⟨n, hf⟩ := hf
  refine v_sub [1, 2, 0] rfl ?_
  refine w_X6_remove_22 X hr hlk a0 p1 _ K (fun  h29 hf => ?_) n r10 h11 hf
  exact v_vret (pc := 63) X hr hlk dX6_remove_63 hf
set_option maxHeartbeats 4000000 in
set_option maxRecDepth 100000 in
theorem w_X6_clean_16 {p : Program} {l : Launch} {e : Env} {s0 : State} {m : MethodId} {args : Array Value} {below : List Frame} {meth : Method} {c : Code} {D : va_G} {cA : Nat → ClassId} {L : List Nat} {sh : Sh} (X : Cx p s0 m c args cX6_clean 4 (wM yX6_clean cX6_clean 4 (some .int)) RX6 (fun q => q ∈ L) D cA L sh) (hr : meth.sig.returnType = (some .int)) (hlk : meth.locks = false) (x0 : Nat) (x1 : Int32) (Xc : Int32 → Hp → Prop) (K : Int32 → Hp → Prop) (hx : ∀ (y2 : Int32) (h1 : Hp), Xc y2 h1 → V p l e (headSpec (wM yX6_clean cX6_clean 4 (some .int)) ({ frames := 3, cells := 0, slots := 0, locals := 66 } : Room)).room s0 m args below meth c (MQ below (QI D cA L sh K) args s0 0 0 (fun q => q ∈ L)) (fun q => q ∈ L) 0 0 D cA L sh 4 h1 64 [(2, .int y2)] []) : ∀ (n : Nat) (s : Int32 × Int32) (h : Hp), lp (b_X6_clean_16 sh x0 x1 Xc) n s h → V p l e (headSpec (wM yX6_clean cX6_clean 4 (some .int)) ({ frames := 3, cells := 0, slots := 0, locals := 66 } : Room)).room s0 m args below meth c (MQ below (QI D cA L sh K) args s0 0 0 (fun q => q ∈ L)) (fun q => q ∈ L) 0 0 D cA L sh 4 h 16 [(0, .ref x0), (1, .int x1), (2, .int s.1), (3, .int s.2)] [] := by
  have k7 := X.ht _ (inM _ q_485)
  intro n
  induction n with
  | zero => intro s h hf; exact hf.elim
  | succ n ih =>
    intro s h hf
    replace hf : b_X6_clean_16 sh x0 x1 Xc (lp (b_X6_clean_16 sh x0 x1 Xc) n) s h := hf
    unfold b_X6_clean_16 at hf
    refine v_iload_n (pc := 16) X 3 dX6_clean_16 rfl rfl ?_
    refine v_if_lt (pc := 17) X 64 dX6_clean_17 (by decide) (fun c => ?_) (fun c => ?_)
    · replace hf := if_t c hf
      refine v_sub [2] rfl ?_
      exact hx s.1 h hf
    · replace hf := if_f c hf
      refine v_aload_n (pc := 20) X 0 dX6_clean_20 rfl rfl ?_
      obtain ⟨t8, hf⟩ := hf
      obtain ⟨q9, e_q9, hf⟩ := hf
      refine ge_6_0 (pc := 21) X (fun w h => inM w (inG6 w h)) k7 t8 e_q9 dX6_clean_21 ?_
      refine v_iload_n (pc := 24) X 1 dX6_clean_24 rfl rfl ?_
      refine v_iload_n (pc := 25) X 3 dX6_clean_25 rfl rfl ?_
      refine v_iconst (pc := 26) X (v := (5 : Int32)) dX6_clean_26 (by decide) ?_
      refine v_callSI (pc := 27) X (As := [.int x1, .int s.2, .int (5 : Int32)]) (rest := [.ref q9]) (c_X6_ofEntry l D cA L sh x1 s.2 (5 : Int32) h _ hf) (va_cwS 3 X.ht (gwS inM q_557 q_558 q_7 q_559) rfl rfl rfl (by decide +kernel) ⟨Nat.le_of_ble_eq_true rfl, Nat.le_of_ble_eq_true rfl⟩) rfl rfl (Nat.le_of_ble_eq_true rfl) ⟨Nat.zero_le _, Nat.zero_le _⟩ dX6_clean_27 (fun r10 h11 hf => ?_)
      obtain ⟨t12, hf⟩ := hf
      obtain ⟨b14, v13, e_v13, hf⟩ := hf
      refine v_iald (pc := 30) X t12 b14 e_v13 dX6_clean_30 ?_
      refine v_iconst (pc := 31) X (v := (1 : Int32)) dX6_clean_31 (by decide) ?_
      refine v_icmp_ne (pc := 32) X 58 dX6_clean_32 (by decide) (fun c => ?_) (fun c => ?_)
      · replace hf := if_f c hf
        refine v_iinc (pc := 58) X 3 (v := s.2 + (-1 : Int32)) (lv' := [(3, .int (s.2 + (-1 : Int32))), (0, .ref x0), (1, .int x1), (2, .int s.1)]) dX6_clean_58 rfl rfl (Nat.le_of_ble_eq_true rfl) rfl ?_
        refine v_goto (pc := 61) X 16 dX6_clean_61 (by decide) ?_
        refine v_sub [1, 2, 3, 0] rfl ?_
        exact ih (s.1, s.2 + (-1 : Int32)) h11 hf
      · replace hf := if_t c hf
        refine v_aload_n (pc := 35) X 0 dX6_clean_35 rfl rfl ?_
        obtain ⟨q15, e_q15, hf⟩ := hf
        refine ge_6_0 (pc := 36) X (fun w h => inM w (inG6 w h)) k7 t8 e_q15 dX6_clean_36 ?_
        refine v_iload_n (pc := 39) X 1 dX6_clean_39 rfl rfl ?_
        refine v_iload_n (pc := 40) X 3 dX6_clean_40 rfl rfl ?_
        refine v_iconst (pc := 41) X (v := (3 : Int32)) dX6_clean_41 (by decide) ?_
        refine v_callSI (pc := 42) X (As := [.int x1, .int s.2, .int (3 : Int32)]) (rest := [.ref q15]) (c_X6_ofEntry l D cA L sh x1 s.2 (3 : Int32) h11 _ hf) (va_cwS 3 X.ht (gwS inM q_557 q_558 q_7 q_559) rfl rfl rfl (by decide +kernel) ⟨Nat.le_of_ble_eq_true rfl, Nat.le_of_ble_eq_true rfl⟩) rfl rfl (Nat.le_of_ble_eq_true rfl) ⟨Nat.zero_le _, Nat.zero_le _⟩ dX6_clean_42 (fun r16 h17 hf => ?_)
        obtain ⟨t18, hf⟩ := hf
        obtain ⟨b20, v19, e_v19, hf⟩ := hf
        refine v_iald (pc := 45) X t18 b20 e_v19 dX6_clean_45 ?_
        refine v_if_ne (pc := 46) X 58 dX6_clean_46 (by decide) (fun c => ?_) (fun c => ?_)
        · replace hf := if_f c hf
          refine v_iinc (pc := 58) X 3 (v := s.2 + (-1 : Int32)) (lv' := [(3, .int (s.2 + (-1 : Int32))), (0, .ref x0), (1, .int x1), (2, .int s.1)]) dX6_clean_58 rfl rfl (Nat.le_of_ble_eq_true rfl) rfl ?_
          refine v_goto (pc := 61) X 16 dX6_clean_61 (by decide) ?_
          refine v_sub [1, 2, 3, 0] rfl ?_
          exact ih (s.1, s.2 + (-1 : Int32)) h17 hf
        · replace hf := if_t c hf
          refine v_aload_n (pc := 49) X 0 dX6_clean_49 rfl rfl ?_
          refine v_iload_n (pc := 50) X 1 dX6_clean_50 rfl rfl ?_
          refine v_iload_n (pc := 51) X 3 dX6_clean_51 rfl rfl ?_
          refine v_callVV (pc := 52) X (As := [.int x1, .int s.2]) (rest := []) (c_X6_remove l D cA L sh x0 x1 s.2 h17 _ hf) (cwV 2 X.ht (gwV inM q_563 q_564 q_755 q_7 q_565) rfl rfl rfl (by decide +kernel) ⟨Nat.le_of_ble_eq_true rfl, Nat.le_of_ble_eq_true rfl⟩) rfl (by decide) t8 (ent_6 t8) rfl rfl (Nat.le_of_ble_eq_true rfl) ⟨Nat.zero_le _, Nat.zero_le _⟩ dX6_clean_52 (fun h22 hf => ?_)
          refine v_iinc (pc := 55) X 2 (v := s.1 + (1 : Int32)) (lv' := [(2, .int (s.1 + (1 : Int32))), (0, .ref x0), (1, .int x1), (3, .int s.2)]) dX6_clean_55 rfl rfl (Nat.le_of_ble_eq_true rfl) rfl ?_
          refine v_iinc (pc := 58) X 3 (v := s.2 + (-1 : Int32)) (lv' := [(3, .int (s.2 + (-1 : Int32))), (2, .int (s.1 + (1 : Int32))), (0, .ref x0), (1, .int x1)]) dX6_clean_58 rfl rfl (Nat.le_of_ble_eq_true rfl) rfl ?_
          refine v_goto (pc := 61) X 16 dX6_clean_61 (by decide) ?_
          refine v_sub [2, 3, 1, 0] rfl ?_
          exact ih (s.1 + (1 : Int32), s.2 + (-1 : Int32)) h22 hf

set_option maxHeartbeats 4000000 in
set_option maxRecDepth 100000 in
theorem c_X6_clean (l : Launch) (D : va_G) (cA : Nat → ClassId) (L : List Nat) (sh : Sh) (a0 : Nat) (p1 : Int32) (h : Hp) (K : Int32 → Hp → Prop) (hf : f_X6_clean sh a0 p1 h K) : Met l yX6_clean (wM yX6_clean cX6_clean 4 (some .int)) ({ frames := 3, cells := 0, slots := 0, locals := 66 } : Room) (PreM D cA L sh h [.ref a0, .int p1]) (QI D cA L sh K) 0 0 (fun q => q ∈ L) := by
  refine met_v (cc := cX6_clean) (nL := 4) (ret := (some .int)) [(0, .ref a0), (1, .int p1)] (by decide) rfl (Nat.le_of_ble_eq_true rfl) rfl ?_
  intro p e s0 m below meth c X hr hlk
  have k7 := X.ht _ (inM _ q_485)
  unfold f_X6_clean at hf
  refine v_iconst (pc := 0) X (v := (0 : Int32)) dX6_clean_0 (by decide) ?_
  refine v_istore_n (pc := 1) X (i := 2) (lv' := [(2, .int (0 : Int32)), (0, .ref a0), (1, .int p1)]) dX6_clean_1 rfl (Nat.le_of_ble_eq_true rfl) rfl ?_
  refine v_aload_n (pc := 2) X 1 dX6_clean_2 rfl rfl ?_
  obtain ⟨t1, hf⟩ := hf
  obtain ⟨q2, e_q2, hf⟩ := hf
  refine ge_6_0 (pc := 3) X (fun w h => inM w (inG6 w h)) k7 t1 e_q2 dX6_clean_3 ?_
  refine v_iload_n (pc := 6) X 2 dX6_clean_6 rfl rfl ?_
  refine v_bipush (pc := 7) X (v := (6 : Int32)) dX6_clean_7 (by decide) ?_
  refine v_callSI (pc := 9) X (As := [.int p1, .int (6 : Int32)]) (rest := [.ref q2]) (c_X6_of l D cA L sh p1 (6 : Int32) h _ hf) (va_cwS 2 X.ht (gwS inM q_551 q_552 q_7 q_553) rfl rfl rfl (by decide +kernel) ⟨Nat.le_of_ble_eq_true rfl, Nat.le_of_ble_eq_true rfl⟩) rfl rfl (Nat.le_of_ble_eq_true rfl) ⟨Nat.zero_le _, Nat.zero_le _⟩ dX6_clean_9 (fun r3 h4 hf => ?_)
  obtain ⟨t5, hf⟩ := hf
  obtain ⟨b7, v6, e_v6, hf⟩ := hf
  refine v_iald (pc := 12) X t5 b7 e_v6 dX6_clean_12 ?_
  refine v_iconst (pc := 13) X (v := (1 : Int32)) dX6_clean_13 (by decide) ?_
  refine v_isub (pc := 14) X dX6_clean_14 ?_
  refine v_istore_n (pc := 15) X (i := 3) (lv' := [(3, .int (v6 - (1 : Int32))), (2, .int (0 : Int32)), (0, .ref a0), (1, .int p1)]) dX6_clean_15 rfl (Nat.le_of_ble_eq_true rfl) rfl ?_
  obtain ⟨n, hf⟩ := hf
  refine v_sub [2, 3, 1, 0] rfl ?_
  refine w_X6_clean_16 X hr hlk a0 p1 _ K (fun y23 h24 hf => ?_) n ((0 : Int32), v6 - (1 : Int32)) h4 hf
  refine v_iload_n (pc := 64) X 0 dX6_clean_64 rfl rfl ?_
  exact v_iret (pc := 65) X hr hlk dX6_clean_65 hf
set_option maxHeartbeats 4000000 in
set_option maxRecDepth 100000 in
theorem w_X6_learn_50 {p : Program} {l : Launch} {e : Env} {s0 : State} {m : MethodId} {args : Array Value} {below : List Frame} {meth : Method} {c : Code} {D : va_G} {cA : Nat → ClassId} {L : List Nat} {sh : Sh} (X : Cx p s0 m c args cX6_learn 6 (wM yX6_learn cX6_learn 6 none) RX6 (fun q => q ∈ L) D cA L sh) (hr : meth.sig.returnType = none) (hlk : meth.locks = false) (x0 : Nat) (x1 : Int32) (x2 : Int32) (x3 : Int32) (Xc : Hp → Prop) (K : Hp → Prop) (hx : ∀  (h1 : Hp), Xc  h1 → V p l e (headSpec (wM yX6_learn cX6_learn 6 none) ({ frames := 4, cells := 0, slots := 0, locals := 89 } : Room)).room s0 m args below meth c (MQ below (QV D cA L sh K) args s0 0 0 (fun q => q ∈ L)) (fun q => q ∈ L) 0 0 D cA L sh 6 h1 151 [(0, .ref x0), (1, .int x1), (2, .int x2)] []) : ∀ (n : Nat) (s : Int32) (h : Hp), lp (b_X6_learn_50 sh x0 x1 x2 x3 Xc) n s h → V p l e (headSpec (wM yX6_learn cX6_learn 6 none) ({ frames := 4, cells := 0, slots := 0, locals := 89 } : Room)).room s0 m args below meth c (MQ below (QV D cA L sh K) args s0 0 0 (fun q => q ∈ L)) (fun q => q ∈ L) 0 0 D cA L sh 6 h 50 [(0, .ref x0), (1, .int x1), (2, .int x2), (3, .int x3), (4, .int s)] [] := by
  have k7 := X.ht _ (inM _ q_485)
  intro n
  induction n with
  | zero => intro s h hf; exact hf.elim
  | succ n ih =>
    intro s h hf
    replace hf : b_X6_learn_50 sh x0 x1 x2 x3 Xc (lp (b_X6_learn_50 sh x0 x1 x2 x3 Xc) n) s h := hf
    unfold b_X6_learn_50 at hf
    refine v_iload (pc := 50) X 4 dX6_learn_50 rfl ?_
    refine v_aload_n (pc := 52) X 0 dX6_learn_52 rfl rfl ?_
    obtain ⟨t26, hf⟩ := hf
    obtain ⟨q27, e_q27, hf⟩ := hf
    refine ge_6_0 (pc := 53) X (fun w h => inM w (inG6 w h)) k7 t26 e_q27 dX6_learn_53 ?_
    refine v_iload_n (pc := 56) X 1 dX6_learn_56 rfl rfl ?_
    refine v_bipush (pc := 57) X (v := (6 : Int32)) dX6_learn_57 (by decide) ?_
    refine v_callSI (pc := 59) X (As := [.int x1, .int (6 : Int32)]) (rest := [.ref q27, .int s]) (c_X6_of l D cA L sh x1 (6 : Int32) h _ hf) (va_cwS 2 X.ht (gwS inM q_551 q_552 q_7 q_553) rfl rfl rfl (by decide +kernel) ⟨Nat.le_of_ble_eq_true rfl, Nat.le_of_ble_eq_true rfl⟩) rfl rfl (Nat.le_of_ble_eq_true rfl) ⟨Nat.zero_le _, Nat.zero_le _⟩ dX6_learn_59 (fun r28 h29 hf => ?_)
    obtain ⟨t30, hf⟩ := hf
    obtain ⟨b32, v31, e_v31, hf⟩ := hf
    refine v_iald (pc := 62) X t30 b32 e_v31 dX6_learn_62 ?_
    refine v_icmp_ge (pc := 63) X 151 dX6_learn_63 (by decide) (fun c => ?_) (fun c => ?_)
    · replace hf := if_t c hf
      refine v_sub [0, 1, 2] rfl ?_
      exact hx h29 hf
    · replace hf := if_f c hf
      refine v_aload_n (pc := 66) X 0 dX6_learn_66 rfl rfl ?_
      obtain ⟨q33, e_q33, hf⟩ := hf
      refine ge_6_0 (pc := 67) X (fun w h => inM w (inG6 w h)) k7 t26 e_q33 dX6_learn_67 ?_
      refine v_iload_n (pc := 70) X 1 dX6_learn_70 rfl rfl ?_
      refine v_iload (pc := 71) X 4 dX6_learn_71 rfl ?_
      refine v_iconst (pc := 73) X (v := (0 : Int32)) dX6_learn_73 (by decide) ?_
      refine v_callSI (pc := 74) X (As := [.int x1, .int s, .int (0 : Int32)]) (rest := [.ref q33]) (c_X6_ofEntry l D cA L sh x1 s (0 : Int32) h29 _ hf) (va_cwS 3 X.ht (gwS inM q_557 q_558 q_7 q_559) rfl rfl rfl (by decide +kernel) ⟨Nat.le_of_ble_eq_true rfl, Nat.le_of_ble_eq_true rfl⟩) rfl rfl (Nat.le_of_ble_eq_true rfl) ⟨Nat.zero_le _, Nat.zero_le _⟩ dX6_learn_74 (fun r34 h35 hf => ?_)
      obtain ⟨t36, hf⟩ := hf
      obtain ⟨b38, v37, e_v37, hf⟩ := hf
      refine v_iald (pc := 77) X t36 b38 e_v37 dX6_learn_77 ?_
      refine v_iload_n (pc := 78) X 3 dX6_learn_78 rfl rfl ?_
      refine v_icmp_ne (pc := 79) X 109 dX6_learn_79 (by decide) (fun c => ?_) (fun c => ?_)
      · replace hf := if_f c hf
        refine v_iconst (pc := 109) X (v := (0 : Int32)) dX6_learn_109 (by decide) ?_
        refine v_istore (pc := 110) X (i := 5) (lv' := [(5, .int (0 : Int32)), (0, .ref x0), (1, .int x1), (2, .int x2), (3, .int x3), (4, .int s)]) dX6_learn_110 (Nat.le_of_ble_eq_true rfl) rfl ?_
        refine v_aload_n (pc := 112) X 1 dX6_learn_112 rfl rfl ?_
        obtain ⟨q39, e_q39, hf⟩ := hf
        refine ge_6_0 (pc := 113) X (fun w h => inM w (inG6 w h)) k7 t26 e_q39 dX6_learn_113 ?_
        refine v_iload_n (pc := 116) X 2 dX6_learn_116 rfl rfl ?_
        refine v_iload (pc := 117) X 5 dX6_learn_117 rfl ?_
        refine v_iconst (pc := 119) X (v := (5 : Int32)) dX6_learn_119 (by decide) ?_
        refine v_callSI (pc := 120) X (As := [.int x1, .int s, .int (5 : Int32)]) (rest := [.ref q39]) (c_X6_ofEntry l D cA L sh x1 s (5 : Int32) h35 _ hf) (va_cwS 3 X.ht (gwS inM q_557 q_558 q_7 q_559) rfl rfl rfl (by decide +kernel) ⟨Nat.le_of_ble_eq_true rfl, Nat.le_of_ble_eq_true rfl⟩) rfl rfl (Nat.le_of_ble_eq_true rfl) ⟨Nat.zero_le _, Nat.zero_le _⟩ dX6_learn_120 (fun r40 h41 hf => ?_)
        refine v_iload (pc := 123) X 0 dX6_learn_123 rfl ?_
        refine v_if_eq (pc := 125) X 132 dX6_learn_125 (by decide) (fun _ => ?_) (fun c => absurd c (by decide))
        refine v_aload_n (pc := 132) X 1 dX6_learn_132 rfl rfl ?_
        obtain ⟨q42, e_q42, hf⟩ := hf
        refine ge_6_0 (pc := 133) X (fun w h => inM w (inG6 w h)) k7 t26 e_q42 dX6_learn_133 ?_
        refine v_iload_n (pc := 136) X 2 dX6_learn_136 rfl rfl ?_
        refine v_iload (pc := 137) X 5 dX6_learn_137 rfl ?_
        refine v_iconst (pc := 139) X (v := (5 : Int32)) dX6_learn_139 (by decide) ?_
        refine v_callSI (pc := 140) X (As := [.int x1, .int s, .int (5 : Int32)]) (rest := [.ref q42, .int r40, .ref q39]) (c_X6_ofEntry l D cA L sh x1 s (5 : Int32) h41 _ hf) (va_cwS 3 X.ht (gwS inM q_557 q_558 q_7 q_559) rfl rfl rfl (by decide +kernel) ⟨Nat.le_of_ble_eq_true rfl, Nat.le_of_ble_eq_true rfl⟩) rfl rfl (Nat.le_of_ble_eq_true rfl) ⟨Nat.zero_le _, Nat.zero_le _⟩ dX6_learn_140 (fun r43 h44 hf => ?_)
        obtain ⟨t45, hf⟩ := hf
        obtain ⟨b47, v46, e_v46, hf⟩ := hf
        refine v_iald (pc := 143) X t45 b47 e_v46 dX6_learn_143 ?_
        obtain ⟨t48, hf⟩ := hf
        obtain ⟨b50, h49, e_h49, hf⟩ := hf
        refine v_iast (pc := 144) X t48 b50 e_h49 dX6_learn_144 ?_
        refine v_iinc (pc := 145) X 5 (v := s + (1 : Int32)) (lv' := [(4, .int (s + (1 : Int32))), (5, .int (0 : Int32)), (0, .ref x0), (1, .int x1), (2, .int x2), (3, .int x3)]) dX6_learn_145 rfl rfl (Nat.le_of_ble_eq_true rfl) rfl ?_
        refine v_goto (pc := 148) X 50 dX6_learn_148 (by decide) ?_
        refine v_sub [2, 3, 4, 5, 0] rfl ?_
        exact ih (s + (1 : Int32)) h49 hf
      · replace hf := if_t c hf
        refine v_aload_n (pc := 82) X 0 dX6_learn_82 rfl rfl ?_
        obtain ⟨q51, e_q51, hf⟩ := hf
        refine ge_6_0 (pc := 83) X (fun w h => inM w (inG6 w h)) k7 t26 e_q51 dX6_learn_83 ?_
        refine v_iload_n (pc := 86) X 1 dX6_learn_86 rfl rfl ?_
        refine v_iload (pc := 87) X 4 dX6_learn_87 rfl ?_
        refine v_iconst (pc := 89) X (v := (1 : Int32)) dX6_learn_89 (by decide) ?_
        refine v_callSI (pc := 90) X (As := [.int x1, .int s, .int (1 : Int32)]) (rest := [.ref q51]) (c_X6_ofEntry l D cA L sh x1 s (1 : Int32) h35 _ hf) (va_cwS 3 X.ht (gwS inM q_557 q_558 q_7 q_559) rfl rfl rfl (by decide +kernel) ⟨Nat.le_of_ble_eq_true rfl, Nat.le_of_ble_eq_true rfl⟩) rfl rfl (Nat.le_of_ble_eq_true rfl) ⟨Nat.zero_le _, Nat.zero_le _⟩ dX6_learn_90 (fun r52 h53 hf => ?_)
        obtain ⟨t54, hf⟩ := hf
        obtain ⟨b56, v55, e_v55, hf⟩ := hf
        refine v_iald (pc := 93) X t54 b56 e_v55 dX6_learn_93 ?_
        refine v_aload_n (pc := 94) X 0 dX6_learn_94 rfl rfl ?_
        obtain ⟨q57, e_q57, hf⟩ := hf
        refine ge_6_0 (pc := 95) X (fun w h => inM w (inG6 w h)) k7 t26 e_q57 dX6_learn_95 ?_
        refine v_iconst (pc := 98) X (v := (5 : Int32)) dX6_learn_98 (by decide) ?_
        refine v_iload_n (pc := 99) X 3 dX6_learn_99 rfl rfl ?_
        refine v_iadd (pc := 100) X dX6_learn_100 ?_
        obtain ⟨t58, hf⟩ := hf
        obtain ⟨b60, v59, e_v59, hf⟩ := hf
        refine v_iald (pc := 101) X t58 b60 e_v59 dX6_learn_101 ?_
        refine v_icmp_ge (pc := 102) X 109 dX6_learn_102 (by decide) (fun c => ?_) (fun c => ?_)
        · replace hf := if_t c hf
          refine v_iconst (pc := 109) X (v := (0 : Int32)) dX6_learn_109 (by decide) ?_
          refine v_istore (pc := 110) X (i := 5) (lv' := [(5, .int (0 : Int32)), (0, .ref x0), (1, .int x1), (2, .int x2), (3, .int x3), (4, .int s)]) dX6_learn_110 (Nat.le_of_ble_eq_true rfl) rfl ?_
          refine v_aload_n (pc := 112) X 1 dX6_learn_112 rfl rfl ?_
          obtain ⟨q61, e_q61, hf⟩ := hf
          refine ge_6_0 (pc := 113) X (fun w h => inM w (inG6 w h)) k7 t26 e_q61 dX6_learn_113 ?_
          refine v_iload_n (pc := 116) X 2 dX6_learn_116 rfl rfl ?_
          refine v_iload (pc := 117) X 5 dX6_learn_117 rfl ?_
          refine v_iconst (pc := 119) X (v := (5 : Int32)) dX6_learn_119 (by decide) ?_
          refine v_callSI (pc := 120) X (As := [.int x1, .int s, .int (5 : Int32)]) (rest := [.ref q61]) (c_X6_ofEntry l D cA L sh x1 s (5 : Int32) h53 _ hf) (va_cwS 3 X.ht (gwS inM q_557 q_558 q_7 q_559) rfl rfl rfl (by decide +kernel) ⟨Nat.le_of_ble_eq_true rfl, Nat.le_of_ble_eq_true rfl⟩) rfl rfl (Nat.le_of_ble_eq_true rfl) ⟨Nat.zero_le _, Nat.zero_le _⟩ dX6_learn_120 (fun r62 h63 hf => ?_)
          refine v_iload (pc := 123) X 0 dX6_learn_123 rfl ?_
          refine v_if_eq (pc := 125) X 132 dX6_learn_125 (by decide) (fun _ => ?_) (fun c => absurd c (by decide))
          refine v_aload_n (pc := 132) X 1 dX6_learn_132 rfl rfl ?_
          obtain ⟨q64, e_q64, hf⟩ := hf
          refine ge_6_0 (pc := 133) X (fun w h => inM w (inG6 w h)) k7 t26 e_q64 dX6_learn_133 ?_
          refine v_iload_n (pc := 136) X 2 dX6_learn_136 rfl rfl ?_
          refine v_iload (pc := 137) X 5 dX6_learn_137 rfl ?_
          refine v_iconst (pc := 139) X (v := (5 : Int32)) dX6_learn_139 (by decide) ?_
          refine v_callSI (pc := 140) X (As := [.int x1, .int s, .int (5 : Int32)]) (rest := [.ref q64, .int r62, .ref q61]) (c_X6_ofEntry l D cA L sh x1 s (5 : Int32) h63 _ hf) (va_cwS 3 X.ht (gwS inM q_557 q_558 q_7 q_559) rfl rfl rfl (by decide +kernel) ⟨Nat.le_of_ble_eq_true rfl, Nat.le_of_ble_eq_true rfl⟩) rfl rfl (Nat.le_of_ble_eq_true rfl) ⟨Nat.zero_le _, Nat.zero_le _⟩ dX6_learn_140 (fun r65 h66 hf => ?_)
          obtain ⟨t67, hf⟩ := hf
          obtain ⟨b69, v68, e_v68, hf⟩ := hf
          refine v_iald (pc := 143) X t67 b69 e_v68 dX6_learn_143 ?_
          obtain ⟨t70, hf⟩ := hf
          obtain ⟨b72, h71, e_h71, hf⟩ := hf
          refine v_iast (pc := 144) X t70 b72 e_h71 dX6_learn_144 ?_
          refine v_iinc (pc := 145) X 5 (v := s + (1 : Int32)) (lv' := [(4, .int (s + (1 : Int32))), (5, .int (0 : Int32)), (0, .ref x0), (1, .int x1), (2, .int x2), (3, .int x3)]) dX6_learn_145 rfl rfl (Nat.le_of_ble_eq_true rfl) rfl ?_
          refine v_goto (pc := 148) X 50 dX6_learn_148 (by decide) ?_
          refine v_sub [2, 3, 4, 5, 0] rfl ?_
          exact ih (s + (1 : Int32)) h71 hf
        · replace hf := if_f c hf
          refine v_iconst (pc := 105) X (v := (1 : Int32)) dX6_learn_105 (by decide) ?_
          refine v_goto (pc := 106) X 110 dX6_learn_106 (by decide) ?_
          refine v_istore (pc := 110) X (i := 5) (lv' := [(5, .int (1 : Int32)), (0, .ref x0), (1, .int x1), (2, .int x2), (3, .int x3), (4, .int s)]) dX6_learn_110 (Nat.le_of_ble_eq_true rfl) rfl ?_
          refine v_aload_n (pc := 112) X 1 dX6_learn_112 rfl rfl ?_
          obtain ⟨q73, e_q73, hf⟩ := hf
          refine ge_6_0 (pc := 113) X (fun w h => inM w (inG6 w h)) k7 t26 e_q73 dX6_learn_113 ?_
          refine v_iload_n (pc := 116) X 2 dX6_learn_116 rfl rfl ?_
          refine v_iload (pc := 117) X 5 dX6_learn_117 rfl ?_
          refine v_iconst (pc := 119) X (v := (5 : Int32)) dX6_learn_119 (by decide) ?_
          refine v_callSI (pc := 120) X (As := [.int x1, .int s, .int (5 : Int32)]) (rest := [.ref q73]) (c_X6_ofEntry l D cA L sh x1 s (5 : Int32) h53 _ hf) (va_cwS 3 X.ht (gwS inM q_557 q_558 q_7 q_559) rfl rfl rfl (by decide +kernel) ⟨Nat.le_of_ble_eq_true rfl, Nat.le_of_ble_eq_true rfl⟩) rfl rfl (Nat.le_of_ble_eq_true rfl) ⟨Nat.zero_le _, Nat.zero_le _⟩ dX6_learn_120 (fun r74 h75 hf => ?_)
          refine v_iload (pc := 123) X 0 dX6_learn_123 rfl ?_
          refine v_if_eq (pc := 125) X 132 dX6_learn_125 (by decide) (fun c => absurd c (by decide)) (fun _ => ?_)
          refine v_iconst (pc := 128) X (v := (1 : Int32)) dX6_learn_128 (by decide) ?_
          refine v_goto (pc := 129) X 144 dX6_learn_129 (by decide) ?_
          obtain ⟨t76, hf⟩ := hf
          obtain ⟨b78, h77, e_h77, hf⟩ := hf
          refine v_iast (pc := 144) X t76 b78 e_h77 dX6_learn_144 ?_
          refine v_iinc (pc := 145) X 5 (v := s + (1 : Int32)) (lv' := [(4, .int (s + (1 : Int32))), (5, .int (1 : Int32)), (0, .ref x0), (1, .int x1), (2, .int x2), (3, .int x3)]) dX6_learn_145 rfl rfl (Nat.le_of_ble_eq_true rfl) rfl ?_
          refine v_goto (pc := 148) X 50 dX6_learn_148 (by decide) ?_
          refine v_sub [2, 3, 4, 5, 0] rfl ?_
          exact ih (s + (1 : Int32)) h77 hf

set_option maxHeartbeats 4000000 in
set_option maxRecDepth 100000 in
theorem w_X6_learn_0 {p : Program} {l : Launch} {e : Env} {s0 : State} {m : MethodId} {args : Array Value} {below : List Frame} {meth : Method} {c : Code} {D : va_G} {cA : Nat → ClassId} {L : List Nat} {sh : Sh} (X : Cx p s0 m c args cX6_learn 6 (wM yX6_learn cX6_learn 6 none) RX6 (fun q => q ∈ L) D cA L sh) (hr : meth.sig.returnType = none) (hlk : meth.locks = false) (x0 : Nat) (x1 : Int32) (x2 : Int32) (Xc : Hp → Prop) (K : Hp → Prop) (hx : ∀  (h1 : Hp), Xc  h1 → V p l e (headSpec (wM yX6_learn cX6_learn 6 none) ({ frames := 4, cells := 0, slots := 0, locals := 89 } : Room)).room s0 m args below meth c (MQ below (QV D cA L sh K) args s0 0 0 (fun q => q ∈ L)) (fun q => q ∈ L) 0 0 D cA L sh 6 h1 161 [] []) : ∀ (n : Nat) (s : Unit) (h : Hp), lp (b_X6_learn_0 sh x0 x1 x2 Xc) n s h → V p l e (headSpec (wM yX6_learn cX6_learn 6 none) ({ frames := 4, cells := 0, slots := 0, locals := 89 } : Room)).room s0 m args below meth c (MQ below (QV D cA L sh K) args s0 0 0 (fun q => q ∈ L)) (fun q => q ∈ L) 0 0 D cA L sh 6 h 0 [(0, .ref x0), (1, .int x1), (2, .int x2)] [] := by
  have k7 := X.ht _ (inM _ q_485)
  intro n
  induction n with
  | zero => intro s h hf; exact hf.elim
  | succ n ih =>
    intro s h hf
    replace hf : b_X6_learn_0 sh x0 x1 x2 Xc (lp (b_X6_learn_0 sh x0 x1 x2 Xc) n) s h := hf
    unfold b_X6_learn_0 at hf
    refine v_aload_n (pc := 0) X 0 dX6_learn_0 rfl rfl ?_
    obtain ⟨t1, hf⟩ := hf
    obtain ⟨q2, e_q2, hf⟩ := hf
    refine ge_6_0 (pc := 1) X (fun w h => inM w (inG6 w h)) k7 t1 e_q2 dX6_learn_1 ?_
    refine v_iload_n (pc := 4) X 1 dX6_learn_4 rfl rfl ?_
    refine v_iconst (pc := 5) X (v := (0 : Int32)) dX6_learn_5 (by decide) ?_
    refine v_callSI (pc := 6) X (As := [.int x1, .int (0 : Int32)]) (rest := [.ref q2]) (c_X6_of l D cA L sh x1 (0 : Int32) h _ hf) (va_cwS 2 X.ht (gwS inM q_551 q_552 q_7 q_553) rfl rfl rfl (by decide +kernel) ⟨Nat.le_of_ble_eq_true rfl, Nat.le_of_ble_eq_true rfl⟩) rfl rfl (Nat.le_of_ble_eq_true rfl) ⟨Nat.zero_le _, Nat.zero_le _⟩ dX6_learn_6 (fun r3 h4 hf => ?_)
    obtain ⟨t5, hf⟩ := hf
    obtain ⟨b7, v6, e_v6, hf⟩ := hf
    refine v_iald (pc := 9) X t5 b7 e_v6 dX6_learn_9 ?_
    refine v_iload_n (pc := 10) X 2 dX6_learn_10 rfl rfl ?_
    refine v_icmp_ge (pc := 11) X 161 dX6_learn_11 (by decide) (fun c => ?_) (fun c => ?_)
    · replace hf := if_t c hf
      refine v_sub [] rfl ?_
      exact hx h4 hf
    · replace hf := if_f c hf
      refine v_aload_n (pc := 14) X 0 dX6_learn_14 rfl rfl ?_
      obtain ⟨q8, e_q8, hf⟩ := hf
      refine ge_6_0 (pc := 15) X (fun w h => inM w (inG6 w h)) k7 t1 e_q8 dX6_learn_15 ?_
      refine v_bipush (pc := 18) X (v := (17 : Int32)) dX6_learn_18 (by decide) ?_
      refine v_aload_n (pc := 20) X 0 dX6_learn_20 rfl rfl ?_
      obtain ⟨q9, e_q9, hf⟩ := hf
      refine ge_6_0 (pc := 21) X (fun w h => inM w (inG6 w h)) k7 t1 e_q9 dX6_learn_21 ?_
      refine v_iload_n (pc := 24) X 1 dX6_learn_24 rfl rfl ?_
      refine v_iconst (pc := 25) X (v := (0 : Int32)) dX6_learn_25 (by decide) ?_
      refine v_callSI (pc := 26) X (As := [.int x1, .int (0 : Int32)]) (rest := [.ref q9, .int (17 : Int32), .ref q8]) (c_X6_of l D cA L sh x1 (0 : Int32) h4 _ hf) (va_cwS 2 X.ht (gwS inM q_551 q_552 q_7 q_553) rfl rfl rfl (by decide +kernel) ⟨Nat.le_of_ble_eq_true rfl, Nat.le_of_ble_eq_true rfl⟩) rfl rfl (Nat.le_of_ble_eq_true rfl) ⟨Nat.zero_le _, Nat.zero_le _⟩ dX6_learn_26 (fun r10 h11 hf => ?_)
      obtain ⟨t12, hf⟩ := hf
      obtain ⟨b14, v13, e_v13, hf⟩ := hf
      refine v_iald (pc := 29) X t12 b14 e_v13 dX6_learn_29 ?_
      refine v_iadd (pc := 30) X dX6_learn_30 ?_
      obtain ⟨t15, hf⟩ := hf
      obtain ⟨b17, v16, e_v16, hf⟩ := hf
      refine v_iald (pc := 31) X t15 b17 e_v16 dX6_learn_31 ?_
      refine v_istore_n (pc := 32) X (i := 3) (lv' := [(3, .int v16), (0, .ref x0), (1, .int x1), (2, .int x2)]) dX6_learn_32 rfl (Nat.le_of_ble_eq_true rfl) rfl ?_
      refine v_aload_n (pc := 33) X 1 dX6_learn_33 rfl rfl ?_
      obtain ⟨q18, e_q18, hf⟩ := hf
      refine ge_6_0 (pc := 34) X (fun w h => inM w (inG6 w h)) k7 t1 e_q18 dX6_learn_34 ?_
      refine v_iload_n (pc := 37) X 2 dX6_learn_37 rfl rfl ?_
      refine v_iconst (pc := 38) X (v := (0 : Int32)) dX6_learn_38 (by decide) ?_
      refine v_callSI (pc := 39) X (As := [.int x1, .int (0 : Int32)]) (rest := [.ref q18]) (c_X6_of l D cA L sh x1 (0 : Int32) h11 _ hf) (va_cwS 2 X.ht (gwS inM q_551 q_552 q_7 q_553) rfl rfl rfl (by decide +kernel) ⟨Nat.le_of_ble_eq_true rfl, Nat.le_of_ble_eq_true rfl⟩) rfl rfl (Nat.le_of_ble_eq_true rfl) ⟨Nat.zero_le _, Nat.zero_le _⟩ dX6_learn_39 (fun r19 h20 hf => ?_)
      refine v_dup2 (pc := 42) X dX6_learn_42 rfl rfl ?_
      obtain ⟨t21, hf⟩ := hf
      obtain ⟨b23, v22, e_v22, hf⟩ := hf
      refine v_iald (pc := 43) X t21 b23 e_v22 dX6_learn_43 ?_
      refine v_iconst (pc := 44) X (v := (1 : Int32)) dX6_learn_44 (by decide) ?_
      refine v_iadd (pc := 45) X dX6_learn_45 ?_
      obtain ⟨b25, h24, e_h24, hf⟩ := hf
      refine v_iast (pc := 46) X t21 b25 e_h24 dX6_learn_46 ?_
      refine v_iconst (pc := 47) X (v := (0 : Int32)) dX6_learn_47 (by decide) ?_
      refine v_istore (pc := 48) X (i := 4) (lv' := [(4, .int (0 : Int32)), (3, .int v16), (0, .ref x0), (1, .int x1), (2, .int x2)]) dX6_learn_48 (Nat.le_of_ble_eq_true rfl) rfl ?_
      obtain ⟨n, hf⟩ := hf
      refine v_sub [2, 3, 4, 1, 0] rfl ?_
      refine w_X6_learn_50 X hr hlk x0 x1 x2 v16 _ K (fun  h79 hf => ?_) n (0 : Int32) h24 hf
      refine v_aload_n (pc := 151) X 0 dX6_learn_151 rfl rfl ?_
      refine v_iload_n (pc := 152) X 1 dX6_learn_152 rfl rfl ?_
      refine v_callVI (pc := 153) X (As := [.int x1]) (rest := []) (c_X6_clean l D cA L sh x0 x1 h79 _ hf) (cwV 1 X.ht (gwV inM q_560 q_561 q_754 q_7 q_562) rfl rfl rfl (by decide +kernel) ⟨Nat.le_of_ble_eq_true rfl, Nat.le_of_ble_eq_true rfl⟩) rfl (by decide) t1 (ent_6 t1) rfl rfl (Nat.le_of_ble_eq_true rfl) ⟨Nat.zero_le _, Nat.zero_le _⟩ dX6_learn_153 (fun r80 h81 hf => ?_)
      refine v_istore (pc := 156) X (i := 4) (lv' := [(4, .int r80), (0, .ref x0), (1, .int x1), (2, .int x2)]) dX6_learn_156 (Nat.le_of_ble_eq_true rfl) rfl ?_
      refine v_goto (pc := 158) X 0 dX6_learn_158 (by decide) ?_
      refine v_sub [1, 2, 3] rfl ?_
      exact ih () h81 hf

set_option maxHeartbeats 4000000 in
set_option maxRecDepth 100000 in
theorem c_X6_learn (l : Launch) (D : va_G) (cA : Nat → ClassId) (L : List Nat) (sh : Sh) (a0 : Nat) (p1 : Int32) (p2 : Int32) (h : Hp) (K : Hp → Prop) (hf : f_X6_learn sh a0 p1 p2 h K) : Met l yX6_learn (wM yX6_learn cX6_learn 6 none) ({ frames := 4, cells := 0, slots := 0, locals := 89 } : Room) (PreM D cA L sh h [.ref a0, .int p1, .int p2]) (QV D cA L sh K) 0 0 (fun q => q ∈ L) := by
  refine met_v (cc := cX6_learn) (nL := 6) (ret := none) [(0, .ref a0), (1, .int p1), (2, .int p2)] (by decide) rfl (Nat.le_of_ble_eq_true rfl) rfl ?_
  intro p e s0 m below meth c X hr hlk
  have k7 := X.ht _ (inM _ q_485)
  unfold f_X6_learn at hf
  obtain ⟨n, hf⟩ := hf
  refine v_sub [0, 1, 2] rfl ?_
  refine w_X6_learn_0 X hr hlk a0 p1 p2 _ K (fun  h82 hf => ?_) n () h hf
  exact v_vret (pc := 161) X hr hlk dX6_learn_161 hf
set_option maxHeartbeats 4000000 in
set_option maxRecDepth 100000 in
theorem w_X6_come_2 {p : Program} {l : Launch} {e : Env} {s0 : State} {m : MethodId} {args : Array Value} {below : List Frame} {meth : Method} {c : Code} {D : va_G} {cA : Nat → ClassId} {L : List Nat} {sh : Sh} (X : Cx p s0 m c args cX6_come 3 (wM yX6_come cX6_come 3 none) RX6 (fun q => q ∈ L) D cA L sh) (hr : meth.sig.returnType = none) (hlk : meth.locks = false) (x0 : Nat) (x1 : Int32) (Xc : Hp → Prop) (K : Hp → Prop) (hx : ∀  (h1 : Hp), Xc  h1 → V p l e (headSpec (wM yX6_come cX6_come 3 none) ({ frames := 5, cells := 0, slots := 0, locals := 114 } : Room)).room s0 m args below meth c (MQ below (QV D cA L sh K) args s0 0 0 (fun q => q ∈ L)) (fun q => q ∈ L) 0 0 D cA L sh 3 h1 52 [] []) : ∀ (n : Nat) (s : Int32) (h : Hp), lp (b_X6_come_2 sh x0 x1 Xc) n s h → V p l e (headSpec (wM yX6_come cX6_come 3 none) ({ frames := 5, cells := 0, slots := 0, locals := 114 } : Room)).room s0 m args below meth c (MQ below (QV D cA L sh K) args s0 0 0 (fun q => q ∈ L)) (fun q => q ∈ L) 0 0 D cA L sh 3 h 2 [(0, .ref x0), (1, .int x1), (2, .int s)] [] := by
  have k7 := X.ht _ (inM _ q_485)
  intro n
  induction n with
  | zero => intro s h hf; exact hf.elim
  | succ n ih =>
    intro s h hf
    replace hf : b_X6_come_2 sh x0 x1 Xc (lp (b_X6_come_2 sh x0 x1 Xc) n) s h := hf
    unfold b_X6_come_2 at hf
    refine v_iload_n (pc := 2) X 2 dX6_come_2 rfl rfl ?_
    refine v_iconst (pc := 3) X (v := (4 : Int32)) dX6_come_3 (by decide) ?_
    refine v_icmp_ge (pc := 4) X 52 dX6_come_4 (by decide) (fun c => ?_) (fun c => ?_)
    · replace hf := if_t c hf
      refine v_sub [] rfl ?_
      exact hx h hf
    · replace hf := if_f c hf
      refine v_aload_n (pc := 7) X 0 dX6_come_7 rfl rfl ?_
      obtain ⟨t1, hf⟩ := hf
      obtain ⟨q2, e_q2, hf⟩ := hf
      refine ge_6_0 (pc := 8) X (fun w h => inM w (inG6 w h)) k7 t1 e_q2 dX6_come_8 ?_
      refine v_iload_n (pc := 11) X 2 dX6_come_11 rfl rfl ?_
      refine v_iconst (pc := 12) X (v := (0 : Int32)) dX6_come_12 (by decide) ?_
      refine v_callSI (pc := 13) X (As := [.int s, .int (0 : Int32)]) (rest := [.ref q2]) (c_X6_of l D cA L sh s (0 : Int32) h _ hf) (va_cwS 2 X.ht (gwS inM q_551 q_552 q_7 q_553) rfl rfl rfl (by decide +kernel) ⟨Nat.le_of_ble_eq_true rfl, Nat.le_of_ble_eq_true rfl⟩) rfl rfl (Nat.le_of_ble_eq_true rfl) ⟨Nat.zero_le _, Nat.zero_le _⟩ dX6_come_13 (fun r3 h4 hf => ?_)
      obtain ⟨t5, hf⟩ := hf
      obtain ⟨b7, v6, e_v6, hf⟩ := hf
      refine v_iald (pc := 16) X t5 b7 e_v6 dX6_come_16 ?_
      refine v_iload_n (pc := 17) X 1 dX6_come_17 rfl rfl ?_
      refine v_icmp_le (pc := 18) X 38 dX6_come_18 (by decide) (fun c => ?_) (fun c => ?_)
      · replace hf := if_t c hf
        refine v_aload_n (pc := 38) X 0 dX6_come_38 rfl rfl ?_
        refine v_iload_n (pc := 39) X 2 dX6_come_39 rfl rfl ?_
        refine v_iload_n (pc := 40) X 1 dX6_come_40 rfl rfl ?_
        refine v_iconst (pc := 41) X (v := (1 : Int32)) dX6_come_41 (by decide) ?_
        refine v_iadd (pc := 42) X dX6_come_42 ?_
        refine v_callVV (pc := 43) X (As := [.int s, .int (x1 + (1 : Int32))]) (rest := []) (c_X6_learn l D cA L sh x0 s (x1 + (1 : Int32)) h4 _ hf) (cwV 2 X.ht (gwV inM q_554 q_555 q_753 q_7 q_556) rfl rfl rfl (by decide +kernel) ⟨Nat.le_of_ble_eq_true rfl, Nat.le_of_ble_eq_true rfl⟩) rfl (by decide) t1 (ent_6 t1) rfl rfl (Nat.le_of_ble_eq_true rfl) ⟨Nat.zero_le _, Nat.zero_le _⟩ dX6_come_43 (fun h9 hf => ?_)
        refine v_iinc (pc := 46) X 2 (v := s + (1 : Int32)) (lv' := [(2, .int (s + (1 : Int32))), (0, .ref x0), (1, .int x1)]) dX6_come_46 rfl rfl (Nat.le_of_ble_eq_true rfl) rfl ?_
        refine v_goto (pc := 49) X 2 dX6_come_49 (by decide) ?_
        refine v_sub [1, 2, 0] rfl ?_
        exact ih (s + (1 : Int32)) h9 hf
      · replace hf := if_f c hf
        refine v_aload_n (pc := 21) X 0 dX6_come_21 rfl rfl ?_
        obtain ⟨q10, e_q10, hf⟩ := hf
        refine ge_6_0 (pc := 22) X (fun w h => inM w (inG6 w h)) k7 t1 e_q10 dX6_come_22 ?_
        refine v_iload_n (pc := 25) X 2 dX6_come_25 rfl rfl ?_
        refine v_iconst (pc := 26) X (v := (5 : Int32)) dX6_come_26 (by decide) ?_
        refine v_callSI (pc := 27) X (As := [.int s, .int (5 : Int32)]) (rest := [.ref q10]) (c_X6_of l D cA L sh s (5 : Int32) h4 _ hf) (va_cwS 2 X.ht (gwS inM q_551 q_552 q_7 q_553) rfl rfl rfl (by decide +kernel) ⟨Nat.le_of_ble_eq_true rfl, Nat.le_of_ble_eq_true rfl⟩) rfl rfl (Nat.le_of_ble_eq_true rfl) ⟨Nat.zero_le _, Nat.zero_le _⟩ dX6_come_27 (fun r11 h12 hf => ?_)
        refine v_dup2 (pc := 30) X dX6_come_30 rfl rfl ?_
        obtain ⟨t13, hf⟩ := hf
        obtain ⟨b15, v14, e_v14, hf⟩ := hf
        refine v_iald (pc := 31) X t13 b15 e_v14 dX6_come_31 ?_
        refine v_iconst (pc := 32) X (v := (1 : Int32)) dX6_come_32 (by decide) ?_
        refine v_iadd (pc := 33) X dX6_come_33 ?_
        obtain ⟨b17, h16, e_h16, hf⟩ := hf
        refine v_iast (pc := 34) X t13 b17 e_h16 dX6_come_34 ?_
        refine v_goto (pc := 35) X 46 dX6_come_35 (by decide) ?_
        refine v_iinc (pc := 46) X 2 (v := s + (1 : Int32)) (lv' := [(2, .int (s + (1 : Int32))), (0, .ref x0), (1, .int x1)]) dX6_come_46 rfl rfl (Nat.le_of_ble_eq_true rfl) rfl ?_
        refine v_goto (pc := 49) X 2 dX6_come_49 (by decide) ?_
        refine v_sub [1, 2, 0] rfl ?_
        exact ih (s + (1 : Int32)) h16 hf

set_option maxHeartbeats 4000000 in
set_option maxRecDepth 100000 in
theorem c_X6_come (l : Launch) (D : va_G) (cA : Nat → ClassId) (L : List Nat) (sh : Sh) (a0 : Nat) (p1 : Int32) (h : Hp) (K : Hp → Prop) (hf : f_X6_come sh a0 p1 h K) : Met l yX6_come (wM yX6_come cX6_come 3 none) ({ frames := 5, cells := 0, slots := 0, locals := 114 } : Room) (PreM D cA L sh h [.ref a0, .int p1]) (QV D cA L sh K) 0 0 (fun q => q ∈ L) := by
  refine met_v (cc := cX6_come) (nL := 3) (ret := none) [(0, .ref a0), (1, .int p1)] (by decide) rfl (Nat.le_of_ble_eq_true rfl) rfl ?_
  intro p e s0 m below meth c X hr hlk
  have k7 := X.ht _ (inM _ q_485)
  unfold f_X6_come at hf
  refine v_iconst (pc := 0) X (v := (0 : Int32)) dX6_come_0 (by decide) ?_
  refine v_istore_n (pc := 1) X (i := 2) (lv' := [(2, .int (0 : Int32)), (0, .ref a0), (1, .int p1)]) dX6_come_1 rfl (Nat.le_of_ble_eq_true rfl) rfl ?_
  obtain ⟨n, hf⟩ := hf
  refine v_sub [1, 2, 0] rfl ?_
  refine w_X6_come_2 X hr hlk a0 p1 _ K (fun  h18 hf => ?_) n (0 : Int32) h hf
  exact v_vret (pc := 52) X hr hlk dX6_come_52 hf
set_option maxHeartbeats 4000000 in
set_option maxRecDepth 100000 in
theorem c_X6_alters (l : Launch) (D : va_G) (cA : Nat → ClassId) (L : List Nat) (sh : Sh) (a0 : Nat) (p1 : Int32) (p2 : Int32) (h : Hp) (K : Int32 → Hp → Prop) (hf : f_X6_alters sh a0 p1 p2 h K) : Met l yX6_alters (wM yX6_alters cX6_alters 3 (some .int)) ({ frames := 6, cells := 0, slots := 0, locals := 136 } : Room) (PreM D cA L sh h [.ref a0, .int p1, .int p2]) (QI D cA L sh K) 0 0 (fun q => q ∈ L) := by
  refine met_v (cc := cX6_alters) (nL := 3) (ret := (some .int)) [(0, .ref a0), (1, .int p1), (2, .int p2)] (by decide) rfl (Nat.le_of_ble_eq_true rfl) rfl ?_
  intro p e s0 m below meth c X hr hlk
  have k7 := X.ht _ (inM _ q_485)
  unfold f_X6_alters at hf
  refine v_aload_n (pc := 0) X 0 dX6_alters_0 rfl rfl ?_
  obtain ⟨t1, hf⟩ := hf
  obtain ⟨q2, e_q2, hf⟩ := hf
  refine ge_6_0 (pc := 1) X (fun w h => inM w (inG6 w h)) k7 t1 e_q2 dX6_alters_1 ?_
  refine v_bipush (pc := 4) X (v := (11 : Int32)) dX6_alters_4 (by decide) ?_
  refine v_iload_n (pc := 6) X 1 dX6_alters_6 rfl rfl ?_
  refine v_iadd (pc := 7) X dX6_alters_7 ?_
  refine v_dup2 (pc := 8) X dX6_alters_8 rfl rfl ?_
  obtain ⟨t3, hf⟩ := hf
  obtain ⟨b5, v4, e_v4, hf⟩ := hf
  refine v_iald (pc := 9) X t3 b5 e_v4 dX6_alters_9 ?_
  refine v_iconst (pc := 10) X (v := (1 : Int32)) dX6_alters_10 (by decide) ?_
  refine v_iload_n (pc := 11) X 2 dX6_alters_11 rfl rfl ?_
  refine v_ishl (pc := 12) X dX6_alters_12 ?_
  refine v_ixor (pc := 13) X dX6_alters_13 ?_
  obtain ⟨b7, h6, e_h6, hf⟩ := hf
  refine v_iast (pc := 14) X t3 b7 e_h6 dX6_alters_14 ?_
  refine v_aload_n (pc := 15) X 0 dX6_alters_15 rfl rfl ?_
  obtain ⟨q8, e_q8, hf⟩ := hf
  refine ge_6_0 (pc := 16) X (fun w h => inM w (inG6 w h)) k7 t1 e_q8 dX6_alters_16 ?_
  refine v_iconst (pc := 19) X (v := (5 : Int32)) dX6_alters_19 (by decide) ?_
  refine v_iload_n (pc := 20) X 1 dX6_alters_20 rfl rfl ?_
  refine v_iadd (pc := 21) X dX6_alters_21 ?_
  refine v_dup2 (pc := 22) X dX6_alters_22 rfl rfl ?_
  obtain ⟨t9, hf⟩ := hf
  obtain ⟨b11, v10, e_v10, hf⟩ := hf
  refine v_iald (pc := 23) X t9 b11 e_v10 dX6_alters_23 ?_
  refine v_iconst (pc := 24) X (v := (1 : Int32)) dX6_alters_24 (by decide) ?_
  refine v_iadd (pc := 25) X dX6_alters_25 ?_
  obtain ⟨b13, h12, e_h12, hf⟩ := hf
  refine v_iast (pc := 26) X t9 b13 e_h12 dX6_alters_26 ?_
  refine v_aload_n (pc := 27) X 0 dX6_alters_27 rfl rfl ?_
  obtain ⟨q14, e_q14, hf⟩ := hf
  refine ge_6_0 (pc := 28) X (fun w h => inM w (inG6 w h)) k7 t1 e_q14 dX6_alters_28 ?_
  refine v_bipush (pc := 31) X (v := (17 : Int32)) dX6_alters_31 (by decide) ?_
  refine v_aload_n (pc := 33) X 0 dX6_alters_33 rfl rfl ?_
  obtain ⟨q15, e_q15, hf⟩ := hf
  refine ge_6_0 (pc := 34) X (fun w h => inM w (inG6 w h)) k7 t1 e_q15 dX6_alters_34 ?_
  refine v_iconst (pc := 37) X (v := (1 : Int32)) dX6_alters_37 (by decide) ?_
  obtain ⟨t16, hf⟩ := hf
  obtain ⟨b18, v17, e_v17, hf⟩ := hf
  refine v_iald (pc := 38) X t16 b18 e_v17 dX6_alters_38 ?_
  refine v_iadd (pc := 39) X dX6_alters_39 ?_
  refine v_iload_n (pc := 40) X 1 dX6_alters_40 rfl rfl ?_
  obtain ⟨t19, hf⟩ := hf
  obtain ⟨b21, h20, e_h20, hf⟩ := hf
  refine v_iast (pc := 41) X t19 b21 e_h20 dX6_alters_41 ?_
  refine v_aload_n (pc := 42) X 0 dX6_alters_42 rfl rfl ?_
  obtain ⟨q22, e_q22, hf⟩ := hf
  refine ge_6_0 (pc := 43) X (fun w h => inM w (inG6 w h)) k7 t1 e_q22 dX6_alters_43 ?_
  refine v_bipush (pc := 46) X (v := (117 : Int32)) dX6_alters_46 (by decide) ?_
  refine v_aload_n (pc := 48) X 0 dX6_alters_48 rfl rfl ?_
  obtain ⟨q23, e_q23, hf⟩ := hf
  refine ge_6_0 (pc := 49) X (fun w h => inM w (inG6 w h)) k7 t1 e_q23 dX6_alters_49 ?_
  refine v_iconst (pc := 52) X (v := (1 : Int32)) dX6_alters_52 (by decide) ?_
  obtain ⟨t24, hf⟩ := hf
  obtain ⟨b26, v25, e_v25, hf⟩ := hf
  refine v_iald (pc := 53) X t24 b26 e_v25 dX6_alters_53 ?_
  refine v_iadd (pc := 54) X dX6_alters_54 ?_
  refine v_aload_n (pc := 55) X 0 dX6_alters_55 rfl rfl ?_
  obtain ⟨q27, e_q27, hf⟩ := hf
  refine ge_6_0 (pc := 56) X (fun w h => inM w (inG6 w h)) k7 t1 e_q27 dX6_alters_56 ?_
  refine v_iconst (pc := 59) X (v := (0 : Int32)) dX6_alters_59 (by decide) ?_
  obtain ⟨t28, hf⟩ := hf
  obtain ⟨b30, v29, e_v29, hf⟩ := hf
  refine v_iald (pc := 60) X t28 b30 e_v29 dX6_alters_60 ?_
  refine v_aload_n (pc := 61) X 0 dX6_alters_61 rfl rfl ?_
  obtain ⟨q31, e_q31, hf⟩ := hf
  refine ge_6_0 (pc := 62) X (fun w h => inM w (inG6 w h)) k7 t1 e_q31 dX6_alters_62 ?_
  refine v_iconst (pc := 65) X (v := (3 : Int32)) dX6_alters_65 (by decide) ?_
  obtain ⟨t32, hf⟩ := hf
  obtain ⟨b34, v33, e_v33, hf⟩ := hf
  refine v_iald (pc := 66) X t32 b34 e_v33 dX6_alters_66 ?_
  refine v_iadd (pc := 67) X dX6_alters_67 ?_
  obtain ⟨t35, hf⟩ := hf
  obtain ⟨b37, h36, e_h36, hf⟩ := hf
  refine v_iast (pc := 68) X t35 b37 e_h36 dX6_alters_68 ?_
  refine v_aload_n (pc := 69) X 0 dX6_alters_69 rfl rfl ?_
  obtain ⟨q38, e_q38, hf⟩ := hf
  refine ge_6_0 (pc := 70) X (fun w h => inM w (inG6 w h)) k7 t1 e_q38 dX6_alters_70 ?_
  refine v_iconst (pc := 73) X (v := (1 : Int32)) dX6_alters_73 (by decide) ?_
  refine v_dup2 (pc := 74) X dX6_alters_74 rfl rfl ?_
  obtain ⟨t39, hf⟩ := hf
  obtain ⟨b41, v40, e_v40, hf⟩ := hf
  refine v_iald (pc := 75) X t39 b41 e_v40 dX6_alters_75 ?_
  refine v_iconst (pc := 76) X (v := (1 : Int32)) dX6_alters_76 (by decide) ?_
  refine v_iadd (pc := 77) X dX6_alters_77 ?_
  obtain ⟨b43, h42, e_h42, hf⟩ := hf
  refine v_iast (pc := 78) X t39 b43 e_h42 dX6_alters_78 ?_
  refine v_aload_n (pc := 79) X 0 dX6_alters_79 rfl rfl ?_
  obtain ⟨q44, e_q44, hf⟩ := hf
  refine ge_6_0 (pc := 80) X (fun w h => inM w (inG6 w h)) k7 t1 e_q44 dX6_alters_80 ?_
  refine v_iconst (pc := 83) X (v := (3 : Int32)) dX6_alters_83 (by decide) ?_
  obtain ⟨t45, hf⟩ := hf
  obtain ⟨b47, v46, e_v46, hf⟩ := hf
  refine v_iald (pc := 84) X t45 b47 e_v46 dX6_alters_84 ?_
  refine v_if_ne (pc := 85) X 100 dX6_alters_85 (by decide) (fun c => ?_) (fun c => ?_)
  · replace hf := if_f c hf
    refine v_aload_n (pc := 100) X 0 dX6_alters_100 rfl rfl ?_
    obtain ⟨q48, e_q48, hf⟩ := hf
    refine ge_6_0 (pc := 101) X (fun w h => inM w (inG6 w h)) k7 t1 e_q48 dX6_alters_101 ?_
    refine v_iconst (pc := 104) X (v := (5 : Int32)) dX6_alters_104 (by decide) ?_
    refine v_iload_n (pc := 105) X 1 dX6_alters_105 rfl rfl ?_
    refine v_iadd (pc := 106) X dX6_alters_106 ?_
    obtain ⟨t49, hf⟩ := hf
    obtain ⟨b51, v50, e_v50, hf⟩ := hf
    refine v_iald (pc := 107) X t49 b51 e_v50 dX6_alters_107 ?_
    exact v_iret (pc := 108) X hr hlk dX6_alters_108 hf
  · replace hf := if_t c hf
    refine v_aload_n (pc := 88) X 0 dX6_alters_88 rfl rfl ?_
    refine v_aload_n (pc := 89) X 0 dX6_alters_89 rfl rfl ?_
    obtain ⟨q52, e_q52, hf⟩ := hf
    refine ge_6_0 (pc := 90) X (fun w h => inM w (inG6 w h)) k7 t1 e_q52 dX6_alters_90 ?_
    refine v_iconst (pc := 93) X (v := (1 : Int32)) dX6_alters_93 (by decide) ?_
    obtain ⟨t53, hf⟩ := hf
    obtain ⟨b55, v54, e_v54, hf⟩ := hf
    refine v_iald (pc := 94) X t53 b55 e_v54 dX6_alters_94 ?_
    refine v_iconst (pc := 95) X (v := (1 : Int32)) dX6_alters_95 (by decide) ?_
    refine v_isub (pc := 96) X dX6_alters_96 ?_
    refine v_callVV (pc := 97) X (As := [.int (v54 - (1 : Int32))]) (rest := []) (c_X6_come l D cA L sh a0 (v54 - (1 : Int32)) h42 _ hf) (cwV 1 X.ht (gwV inM q_548 q_549 q_752 q_7 q_550) rfl rfl rfl (by decide +kernel) ⟨Nat.le_of_ble_eq_true rfl, Nat.le_of_ble_eq_true rfl⟩) rfl (by decide) t1 (ent_6 t1) rfl rfl (Nat.le_of_ble_eq_true rfl) ⟨Nat.zero_le _, Nat.zero_le _⟩ dX6_alters_97 (fun h57 hf => ?_)
    refine v_aload_n (pc := 100) X 0 dX6_alters_100 rfl rfl ?_
    obtain ⟨q58, e_q58, hf⟩ := hf
    refine ge_6_0 (pc := 101) X (fun w h => inM w (inG6 w h)) k7 t1 e_q58 dX6_alters_101 ?_
    refine v_iconst (pc := 104) X (v := (5 : Int32)) dX6_alters_104 (by decide) ?_
    refine v_iload_n (pc := 105) X 1 dX6_alters_105 rfl rfl ?_
    refine v_iadd (pc := 106) X dX6_alters_106 ?_
    obtain ⟨t59, hf⟩ := hf
    obtain ⟨b61, v60, e_v60, hf⟩ := hf
    refine v_iald (pc := 107) X t59 b61 e_v60 dX6_alters_107 ?_
    exact v_iret (pc := 108) X hr hlk dX6_alters_108 hf
set_option maxHeartbeats 4000000 in
set_option maxRecDepth 100000 in
theorem c_X6_alter (l : Launch) (D : va_G) (cA : Nat → ClassId) (L : List Nat) (sh : Sh) (a0 : Nat) (p1 : Int32) (p2 : Int32) (h : Hp) (K : Int32 → Hp → Prop) (hf : f_X6_alter sh a0 p1 p2 h K) : Met l yX6_alter (wM yX6_alter cX6_alter 4 (some .int)) ({ frames := 7, cells := 0, slots := 0, locals := 158 } : Room) (PreM D cA L sh h [.ref a0, .int p1, .int p2]) (QI D cA L sh K) 0 0 (fun q => q ∈ L) := by
  refine met_v (cc := cX6_alter) (nL := 4) (ret := (some .int)) [(0, .ref a0), (1, .int p1), (2, .int p2)] (by decide) rfl (Nat.le_of_ble_eq_true rfl) rfl ?_
  intro p e s0 m below meth c X hr hlk
  unfold f_X6_alter at hf
  refine v_aload_n (pc := 0) X 0 dX6_alter_0 rfl rfl ?_
  refine v_iload_n (pc := 1) X 1 dX6_alter_1 rfl rfl ?_
  refine v_iload_n (pc := 2) X 2 dX6_alter_2 rfl rfl ?_
  obtain ⟨t1, hf⟩ := hf
  refine v_callVI (pc := 3) X (As := [.int p1, .int p2]) (rest := []) (c_X6_alterFault l D cA L sh a0 p1 p2 h _ hf) (cwV 2 X.ht (gwV inM q_527 q_528 q_748 q_7 q_529) rfl rfl rfl (by decide +kernel) ⟨Nat.le_of_ble_eq_true rfl, Nat.le_of_ble_eq_true rfl⟩) rfl (by decide) t1 (ent_6 t1) rfl rfl (Nat.le_of_ble_eq_true rfl) ⟨Nat.zero_le _, Nat.zero_le _⟩ dX6_alter_3 (fun r2 h3 hf => ?_)
  refine v_istore_n (pc := 6) X (i := 3) (lv' := [(3, .int r2), (0, .ref a0), (1, .int p1), (2, .int p2)]) dX6_alter_6 rfl (Nat.le_of_ble_eq_true rfl) rfl ?_
  refine v_iload_n (pc := 7) X 0 dX6_alter_7 rfl rfl ?_
  refine v_if_ge (pc := 8) X 13 dX6_alter_8 (by decide) (fun c => ?_) (fun c => ?_)
  · replace hf := if_t c hf
    refine v_aload_n (pc := 13) X 1 dX6_alter_13 rfl rfl ?_
    refine v_callVV (pc := 14) X (As := []) (rest := []) (c_X6_know l D cA L sh a0 h3 _ hf) (cwV 0 X.ht (gwV inM q_542 q_543 q_750 q_7 q_544) rfl rfl rfl (by decide +kernel) ⟨Nat.le_of_ble_eq_true rfl, Nat.le_of_ble_eq_true rfl⟩) rfl (by decide) t1 (ent_6 t1) rfl rfl (Nat.le_of_ble_eq_true rfl) ⟨Nat.zero_le _, Nat.zero_le _⟩ dX6_alter_14 (fun h5 hf => ?_)
    refine v_aload_n (pc := 17) X 1 dX6_alter_17 rfl rfl ?_
    refine v_iload_n (pc := 18) X 2 dX6_alter_18 rfl rfl ?_
    refine v_iload_n (pc := 19) X 3 dX6_alter_19 rfl rfl ?_
    refine v_callVI (pc := 20) X (As := [.int p1, .int p2]) (rest := []) (c_X6_alters l D cA L sh a0 p1 p2 h5 _ hf) (cwV 2 X.ht (gwV inM q_545 q_546 q_751 q_7 q_547) rfl rfl rfl (by decide +kernel) ⟨Nat.le_of_ble_eq_true rfl, Nat.le_of_ble_eq_true rfl⟩) rfl (by decide) t1 (ent_6 t1) rfl rfl (Nat.le_of_ble_eq_true rfl) ⟨Nat.zero_le _, Nat.zero_le _⟩ dX6_alter_20 (fun r6 h7 hf => ?_)
    exact v_iret (pc := 23) X hr hlk dX6_alter_23 hf
  · replace hf := if_f c hf
    refine v_iload_n (pc := 11) X 0 dX6_alter_11 rfl rfl ?_
    exact v_iret (pc := 12) X hr hlk dX6_alter_12 hf
set_option maxHeartbeats 4000000 in
set_option maxRecDepth 100000 in
theorem w_X6_use_12 {p : Program} {l : Launch} {e : Env} {s0 : State} {m : MethodId} {args : Array Value} {below : List Frame} {meth : Method} {c : Code} {D : va_G} {cA : Nat → ClassId} {L : List Nat} {sh : Sh} (X : Cx p s0 m c args cX6_use 10 (wM yX6_use cX6_use 10 (some .int)) RX6 (fun q => q ∈ L) D cA L sh) (hr : meth.sig.returnType = (some .int)) (hlk : meth.locks = false) (x0 : Nat) (x1 : Int32) (x2 : Int32) (x3 : Int32) (x4 : Int32) (Xc : Int32 → Int32 → Hp → Prop) (K : Int32 → Hp → Prop) (hx : ∀ (y5 : Int32) (y6 : Int32) (h1 : Hp), Xc y5 y6 h1 → V p l e (headSpec (wM yX6_use cX6_use 10 (some .int)) ({ frames := 0, cells := 0, slots := 0, locals := 0 } : Room)).room s0 m args below meth c (MQ below (QI D cA L sh K) args s0 0 0 (fun q => q ∈ L)) (fun q => q ∈ L) 0 0 D cA L sh 10 h1 142 [(0, .ref x0), (1, .int x1), (2, .int x2), (3, .int x3), (4, .int x4), (5, .int y5), (6, .int y6)] []) : ∀ (n : Nat) (s : Int32 × Int32 × Int32) (h : Hp), lp (b_X6_use_12 sh x0 x1 x2 x3 x4 Xc) n s h → V p l e (headSpec (wM yX6_use cX6_use 10 (some .int)) ({ frames := 0, cells := 0, slots := 0, locals := 0 } : Room)).room s0 m args below meth c (MQ below (QI D cA L sh K) args s0 0 0 (fun q => q ∈ L)) (fun q => q ∈ L) 0 0 D cA L sh 10 h 12 [(0, .ref x0), (1, .int x1), (2, .int x2), (3, .int x3), (4, .int x4), (5, .int s.1), (6, .int s.2.1), (7, .int s.2.2)] [] := by
  have k31 := X.ht _ (inM _ q_495)
  have k25 := X.ht _ (inM _ q_493)
  have k28 := X.ht _ (inM _ q_494)
  intro n
  induction n with
  | zero => intro s h hf; exact hf.elim
  | succ n ih =>
    intro s h hf
    replace hf : b_X6_use_12 sh x0 x1 x2 x3 x4 Xc (lp (b_X6_use_12 sh x0 x1 x2 x3 x4 Xc) n) s h := hf
    unfold b_X6_use_12 at hf
    refine v_iload (pc := 12) X 7 dX6_use_12 rfl ?_
    refine v_bipush (pc := 14) X (v := (8 : Int32)) dX6_use_14 (by decide) ?_
    refine v_iload_n (pc := 16) X 1 dX6_use_16 rfl rfl ?_
    refine v_imul (pc := 17) X dX6_use_17 ?_
    refine v_aload_n (pc := 18) X 0 dX6_use_18 rfl rfl ?_
    obtain ⟨t1, hf⟩ := hf
    obtain ⟨q2, e_q2, hf⟩ := hf
    refine ge_6_10 (pc := 19) X (fun w h => inM w (inG6 w h)) k31 t1 e_q2 dX6_use_19 ?_
    refine v_iload_n (pc := 22) X 1 dX6_use_22 rfl rfl ?_
    obtain ⟨t3, hf⟩ := hf
    obtain ⟨b5, v4, e_v4, hf⟩ := hf
    refine v_iald (pc := 23) X t3 b5 e_v4 dX6_use_23 ?_
    refine v_iadd (pc := 24) X dX6_use_24 ?_
    refine v_icmp_ge (pc := 25) X 142 dX6_use_25 (by decide) (fun c => ?_) (fun c => ?_)
    · replace hf := if_t c hf
      refine v_sub [0, 1, 2, 3, 4, 5, 6] rfl ?_
      exact hx s.1 s.2.1 h hf
    · replace hf := if_f c hf
      refine v_aload_n (pc := 28) X 0 dX6_use_28 rfl rfl ?_
      obtain ⟨q6, e_q6, hf⟩ := hf
      refine ge_6_8 (pc := 29) X (fun w h => inM w (inG6 w h)) k25 t1 e_q6 dX6_use_29 ?_
      refine v_iload (pc := 32) X 7 dX6_use_32 rfl ?_
      obtain ⟨t7, hf⟩ := hf
      obtain ⟨b9, v8, e_v8, hf⟩ := hf
      refine v_iald (pc := 34) X t7 b9 e_v8 dX6_use_34 ?_
      refine v_iload_n (pc := 35) X 2 dX6_use_35 rfl rfl ?_
      refine v_icmp_ne (pc := 36) X 44 dX6_use_36 (by decide) (fun c => ?_) (fun c => ?_)
      · replace hf := if_f c hf
        refine v_iload (pc := 44) X 5 dX6_use_44 rfl ?_
        refine v_istore (pc := 46) X (i := 5) (lv' := [(5, .int s.1), (0, .ref x0), (1, .int x1), (2, .int x2), (3, .int x3), (4, .int x4), (6, .int s.2.1), (7, .int s.2.2)]) dX6_use_46 (Nat.le_of_ble_eq_true rfl) rfl ?_
        refine v_aload_n (pc := 48) X 1 dX6_use_48 rfl rfl ?_
        obtain ⟨q10, e_q10, hf⟩ := hf
        refine ge_6_9 (pc := 49) X (fun w h => inM w (inG6 w h)) k28 t1 e_q10 dX6_use_49 ?_
        refine v_iload (pc := 52) X 7 dX6_use_52 rfl ?_
        obtain ⟨t11, hf⟩ := hf
        obtain ⟨b13, v12, e_v12, hf⟩ := hf
        refine v_iald (pc := 54) X t11 b13 e_v12 dX6_use_54 ?_
        refine v_iload_n (pc := 55) X 4 dX6_use_55 rfl rfl ?_
        refine v_icmp_ge (pc := 56) X 119 dX6_use_56 (by decide) (fun c => ?_) (fun c => ?_)
        · replace hf := if_t c hf
          refine v_iconst (pc := 119) X (v := (0 : Int32)) dX6_use_119 (by decide) ?_
          refine v_istore (pc := 120) X (i := 8) (lv' := [(8, .int (0 : Int32)), (5, .int s.1), (0, .ref x0), (1, .int x1), (2, .int x2), (3, .int x3), (4, .int x4), (6, .int s.2.1), (7, .int s.2.2)]) dX6_use_120 (Nat.le_of_ble_eq_true rfl) rfl ?_
          refine v_iload (pc := 122) X 0 dX6_use_122 rfl ?_
          refine v_if_eq (pc := 124) X 132 dX6_use_124 (by decide) (fun _ => ?_) (fun c => absurd c (by decide))
          refine v_iload (pc := 132) X 7 dX6_use_132 rfl ?_
          refine v_istore (pc := 134) X (i := 6) (lv' := [(6, .int s.2.1), (8, .int (0 : Int32)), (5, .int s.1), (0, .ref x0), (1, .int x1), (2, .int x2), (3, .int x3), (4, .int x4), (7, .int s.2.2)]) dX6_use_134 (Nat.le_of_ble_eq_true rfl) rfl ?_
          refine v_iinc (pc := 136) X 8 (v := s.2.2 + (1 : Int32)) (lv' := [(7, .int (s.2.2 + (1 : Int32))), (6, .int s.2.1), (8, .int (0 : Int32)), (5, .int s.1), (0, .ref x0), (1, .int x1), (2, .int x2), (3, .int x3), (4, .int x4)]) dX6_use_136 rfl rfl (Nat.le_of_ble_eq_true rfl) rfl ?_
          refine v_goto (pc := 139) X 12 dX6_use_139 (by decide) ?_
          refine v_sub [4, 5, 6, 7, 8, 3, 1, 0] rfl ?_
          exact ih (s.1, s.2.1, s.2.2 + (1 : Int32)) h hf
        · replace hf := if_f c hf
          refine v_iload (pc := 59) X 6 dX6_use_59 rfl ?_
          refine v_if_lt (pc := 61) X 115 dX6_use_61 (by decide) (fun c => ?_) (fun c => ?_)
          · replace hf := if_t c hf
            refine v_iconst (pc := 115) X (v := (1 : Int32)) dX6_use_115 (by decide) ?_
            refine v_goto (pc := 116) X 120 dX6_use_116 (by decide) ?_
            refine v_istore (pc := 120) X (i := 8) (lv' := [(8, .int (1 : Int32)), (5, .int s.1), (0, .ref x0), (1, .int x1), (2, .int x2), (3, .int x3), (4, .int x4), (6, .int s.2.1), (7, .int s.2.2)]) dX6_use_120 (Nat.le_of_ble_eq_true rfl) rfl ?_
            refine v_iload (pc := 122) X 0 dX6_use_122 rfl ?_
            refine v_if_eq (pc := 124) X 132 dX6_use_124 (by decide) (fun c => absurd c (by decide)) (fun _ => ?_)
            refine v_iload (pc := 127) X 8 dX6_use_127 rfl ?_
            refine v_goto (pc := 129) X 134 dX6_use_129 (by decide) ?_
            refine v_istore (pc := 134) X (i := 6) (lv' := [(6, .int s.2.2), (8, .int (1 : Int32)), (5, .int s.1), (0, .ref x0), (1, .int x1), (2, .int x2), (3, .int x3), (4, .int x4), (7, .int s.2.2)]) dX6_use_134 (Nat.le_of_ble_eq_true rfl) rfl ?_
            refine v_iinc (pc := 136) X 8 (v := s.2.2 + (1 : Int32)) (lv' := [(7, .int (s.2.2 + (1 : Int32))), (6, .int s.2.2), (8, .int (1 : Int32)), (5, .int s.1), (0, .ref x0), (1, .int x1), (2, .int x2), (3, .int x3), (4, .int x4)]) dX6_use_136 rfl rfl (Nat.le_of_ble_eq_true rfl) rfl ?_
            refine v_goto (pc := 139) X 12 dX6_use_139 (by decide) ?_
            refine v_sub [4, 5, 6, 7, 8, 3, 1, 0] rfl ?_
            exact ih (s.1, s.2.2, s.2.2 + (1 : Int32)) h hf
          · replace hf := if_f c hf
            refine v_aload_n (pc := 64) X 1 dX6_use_64 rfl rfl ?_
            obtain ⟨q14, e_q14, hf⟩ := hf
            refine ge_6_9 (pc := 65) X (fun w h => inM w (inG6 w h)) k28 t1 e_q14 dX6_use_65 ?_
            refine v_iload (pc := 68) X 7 dX6_use_68 rfl ?_
            obtain ⟨t15, hf⟩ := hf
            obtain ⟨b17, v16, e_v16, hf⟩ := hf
            refine v_iald (pc := 70) X t15 b17 e_v16 dX6_use_70 ?_
            refine v_aload_n (pc := 71) X 1 dX6_use_71 rfl rfl ?_
            obtain ⟨q18, e_q18, hf⟩ := hf
            refine ge_6_9 (pc := 72) X (fun w h => inM w (inG6 w h)) k28 t1 e_q18 dX6_use_72 ?_
            refine v_iload (pc := 75) X 6 dX6_use_75 rfl ?_
            obtain ⟨t19, hf⟩ := hf
            obtain ⟨b21, v20, e_v20, hf⟩ := hf
            refine v_iald (pc := 77) X t19 b21 e_v20 dX6_use_77 ?_
            refine v_icmp_lt (pc := 78) X 115 dX6_use_78 (by decide) (fun c => ?_) (fun c => ?_)
            · replace hf := if_t c hf
              refine v_iconst (pc := 115) X (v := (1 : Int32)) dX6_use_115 (by decide) ?_
              refine v_goto (pc := 116) X 120 dX6_use_116 (by decide) ?_
              refine v_istore (pc := 120) X (i := 8) (lv' := [(8, .int (1 : Int32)), (5, .int s.1), (0, .ref x0), (1, .int x1), (2, .int x2), (3, .int x3), (4, .int x4), (6, .int s.2.1), (7, .int s.2.2)]) dX6_use_120 (Nat.le_of_ble_eq_true rfl) rfl ?_
              refine v_iload (pc := 122) X 0 dX6_use_122 rfl ?_
              refine v_if_eq (pc := 124) X 132 dX6_use_124 (by decide) (fun c => absurd c (by decide)) (fun _ => ?_)
              refine v_iload (pc := 127) X 8 dX6_use_127 rfl ?_
              refine v_goto (pc := 129) X 134 dX6_use_129 (by decide) ?_
              refine v_istore (pc := 134) X (i := 6) (lv' := [(6, .int s.2.2), (8, .int (1 : Int32)), (5, .int s.1), (0, .ref x0), (1, .int x1), (2, .int x2), (3, .int x3), (4, .int x4), (7, .int s.2.2)]) dX6_use_134 (Nat.le_of_ble_eq_true rfl) rfl ?_
              refine v_iinc (pc := 136) X 8 (v := s.2.2 + (1 : Int32)) (lv' := [(7, .int (s.2.2 + (1 : Int32))), (6, .int s.2.2), (8, .int (1 : Int32)), (5, .int s.1), (0, .ref x0), (1, .int x1), (2, .int x2), (3, .int x3), (4, .int x4)]) dX6_use_136 rfl rfl (Nat.le_of_ble_eq_true rfl) rfl ?_
              refine v_goto (pc := 139) X 12 dX6_use_139 (by decide) ?_
              refine v_sub [4, 5, 6, 7, 8, 3, 1, 0] rfl ?_
              exact ih (s.1, s.2.2, s.2.2 + (1 : Int32)) h hf
            · replace hf := if_f c hf
              refine v_aload_n (pc := 81) X 1 dX6_use_81 rfl rfl ?_
              obtain ⟨q22, e_q22, hf⟩ := hf
              refine ge_6_9 (pc := 82) X (fun w h => inM w (inG6 w h)) k28 t1 e_q22 dX6_use_82 ?_
              refine v_iload (pc := 85) X 7 dX6_use_85 rfl ?_
              obtain ⟨t23, hf⟩ := hf
              obtain ⟨b25, v24, e_v24, hf⟩ := hf
              refine v_iald (pc := 87) X t23 b25 e_v24 dX6_use_87 ?_
              refine v_aload_n (pc := 88) X 1 dX6_use_88 rfl rfl ?_
              obtain ⟨q26, e_q26, hf⟩ := hf
              refine ge_6_9 (pc := 89) X (fun w h => inM w (inG6 w h)) k28 t1 e_q26 dX6_use_89 ?_
              refine v_iload (pc := 92) X 6 dX6_use_92 rfl ?_
              obtain ⟨t27, hf⟩ := hf
              obtain ⟨b29, v28, e_v28, hf⟩ := hf
              refine v_iald (pc := 94) X t27 b29 e_v28 dX6_use_94 ?_
              refine v_icmp_ne (pc := 95) X 119 dX6_use_95 (by decide) (fun c => ?_) (fun c => ?_)
              · replace hf := if_f c hf
                refine v_iconst (pc := 119) X (v := (0 : Int32)) dX6_use_119 (by decide) ?_
                refine v_istore (pc := 120) X (i := 8) (lv' := [(8, .int (0 : Int32)), (5, .int s.1), (0, .ref x0), (1, .int x1), (2, .int x2), (3, .int x3), (4, .int x4), (6, .int s.2.1), (7, .int s.2.2)]) dX6_use_120 (Nat.le_of_ble_eq_true rfl) rfl ?_
                refine v_iload (pc := 122) X 0 dX6_use_122 rfl ?_
                refine v_if_eq (pc := 124) X 132 dX6_use_124 (by decide) (fun _ => ?_) (fun c => absurd c (by decide))
                refine v_iload (pc := 132) X 7 dX6_use_132 rfl ?_
                refine v_istore (pc := 134) X (i := 6) (lv' := [(6, .int s.2.1), (8, .int (0 : Int32)), (5, .int s.1), (0, .ref x0), (1, .int x1), (2, .int x2), (3, .int x3), (4, .int x4), (7, .int s.2.2)]) dX6_use_134 (Nat.le_of_ble_eq_true rfl) rfl ?_
                refine v_iinc (pc := 136) X 8 (v := s.2.2 + (1 : Int32)) (lv' := [(7, .int (s.2.2 + (1 : Int32))), (6, .int s.2.1), (8, .int (0 : Int32)), (5, .int s.1), (0, .ref x0), (1, .int x1), (2, .int x2), (3, .int x3), (4, .int x4)]) dX6_use_136 rfl rfl (Nat.le_of_ble_eq_true rfl) rfl ?_
                refine v_goto (pc := 139) X 12 dX6_use_139 (by decide) ?_
                refine v_sub [4, 5, 6, 7, 8, 3, 1, 0] rfl ?_
                exact ih (s.1, s.2.1, s.2.2 + (1 : Int32)) h hf
              · replace hf := if_t c hf
                refine v_aload_n (pc := 98) X 1 dX6_use_98 rfl rfl ?_
                obtain ⟨q30, e_q30, hf⟩ := hf
                refine ge_6_8 (pc := 99) X (fun w h => inM w (inG6 w h)) k25 t1 e_q30 dX6_use_99 ?_
                refine v_iload (pc := 102) X 7 dX6_use_102 rfl ?_
                obtain ⟨t31, hf⟩ := hf
                obtain ⟨b33, v32, e_v32, hf⟩ := hf
                refine v_iald (pc := 104) X t31 b33 e_v32 dX6_use_104 ?_
                refine v_aload_n (pc := 105) X 1 dX6_use_105 rfl rfl ?_
                obtain ⟨q34, e_q34, hf⟩ := hf
                refine ge_6_8 (pc := 106) X (fun w h => inM w (inG6 w h)) k25 t1 e_q34 dX6_use_106 ?_
                refine v_iload (pc := 109) X 6 dX6_use_109 rfl ?_
                obtain ⟨t35, hf⟩ := hf
                obtain ⟨b37, v36, e_v36, hf⟩ := hf
                refine v_iald (pc := 111) X t35 b37 e_v36 dX6_use_111 ?_
                refine v_icmp_ge (pc := 112) X 119 dX6_use_112 (by decide) (fun c => ?_) (fun c => ?_)
                · replace hf := if_t c hf
                  refine v_iconst (pc := 119) X (v := (0 : Int32)) dX6_use_119 (by decide) ?_
                  refine v_istore (pc := 120) X (i := 8) (lv' := [(8, .int (0 : Int32)), (5, .int s.1), (0, .ref x0), (1, .int x1), (2, .int x2), (3, .int x3), (4, .int x4), (6, .int s.2.1), (7, .int s.2.2)]) dX6_use_120 (Nat.le_of_ble_eq_true rfl) rfl ?_
                  refine v_iload (pc := 122) X 0 dX6_use_122 rfl ?_
                  refine v_if_eq (pc := 124) X 132 dX6_use_124 (by decide) (fun _ => ?_) (fun c => absurd c (by decide))
                  refine v_iload (pc := 132) X 7 dX6_use_132 rfl ?_
                  refine v_istore (pc := 134) X (i := 6) (lv' := [(6, .int s.2.1), (8, .int (0 : Int32)), (5, .int s.1), (0, .ref x0), (1, .int x1), (2, .int x2), (3, .int x3), (4, .int x4), (7, .int s.2.2)]) dX6_use_134 (Nat.le_of_ble_eq_true rfl) rfl ?_
                  refine v_iinc (pc := 136) X 8 (v := s.2.2 + (1 : Int32)) (lv' := [(7, .int (s.2.2 + (1 : Int32))), (6, .int s.2.1), (8, .int (0 : Int32)), (5, .int s.1), (0, .ref x0), (1, .int x1), (2, .int x2), (3, .int x3), (4, .int x4)]) dX6_use_136 rfl rfl (Nat.le_of_ble_eq_true rfl) rfl ?_
                  refine v_goto (pc := 139) X 12 dX6_use_139 (by decide) ?_
                  refine v_sub [4, 5, 6, 7, 8, 3, 1, 0] rfl ?_
                  exact ih (s.1, s.2.1, s.2.2 + (1 : Int32)) h hf
                · replace hf := if_f c hf
                  refine v_iconst (pc := 115) X (v := (1 : Int32)) dX6_use_115 (by decide) ?_
                  refine v_goto (pc := 116) X 120 dX6_use_116 (by decide) ?_
                  refine v_istore (pc := 120) X (i := 8) (lv' := [(8, .int (1 : Int32)), (5, .int s.1), (0, .ref x0), (1, .int x1), (2, .int x2), (3, .int x3), (4, .int x4), (6, .int s.2.1), (7, .int s.2.2)]) dX6_use_120 (Nat.le_of_ble_eq_true rfl) rfl ?_
                  refine v_iload (pc := 122) X 0 dX6_use_122 rfl ?_
                  refine v_if_eq (pc := 124) X 132 dX6_use_124 (by decide) (fun c => absurd c (by decide)) (fun _ => ?_)
                  refine v_iload (pc := 127) X 8 dX6_use_127 rfl ?_
                  refine v_goto (pc := 129) X 134 dX6_use_129 (by decide) ?_
                  refine v_istore (pc := 134) X (i := 6) (lv' := [(6, .int s.2.2), (8, .int (1 : Int32)), (5, .int s.1), (0, .ref x0), (1, .int x1), (2, .int x2), (3, .int x3), (4, .int x4), (7, .int s.2.2)]) dX6_use_134 (Nat.le_of_ble_eq_true rfl) rfl ?_
                  refine v_iinc (pc := 136) X 8 (v := s.2.2 + (1 : Int32)) (lv' := [(7, .int (s.2.2 + (1 : Int32))), (6, .int s.2.2), (8, .int (1 : Int32)), (5, .int s.1), (0, .ref x0), (1, .int x1), (2, .int x2), (3, .int x3), (4, .int x4)]) dX6_use_136 rfl rfl (Nat.le_of_ble_eq_true rfl) rfl ?_
                  refine v_goto (pc := 139) X 12 dX6_use_139 (by decide) ?_
                  refine v_sub [4, 5, 6, 7, 8, 3, 1, 0] rfl ?_
                  exact ih (s.1, s.2.2, s.2.2 + (1 : Int32)) h hf
      · replace hf := if_t c hf
        refine v_iload (pc := 39) X 7 dX6_use_39 rfl ?_
        refine v_goto (pc := 41) X 46 dX6_use_41 (by decide) ?_
        refine v_istore (pc := 46) X (i := 5) (lv' := [(5, .int s.2.2), (0, .ref x0), (1, .int x1), (2, .int x2), (3, .int x3), (4, .int x4), (6, .int s.2.1), (7, .int s.2.2)]) dX6_use_46 (Nat.le_of_ble_eq_true rfl) rfl ?_
        refine v_aload_n (pc := 48) X 1 dX6_use_48 rfl rfl ?_
        obtain ⟨q38, e_q38, hf⟩ := hf
        refine ge_6_9 (pc := 49) X (fun w h => inM w (inG6 w h)) k28 t1 e_q38 dX6_use_49 ?_
        refine v_iload (pc := 52) X 7 dX6_use_52 rfl ?_
        obtain ⟨t39, hf⟩ := hf
        obtain ⟨b41, v40, e_v40, hf⟩ := hf
        refine v_iald (pc := 54) X t39 b41 e_v40 dX6_use_54 ?_
        refine v_iload_n (pc := 55) X 4 dX6_use_55 rfl rfl ?_
        refine v_icmp_ge (pc := 56) X 119 dX6_use_56 (by decide) (fun c => ?_) (fun c => ?_)
        · replace hf := if_t c hf
          refine v_iconst (pc := 119) X (v := (0 : Int32)) dX6_use_119 (by decide) ?_
          refine v_istore (pc := 120) X (i := 8) (lv' := [(8, .int (0 : Int32)), (5, .int s.2.2), (0, .ref x0), (1, .int x1), (2, .int x2), (3, .int x3), (4, .int x4), (6, .int s.2.1), (7, .int s.2.2)]) dX6_use_120 (Nat.le_of_ble_eq_true rfl) rfl ?_
          refine v_iload (pc := 122) X 0 dX6_use_122 rfl ?_
          refine v_if_eq (pc := 124) X 132 dX6_use_124 (by decide) (fun _ => ?_) (fun c => absurd c (by decide))
          refine v_iload (pc := 132) X 7 dX6_use_132 rfl ?_
          refine v_istore (pc := 134) X (i := 6) (lv' := [(6, .int s.2.1), (8, .int (0 : Int32)), (5, .int s.2.2), (0, .ref x0), (1, .int x1), (2, .int x2), (3, .int x3), (4, .int x4), (7, .int s.2.2)]) dX6_use_134 (Nat.le_of_ble_eq_true rfl) rfl ?_
          refine v_iinc (pc := 136) X 8 (v := s.2.2 + (1 : Int32)) (lv' := [(7, .int (s.2.2 + (1 : Int32))), (6, .int s.2.1), (8, .int (0 : Int32)), (5, .int s.2.2), (0, .ref x0), (1, .int x1), (2, .int x2), (3, .int x3), (4, .int x4)]) dX6_use_136 rfl rfl (Nat.le_of_ble_eq_true rfl) rfl ?_
          refine v_goto (pc := 139) X 12 dX6_use_139 (by decide) ?_
          refine v_sub [4, 5, 6, 7, 8, 3, 1, 0] rfl ?_
          exact ih (s.2.2, s.2.1, s.2.2 + (1 : Int32)) h hf
        · replace hf := if_f c hf
          refine v_iload (pc := 59) X 6 dX6_use_59 rfl ?_
          refine v_if_lt (pc := 61) X 115 dX6_use_61 (by decide) (fun c => ?_) (fun c => ?_)
          · replace hf := if_t c hf
            refine v_iconst (pc := 115) X (v := (1 : Int32)) dX6_use_115 (by decide) ?_
            refine v_goto (pc := 116) X 120 dX6_use_116 (by decide) ?_
            refine v_istore (pc := 120) X (i := 8) (lv' := [(8, .int (1 : Int32)), (5, .int s.2.2), (0, .ref x0), (1, .int x1), (2, .int x2), (3, .int x3), (4, .int x4), (6, .int s.2.1), (7, .int s.2.2)]) dX6_use_120 (Nat.le_of_ble_eq_true rfl) rfl ?_
            refine v_iload (pc := 122) X 0 dX6_use_122 rfl ?_
            refine v_if_eq (pc := 124) X 132 dX6_use_124 (by decide) (fun c => absurd c (by decide)) (fun _ => ?_)
            refine v_iload (pc := 127) X 8 dX6_use_127 rfl ?_
            refine v_goto (pc := 129) X 134 dX6_use_129 (by decide) ?_
            refine v_istore (pc := 134) X (i := 6) (lv' := [(6, .int s.2.2), (8, .int (1 : Int32)), (5, .int s.2.2), (0, .ref x0), (1, .int x1), (2, .int x2), (3, .int x3), (4, .int x4), (7, .int s.2.2)]) dX6_use_134 (Nat.le_of_ble_eq_true rfl) rfl ?_
            refine v_iinc (pc := 136) X 8 (v := s.2.2 + (1 : Int32)) (lv' := [(7, .int (s.2.2 + (1 : Int32))), (6, .int s.2.2), (8, .int (1 : Int32)), (5, .int s.2.2), (0, .ref x0), (1, .int x1), (2, .int x2), (3, .int x3), (4, .int x4)]) dX6_use_136 rfl rfl (Nat.le_of_ble_eq_true rfl) rfl ?_
            refine v_goto (pc := 139) X 12 dX6_use_139 (by decide) ?_
            refine v_sub [4, 5, 6, 7, 8, 3, 1, 0] rfl ?_
            exact ih (s.2.2, s.2.2, s.2.2 + (1 : Int32)) h hf
          · replace hf := if_f c hf
            refine v_aload_n (pc := 64) X 1 dX6_use_64 rfl rfl ?_
            obtain ⟨q42, e_q42, hf⟩ := hf
            refine ge_6_9 (pc := 65) X (fun w h => inM w (inG6 w h)) k28 t1 e_q42 dX6_use_65 ?_
            refine v_iload (pc := 68) X 7 dX6_use_68 rfl ?_
            obtain ⟨t43, hf⟩ := hf
            obtain ⟨b45, v44, e_v44, hf⟩ := hf
            refine v_iald (pc := 70) X t43 b45 e_v44 dX6_use_70 ?_
            refine v_aload_n (pc := 71) X 1 dX6_use_71 rfl rfl ?_
            obtain ⟨q46, e_q46, hf⟩ := hf
            refine ge_6_9 (pc := 72) X (fun w h => inM w (inG6 w h)) k28 t1 e_q46 dX6_use_72 ?_
            refine v_iload (pc := 75) X 6 dX6_use_75 rfl ?_
            obtain ⟨t47, hf⟩ := hf
            obtain ⟨b49, v48, e_v48, hf⟩ := hf
            refine v_iald (pc := 77) X t47 b49 e_v48 dX6_use_77 ?_
            refine v_icmp_lt (pc := 78) X 115 dX6_use_78 (by decide) (fun c => ?_) (fun c => ?_)
            · replace hf := if_t c hf
              refine v_iconst (pc := 115) X (v := (1 : Int32)) dX6_use_115 (by decide) ?_
              refine v_goto (pc := 116) X 120 dX6_use_116 (by decide) ?_
              refine v_istore (pc := 120) X (i := 8) (lv' := [(8, .int (1 : Int32)), (5, .int s.2.2), (0, .ref x0), (1, .int x1), (2, .int x2), (3, .int x3), (4, .int x4), (6, .int s.2.1), (7, .int s.2.2)]) dX6_use_120 (Nat.le_of_ble_eq_true rfl) rfl ?_
              refine v_iload (pc := 122) X 0 dX6_use_122 rfl ?_
              refine v_if_eq (pc := 124) X 132 dX6_use_124 (by decide) (fun c => absurd c (by decide)) (fun _ => ?_)
              refine v_iload (pc := 127) X 8 dX6_use_127 rfl ?_
              refine v_goto (pc := 129) X 134 dX6_use_129 (by decide) ?_
              refine v_istore (pc := 134) X (i := 6) (lv' := [(6, .int s.2.2), (8, .int (1 : Int32)), (5, .int s.2.2), (0, .ref x0), (1, .int x1), (2, .int x2), (3, .int x3), (4, .int x4), (7, .int s.2.2)]) dX6_use_134 (Nat.le_of_ble_eq_true rfl) rfl ?_
              refine v_iinc (pc := 136) X 8 (v := s.2.2 + (1 : Int32)) (lv' := [(7, .int (s.2.2 + (1 : Int32))), (6, .int s.2.2), (8, .int (1 : Int32)), (5, .int s.2.2), (0, .ref x0), (1, .int x1), (2, .int x2), (3, .int x3), (4, .int x4)]) dX6_use_136 rfl rfl (Nat.le_of_ble_eq_true rfl) rfl ?_
              refine v_goto (pc := 139) X 12 dX6_use_139 (by decide) ?_
              refine v_sub [4, 5, 6, 7, 8, 3, 1, 0] rfl ?_
              exact ih (s.2.2, s.2.2, s.2.2 + (1 : Int32)) h hf
            · replace hf := if_f c hf
              refine v_aload_n (pc := 81) X 1 dX6_use_81 rfl rfl ?_
              obtain ⟨q50, e_q50, hf⟩ := hf
              refine ge_6_9 (pc := 82) X (fun w h => inM w (inG6 w h)) k28 t1 e_q50 dX6_use_82 ?_
              refine v_iload (pc := 85) X 7 dX6_use_85 rfl ?_
              obtain ⟨t51, hf⟩ := hf
              obtain ⟨b53, v52, e_v52, hf⟩ := hf
              refine v_iald (pc := 87) X t51 b53 e_v52 dX6_use_87 ?_
              refine v_aload_n (pc := 88) X 1 dX6_use_88 rfl rfl ?_
              obtain ⟨q54, e_q54, hf⟩ := hf
              refine ge_6_9 (pc := 89) X (fun w h => inM w (inG6 w h)) k28 t1 e_q54 dX6_use_89 ?_
              refine v_iload (pc := 92) X 6 dX6_use_92 rfl ?_
              obtain ⟨t55, hf⟩ := hf
              obtain ⟨b57, v56, e_v56, hf⟩ := hf
              refine v_iald (pc := 94) X t55 b57 e_v56 dX6_use_94 ?_
              refine v_icmp_ne (pc := 95) X 119 dX6_use_95 (by decide) (fun c => ?_) (fun c => ?_)
              · replace hf := if_f c hf
                refine v_iconst (pc := 119) X (v := (0 : Int32)) dX6_use_119 (by decide) ?_
                refine v_istore (pc := 120) X (i := 8) (lv' := [(8, .int (0 : Int32)), (5, .int s.2.2), (0, .ref x0), (1, .int x1), (2, .int x2), (3, .int x3), (4, .int x4), (6, .int s.2.1), (7, .int s.2.2)]) dX6_use_120 (Nat.le_of_ble_eq_true rfl) rfl ?_
                refine v_iload (pc := 122) X 0 dX6_use_122 rfl ?_
                refine v_if_eq (pc := 124) X 132 dX6_use_124 (by decide) (fun _ => ?_) (fun c => absurd c (by decide))
                refine v_iload (pc := 132) X 7 dX6_use_132 rfl ?_
                refine v_istore (pc := 134) X (i := 6) (lv' := [(6, .int s.2.1), (8, .int (0 : Int32)), (5, .int s.2.2), (0, .ref x0), (1, .int x1), (2, .int x2), (3, .int x3), (4, .int x4), (7, .int s.2.2)]) dX6_use_134 (Nat.le_of_ble_eq_true rfl) rfl ?_
                refine v_iinc (pc := 136) X 8 (v := s.2.2 + (1 : Int32)) (lv' := [(7, .int (s.2.2 + (1 : Int32))), (6, .int s.2.1), (8, .int (0 : Int32)), (5, .int s.2.2), (0, .ref x0), (1, .int x1), (2, .int x2), (3, .int x3), (4, .int x4)]) dX6_use_136 rfl rfl (Nat.le_of_ble_eq_true rfl) rfl ?_
                refine v_goto (pc := 139) X 12 dX6_use_139 (by decide) ?_
                refine v_sub [4, 5, 6, 7, 8, 3, 1, 0] rfl ?_
                exact ih (s.2.2, s.2.1, s.2.2 + (1 : Int32)) h hf
              · replace hf := if_t c hf
                refine v_aload_n (pc := 98) X 1 dX6_use_98 rfl rfl ?_
                obtain ⟨q58, e_q58, hf⟩ := hf
                refine ge_6_8 (pc := 99) X (fun w h => inM w (inG6 w h)) k25 t1 e_q58 dX6_use_99 ?_
                refine v_iload (pc := 102) X 7 dX6_use_102 rfl ?_
                obtain ⟨t59, hf⟩ := hf
                obtain ⟨b61, v60, e_v60, hf⟩ := hf
                refine v_iald (pc := 104) X t59 b61 e_v60 dX6_use_104 ?_
                refine v_aload_n (pc := 105) X 1 dX6_use_105 rfl rfl ?_
                obtain ⟨q62, e_q62, hf⟩ := hf
                refine ge_6_8 (pc := 106) X (fun w h => inM w (inG6 w h)) k25 t1 e_q62 dX6_use_106 ?_
                refine v_iload (pc := 109) X 6 dX6_use_109 rfl ?_
                obtain ⟨t63, hf⟩ := hf
                obtain ⟨b65, v64, e_v64, hf⟩ := hf
                refine v_iald (pc := 111) X t63 b65 e_v64 dX6_use_111 ?_
                refine v_icmp_ge (pc := 112) X 119 dX6_use_112 (by decide) (fun c => ?_) (fun c => ?_)
                · replace hf := if_t c hf
                  refine v_iconst (pc := 119) X (v := (0 : Int32)) dX6_use_119 (by decide) ?_
                  refine v_istore (pc := 120) X (i := 8) (lv' := [(8, .int (0 : Int32)), (5, .int s.2.2), (0, .ref x0), (1, .int x1), (2, .int x2), (3, .int x3), (4, .int x4), (6, .int s.2.1), (7, .int s.2.2)]) dX6_use_120 (Nat.le_of_ble_eq_true rfl) rfl ?_
                  refine v_iload (pc := 122) X 0 dX6_use_122 rfl ?_
                  refine v_if_eq (pc := 124) X 132 dX6_use_124 (by decide) (fun _ => ?_) (fun c => absurd c (by decide))
                  refine v_iload (pc := 132) X 7 dX6_use_132 rfl ?_
                  refine v_istore (pc := 134) X (i := 6) (lv' := [(6, .int s.2.1), (8, .int (0 : Int32)), (5, .int s.2.2), (0, .ref x0), (1, .int x1), (2, .int x2), (3, .int x3), (4, .int x4), (7, .int s.2.2)]) dX6_use_134 (Nat.le_of_ble_eq_true rfl) rfl ?_
                  refine v_iinc (pc := 136) X 8 (v := s.2.2 + (1 : Int32)) (lv' := [(7, .int (s.2.2 + (1 : Int32))), (6, .int s.2.1), (8, .int (0 : Int32)), (5, .int s.2.2), (0, .ref x0), (1, .int x1), (2, .int x2), (3, .int x3), (4, .int x4)]) dX6_use_136 rfl rfl (Nat.le_of_ble_eq_true rfl) rfl ?_
                  refine v_goto (pc := 139) X 12 dX6_use_139 (by decide) ?_
                  refine v_sub [4, 5, 6, 7, 8, 3, 1, 0] rfl ?_
                  exact ih (s.2.2, s.2.1, s.2.2 + (1 : Int32)) h hf
                · replace hf := if_f c hf
                  refine v_iconst (pc := 115) X (v := (1 : Int32)) dX6_use_115 (by decide) ?_
                  refine v_goto (pc := 116) X 120 dX6_use_116 (by decide) ?_
                  refine v_istore (pc := 120) X (i := 8) (lv' := [(8, .int (1 : Int32)), (5, .int s.2.2), (0, .ref x0), (1, .int x1), (2, .int x2), (3, .int x3), (4, .int x4), (6, .int s.2.1), (7, .int s.2.2)]) dX6_use_120 (Nat.le_of_ble_eq_true rfl) rfl ?_
                  refine v_iload (pc := 122) X 0 dX6_use_122 rfl ?_
                  refine v_if_eq (pc := 124) X 132 dX6_use_124 (by decide) (fun c => absurd c (by decide)) (fun _ => ?_)
                  refine v_iload (pc := 127) X 8 dX6_use_127 rfl ?_
                  refine v_goto (pc := 129) X 134 dX6_use_129 (by decide) ?_
                  refine v_istore (pc := 134) X (i := 6) (lv' := [(6, .int s.2.2), (8, .int (1 : Int32)), (5, .int s.2.2), (0, .ref x0), (1, .int x1), (2, .int x2), (3, .int x3), (4, .int x4), (7, .int s.2.2)]) dX6_use_134 (Nat.le_of_ble_eq_true rfl) rfl ?_
                  refine v_iinc (pc := 136) X 8 (v := s.2.2 + (1 : Int32)) (lv' := [(7, .int (s.2.2 + (1 : Int32))), (6, .int s.2.2), (8, .int (1 : Int32)), (5, .int s.2.2), (0, .ref x0), (1, .int x1), (2, .int x2), (3, .int x3), (4, .int x4)]) dX6_use_136 rfl rfl (Nat.le_of_ble_eq_true rfl) rfl ?_
                  refine v_goto (pc := 139) X 12 dX6_use_139 (by decide) ?_
                  refine v_sub [4, 5, 6, 7, 8, 3, 1, 0] rfl ?_
                  exact ih (s.2.2, s.2.2, s.2.2 + (1 : Int32)) h hf

set_option maxHeartbeats 4000000 in
set_option maxRecDepth 100000 in
theorem c_X6_use (l : Launch) (D : va_G) (cA : Nat → ClassId) (L : List Nat) (sh : Sh) (a0 : Nat) (p1 : Int32) (p2 : Int32) (p3 : Int32) (p4 : Int32) (h : Hp) (K : Int32 → Hp → Prop) (hf : f_X6_use sh a0 p1 p2 p3 p4 h K) : Met l yX6_use (wM yX6_use cX6_use 10 (some .int)) ({ frames := 0, cells := 0, slots := 0, locals := 0 } : Room) (PreM D cA L sh h [.ref a0, .int p1, .int p2, .int p3, .int p4]) (QI D cA L sh K) 0 0 (fun q => q ∈ L) := by
  refine met_v (cc := cX6_use) (nL := 10) (ret := (some .int)) [(0, .ref a0), (1, .int p1), (2, .int p2), (3, .int p3), (4, .int p4)] (by decide) rfl (Nat.le_of_ble_eq_true rfl) rfl ?_
  intro p e s0 m below meth c X hr hlk
  have k31 := X.ht _ (inM _ q_495)
  have k25 := X.ht _ (inM _ q_493)
  have k28 := X.ht _ (inM _ q_494)
  unfold f_X6_use at hf
  refine v_iconst (pc := 0) X (v := (-1 : Int32)) dX6_use_0 (by decide) ?_
  refine v_istore (pc := 1) X (i := 5) (lv' := [(5, .int (-1 : Int32)), (0, .ref a0), (1, .int p1), (2, .int p2), (3, .int p3), (4, .int p4)]) dX6_use_1 (Nat.le_of_ble_eq_true rfl) rfl ?_
  refine v_iconst (pc := 3) X (v := (-1 : Int32)) dX6_use_3 (by decide) ?_
  refine v_istore (pc := 4) X (i := 6) (lv' := [(6, .int (-1 : Int32)), (5, .int (-1 : Int32)), (0, .ref a0), (1, .int p1), (2, .int p2), (3, .int p3), (4, .int p4)]) dX6_use_4 (Nat.le_of_ble_eq_true rfl) rfl ?_
  refine v_bipush (pc := 6) X (v := (8 : Int32)) dX6_use_6 (by decide) ?_
  refine v_iload_n (pc := 8) X 3 dX6_use_8 rfl rfl ?_
  refine v_imul (pc := 9) X dX6_use_9 ?_
  refine v_istore (pc := 10) X (i := 7) (lv' := [(7, .int ((8 : Int32) * p1)), (6, .int (-1 : Int32)), (5, .int (-1 : Int32)), (0, .ref a0), (1, .int p1), (2, .int p2), (3, .int p3), (4, .int p4)]) dX6_use_10 (Nat.le_of_ble_eq_true rfl) rfl ?_
  obtain ⟨n, hf⟩ := hf
  refine v_sub [3, 4, 5, 6, 7, 2, 1, 0] rfl ?_
  refine w_X6_use_12 X hr hlk a0 p1 p2 p3 p4 _ K (fun y66 y67 h68 hf => ?_) n ((-1 : Int32), (-1 : Int32), (8 : Int32) * p1) h hf
  refine v_iload (pc := 142) X 5 dX6_use_142 rfl ?_
  refine v_if_lt (pc := 144) X 151 dX6_use_144 (by decide) (fun c => ?_) (fun c => ?_)
  · replace hf := if_t c hf
    refine v_iconst (pc := 151) X (v := (0 : Int32)) dX6_use_151 (by decide) ?_
    refine v_istore (pc := 152) X (i := 7) (lv' := [(7, .int (0 : Int32)), (0, .ref a0), (1, .int p1), (2, .int p2), (3, .int p3), (4, .int p4), (5, .int y66), (6, .int y67)]) dX6_use_152 (Nat.le_of_ble_eq_true rfl) rfl ?_
    refine v_aload_n (pc := 154) X 1 dX6_use_154 rfl rfl ?_
    obtain ⟨t69, hf⟩ := hf
    obtain ⟨q70, e_q70, hf⟩ := hf
    refine ge_6_10 (pc := 155) X (fun w h => inM w (inG6 w h)) k31 t69 e_q70 dX6_use_155 ?_
    refine v_iload_n (pc := 158) X 2 dX6_use_158 rfl rfl ?_
    obtain ⟨t71, hf⟩ := hf
    obtain ⟨b73, v72, e_v72, hf⟩ := hf
    refine v_iald (pc := 159) X t71 b73 e_v72 dX6_use_159 ?_
    refine v_iload (pc := 160) X 5 dX6_use_160 rfl ?_
    refine v_icmp_ne (pc := 162) X 169 dX6_use_162 (by decide) (fun c => ?_) (fun c => ?_)
    · replace hf := if_f c hf
      refine v_iconst (pc := 169) X (v := (0 : Int32)) dX6_use_169 (by decide) ?_
      refine v_istore (pc := 170) X (i := 8) (lv' := [(8, .int (0 : Int32)), (7, .int (0 : Int32)), (0, .ref a0), (1, .int p1), (2, .int p2), (3, .int p3), (4, .int p4), (5, .int y66), (6, .int y67)]) dX6_use_170 (Nat.le_of_ble_eq_true rfl) rfl ?_
      refine v_iload (pc := 172) X 1 dX6_use_172 rfl ?_
      refine v_if_ne (pc := 174) X 189 dX6_use_174 (by decide) (fun c => absurd c (by decide)) (fun _ => ?_)
      refine v_iload (pc := 177) X 0 dX6_use_177 rfl ?_
      refine v_if_eq (pc := 179) X 189 dX6_use_179 (by decide) (fun _ => ?_) (fun c => absurd c (by decide))
      refine v_iload (pc := 189) X 1 dX6_use_189 rfl ?_
      refine v_if_eq (pc := 191) X 199 dX6_use_191 (by decide) (fun _ => ?_) (fun c => absurd c (by decide))
      refine v_iload (pc := 199) X 0 dX6_use_199 rfl ?_
      refine v_if_eq (pc := 201) X 209 dX6_use_201 (by decide) (fun _ => ?_) (fun c => absurd c (by decide))
      refine v_bipush (pc := 209) X (v := (8 : Int32)) dX6_use_209 (by decide) ?_
      refine v_iload_n (pc := 211) X 3 dX6_use_211 rfl rfl ?_
      refine v_imul (pc := 212) X dX6_use_212 ?_
      refine v_aload_n (pc := 213) X 2 dX6_use_213 rfl rfl ?_
      obtain ⟨q74, e_q74, hf⟩ := hf
      refine ge_6_10 (pc := 214) X (fun w h => inM w (inG6 w h)) k31 t69 e_q74 dX6_use_214 ?_
      refine v_iload_n (pc := 217) X 3 dX6_use_217 rfl rfl ?_
      obtain ⟨t75, hf⟩ := hf
      obtain ⟨b77, v76, e_v76, hf⟩ := hf
      refine v_iald (pc := 218) X t75 b77 e_v76 dX6_use_218 ?_
      refine v_iadd (pc := 219) X dX6_use_219 ?_
      refine v_istore (pc := 220) X (i := 9) (lv' := [(9, .int (((8 : Int32) * p1) + v76)), (8, .int (0 : Int32)), (7, .int (0 : Int32)), (0, .ref a0), (1, .int p1), (2, .int p2), (3, .int p3), (4, .int p4), (5, .int y66), (6, .int y67)]) dX6_use_220 (Nat.le_of_ble_eq_true rfl) rfl ?_
      refine v_aload_n (pc := 222) X 3 dX6_use_222 rfl rfl ?_
      obtain ⟨q78, e_q78, hf⟩ := hf
      refine ge_6_10 (pc := 223) X (fun w h => inM w (inG6 w h)) k31 t69 e_q78 dX6_use_223 ?_
      refine v_iload_n (pc := 226) X 4 dX6_use_226 rfl rfl ?_
      refine v_dup2 (pc := 227) X dX6_use_227 rfl rfl ?_
      obtain ⟨t79, hf⟩ := hf
      obtain ⟨b81, v80, e_v80, hf⟩ := hf
      refine v_iald (pc := 228) X t79 b81 e_v80 dX6_use_228 ?_
      refine v_iload (pc := 229) X 2 dX6_use_229 rfl ?_
      refine v_if_ne (pc := 231) X 239 dX6_use_231 (by decide) (fun c => absurd c (by decide)) (fun _ => ?_)
      refine v_iload (pc := 234) X 1 dX6_use_234 rfl ?_
      refine v_if_eq (pc := 236) X 243 dX6_use_236 (by decide) (fun _ => ?_) (fun c => absurd c (by decide))
      refine v_iconst (pc := 243) X (v := (1 : Int32)) dX6_use_243 (by decide) ?_
      refine v_iadd (pc := 244) X dX6_use_244 ?_
      obtain ⟨b83, h82, e_h82, hf⟩ := hf
      refine v_iast (pc := 245) X t79 b83 e_h82 dX6_use_245 ?_
      refine v_aload_n (pc := 246) X 3 dX6_use_246 rfl rfl ?_
      obtain ⟨q84, e_q84, hf⟩ := hf
      refine ge_6_8 (pc := 247) X (fun w h => inM w (inG6 w h)) k25 t69 e_q84 dX6_use_247 ?_
      refine v_iload (pc := 250) X 0 dX6_use_250 rfl ?_
      refine v_iload_n (pc := 252) X 5 dX6_use_252 rfl rfl ?_
      obtain ⟨t85, hf⟩ := hf
      obtain ⟨b87, h86, e_h86, hf⟩ := hf
      refine v_iast (pc := 253) X t85 b87 e_h86 dX6_use_253 ?_
      refine v_aload_n (pc := 254) X 3 dX6_use_254 rfl rfl ?_
      obtain ⟨q88, e_q88, hf⟩ := hf
      refine ge_6_9 (pc := 255) X (fun w h => inM w (inG6 w h)) k28 t69 e_q88 dX6_use_255 ?_
      refine v_iload (pc := 258) X 0 dX6_use_258 rfl ?_
      refine v_iload_n (pc := 260) X 6 dX6_use_260 rfl rfl ?_
      obtain ⟨t89, hf⟩ := hf
      obtain ⟨b91, h90, e_h90, hf⟩ := hf
      refine v_iast (pc := 261) X t89 b91 e_h90 dX6_use_261 ?_
      refine v_iload (pc := 262) X 2 dX6_use_262 rfl ?_
      refine v_if_eq (pc := 264) X 271 dX6_use_264 (by decide) (fun _ => ?_) (fun c => absurd c (by decide))
      refine v_iconst (pc := 271) X (v := (1 : Int32)) dX6_use_271 (by decide) ?_
      exact v_iret (pc := 272) X hr hlk dX6_use_272 hf
    · replace hf := if_t c hf
      refine v_iconst (pc := 165) X (v := (1 : Int32)) dX6_use_165 (by decide) ?_
      refine v_goto (pc := 166) X 170 dX6_use_166 (by decide) ?_
      refine v_istore (pc := 170) X (i := 8) (lv' := [(8, .int (1 : Int32)), (7, .int (0 : Int32)), (0, .ref a0), (1, .int p1), (2, .int p2), (3, .int p3), (4, .int p4), (5, .int y66), (6, .int y67)]) dX6_use_170 (Nat.le_of_ble_eq_true rfl) rfl ?_
      refine v_iload (pc := 172) X 1 dX6_use_172 rfl ?_
      refine v_if_ne (pc := 174) X 189 dX6_use_174 (by decide) (fun c => absurd c (by decide)) (fun _ => ?_)
      refine v_iload (pc := 177) X 0 dX6_use_177 rfl ?_
      refine v_if_eq (pc := 179) X 189 dX6_use_179 (by decide) (fun c => absurd c (by decide)) (fun _ => ?_)
      refine v_iload (pc := 182) X 8 dX6_use_182 rfl ?_
      refine v_if_ge (pc := 184) X 189 dX6_use_184 (by decide) (fun c => ?_) (fun c => ?_)
      · replace hf := if_t c hf
        refine v_iload (pc := 189) X 1 dX6_use_189 rfl ?_
        refine v_if_eq (pc := 191) X 199 dX6_use_191 (by decide) (fun _ => ?_) (fun c => absurd c (by decide))
        refine v_iload (pc := 199) X 0 dX6_use_199 rfl ?_
        refine v_if_eq (pc := 201) X 209 dX6_use_201 (by decide) (fun c => absurd c (by decide)) (fun _ => ?_)
        refine v_iload (pc := 204) X 8 dX6_use_204 rfl ?_
        refine v_goto (pc := 206) X 220 dX6_use_206 (by decide) ?_
        refine v_istore (pc := 220) X (i := 9) (lv' := [(9, .int y67), (8, .int (1 : Int32)), (7, .int (0 : Int32)), (0, .ref a0), (1, .int p1), (2, .int p2), (3, .int p3), (4, .int p4), (5, .int y66), (6, .int y67)]) dX6_use_220 (Nat.le_of_ble_eq_true rfl) rfl ?_
        refine v_aload_n (pc := 222) X 3 dX6_use_222 rfl rfl ?_
        obtain ⟨q92, e_q92, hf⟩ := hf
        refine ge_6_10 (pc := 223) X (fun w h => inM w (inG6 w h)) k31 t69 e_q92 dX6_use_223 ?_
        refine v_iload_n (pc := 226) X 4 dX6_use_226 rfl rfl ?_
        refine v_dup2 (pc := 227) X dX6_use_227 rfl rfl ?_
        obtain ⟨t93, hf⟩ := hf
        obtain ⟨b95, v94, e_v94, hf⟩ := hf
        refine v_iald (pc := 228) X t93 b95 e_v94 dX6_use_228 ?_
        refine v_iload (pc := 229) X 2 dX6_use_229 rfl ?_
        refine v_if_ne (pc := 231) X 239 dX6_use_231 (by decide) (fun c => absurd c (by decide)) (fun _ => ?_)
        refine v_iload (pc := 234) X 1 dX6_use_234 rfl ?_
        refine v_if_eq (pc := 236) X 243 dX6_use_236 (by decide) (fun c => absurd c (by decide)) (fun _ => ?_)
        refine v_iconst (pc := 239) X (v := (0 : Int32)) dX6_use_239 (by decide) ?_
        refine v_goto (pc := 240) X 244 dX6_use_240 (by decide) ?_
        refine v_iadd (pc := 244) X dX6_use_244 ?_
        obtain ⟨b97, h96, e_h96, hf⟩ := hf
        refine v_iast (pc := 245) X t93 b97 e_h96 dX6_use_245 ?_
        refine v_aload_n (pc := 246) X 3 dX6_use_246 rfl rfl ?_
        obtain ⟨q98, e_q98, hf⟩ := hf
        refine ge_6_8 (pc := 247) X (fun w h => inM w (inG6 w h)) k25 t69 e_q98 dX6_use_247 ?_
        refine v_iload (pc := 250) X 0 dX6_use_250 rfl ?_
        refine v_iload_n (pc := 252) X 5 dX6_use_252 rfl rfl ?_
        obtain ⟨t99, hf⟩ := hf
        obtain ⟨b101, h100, e_h100, hf⟩ := hf
        refine v_iast (pc := 253) X t99 b101 e_h100 dX6_use_253 ?_
        refine v_aload_n (pc := 254) X 3 dX6_use_254 rfl rfl ?_
        obtain ⟨q102, e_q102, hf⟩ := hf
        refine ge_6_9 (pc := 255) X (fun w h => inM w (inG6 w h)) k28 t69 e_q102 dX6_use_255 ?_
        refine v_iload (pc := 258) X 0 dX6_use_258 rfl ?_
        refine v_iload_n (pc := 260) X 6 dX6_use_260 rfl rfl ?_
        obtain ⟨t103, hf⟩ := hf
        obtain ⟨b105, h104, e_h104, hf⟩ := hf
        refine v_iast (pc := 261) X t103 b105 e_h104 dX6_use_261 ?_
        refine v_iload (pc := 262) X 2 dX6_use_262 rfl ?_
        refine v_if_eq (pc := 264) X 271 dX6_use_264 (by decide) (fun _ => ?_) (fun c => absurd c (by decide))
        refine v_iconst (pc := 271) X (v := (1 : Int32)) dX6_use_271 (by decide) ?_
        exact v_iret (pc := 272) X hr hlk dX6_use_272 hf
      · replace hf := if_f c hf
        refine v_iconst (pc := 187) X (v := (-1 : Int32)) dX6_use_187 (by decide) ?_
        exact v_iret (pc := 188) X hr hlk dX6_use_188 hf
  · replace hf := if_f c hf
    refine v_iconst (pc := 147) X (v := (1 : Int32)) dX6_use_147 (by decide) ?_
    refine v_goto (pc := 148) X 152 dX6_use_148 (by decide) ?_
    refine v_istore (pc := 152) X (i := 7) (lv' := [(7, .int (1 : Int32)), (0, .ref a0), (1, .int p1), (2, .int p2), (3, .int p3), (4, .int p4), (5, .int y66), (6, .int y67)]) dX6_use_152 (Nat.le_of_ble_eq_true rfl) rfl ?_
    refine v_aload_n (pc := 154) X 1 dX6_use_154 rfl rfl ?_
    obtain ⟨t106, hf⟩ := hf
    obtain ⟨q107, e_q107, hf⟩ := hf
    refine ge_6_10 (pc := 155) X (fun w h => inM w (inG6 w h)) k31 t106 e_q107 dX6_use_155 ?_
    refine v_iload_n (pc := 158) X 2 dX6_use_158 rfl rfl ?_
    obtain ⟨t108, hf⟩ := hf
    obtain ⟨b110, v109, e_v109, hf⟩ := hf
    refine v_iald (pc := 159) X t108 b110 e_v109 dX6_use_159 ?_
    refine v_iload (pc := 160) X 5 dX6_use_160 rfl ?_
    refine v_icmp_ne (pc := 162) X 169 dX6_use_162 (by decide) (fun c => ?_) (fun c => ?_)
    · replace hf := if_f c hf
      refine v_iconst (pc := 169) X (v := (0 : Int32)) dX6_use_169 (by decide) ?_
      refine v_istore (pc := 170) X (i := 8) (lv' := [(8, .int (0 : Int32)), (7, .int (1 : Int32)), (0, .ref a0), (1, .int p1), (2, .int p2), (3, .int p3), (4, .int p4), (5, .int y66), (6, .int y67)]) dX6_use_170 (Nat.le_of_ble_eq_true rfl) rfl ?_
      refine v_iload (pc := 172) X 1 dX6_use_172 rfl ?_
      refine v_if_ne (pc := 174) X 189 dX6_use_174 (by decide) (fun _ => ?_) (fun c => absurd c (by decide))
      refine v_iload (pc := 189) X 1 dX6_use_189 rfl ?_
      refine v_if_eq (pc := 191) X 199 dX6_use_191 (by decide) (fun c => absurd c (by decide)) (fun _ => ?_)
      refine v_iload (pc := 194) X 7 dX6_use_194 rfl ?_
      refine v_goto (pc := 196) X 220 dX6_use_196 (by decide) ?_
      refine v_istore (pc := 220) X (i := 9) (lv' := [(9, .int y66), (8, .int (0 : Int32)), (7, .int (1 : Int32)), (0, .ref a0), (1, .int p1), (2, .int p2), (3, .int p3), (4, .int p4), (5, .int y66), (6, .int y67)]) dX6_use_220 (Nat.le_of_ble_eq_true rfl) rfl ?_
      refine v_aload_n (pc := 222) X 3 dX6_use_222 rfl rfl ?_
      obtain ⟨q111, e_q111, hf⟩ := hf
      refine ge_6_10 (pc := 223) X (fun w h => inM w (inG6 w h)) k31 t106 e_q111 dX6_use_223 ?_
      refine v_iload_n (pc := 226) X 4 dX6_use_226 rfl rfl ?_
      refine v_dup2 (pc := 227) X dX6_use_227 rfl rfl ?_
      obtain ⟨t112, hf⟩ := hf
      obtain ⟨b114, v113, e_v113, hf⟩ := hf
      refine v_iald (pc := 228) X t112 b114 e_v113 dX6_use_228 ?_
      refine v_iload (pc := 229) X 2 dX6_use_229 rfl ?_
      refine v_if_ne (pc := 231) X 239 dX6_use_231 (by decide) (fun _ => ?_) (fun c => absurd c (by decide))
      refine v_iconst (pc := 239) X (v := (0 : Int32)) dX6_use_239 (by decide) ?_
      refine v_goto (pc := 240) X 244 dX6_use_240 (by decide) ?_
      refine v_iadd (pc := 244) X dX6_use_244 ?_
      obtain ⟨b116, h115, e_h115, hf⟩ := hf
      refine v_iast (pc := 245) X t112 b116 e_h115 dX6_use_245 ?_
      refine v_aload_n (pc := 246) X 3 dX6_use_246 rfl rfl ?_
      obtain ⟨q117, e_q117, hf⟩ := hf
      refine ge_6_8 (pc := 247) X (fun w h => inM w (inG6 w h)) k25 t106 e_q117 dX6_use_247 ?_
      refine v_iload (pc := 250) X 0 dX6_use_250 rfl ?_
      refine v_iload_n (pc := 252) X 5 dX6_use_252 rfl rfl ?_
      obtain ⟨t118, hf⟩ := hf
      obtain ⟨b120, h119, e_h119, hf⟩ := hf
      refine v_iast (pc := 253) X t118 b120 e_h119 dX6_use_253 ?_
      refine v_aload_n (pc := 254) X 3 dX6_use_254 rfl rfl ?_
      obtain ⟨q121, e_q121, hf⟩ := hf
      refine ge_6_9 (pc := 255) X (fun w h => inM w (inG6 w h)) k28 t106 e_q121 dX6_use_255 ?_
      refine v_iload (pc := 258) X 0 dX6_use_258 rfl ?_
      refine v_iload_n (pc := 260) X 6 dX6_use_260 rfl rfl ?_
      obtain ⟨t122, hf⟩ := hf
      obtain ⟨b124, h123, e_h123, hf⟩ := hf
      refine v_iast (pc := 261) X t122 b124 e_h123 dX6_use_261 ?_
      refine v_iload (pc := 262) X 2 dX6_use_262 rfl ?_
      refine v_if_eq (pc := 264) X 271 dX6_use_264 (by decide) (fun c => absurd c (by decide)) (fun _ => ?_)
      refine v_iconst (pc := 267) X (v := (0 : Int32)) dX6_use_267 (by decide) ?_
      refine v_goto (pc := 268) X 272 dX6_use_268 (by decide) ?_
      exact v_iret (pc := 272) X hr hlk dX6_use_272 hf
    · replace hf := if_t c hf
      refine v_iconst (pc := 165) X (v := (1 : Int32)) dX6_use_165 (by decide) ?_
      refine v_goto (pc := 166) X 170 dX6_use_166 (by decide) ?_
      refine v_istore (pc := 170) X (i := 8) (lv' := [(8, .int (1 : Int32)), (7, .int (1 : Int32)), (0, .ref a0), (1, .int p1), (2, .int p2), (3, .int p3), (4, .int p4), (5, .int y66), (6, .int y67)]) dX6_use_170 (Nat.le_of_ble_eq_true rfl) rfl ?_
      refine v_iload (pc := 172) X 1 dX6_use_172 rfl ?_
      refine v_if_ne (pc := 174) X 189 dX6_use_174 (by decide) (fun _ => ?_) (fun c => absurd c (by decide))
      refine v_iload (pc := 189) X 1 dX6_use_189 rfl ?_
      refine v_if_eq (pc := 191) X 199 dX6_use_191 (by decide) (fun c => absurd c (by decide)) (fun _ => ?_)
      refine v_iload (pc := 194) X 7 dX6_use_194 rfl ?_
      refine v_goto (pc := 196) X 220 dX6_use_196 (by decide) ?_
      refine v_istore (pc := 220) X (i := 9) (lv' := [(9, .int y66), (8, .int (1 : Int32)), (7, .int (1 : Int32)), (0, .ref a0), (1, .int p1), (2, .int p2), (3, .int p3), (4, .int p4), (5, .int y66), (6, .int y67)]) dX6_use_220 (Nat.le_of_ble_eq_true rfl) rfl ?_
      refine v_aload_n (pc := 222) X 3 dX6_use_222 rfl rfl ?_
      obtain ⟨q125, e_q125, hf⟩ := hf
      refine ge_6_10 (pc := 223) X (fun w h => inM w (inG6 w h)) k31 t106 e_q125 dX6_use_223 ?_
      refine v_iload_n (pc := 226) X 4 dX6_use_226 rfl rfl ?_
      refine v_dup2 (pc := 227) X dX6_use_227 rfl rfl ?_
      obtain ⟨t126, hf⟩ := hf
      obtain ⟨b128, v127, e_v127, hf⟩ := hf
      refine v_iald (pc := 228) X t126 b128 e_v127 dX6_use_228 ?_
      refine v_iload (pc := 229) X 2 dX6_use_229 rfl ?_
      refine v_if_ne (pc := 231) X 239 dX6_use_231 (by decide) (fun _ => ?_) (fun c => absurd c (by decide))
      refine v_iconst (pc := 239) X (v := (0 : Int32)) dX6_use_239 (by decide) ?_
      refine v_goto (pc := 240) X 244 dX6_use_240 (by decide) ?_
      refine v_iadd (pc := 244) X dX6_use_244 ?_
      obtain ⟨b130, h129, e_h129, hf⟩ := hf
      refine v_iast (pc := 245) X t126 b130 e_h129 dX6_use_245 ?_
      refine v_aload_n (pc := 246) X 3 dX6_use_246 rfl rfl ?_
      obtain ⟨q131, e_q131, hf⟩ := hf
      refine ge_6_8 (pc := 247) X (fun w h => inM w (inG6 w h)) k25 t106 e_q131 dX6_use_247 ?_
      refine v_iload (pc := 250) X 0 dX6_use_250 rfl ?_
      refine v_iload_n (pc := 252) X 5 dX6_use_252 rfl rfl ?_
      obtain ⟨t132, hf⟩ := hf
      obtain ⟨b134, h133, e_h133, hf⟩ := hf
      refine v_iast (pc := 253) X t132 b134 e_h133 dX6_use_253 ?_
      refine v_aload_n (pc := 254) X 3 dX6_use_254 rfl rfl ?_
      obtain ⟨q135, e_q135, hf⟩ := hf
      refine ge_6_9 (pc := 255) X (fun w h => inM w (inG6 w h)) k28 t106 e_q135 dX6_use_255 ?_
      refine v_iload (pc := 258) X 0 dX6_use_258 rfl ?_
      refine v_iload_n (pc := 260) X 6 dX6_use_260 rfl rfl ?_
      obtain ⟨t136, hf⟩ := hf
      obtain ⟨b138, h137, e_h137, hf⟩ := hf
      refine v_iast (pc := 261) X t136 b138 e_h137 dX6_use_261 ?_
      refine v_iload (pc := 262) X 2 dX6_use_262 rfl ?_
      refine v_if_eq (pc := 264) X 271 dX6_use_264 (by decide) (fun c => absurd c (by decide)) (fun _ => ?_)
      refine v_iconst (pc := 267) X (v := (0 : Int32)) dX6_use_267 (by decide) ?_
      refine v_goto (pc := 268) X 272 dX6_use_268 (by decide) ?_
      exact v_iret (pc := 272) X hr hlk dX6_use_272 hf
set_option maxHeartbeats 4000000 in
set_option maxRecDepth 100000 in
theorem w_X6_loadsBy_4 {p : Program} {l : Launch} {e : Env} {s0 : State} {m : MethodId} {args : Array Value} {below : List Frame} {meth : Method} {c : Code} {D : va_G} {cA : Nat → ClassId} {L : List Nat} {sh : Sh} (X : Cx p s0 m c args cX6_loadsBy 6 (wM yX6_loadsBy cX6_loadsBy 6 (some .int)) RX6 (fun q => q ∈ L) D cA L sh) (hr : meth.sig.returnType = (some .int)) (hlk : meth.locks = false) (x0 : Nat) (x1 : Int32) (x2 : Int32) (Xc : Hp → Prop) (K : Int32 → Hp → Prop) (hx : ∀  (h1 : Hp), Xc  h1 → V p l e (headSpec (wM yX6_loadsBy cX6_loadsBy 6 (some .int)) ({ frames := 1, cells := 0, slots := 0, locals := 29 } : Room)).room s0 m args below meth c (MQ below (QI D cA L sh K) args s0 0 0 (fun q => q ∈ L)) (fun q => q ∈ L) 0 0 D cA L sh 6 h1 22 [(0, .ref x0), (1, .int x1), (2, .int x2)] []) : ∀ (n : Nat) (s : Int32) (h : Hp), lp (b_X6_loadsBy_4 sh x0 x1 x2 Xc) n s h → V p l e (headSpec (wM yX6_loadsBy cX6_loadsBy 6 (some .int)) ({ frames := 1, cells := 0, slots := 0, locals := 29 } : Room)).room s0 m args below meth c (MQ below (QI D cA L sh K) args s0 0 0 (fun q => q ∈ L)) (fun q => q ∈ L) 0 0 D cA L sh 6 h 4 [(0, .ref x0), (1, .int x1), (2, .int x2), (3, .int s)] [] := by
  have k31 := X.ht _ (inM _ q_495)
  have k7 := X.ht _ (inM _ q_485)
  intro n
  induction n with
  | zero => intro s h hf; exact hf.elim
  | succ n ih =>
    intro s h hf
    replace hf : b_X6_loadsBy_4 sh x0 x1 x2 Xc (lp (b_X6_loadsBy_4 sh x0 x1 x2 Xc) n) s h := hf
    unfold b_X6_loadsBy_4 at hf
    refine v_iload_n (pc := 4) X 3 dX6_loadsBy_4 rfl rfl ?_
    refine v_iconst (pc := 5) X (v := (4 : Int32)) dX6_loadsBy_5 (by decide) ?_
    refine v_icmp_ge (pc := 6) X 22 dX6_loadsBy_6 (by decide) (fun c => ?_) (fun c => ?_)
    · replace hf := if_t c hf
      refine v_sub [0, 1, 2] rfl ?_
      exact hx h hf
    · replace hf := if_f c hf
      refine v_aload_n (pc := 9) X 0 dX6_loadsBy_9 rfl rfl ?_
      obtain ⟨t1, hf⟩ := hf
      obtain ⟨q2, e_q2, hf⟩ := hf
      refine ge_6_10 (pc := 10) X (fun w h => inM w (inG6 w h)) k31 t1 e_q2 dX6_loadsBy_10 ?_
      refine v_iload_n (pc := 13) X 3 dX6_loadsBy_13 rfl rfl ?_
      refine v_iconst (pc := 14) X (v := (0 : Int32)) dX6_loadsBy_14 (by decide) ?_
      obtain ⟨t3, hf⟩ := hf
      obtain ⟨b5, h4, e_h4, hf⟩ := hf
      refine v_iast (pc := 15) X t3 b5 e_h4 dX6_loadsBy_15 ?_
      refine v_iinc (pc := 16) X 3 (v := s + (1 : Int32)) (lv' := [(3, .int (s + (1 : Int32))), (0, .ref x0), (1, .int x1), (2, .int x2)]) dX6_loadsBy_16 rfl rfl (Nat.le_of_ble_eq_true rfl) rfl ?_
      refine v_goto (pc := 19) X 4 dX6_loadsBy_19 (by decide) ?_
      refine v_sub [1, 2, 3, 0] rfl ?_
      exact ih (s + (1 : Int32)) h4 hf

set_option maxHeartbeats 4000000 in
set_option maxRecDepth 100000 in
theorem w_X6_loadsBy_39 {p : Program} {l : Launch} {e : Env} {s0 : State} {m : MethodId} {args : Array Value} {below : List Frame} {meth : Method} {c : Code} {D : va_G} {cA : Nat → ClassId} {L : List Nat} {sh : Sh} (X : Cx p s0 m c args cX6_loadsBy 6 (wM yX6_loadsBy cX6_loadsBy 6 (some .int)) RX6 (fun q => q ∈ L) D cA L sh) (hr : meth.sig.returnType = (some .int)) (hlk : meth.locks = false) (x0 : Nat) (x1 : Int32) (x3 : Int32) (Xc : Int32 → Hp → Prop) (K : Int32 → Hp → Prop) (hx : ∀ (y2 : Int32) (h1 : Hp), Xc y2 h1 → V p l e (headSpec (wM yX6_loadsBy cX6_loadsBy 6 (some .int)) ({ frames := 1, cells := 0, slots := 0, locals := 29 } : Room)).room s0 m args below meth c (MQ below (QI D cA L sh K) args s0 0 0 (fun q => q ∈ L)) (fun q => q ∈ L) 0 0 D cA L sh 6 h1 109 [(0, .ref x0), (1, .int x1), (2, .int y2), (3, .int x3)] []) : ∀ (n : Nat) (s : Int32 × Int32) (h : Hp), lp (b_X6_loadsBy_39 sh x0 x1 x3 Xc K) n s h → V p l e (headSpec (wM yX6_loadsBy cX6_loadsBy 6 (some .int)) ({ frames := 1, cells := 0, slots := 0, locals := 29 } : Room)).room s0 m args below meth c (MQ below (QI D cA L sh K) args s0 0 0 (fun q => q ∈ L)) (fun q => q ∈ L) 0 0 D cA L sh 6 h 39 [(0, .ref x0), (1, .int x1), (3, .int x3), (2, .int s.1), (4, .int s.2)] [] := by
  have k31 := X.ht _ (inM _ q_495)
  have k7 := X.ht _ (inM _ q_485)
  intro n
  induction n with
  | zero => intro s h hf; exact hf.elim
  | succ n ih =>
    intro s h hf
    replace hf : b_X6_loadsBy_39 sh x0 x1 x3 Xc K (lp (b_X6_loadsBy_39 sh x0 x1 x3 Xc K) n) s h := hf
    unfold b_X6_loadsBy_39 at hf
    refine v_iload (pc := 39) X 4 dX6_loadsBy_39 rfl ?_
    refine v_bipush (pc := 41) X (v := (6 : Int32)) dX6_loadsBy_41 (by decide) ?_
    refine v_icmp_ge (pc := 43) X 109 dX6_loadsBy_43 (by decide) (fun c => ?_) (fun c => ?_)
    · replace hf := if_t c hf
      refine v_sub [0, 1, 3, 2] rfl ?_
      exact hx s.1 h hf
    · replace hf := if_f c hf
      refine v_aload_n (pc := 46) X 0 dX6_loadsBy_46 rfl rfl ?_
      obtain ⟨t12, hf⟩ := hf
      obtain ⟨q13, e_q13, hf⟩ := hf
      refine ge_6_0 (pc := 47) X (fun w h => inM w (inG6 w h)) k7 t12 e_q13 dX6_loadsBy_47 ?_
      refine v_sipush (pc := 50) X (v := (599 : Int32)) dX6_loadsBy_50 (by decide) ?_
      refine v_iconst (pc := 53) X (v := (2 : Int32)) dX6_loadsBy_53 (by decide) ?_
      refine v_iload_n (pc := 54) X 2 dX6_loadsBy_54 rfl rfl ?_
      refine v_imul (pc := 55) X dX6_loadsBy_55 ?_
      refine v_iadd (pc := 56) X dX6_loadsBy_56 ?_
      refine v_iconst (pc := 57) X (v := (1 : Int32)) dX6_loadsBy_57 (by decide) ?_
      refine v_iadd (pc := 58) X dX6_loadsBy_58 ?_
      obtain ⟨t14, hf⟩ := hf
      obtain ⟨b16, v15, e_v15, hf⟩ := hf
      refine v_iald (pc := 59) X t14 b16 e_v15 dX6_loadsBy_59 ?_
      refine v_iload (pc := 60) X 4 dX6_loadsBy_60 rfl ?_
      refine v_ishr (pc := 62) X dX6_loadsBy_62 ?_
      refine v_iconst (pc := 63) X (v := (1 : Int32)) dX6_loadsBy_63 (by decide) ?_
      refine v_iand (pc := 64) X dX6_loadsBy_64 ?_
      refine v_iconst (pc := 65) X (v := (1 : Int32)) dX6_loadsBy_65 (by decide) ?_
      refine v_icmp_ne (pc := 66) X 103 dX6_loadsBy_66 (by decide) (fun c => ?_) (fun c => ?_)
      · replace hf := if_f c hf
        refine v_iinc (pc := 103) X 4 (v := s.2 + (1 : Int32)) (lv' := [(4, .int (s.2 + (1 : Int32))), (0, .ref x0), (1, .int x1), (3, .int x3), (2, .int s.1)]) dX6_loadsBy_103 rfl rfl (Nat.le_of_ble_eq_true rfl) rfl ?_
        refine v_goto (pc := 106) X 39 dX6_loadsBy_106 (by decide) ?_
        refine v_sub [1, 2, 3, 4, 0] rfl ?_
        exact ih (s.1, s.2 + (1 : Int32)) h hf
      · replace hf := if_t c hf
        refine v_aload_n (pc := 69) X 0 dX6_loadsBy_69 rfl rfl ?_
        refine v_aload_n (pc := 70) X 0 dX6_loadsBy_70 rfl rfl ?_
        obtain ⟨q17, e_q17, hf⟩ := hf
        refine ge_6_0 (pc := 71) X (fun w h => inM w (inG6 w h)) k7 t12 e_q17 dX6_loadsBy_71 ?_
        refine v_sipush (pc := 74) X (v := (599 : Int32)) dX6_loadsBy_74 (by decide) ?_
        refine v_iconst (pc := 77) X (v := (2 : Int32)) dX6_loadsBy_77 (by decide) ?_
        refine v_iload_n (pc := 78) X 2 dX6_loadsBy_78 rfl rfl ?_
        refine v_imul (pc := 79) X dX6_loadsBy_79 ?_
        refine v_iadd (pc := 80) X dX6_loadsBy_80 ?_
        obtain ⟨t18, hf⟩ := hf
        obtain ⟨b20, v19, e_v19, hf⟩ := hf
        refine v_iald (pc := 81) X t18 b20 e_v19 dX6_loadsBy_81 ?_
        refine v_iload (pc := 82) X 4 dX6_loadsBy_82 rfl ?_
        refine v_iload_n (pc := 84) X 2 dX6_loadsBy_84 rfl rfl ?_
        refine v_iload_n (pc := 85) X 1 dX6_loadsBy_85 rfl rfl ?_
        refine v_callVI (pc := 86) X (As := [.int v19, .int s.2, .int x3, .int x1]) (rest := []) (c_X6_use l D cA L sh x0 v19 s.2 x3 x1 h _ hf) (cwV 4 X.ht (gwV inM q_687 q_688 q_778 q_7 q_689) rfl rfl rfl (by decide +kernel) ⟨Nat.le_of_ble_eq_true rfl, Nat.le_of_ble_eq_true rfl⟩) rfl (by decide) t12 (ent_6 t12) rfl rfl (Nat.le_of_ble_eq_true rfl) ⟨Nat.zero_le _, Nat.zero_le _⟩ dX6_loadsBy_86 (fun r21 h22 hf => ?_)
        refine v_istore (pc := 89) X (i := 5) (lv' := [(5, .int r21), (0, .ref x0), (1, .int x1), (3, .int x3), (2, .int s.1), (4, .int s.2)]) dX6_loadsBy_89 (Nat.le_of_ble_eq_true rfl) rfl ?_
        refine v_iload (pc := 91) X 0 dX6_loadsBy_91 rfl ?_
        refine v_if_ge (pc := 93) X 98 dX6_loadsBy_93 (by decide) (fun c => ?_) (fun c => ?_)
        · replace hf := if_t c hf
          refine v_iload_n (pc := 98) X 4 dX6_loadsBy_98 rfl rfl ?_
          refine v_iload (pc := 99) X 0 dX6_loadsBy_99 rfl ?_
          refine v_iadd (pc := 101) X dX6_loadsBy_101 ?_
          refine v_istore_n (pc := 102) X (i := 2) (lv' := [(2, .int (s.1 + r21)), (5, .int r21), (0, .ref x0), (1, .int x1), (3, .int x3), (4, .int s.2)]) dX6_loadsBy_102 rfl (Nat.le_of_ble_eq_true rfl) rfl ?_
          refine v_iinc (pc := 103) X 5 (v := s.2 + (1 : Int32)) (lv' := [(4, .int (s.2 + (1 : Int32))), (2, .int (s.1 + r21)), (5, .int r21), (0, .ref x0), (1, .int x1), (3, .int x3)]) dX6_loadsBy_103 rfl rfl (Nat.le_of_ble_eq_true rfl) rfl ?_
          refine v_goto (pc := 106) X 39 dX6_loadsBy_106 (by decide) ?_
          refine v_sub [3, 4, 5, 1, 0] rfl ?_
          exact ih (s.1 + r21, s.2 + (1 : Int32)) h22 hf
        · replace hf := if_f c hf
          refine v_iconst (pc := 96) X (v := (-1 : Int32)) dX6_loadsBy_96 (by decide) ?_
          exact v_iret (pc := 97) X hr hlk dX6_loadsBy_97 hf

set_option maxHeartbeats 4000000 in
set_option maxRecDepth 100000 in
theorem w_X6_loadsBy_24 {p : Program} {l : Launch} {e : Env} {s0 : State} {m : MethodId} {args : Array Value} {below : List Frame} {meth : Method} {c : Code} {D : va_G} {cA : Nat → ClassId} {L : List Nat} {sh : Sh} (X : Cx p s0 m c args cX6_loadsBy 6 (wM yX6_loadsBy cX6_loadsBy 6 (some .int)) RX6 (fun q => q ∈ L) D cA L sh) (hr : meth.sig.returnType = (some .int)) (hlk : meth.locks = false) (x0 : Nat) (x1 : Int32) (Xc : Int32 → Hp → Prop) (K : Int32 → Hp → Prop) (hx : ∀ (y2 : Int32) (h1 : Hp), Xc y2 h1 → V p l e (headSpec (wM yX6_loadsBy cX6_loadsBy 6 (some .int)) ({ frames := 1, cells := 0, slots := 0, locals := 29 } : Room)).room s0 m args below meth c (MQ below (QI D cA L sh K) args s0 0 0 (fun q => q ∈ L)) (fun q => q ∈ L) 0 0 D cA L sh 6 h1 115 [(2, .int y2)] []) : ∀ (n : Nat) (s : Int32 × Int32) (h : Hp), lp (b_X6_loadsBy_24 sh x0 x1 Xc K) n s h → V p l e (headSpec (wM yX6_loadsBy cX6_loadsBy 6 (some .int)) ({ frames := 1, cells := 0, slots := 0, locals := 29 } : Room)).room s0 m args below meth c (MQ below (QI D cA L sh K) args s0 0 0 (fun q => q ∈ L)) (fun q => q ∈ L) 0 0 D cA L sh 6 h 24 [(0, .ref x0), (1, .int x1), (2, .int s.1), (3, .int s.2)] [] := by
  have k31 := X.ht _ (inM _ q_495)
  have k7 := X.ht _ (inM _ q_485)
  intro n
  induction n with
  | zero => intro s h hf; exact hf.elim
  | succ n ih =>
    intro s h hf
    replace hf : b_X6_loadsBy_24 sh x0 x1 Xc K (lp (b_X6_loadsBy_24 sh x0 x1 Xc K) n) s h := hf
    unfold b_X6_loadsBy_24 at hf
    refine v_iload_n (pc := 24) X 3 dX6_loadsBy_24 rfl rfl ?_
    refine v_aload_n (pc := 25) X 0 dX6_loadsBy_25 rfl rfl ?_
    obtain ⟨t7, hf⟩ := hf
    obtain ⟨q8, e_q8, hf⟩ := hf
    refine ge_6_0 (pc := 26) X (fun w h => inM w (inG6 w h)) k7 t7 e_q8 dX6_loadsBy_26 ?_
    refine v_sipush (pc := 29) X (v := (598 : Int32)) dX6_loadsBy_29 (by decide) ?_
    obtain ⟨t9, hf⟩ := hf
    obtain ⟨b11, v10, e_v10, hf⟩ := hf
    refine v_iald (pc := 32) X t9 b11 e_v10 dX6_loadsBy_32 ?_
    refine v_icmp_ge (pc := 33) X 115 dX6_loadsBy_33 (by decide) (fun c => ?_) (fun c => ?_)
    · replace hf := if_t c hf
      refine v_sub [2] rfl ?_
      exact hx s.1 h hf
    · replace hf := if_f c hf
      refine v_iconst (pc := 36) X (v := (0 : Int32)) dX6_loadsBy_36 (by decide) ?_
      refine v_istore (pc := 37) X (i := 4) (lv' := [(4, .int (0 : Int32)), (0, .ref x0), (1, .int x1), (2, .int s.1), (3, .int s.2)]) dX6_loadsBy_37 (Nat.le_of_ble_eq_true rfl) rfl ?_
      obtain ⟨n, hf⟩ := hf
      refine v_sub [1, 2, 4, 3, 0] rfl ?_
      refine w_X6_loadsBy_39 X hr hlk x0 x1 s.2 _ K (fun y23 h24 hf => ?_) n (s.1, (0 : Int32)) h hf
      refine v_iinc (pc := 109) X 3 (v := s.2 + (1 : Int32)) (lv' := [(3, .int (s.2 + (1 : Int32))), (0, .ref x0), (1, .int x1), (2, .int y23)]) dX6_loadsBy_109 rfl rfl (Nat.le_of_ble_eq_true rfl) rfl ?_
      refine v_goto (pc := 112) X 24 dX6_loadsBy_112 (by decide) ?_
      refine v_sub [1, 2, 3, 0] rfl ?_
      exact ih (y23, s.2 + (1 : Int32)) h24 hf

set_option maxHeartbeats 4000000 in
set_option maxRecDepth 100000 in
theorem c_X6_loadsBy (l : Launch) (D : va_G) (cA : Nat → ClassId) (L : List Nat) (sh : Sh) (a0 : Nat) (p1 : Int32) (h : Hp) (K : Int32 → Hp → Prop) (hf : f_X6_loadsBy sh a0 p1 h K) : Met l yX6_loadsBy (wM yX6_loadsBy cX6_loadsBy 6 (some .int)) ({ frames := 1, cells := 0, slots := 0, locals := 29 } : Room) (PreM D cA L sh h [.ref a0, .int p1]) (QI D cA L sh K) 0 0 (fun q => q ∈ L) := by
  refine met_v (cc := cX6_loadsBy) (nL := 6) (ret := (some .int)) [(0, .ref a0), (1, .int p1)] (by decide) rfl (Nat.le_of_ble_eq_true rfl) rfl ?_
  intro p e s0 m below meth c X hr hlk
  have k31 := X.ht _ (inM _ q_495)
  have k7 := X.ht _ (inM _ q_485)
  unfold f_X6_loadsBy at hf
  refine v_iconst (pc := 0) X (v := (0 : Int32)) dX6_loadsBy_0 (by decide) ?_
  refine v_istore_n (pc := 1) X (i := 2) (lv' := [(2, .int (0 : Int32)), (0, .ref a0), (1, .int p1)]) dX6_loadsBy_1 rfl (Nat.le_of_ble_eq_true rfl) rfl ?_
  refine v_iconst (pc := 2) X (v := (0 : Int32)) dX6_loadsBy_2 (by decide) ?_
  refine v_istore_n (pc := 3) X (i := 3) (lv' := [(3, .int (0 : Int32)), (2, .int (0 : Int32)), (0, .ref a0), (1, .int p1)]) dX6_loadsBy_3 rfl (Nat.le_of_ble_eq_true rfl) rfl ?_
  obtain ⟨n, hf⟩ := hf
  refine v_sub [2, 3, 1, 0] rfl ?_
  refine w_X6_loadsBy_4 X hr hlk a0 p1 (0 : Int32) _ K (fun  h6 hf => ?_) n (0 : Int32) h hf
  refine v_iconst (pc := 22) X (v := (0 : Int32)) dX6_loadsBy_22 (by decide) ?_
  refine v_istore_n (pc := 23) X (i := 3) (lv' := [(3, .int (0 : Int32)), (0, .ref a0), (1, .int p1), (2, .int (0 : Int32))]) dX6_loadsBy_23 rfl (Nat.le_of_ble_eq_true rfl) rfl ?_
  obtain ⟨n, hf⟩ := hf
  refine v_sub [1, 2, 3, 0] rfl ?_
  refine w_X6_loadsBy_24 X hr hlk a0 p1 _ K (fun y25 h26 hf => ?_) n ((0 : Int32), (0 : Int32)) h6 hf
  refine v_iload_n (pc := 115) X 0 dX6_loadsBy_115 rfl rfl ?_
  exact v_iret (pc := 116) X hr hlk dX6_loadsBy_116 hf
set_option maxHeartbeats 4000000 in
set_option maxRecDepth 100000 in
theorem w_X6_bestRoom_32 {p : Program} {l : Launch} {e : Env} {s0 : State} {m : MethodId} {args : Array Value} {below : List Frame} {meth : Method} {c : Code} {D : va_G} {cA : Nat → ClassId} {L : List Nat} {sh : Sh} (X : Cx p s0 m c args cX6_bestRoom 7 (wM yX6_bestRoom cX6_bestRoom 7 (some .int)) RX6 (fun q => q ∈ L) D cA L sh) (hr : meth.sig.returnType = (some .int)) (hlk : meth.locks = false) (x0 : Nat) (x1 : Int32) (Xc : Int32 → Int32 → Hp → Prop) (K : Int32 → Hp → Prop) (hx : ∀ (y2 : Int32) (y3 : Int32) (h1 : Hp), Xc y2 y3 h1 → V p l e (headSpec (wM yX6_bestRoom cX6_bestRoom 7 (some .int)) ({ frames := 2, cells := 0, slots := 0, locals := 54 } : Room)).room s0 m args below meth c (MQ below (QI D cA L sh K) args s0 0 0 (fun q => q ∈ L)) (fun q => q ∈ L) 0 0 D cA L sh 7 h1 99 [(1, .int x1), (2, .int y2), (3, .int y3)] []) : ∀ (n : Nat) (s : Int32 × Int32 × Int32) (h : Hp), lp (b_X6_bestRoom_32 sh x0 x1 Xc) n s h → V p l e (headSpec (wM yX6_bestRoom cX6_bestRoom 7 (some .int)) ({ frames := 2, cells := 0, slots := 0, locals := 54 } : Room)).room s0 m args below meth c (MQ below (QI D cA L sh K) args s0 0 0 (fun q => q ∈ L)) (fun q => q ∈ L) 0 0 D cA L sh 7 h 32 [(0, .ref x0), (1, .int x1), (2, .int s.1), (3, .int s.2.1), (4, .int s.2.2)] [] := by
  have k7 := X.ht _ (inM _ q_485)
  intro n
  induction n with
  | zero => intro s h hf; exact hf.elim
  | succ n ih =>
    intro s h hf
    replace hf : b_X6_bestRoom_32 sh x0 x1 Xc (lp (b_X6_bestRoom_32 sh x0 x1 Xc) n) s h := hf
    unfold b_X6_bestRoom_32 at hf
    refine v_iload (pc := 32) X 4 dX6_bestRoom_32 rfl ?_
    refine v_bipush (pc := 34) X (v := (8 : Int32)) dX6_bestRoom_34 (by decide) ?_
    refine v_icmp_gt (pc := 36) X 99 dX6_bestRoom_36 (by decide) (fun c => ?_) (fun c => ?_)
    · replace hf := if_t c hf
      refine v_sub [1, 2, 3] rfl ?_
      exact hx s.1 s.2.1 h hf
    · replace hf := if_f c hf
      refine v_aload_n (pc := 39) X 0 dX6_bestRoom_39 rfl rfl ?_
      refine v_iload (pc := 40) X 4 dX6_bestRoom_40 rfl ?_
      obtain ⟨t8, hf⟩ := hf
      refine v_callVI (pc := 42) X (As := [.int s.2.2]) (rest := []) (c_X6_loadsBy l D cA L sh x0 s.2.2 h _ hf) (cwV 1 X.ht (gwV inM q_684 q_685 q_777 q_7 q_686) rfl rfl rfl (by decide +kernel) ⟨Nat.le_of_ble_eq_true rfl, Nat.le_of_ble_eq_true rfl⟩) rfl (by decide) t8 (ent_6 t8) rfl rfl (Nat.le_of_ble_eq_true rfl) ⟨Nat.zero_le _, Nat.zero_le _⟩ dX6_bestRoom_42 (fun r9 h10 hf => ?_)
      refine v_istore (pc := 45) X (i := 5) (lv' := [(5, .int r9), (0, .ref x0), (1, .int x1), (2, .int s.1), (3, .int s.2.1), (4, .int s.2.2)]) dX6_bestRoom_45 (Nat.le_of_ble_eq_true rfl) rfl ?_
      refine v_iload (pc := 47) X 0 dX6_bestRoom_47 rfl ?_
      refine v_if_lt (pc := 49) X 66 dX6_bestRoom_49 (by decide) (fun c => ?_) (fun c => ?_)
      · replace hf := if_t c hf
        refine v_iconst (pc := 66) X (v := (0 : Int32)) dX6_bestRoom_66 (by decide) ?_
        refine v_istore (pc := 67) X (i := 6) (lv' := [(6, .int (0 : Int32)), (5, .int r9), (0, .ref x0), (1, .int x1), (2, .int s.1), (3, .int s.2.1), (4, .int s.2.2)]) dX6_bestRoom_67 (Nat.le_of_ble_eq_true rfl) rfl ?_
        refine v_iload (pc := 69) X 0 dX6_bestRoom_69 rfl ?_
        refine v_if_eq (pc := 71) X 79 dX6_bestRoom_71 (by decide) (fun _ => ?_) (fun c => absurd c (by decide))
        refine v_iload_n (pc := 79) X 4 dX6_bestRoom_79 rfl rfl ?_
        refine v_istore_n (pc := 80) X (i := 2) (lv' := [(2, .int s.1), (6, .int (0 : Int32)), (5, .int r9), (0, .ref x0), (1, .int x1), (3, .int s.2.1), (4, .int s.2.2)]) dX6_bestRoom_80 rfl (Nat.le_of_ble_eq_true rfl) rfl ?_
        refine v_iload (pc := 81) X 1 dX6_bestRoom_81 rfl ?_
        refine v_if_eq (pc := 83) X 91 dX6_bestRoom_83 (by decide) (fun _ => ?_) (fun c => absurd c (by decide))
        refine v_iload_n (pc := 91) X 5 dX6_bestRoom_91 rfl rfl ?_
        refine v_istore_n (pc := 92) X (i := 3) (lv' := [(3, .int s.2.1), (2, .int s.1), (6, .int (0 : Int32)), (5, .int r9), (0, .ref x0), (1, .int x1), (4, .int s.2.2)]) dX6_bestRoom_92 rfl (Nat.le_of_ble_eq_true rfl) rfl ?_
        refine v_iinc (pc := 93) X 6 (v := s.2.2 + (1 : Int32)) (lv' := [(4, .int (s.2.2 + (1 : Int32))), (3, .int s.2.1), (2, .int s.1), (6, .int (0 : Int32)), (5, .int r9), (0, .ref x0), (1, .int x1)]) dX6_bestRoom_93 rfl rfl (Nat.le_of_ble_eq_true rfl) rfl ?_
        refine v_goto (pc := 96) X 32 dX6_bestRoom_96 (by decide) ?_
        refine v_sub [5, 6, 2, 1, 0] rfl ?_
        exact ih (s.1, s.2.1, s.2.2 + (1 : Int32)) h10 hf
      · replace hf := if_f c hf
        refine v_iload_n (pc := 52) X 4 dX6_bestRoom_52 rfl rfl ?_
        refine v_if_lt (pc := 53) X 62 dX6_bestRoom_53 (by decide) (fun c => ?_) (fun c => ?_)
        · replace hf := if_t c hf
          refine v_iconst (pc := 62) X (v := (1 : Int32)) dX6_bestRoom_62 (by decide) ?_
          refine v_goto (pc := 63) X 67 dX6_bestRoom_63 (by decide) ?_
          refine v_istore (pc := 67) X (i := 6) (lv' := [(6, .int (1 : Int32)), (5, .int r9), (0, .ref x0), (1, .int x1), (2, .int s.1), (3, .int s.2.1), (4, .int s.2.2)]) dX6_bestRoom_67 (Nat.le_of_ble_eq_true rfl) rfl ?_
          refine v_iload (pc := 69) X 0 dX6_bestRoom_69 rfl ?_
          refine v_if_eq (pc := 71) X 79 dX6_bestRoom_71 (by decide) (fun c => absurd c (by decide)) (fun _ => ?_)
          refine v_iload (pc := 74) X 6 dX6_bestRoom_74 rfl ?_
          refine v_goto (pc := 76) X 80 dX6_bestRoom_76 (by decide) ?_
          refine v_istore_n (pc := 80) X (i := 2) (lv' := [(2, .int s.2.2), (6, .int (1 : Int32)), (5, .int r9), (0, .ref x0), (1, .int x1), (3, .int s.2.1), (4, .int s.2.2)]) dX6_bestRoom_80 rfl (Nat.le_of_ble_eq_true rfl) rfl ?_
          refine v_iload (pc := 81) X 1 dX6_bestRoom_81 rfl ?_
          refine v_if_eq (pc := 83) X 91 dX6_bestRoom_83 (by decide) (fun c => absurd c (by decide)) (fun _ => ?_)
          refine v_iload (pc := 86) X 2 dX6_bestRoom_86 rfl ?_
          refine v_goto (pc := 88) X 92 dX6_bestRoom_88 (by decide) ?_
          refine v_istore_n (pc := 92) X (i := 3) (lv' := [(3, .int r9), (2, .int s.2.2), (6, .int (1 : Int32)), (5, .int r9), (0, .ref x0), (1, .int x1), (4, .int s.2.2)]) dX6_bestRoom_92 rfl (Nat.le_of_ble_eq_true rfl) rfl ?_
          refine v_iinc (pc := 93) X 6 (v := s.2.2 + (1 : Int32)) (lv' := [(4, .int (s.2.2 + (1 : Int32))), (3, .int r9), (2, .int s.2.2), (6, .int (1 : Int32)), (5, .int r9), (0, .ref x0), (1, .int x1)]) dX6_bestRoom_93 rfl rfl (Nat.le_of_ble_eq_true rfl) rfl ?_
          refine v_goto (pc := 96) X 32 dX6_bestRoom_96 (by decide) ?_
          refine v_sub [5, 6, 2, 1, 0] rfl ?_
          exact ih (s.2.2, r9, s.2.2 + (1 : Int32)) h10 hf
        · replace hf := if_f c hf
          refine v_iload (pc := 56) X 0 dX6_bestRoom_56 rfl ?_
          refine v_iload_n (pc := 58) X 4 dX6_bestRoom_58 rfl rfl ?_
          refine v_icmp_ge (pc := 59) X 66 dX6_bestRoom_59 (by decide) (fun c => ?_) (fun c => ?_)
          · replace hf := if_t c hf
            refine v_iconst (pc := 66) X (v := (0 : Int32)) dX6_bestRoom_66 (by decide) ?_
            refine v_istore (pc := 67) X (i := 6) (lv' := [(6, .int (0 : Int32)), (5, .int r9), (0, .ref x0), (1, .int x1), (2, .int s.1), (3, .int s.2.1), (4, .int s.2.2)]) dX6_bestRoom_67 (Nat.le_of_ble_eq_true rfl) rfl ?_
            refine v_iload (pc := 69) X 0 dX6_bestRoom_69 rfl ?_
            refine v_if_eq (pc := 71) X 79 dX6_bestRoom_71 (by decide) (fun _ => ?_) (fun c => absurd c (by decide))
            refine v_iload_n (pc := 79) X 4 dX6_bestRoom_79 rfl rfl ?_
            refine v_istore_n (pc := 80) X (i := 2) (lv' := [(2, .int s.1), (6, .int (0 : Int32)), (5, .int r9), (0, .ref x0), (1, .int x1), (3, .int s.2.1), (4, .int s.2.2)]) dX6_bestRoom_80 rfl (Nat.le_of_ble_eq_true rfl) rfl ?_
            refine v_iload (pc := 81) X 1 dX6_bestRoom_81 rfl ?_
            refine v_if_eq (pc := 83) X 91 dX6_bestRoom_83 (by decide) (fun _ => ?_) (fun c => absurd c (by decide))
            refine v_iload_n (pc := 91) X 5 dX6_bestRoom_91 rfl rfl ?_
            refine v_istore_n (pc := 92) X (i := 3) (lv' := [(3, .int s.2.1), (2, .int s.1), (6, .int (0 : Int32)), (5, .int r9), (0, .ref x0), (1, .int x1), (4, .int s.2.2)]) dX6_bestRoom_92 rfl (Nat.le_of_ble_eq_true rfl) rfl ?_
            refine v_iinc (pc := 93) X 6 (v := s.2.2 + (1 : Int32)) (lv' := [(4, .int (s.2.2 + (1 : Int32))), (3, .int s.2.1), (2, .int s.1), (6, .int (0 : Int32)), (5, .int r9), (0, .ref x0), (1, .int x1)]) dX6_bestRoom_93 rfl rfl (Nat.le_of_ble_eq_true rfl) rfl ?_
            refine v_goto (pc := 96) X 32 dX6_bestRoom_96 (by decide) ?_
            refine v_sub [5, 6, 2, 1, 0] rfl ?_
            exact ih (s.1, s.2.1, s.2.2 + (1 : Int32)) h10 hf
          · replace hf := if_f c hf
            refine v_iconst (pc := 62) X (v := (1 : Int32)) dX6_bestRoom_62 (by decide) ?_
            refine v_goto (pc := 63) X 67 dX6_bestRoom_63 (by decide) ?_
            refine v_istore (pc := 67) X (i := 6) (lv' := [(6, .int (1 : Int32)), (5, .int r9), (0, .ref x0), (1, .int x1), (2, .int s.1), (3, .int s.2.1), (4, .int s.2.2)]) dX6_bestRoom_67 (Nat.le_of_ble_eq_true rfl) rfl ?_
            refine v_iload (pc := 69) X 0 dX6_bestRoom_69 rfl ?_
            refine v_if_eq (pc := 71) X 79 dX6_bestRoom_71 (by decide) (fun c => absurd c (by decide)) (fun _ => ?_)
            refine v_iload (pc := 74) X 6 dX6_bestRoom_74 rfl ?_
            refine v_goto (pc := 76) X 80 dX6_bestRoom_76 (by decide) ?_
            refine v_istore_n (pc := 80) X (i := 2) (lv' := [(2, .int s.2.2), (6, .int (1 : Int32)), (5, .int r9), (0, .ref x0), (1, .int x1), (3, .int s.2.1), (4, .int s.2.2)]) dX6_bestRoom_80 rfl (Nat.le_of_ble_eq_true rfl) rfl ?_
            refine v_iload (pc := 81) X 1 dX6_bestRoom_81 rfl ?_
            refine v_if_eq (pc := 83) X 91 dX6_bestRoom_83 (by decide) (fun c => absurd c (by decide)) (fun _ => ?_)
            refine v_iload (pc := 86) X 2 dX6_bestRoom_86 rfl ?_
            refine v_goto (pc := 88) X 92 dX6_bestRoom_88 (by decide) ?_
            refine v_istore_n (pc := 92) X (i := 3) (lv' := [(3, .int r9), (2, .int s.2.2), (6, .int (1 : Int32)), (5, .int r9), (0, .ref x0), (1, .int x1), (4, .int s.2.2)]) dX6_bestRoom_92 rfl (Nat.le_of_ble_eq_true rfl) rfl ?_
            refine v_iinc (pc := 93) X 6 (v := s.2.2 + (1 : Int32)) (lv' := [(4, .int (s.2.2 + (1 : Int32))), (3, .int r9), (2, .int s.2.2), (6, .int (1 : Int32)), (5, .int r9), (0, .ref x0), (1, .int x1)]) dX6_bestRoom_93 rfl rfl (Nat.le_of_ble_eq_true rfl) rfl ?_
            refine v_goto (pc := 96) X 32 dX6_bestRoom_96 (by decide) ?_
            refine v_sub [5, 6, 2, 1, 0] rfl ?_
            exact ih (s.2.2, r9, s.2.2 + (1 : Int32)) h10 hf

set_option maxHeartbeats 4000000 in
set_option maxRecDepth 100000 in
theorem c_X6_bestRoom (l : Launch) (D : va_G) (cA : Nat → ClassId) (L : List Nat) (sh : Sh) (a0 : Nat) (p1 : Int32) (h : Hp) (K : Int32 → Hp → Prop) (hf : f_X6_bestRoom sh a0 p1 h K) : Met l yX6_bestRoom (wM yX6_bestRoom cX6_bestRoom 7 (some .int)) ({ frames := 2, cells := 0, slots := 0, locals := 54 } : Room) (PreM D cA L sh h [.ref a0, .int p1]) (QI D cA L sh K) 0 0 (fun q => q ∈ L) := by
  refine met_v (cc := cX6_bestRoom) (nL := 7) (ret := (some .int)) [(0, .ref a0), (1, .int p1)] (by decide) rfl (Nat.le_of_ble_eq_true rfl) rfl ?_
  intro p e s0 m below meth c X hr hlk
  have k7 := X.ht _ (inM _ q_485)
  unfold f_X6_bestRoom at hf
  refine v_iload_n (pc := 0) X 1 dX6_bestRoom_0 rfl rfl ?_
  refine v_iconst (pc := 1) X (v := (0 : Int32)) dX6_bestRoom_1 (by decide) ?_
  refine v_iconst (pc := 2) X (v := (1 : Int32)) dX6_bestRoom_2 (by decide) ?_
  refine v_callSI (pc := 3) X (As := [.int p1, .int (0 : Int32), .int (1 : Int32)]) (rest := []) (c_X6_in l D cA L sh p1 (0 : Int32) (1 : Int32) h _ hf) (va_cwS 3 X.ht (gwS inM q_533 q_534 q_7 q_535) rfl rfl rfl (by decide +kernel) ⟨Nat.le_of_ble_eq_true rfl, Nat.le_of_ble_eq_true rfl⟩) rfl rfl (Nat.le_of_ble_eq_true rfl) ⟨Nat.zero_le _, Nat.zero_le _⟩ dX6_bestRoom_3 (fun r1 h2 hf => ?_)
  refine v_if_ne (pc := 6) X 11 dX6_bestRoom_6 (by decide) (fun c => ?_) (fun c => ?_)
  · replace hf := if_f c hf
    refine v_aload_n (pc := 11) X 0 dX6_bestRoom_11 rfl rfl ?_
    obtain ⟨t3, hf⟩ := hf
    obtain ⟨q4, e_q4, hf⟩ := hf
    refine ge_6_0 (pc := 12) X (fun w h => inM w (inG6 w h)) k7 t3 e_q4 dX6_bestRoom_12 ?_
    refine v_sipush (pc := 15) X (v := (598 : Int32)) dX6_bestRoom_15 (by decide) ?_
    obtain ⟨t5, hf⟩ := hf
    obtain ⟨b7, v6, e_v6, hf⟩ := hf
    refine v_iald (pc := 18) X t5 b7 e_v6 dX6_bestRoom_18 ?_
    refine v_if_ne (pc := 19) X 25 dX6_bestRoom_19 (by decide) (fun c => ?_) (fun c => ?_)
    · replace hf := if_f c hf
      refine v_iconst (pc := 25) X (v := (0 : Int32)) dX6_bestRoom_25 (by decide) ?_
      refine v_istore_n (pc := 26) X (i := 2) (lv' := [(2, .int (0 : Int32)), (0, .ref a0), (1, .int p1)]) dX6_bestRoom_26 rfl (Nat.le_of_ble_eq_true rfl) rfl ?_
      refine v_iconst (pc := 27) X (v := (-1 : Int32)) dX6_bestRoom_27 (by decide) ?_
      refine v_istore_n (pc := 28) X (i := 3) (lv' := [(3, .int (-1 : Int32)), (2, .int (0 : Int32)), (0, .ref a0), (1, .int p1)]) dX6_bestRoom_28 rfl (Nat.le_of_ble_eq_true rfl) rfl ?_
      refine v_iconst (pc := 29) X (v := (1 : Int32)) dX6_bestRoom_29 (by decide) ?_
      refine v_istore (pc := 30) X (i := 4) (lv' := [(4, .int (1 : Int32)), (3, .int (-1 : Int32)), (2, .int (0 : Int32)), (0, .ref a0), (1, .int p1)]) dX6_bestRoom_30 (Nat.le_of_ble_eq_true rfl) rfl ?_
      obtain ⟨n, hf⟩ := hf
      refine v_sub [3, 4, 2, 1, 0] rfl ?_
      refine w_X6_bestRoom_32 X hr hlk a0 p1 _ K (fun y11 y12 h13 hf => ?_) n ((0 : Int32), (-1 : Int32), (1 : Int32)) h2 hf
      refine v_iload_n (pc := 99) X 0 dX6_bestRoom_99 rfl rfl ?_
      refine v_if_ne (pc := 100) X 107 dX6_bestRoom_100 (by decide) (fun c => ?_) (fun c => ?_)
      · replace hf := if_f c hf
        refine v_iload_n (pc := 107) X 2 dX6_bestRoom_107 rfl rfl ?_
        exact v_iret (pc := 108) X hr hlk dX6_bestRoom_108 hf
      · replace hf := if_t c hf
        refine v_iload_n (pc := 103) X 1 dX6_bestRoom_103 rfl rfl ?_
        refine v_goto (pc := 104) X 108 dX6_bestRoom_104 (by decide) ?_
        exact v_iret (pc := 108) X hr hlk dX6_bestRoom_108 hf
    · replace hf := if_t c hf
      refine v_bipush (pc := 22) X (v := (-4 : Int32)) dX6_bestRoom_22 (by decide) ?_
      exact v_iret (pc := 24) X hr hlk dX6_bestRoom_24 hf
  · replace hf := if_t c hf
    refine v_iconst (pc := 9) X (v := (-1 : Int32)) dX6_bestRoom_9 (by decide) ?_
    exact v_iret (pc := 10) X hr hlk dX6_bestRoom_10 hf
set_option maxHeartbeats 4000000 in
set_option maxRecDepth 100000 in
theorem w_X6_canChange_4 {p : Program} {l : Launch} {e : Env} {s0 : State} {m : MethodId} {args : Array Value} {below : List Frame} {meth : Method} {c : Code} {D : va_G} {cA : Nat → ClassId} {L : List Nat} {sh : Sh} (X : Cx p s0 m c args cX6_canChange 3 (wM yX6_canChange cX6_canChange 3 (some .int)) RX6 (fun q => q ∈ L) D cA L sh) (hr : meth.sig.returnType = (some .int)) (hlk : meth.locks = false) (x0 : Nat) (Xc : Int32 → Hp → Prop) (K : Int32 → Hp → Prop) (hx : ∀ (y1 : Int32) (h1 : Hp), Xc y1 h1 → V p l e (headSpec (wM yX6_canChange cX6_canChange 3 (some .int)) ({ frames := 2, cells := 0, slots := 0, locals := 45 } : Room)).room s0 m args below meth c (MQ below (QI D cA L sh K) args s0 0 0 (fun q => q ∈ L)) (fun q => q ∈ L) 0 0 D cA L sh 3 h1 36 [(1, .int y1)] []) : ∀ (n : Nat) (s : Int32 × Int32) (h : Hp), lp (b_X6_canChange_4 sh x0 Xc) n s h → V p l e (headSpec (wM yX6_canChange cX6_canChange 3 (some .int)) ({ frames := 2, cells := 0, slots := 0, locals := 45 } : Room)).room s0 m args below meth c (MQ below (QI D cA L sh K) args s0 0 0 (fun q => q ∈ L)) (fun q => q ∈ L) 0 0 D cA L sh 3 h 4 [(0, .ref x0), (1, .int s.1), (2, .int s.2)] [] := by
  intro n
  induction n with
  | zero => intro s h hf; exact hf.elim
  | succ n ih =>
    intro s h hf
    replace hf : b_X6_canChange_4 sh x0 Xc (lp (b_X6_canChange_4 sh x0 Xc) n) s h := hf
    unfold b_X6_canChange_4 at hf
    refine v_iload_n (pc := 4) X 2 dX6_canChange_4 rfl rfl ?_
    refine v_bipush (pc := 5) X (v := (6 : Int32)) dX6_canChange_5 (by decide) ?_
    refine v_icmp_ge (pc := 7) X 36 dX6_canChange_7 (by decide) (fun c => ?_) (fun c => ?_)
    · replace hf := if_t c hf
      refine v_sub [1] rfl ?_
      exact hx s.1 h hf
    · replace hf := if_f c hf
      refine v_iload_n (pc := 10) X 1 dX6_canChange_10 rfl rfl ?_
      refine v_aload_n (pc := 11) X 0 dX6_canChange_11 rfl rfl ?_
      refine v_iload_n (pc := 12) X 2 dX6_canChange_12 rfl rfl ?_
      obtain ⟨t1, hf⟩ := hf
      refine v_callVI (pc := 13) X (As := [.int s.2]) (rest := [.int s.1]) (c_X6_inWay l D cA L sh x0 s.2 h _ hf) (cwV 1 X.ht (gwV inM q_536 q_537 q_749 q_7 q_538) rfl rfl rfl (by decide +kernel) ⟨Nat.le_of_ble_eq_true rfl, Nat.le_of_ble_eq_true rfl⟩) rfl (by decide) t1 (ent_6 t1) rfl rfl (Nat.le_of_ble_eq_true rfl) ⟨Nat.zero_le _, Nat.zero_le _⟩ dX6_canChange_13 (fun r2 h3 hf => ?_)
      refine v_bipush (pc := 16) X (v := (-4 : Int32)) dX6_canChange_16 (by decide) ?_
      refine v_icmp_ne (pc := 18) X 27 dX6_canChange_18 (by decide) (fun c => ?_) (fun c => ?_)
      · replace hf := if_f c hf
        refine v_iconst (pc := 27) X (v := (0 : Int32)) dX6_canChange_27 (by decide) ?_
        refine v_ior (pc := 28) X dX6_canChange_28 ?_
        refine v_istore_n (pc := 29) X (i := 1) (lv' := [(1, .int (s.1 ||| (0 : Int32))), (0, .ref x0), (2, .int s.2)]) dX6_canChange_29 rfl (Nat.le_of_ble_eq_true rfl) rfl ?_
        refine v_iinc (pc := 30) X 2 (v := s.2 + (1 : Int32)) (lv' := [(2, .int (s.2 + (1 : Int32))), (1, .int (s.1 ||| (0 : Int32))), (0, .ref x0)]) dX6_canChange_30 rfl rfl (Nat.le_of_ble_eq_true rfl) rfl ?_
        refine v_goto (pc := 33) X 4 dX6_canChange_33 (by decide) ?_
        refine v_sub [2, 1, 0] rfl ?_
        exact ih (s.1 ||| (0 : Int32), s.2 + (1 : Int32)) h3 hf
      · replace hf := if_t c hf
        refine v_iconst (pc := 21) X (v := (1 : Int32)) dX6_canChange_21 (by decide) ?_
        refine v_iload_n (pc := 22) X 2 dX6_canChange_22 rfl rfl ?_
        refine v_ishl (pc := 23) X dX6_canChange_23 ?_
        refine v_goto (pc := 24) X 28 dX6_canChange_24 (by decide) ?_
        refine v_ior (pc := 28) X dX6_canChange_28 ?_
        refine v_istore_n (pc := 29) X (i := 1) (lv' := [(1, .int (s.1 ||| ((1 : Int32) <<< (s.2 &&& 31)))), (0, .ref x0), (2, .int s.2)]) dX6_canChange_29 rfl (Nat.le_of_ble_eq_true rfl) rfl ?_
        refine v_iinc (pc := 30) X 2 (v := s.2 + (1 : Int32)) (lv' := [(2, .int (s.2 + (1 : Int32))), (1, .int (s.1 ||| ((1 : Int32) <<< (s.2 &&& 31)))), (0, .ref x0)]) dX6_canChange_30 rfl rfl (Nat.le_of_ble_eq_true rfl) rfl ?_
        refine v_goto (pc := 33) X 4 dX6_canChange_33 (by decide) ?_
        refine v_sub [2, 1, 0] rfl ?_
        exact ih (s.1 ||| ((1 : Int32) <<< (s.2 &&& 31)), s.2 + (1 : Int32)) h3 hf

set_option maxHeartbeats 4000000 in
set_option maxRecDepth 100000 in
theorem c_X6_canChange (l : Launch) (D : va_G) (cA : Nat → ClassId) (L : List Nat) (sh : Sh) (a0 : Nat) (h : Hp) (K : Int32 → Hp → Prop) (hf : f_X6_canChange sh a0 h K) : Met l yX6_canChange (wM yX6_canChange cX6_canChange 3 (some .int)) ({ frames := 2, cells := 0, slots := 0, locals := 45 } : Room) (PreM D cA L sh h [.ref a0]) (QI D cA L sh K) 0 0 (fun q => q ∈ L) := by
  refine met_v (cc := cX6_canChange) (nL := 3) (ret := (some .int)) [(0, .ref a0)] (by decide) rfl (Nat.le_of_ble_eq_true rfl) rfl ?_
  intro p e s0 m below meth c X hr hlk
  unfold f_X6_canChange at hf
  refine v_iconst (pc := 0) X (v := (0 : Int32)) dX6_canChange_0 (by decide) ?_
  refine v_istore_n (pc := 1) X (i := 1) (lv' := [(1, .int (0 : Int32)), (0, .ref a0)]) dX6_canChange_1 rfl (Nat.le_of_ble_eq_true rfl) rfl ?_
  refine v_iconst (pc := 2) X (v := (0 : Int32)) dX6_canChange_2 (by decide) ?_
  refine v_istore_n (pc := 3) X (i := 2) (lv' := [(2, .int (0 : Int32)), (1, .int (0 : Int32)), (0, .ref a0)]) dX6_canChange_3 rfl (Nat.le_of_ble_eq_true rfl) rfl ?_
  obtain ⟨n, hf⟩ := hf
  refine v_sub [2, 1, 0] rfl ?_
  refine w_X6_canChange_4 X hr hlk a0 _ K (fun y4 h5 hf => ?_) n ((0 : Int32), (0 : Int32)) h hf
  refine v_iload_n (pc := 36) X 0 dX6_canChange_36 rfl rfl ?_
  exact v_iret (pc := 37) X hr hlk dX6_canChange_37 hf
set_option maxHeartbeats 4000000 in
set_option maxRecDepth 100000 in
theorem c_X6_clearText (l : Launch) (D : va_G) (cA : Nat → ClassId) (L : List Nat) (sh : Sh) (a0 : Nat) (h : Hp) (K : Int32 → Hp → Prop) (hf : f_X6_clearText sh a0 h K) : Met l yX6_clearText (wM yX6_clearText cX6_clearText 2 (some .int)) ({ frames := 0, cells := 0, slots := 0, locals := 0 } : Room) (PreM D cA L sh h [.ref a0]) (QI D cA L sh K) 0 0 (fun q => q ∈ L) := by
  refine met_v (cc := cX6_clearText) (nL := 2) (ret := (some .int)) [(0, .ref a0)] (by decide) rfl (Nat.le_of_ble_eq_true rfl) rfl ?_
  intro p e s0 m below meth c X hr hlk
  have k145 := X.ht _ (inM _ q_492)
  unfold f_X6_clearText at hf
  refine v_aload_n (pc := 0) X 0 dX6_clearText_0 rfl rfl ?_
  obtain ⟨t1, hf⟩ := hf
  obtain ⟨v2, e_v2, hf⟩ := hf
  refine ge_6_7 (pc := 1) X (fun w h => inM w (inG6 w h)) k145 t1 e_v2 dX6_clearText_1 ?_
  refine v_istore_n (pc := 4) X (i := 1) (lv' := [(1, .int v2), (0, .ref a0)]) dX6_clearText_4 rfl (Nat.le_of_ble_eq_true rfl) rfl ?_
  refine v_aload_n (pc := 5) X 1 dX6_clearText_5 rfl rfl ?_
  refine v_iconst (pc := 6) X (v := (0 : Int32)) dX6_clearText_6 (by decide) ?_
  obtain ⟨h3, e_h3, hf⟩ := hf
  refine pu_6_7 (pc := 7) X (fun w h => inM w (inG6 w h)) k145 t1 e_h3 dX6_clearText_7 ?_
  refine v_iload_n (pc := 10) X 0 dX6_clearText_10 rfl rfl ?_
  exact v_iret (pc := 11) X hr hlk dX6_clearText_11 hf

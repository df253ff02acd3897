set_option maxHeartbeats 4000000 in
set_option maxRecDepth 100000 in
theorem c_X6_sessionOf (l : Launch) (D : va_G) (cA : Nat → ClassId) (L : List Nat) (sh : Sh) (a0 : Nat) (p1 : Int32) (p2 : Int32) (h : Hp) (K : Int32 → Hp → Prop) (hf : f_X6_sessionOf sh a0 p1 p2 h K) : Met l yX6_sessionOf (wM yX6_sessionOf cX6_sessionOf 3 (some .int)) ({ frames := 3, cells := 0, slots := 0, locals := 66 } : Room) (PreM D cA L sh h [.ref a0, .int p1, .int p2]) (QI D cA L sh K) 0 0 (fun q => q ∈ L) := by
  refine met_v (cc := cX6_sessionOf) (nL := 3) (ret := (some .int)) [(0, .ref a0), (1, .int p1), (2, .int p2)] (by decide) rfl (Nat.le_of_ble_eq_true rfl) rfl ?_
  intro p e s0 m below meth c X hr hlk
  have k7 := X.ht _ (inM _ q_485)
  unfold f_X6_sessionOf at hf
  refine v_iload_n (pc := 0) X 1 dX6_sessionOf_0 rfl rfl ?_
  refine v_callSI (pc := 1) X (As := [.int p1]) (rest := []) (c_X6_isSession l D cA L sh p1 h _ hf) (va_cwS 1 X.ht (gwS inM q_573 q_574 q_7 q_575) rfl rfl rfl (by decide +kernel) ⟨Nat.le_of_ble_eq_true rfl, Nat.le_of_ble_eq_true rfl⟩) rfl rfl (Nat.le_of_ble_eq_true rfl) ⟨Nat.zero_le _, Nat.zero_le _⟩ dX6_sessionOf_1 (fun r1 h2 hf => ?_)
  refine v_if_ne (pc := 4) X 9 dX6_sessionOf_4 (by decide) (fun c => ?_) (fun c => ?_)
  · replace hf := if_f c hf
    refine v_iload_n (pc := 9) X 2 dX6_sessionOf_9 rfl rfl ?_
    by_cases c0 : p2 = (0 : Int32)
    · replace hf := if_t c0 hf
      refine v_tableIn (pc := 10) X (off := 54) 64 dX6_sessionOf_10 (by rw [c0]; decide) (by rw [c0]; decide) (by rw [c0]; decide) (by decide) ?_
      refine v_aload_n (pc := 64) X 0 dX6_sessionOf_64 rfl rfl ?_
      obtain ⟨t3, hf⟩ := hf
      obtain ⟨q4, e_q4, hf⟩ := hf
      refine ge_6_0 (pc := 65) X (fun w h => inM w (inG6 w h)) k7 t3 e_q4 dX6_sessionOf_65 ?_
      refine v_iload_n (pc := 68) X 1 dX6_sessionOf_68 rfl rfl ?_
      refine v_iconst (pc := 69) X (v := (0 : Int32)) dX6_sessionOf_69 (by decide) ?_
      refine v_callSI (pc := 70) X (As := [.int p1, .int (0 : Int32)]) (rest := [.ref q4]) (c_X6_of l D cA L sh p1 (0 : Int32) h2 _ hf) (va_cwS 2 X.ht (gwS inM q_551 q_552 q_7 q_553) rfl rfl rfl (by decide +kernel) ⟨Nat.le_of_ble_eq_true rfl, Nat.le_of_ble_eq_true rfl⟩) rfl rfl (Nat.le_of_ble_eq_true rfl) ⟨Nat.zero_le _, Nat.zero_le _⟩ dX6_sessionOf_70 (fun r5 h6 hf => ?_)
      obtain ⟨t7, hf⟩ := hf
      obtain ⟨b9, v8, e_v8, hf⟩ := hf
      refine v_iald (pc := 73) X t7 b9 e_v8 dX6_sessionOf_73 ?_
      exact v_iret (pc := 74) X hr hlk dX6_sessionOf_74 hf
    replace hf := if_f c0 hf
    by_cases c1 : p2 = (1 : Int32)
    · replace hf := if_t c1 hf
      refine v_tableIn (pc := 10) X (off := 65) 75 dX6_sessionOf_10 (by rw [c1]; decide) (by rw [c1]; decide) (by rw [c1]; decide) (by decide) ?_
      refine v_aload_n (pc := 75) X 0 dX6_sessionOf_75 rfl rfl ?_
      obtain ⟨t10, hf⟩ := hf
      refine v_callVI (pc := 76) X (As := []) (rest := []) (c_X6_onWay l D cA L sh a0 h2 _ hf) (cwV 0 X.ht (gwV inM q_641 q_642 q_772 q_7 q_643) rfl rfl rfl (by decide +kernel) ⟨Nat.le_of_ble_eq_true rfl, Nat.le_of_ble_eq_true rfl⟩) rfl (by decide) t10 (ent_6 t10) rfl rfl (Nat.le_of_ble_eq_true rfl) ⟨Nat.zero_le _, Nat.zero_le _⟩ dX6_sessionOf_76 (fun r11 h12 hf => ?_)
      exact v_iret (pc := 79) X hr hlk dX6_sessionOf_79 hf
    replace hf := if_f c1 hf
    by_cases c2 : p2 = (2 : Int32)
    · replace hf := if_t c2 hf
      refine v_tableIn (pc := 10) X (off := 70) 80 dX6_sessionOf_10 (by rw [c2]; decide) (by rw [c2]; decide) (by rw [c2]; decide) (by decide) ?_
      refine v_aload_n (pc := 80) X 0 dX6_sessionOf_80 rfl rfl ?_
      obtain ⟨t13, hf⟩ := hf
      obtain ⟨q14, e_q14, hf⟩ := hf
      refine ge_6_0 (pc := 81) X (fun w h => inM w (inG6 w h)) k7 t13 e_q14 dX6_sessionOf_81 ?_
      refine v_iload_n (pc := 84) X 1 dX6_sessionOf_84 rfl rfl ?_
      refine v_bipush (pc := 85) X (v := (6 : Int32)) dX6_sessionOf_85 (by decide) ?_
      refine v_callSI (pc := 87) X (As := [.int p1, .int (6 : Int32)]) (rest := [.ref q14]) (c_X6_of l D cA L sh p1 (6 : Int32) h2 _ hf) (va_cwS 2 X.ht (gwS inM q_551 q_552 q_7 q_553) rfl rfl rfl (by decide +kernel) ⟨Nat.le_of_ble_eq_true rfl, Nat.le_of_ble_eq_true rfl⟩) rfl rfl (Nat.le_of_ble_eq_true rfl) ⟨Nat.zero_le _, Nat.zero_le _⟩ dX6_sessionOf_87 (fun r15 h16 hf => ?_)
      obtain ⟨t17, hf⟩ := hf
      obtain ⟨b19, v18, e_v18, hf⟩ := hf
      refine v_iald (pc := 90) X t17 b19 e_v18 dX6_sessionOf_90 ?_
      exact v_iret (pc := 91) X hr hlk dX6_sessionOf_91 hf
    replace hf := if_f c2 hf
    by_cases c3 : p2 = (3 : Int32)
    · replace hf := if_t c3 hf
      refine v_tableIn (pc := 10) X (off := 82) 92 dX6_sessionOf_10 (by rw [c3]; decide) (by rw [c3]; decide) (by rw [c3]; decide) (by decide) ?_
      refine v_aload_n (pc := 92) X 0 dX6_sessionOf_92 rfl rfl ?_
      refine v_iload_n (pc := 93) X 1 dX6_sessionOf_93 rfl rfl ?_
      obtain ⟨t20, hf⟩ := hf
      refine v_callVI (pc := 94) X (As := [.int p1]) (rest := []) (c_X6_stale l D cA L sh a0 p1 h2 _ hf) (cwV 1 X.ht (gwV inM q_644 q_645 q_773 q_7 q_646) rfl rfl rfl (by decide +kernel) ⟨Nat.le_of_ble_eq_true rfl, Nat.le_of_ble_eq_true rfl⟩) rfl (by decide) t20 (ent_6 t20) rfl rfl (Nat.le_of_ble_eq_true rfl) ⟨Nat.zero_le _, Nat.zero_le _⟩ dX6_sessionOf_94 (fun r21 h22 hf => ?_)
      exact v_iret (pc := 97) X hr hlk dX6_sessionOf_97 hf
    replace hf := if_f c3 hf
    by_cases c4 : p2 = (4 : Int32)
    · replace hf := if_t c4 hf
      refine v_tableIn (pc := 10) X (off := 88) 98 dX6_sessionOf_10 (by rw [c4]; decide) (by rw [c4]; decide) (by rw [c4]; decide) (by decide) ?_
      refine v_aload_n (pc := 98) X 0 dX6_sessionOf_98 rfl rfl ?_
      refine v_iload_n (pc := 99) X 1 dX6_sessionOf_99 rfl rfl ?_
      obtain ⟨t23, hf⟩ := hf
      refine v_callVI (pc := 100) X (As := [.int p1]) (rest := []) (c_X6_opensOf l D cA L sh a0 p1 h2 _ hf) (cwV 1 X.ht (gwV inM q_582 q_583 q_759 q_7 q_584) rfl rfl rfl (by decide +kernel) ⟨Nat.le_of_ble_eq_true rfl, Nat.le_of_ble_eq_true rfl⟩) rfl (by decide) t23 (ent_6 t23) rfl rfl (Nat.le_of_ble_eq_true rfl) ⟨Nat.zero_le _, Nat.zero_le _⟩ dX6_sessionOf_100 (fun r24 h25 hf => ?_)
      exact v_iret (pc := 103) X hr hlk dX6_sessionOf_103 hf
    replace hf := if_f c4 hf
    by_cases c5 : p2 = (5 : Int32)
    · replace hf := if_t c5 hf
      refine v_tableIn (pc := 10) X (off := 94) 104 dX6_sessionOf_10 (by rw [c5]; decide) (by rw [c5]; decide) (by rw [c5]; decide) (by decide) ?_
      refine v_aload_n (pc := 104) X 0 dX6_sessionOf_104 rfl rfl ?_
      obtain ⟨t26, hf⟩ := hf
      obtain ⟨q27, e_q27, hf⟩ := hf
      refine ge_6_0 (pc := 105) X (fun w h => inM w (inG6 w h)) k7 t26 e_q27 dX6_sessionOf_105 ?_
      refine v_iload_n (pc := 108) X 1 dX6_sessionOf_108 rfl rfl ?_
      refine v_iconst (pc := 109) X (v := (1 : Int32)) dX6_sessionOf_109 (by decide) ?_
      refine v_iload_n (pc := 110) X 2 dX6_sessionOf_110 rfl rfl ?_
      refine v_iadd (pc := 111) X dX6_sessionOf_111 ?_
      refine v_iconst (pc := 112) X (v := (5 : Int32)) dX6_sessionOf_112 (by decide) ?_
      refine v_isub (pc := 113) X dX6_sessionOf_113 ?_
      refine v_callSI (pc := 114) X (As := [.int p1, .int (((1 : Int32) + p2) - (5 : Int32))]) (rest := [.ref q27]) (c_X6_of l D cA L sh p1 (((1 : Int32) + p2) - (5 : Int32)) h2 _ hf) (va_cwS 2 X.ht (gwS inM q_551 q_552 q_7 q_553) rfl rfl rfl (by decide +kernel) ⟨Nat.le_of_ble_eq_true rfl, Nat.le_of_ble_eq_true rfl⟩) rfl rfl (Nat.le_of_ble_eq_true rfl) ⟨Nat.zero_le _, Nat.zero_le _⟩ dX6_sessionOf_114 (fun r28 h29 hf => ?_)
      obtain ⟨t30, hf⟩ := hf
      obtain ⟨b32, v31, e_v31, hf⟩ := hf
      refine v_iald (pc := 117) X t30 b32 e_v31 dX6_sessionOf_117 ?_
      exact v_iret (pc := 118) X hr hlk dX6_sessionOf_118 hf
    replace hf := if_f c5 hf
    by_cases c6 : p2 = (6 : Int32)
    · replace hf := if_t c6 hf
      refine v_tableIn (pc := 10) X (off := 94) 104 dX6_sessionOf_10 (by rw [c6]; decide) (by rw [c6]; decide) (by rw [c6]; decide) (by decide) ?_
      refine v_aload_n (pc := 104) X 0 dX6_sessionOf_104 rfl rfl ?_
      obtain ⟨t33, hf⟩ := hf
      obtain ⟨q34, e_q34, hf⟩ := hf
      refine ge_6_0 (pc := 105) X (fun w h => inM w (inG6 w h)) k7 t33 e_q34 dX6_sessionOf_105 ?_
      refine v_iload_n (pc := 108) X 1 dX6_sessionOf_108 rfl rfl ?_
      refine v_iconst (pc := 109) X (v := (1 : Int32)) dX6_sessionOf_109 (by decide) ?_
      refine v_iload_n (pc := 110) X 2 dX6_sessionOf_110 rfl rfl ?_
      refine v_iadd (pc := 111) X dX6_sessionOf_111 ?_
      refine v_iconst (pc := 112) X (v := (5 : Int32)) dX6_sessionOf_112 (by decide) ?_
      refine v_isub (pc := 113) X dX6_sessionOf_113 ?_
      refine v_callSI (pc := 114) X (As := [.int p1, .int (((1 : Int32) + p2) - (5 : Int32))]) (rest := [.ref q34]) (c_X6_of l D cA L sh p1 (((1 : Int32) + p2) - (5 : Int32)) h2 _ hf) (va_cwS 2 X.ht (gwS inM q_551 q_552 q_7 q_553) rfl rfl rfl (by decide +kernel) ⟨Nat.le_of_ble_eq_true rfl, Nat.le_of_ble_eq_true rfl⟩) rfl rfl (Nat.le_of_ble_eq_true rfl) ⟨Nat.zero_le _, Nat.zero_le _⟩ dX6_sessionOf_114 (fun r35 h36 hf => ?_)
      obtain ⟨t37, hf⟩ := hf
      obtain ⟨b39, v38, e_v38, hf⟩ := hf
      refine v_iald (pc := 117) X t37 b39 e_v38 dX6_sessionOf_117 ?_
      exact v_iret (pc := 118) X hr hlk dX6_sessionOf_118 hf
    replace hf := if_f c6 hf
    by_cases c7 : p2 = (7 : Int32)
    · replace hf := if_t c7 hf
      refine v_tableIn (pc := 10) X (off := 94) 104 dX6_sessionOf_10 (by rw [c7]; decide) (by rw [c7]; decide) (by rw [c7]; decide) (by decide) ?_
      refine v_aload_n (pc := 104) X 0 dX6_sessionOf_104 rfl rfl ?_
      obtain ⟨t40, hf⟩ := hf
      obtain ⟨q41, e_q41, hf⟩ := hf
      refine ge_6_0 (pc := 105) X (fun w h => inM w (inG6 w h)) k7 t40 e_q41 dX6_sessionOf_105 ?_
      refine v_iload_n (pc := 108) X 1 dX6_sessionOf_108 rfl rfl ?_
      refine v_iconst (pc := 109) X (v := (1 : Int32)) dX6_sessionOf_109 (by decide) ?_
      refine v_iload_n (pc := 110) X 2 dX6_sessionOf_110 rfl rfl ?_
      refine v_iadd (pc := 111) X dX6_sessionOf_111 ?_
      refine v_iconst (pc := 112) X (v := (5 : Int32)) dX6_sessionOf_112 (by decide) ?_
      refine v_isub (pc := 113) X dX6_sessionOf_113 ?_
      refine v_callSI (pc := 114) X (As := [.int p1, .int (((1 : Int32) + p2) - (5 : Int32))]) (rest := [.ref q41]) (c_X6_of l D cA L sh p1 (((1 : Int32) + p2) - (5 : Int32)) h2 _ hf) (va_cwS 2 X.ht (gwS inM q_551 q_552 q_7 q_553) rfl rfl rfl (by decide +kernel) ⟨Nat.le_of_ble_eq_true rfl, Nat.le_of_ble_eq_true rfl⟩) rfl rfl (Nat.le_of_ble_eq_true rfl) ⟨Nat.zero_le _, Nat.zero_le _⟩ dX6_sessionOf_114 (fun r42 h43 hf => ?_)
      obtain ⟨t44, hf⟩ := hf
      obtain ⟨b46, v45, e_v45, hf⟩ := hf
      refine v_iald (pc := 117) X t44 b46 e_v45 dX6_sessionOf_117 ?_
      exact v_iret (pc := 118) X hr hlk dX6_sessionOf_118 hf
    replace hf := if_f c7 hf
    by_cases c8 : p2 = (8 : Int32)
    · replace hf := if_t c8 hf
      refine v_tableIn (pc := 10) X (off := 94) 104 dX6_sessionOf_10 (by rw [c8]; decide) (by rw [c8]; decide) (by rw [c8]; decide) (by decide) ?_
      refine v_aload_n (pc := 104) X 0 dX6_sessionOf_104 rfl rfl ?_
      obtain ⟨t47, hf⟩ := hf
      obtain ⟨q48, e_q48, hf⟩ := hf
      refine ge_6_0 (pc := 105) X (fun w h => inM w (inG6 w h)) k7 t47 e_q48 dX6_sessionOf_105 ?_
      refine v_iload_n (pc := 108) X 1 dX6_sessionOf_108 rfl rfl ?_
      refine v_iconst (pc := 109) X (v := (1 : Int32)) dX6_sessionOf_109 (by decide) ?_
      refine v_iload_n (pc := 110) X 2 dX6_sessionOf_110 rfl rfl ?_
      refine v_iadd (pc := 111) X dX6_sessionOf_111 ?_
      refine v_iconst (pc := 112) X (v := (5 : Int32)) dX6_sessionOf_112 (by decide) ?_
      refine v_isub (pc := 113) X dX6_sessionOf_113 ?_
      refine v_callSI (pc := 114) X (As := [.int p1, .int (((1 : Int32) + p2) - (5 : Int32))]) (rest := [.ref q48]) (c_X6_of l D cA L sh p1 (((1 : Int32) + p2) - (5 : Int32)) h2 _ hf) (va_cwS 2 X.ht (gwS inM q_551 q_552 q_7 q_553) rfl rfl rfl (by decide +kernel) ⟨Nat.le_of_ble_eq_true rfl, Nat.le_of_ble_eq_true rfl⟩) rfl rfl (Nat.le_of_ble_eq_true rfl) ⟨Nat.zero_le _, Nat.zero_le _⟩ dX6_sessionOf_114 (fun r49 h50 hf => ?_)
      obtain ⟨t51, hf⟩ := hf
      obtain ⟨b53, v52, e_v52, hf⟩ := hf
      refine v_iald (pc := 117) X t51 b53 e_v52 dX6_sessionOf_117 ?_
      exact v_iret (pc := 118) X hr hlk dX6_sessionOf_118 hf
    replace hf := if_f c8 hf
    by_cases c9 : p2 = (9 : Int32)
    · replace hf := if_t c9 hf
      refine v_tableIn (pc := 10) X (off := 94) 104 dX6_sessionOf_10 (by rw [c9]; decide) (by rw [c9]; decide) (by rw [c9]; decide) (by decide) ?_
      refine v_aload_n (pc := 104) X 0 dX6_sessionOf_104 rfl rfl ?_
      obtain ⟨t54, hf⟩ := hf
      obtain ⟨q55, e_q55, hf⟩ := hf
      refine ge_6_0 (pc := 105) X (fun w h => inM w (inG6 w h)) k7 t54 e_q55 dX6_sessionOf_105 ?_
      refine v_iload_n (pc := 108) X 1 dX6_sessionOf_108 rfl rfl ?_
      refine v_iconst (pc := 109) X (v := (1 : Int32)) dX6_sessionOf_109 (by decide) ?_
      refine v_iload_n (pc := 110) X 2 dX6_sessionOf_110 rfl rfl ?_
      refine v_iadd (pc := 111) X dX6_sessionOf_111 ?_
      refine v_iconst (pc := 112) X (v := (5 : Int32)) dX6_sessionOf_112 (by decide) ?_
      refine v_isub (pc := 113) X dX6_sessionOf_113 ?_
      refine v_callSI (pc := 114) X (As := [.int p1, .int (((1 : Int32) + p2) - (5 : Int32))]) (rest := [.ref q55]) (c_X6_of l D cA L sh p1 (((1 : Int32) + p2) - (5 : Int32)) h2 _ hf) (va_cwS 2 X.ht (gwS inM q_551 q_552 q_7 q_553) rfl rfl rfl (by decide +kernel) ⟨Nat.le_of_ble_eq_true rfl, Nat.le_of_ble_eq_true rfl⟩) rfl rfl (Nat.le_of_ble_eq_true rfl) ⟨Nat.zero_le _, Nat.zero_le _⟩ dX6_sessionOf_114 (fun r56 h57 hf => ?_)
      obtain ⟨t58, hf⟩ := hf
      obtain ⟨b60, v59, e_v59, hf⟩ := hf
      refine v_iald (pc := 117) X t58 b60 e_v59 dX6_sessionOf_117 ?_
      exact v_iret (pc := 118) X hr hlk dX6_sessionOf_118 hf
    replace hf := if_f c9 hf
    refine v_tableOut (pc := 10) X 119 dX6_sessionOf_10 (tab_out_0_9 c0 c1 c2 c3 c4 c5 c6 c7 c8 c9) (by decide) ?_
    refine v_iconst (pc := 119) X (v := (-1 : Int32)) dX6_sessionOf_119 (by decide) ?_
    exact v_iret (pc := 120) X hr hlk dX6_sessionOf_120 hf
  · replace hf := if_t c hf
    refine v_iconst (pc := 7) X (v := (-1 : Int32)) dX6_sessionOf_7 (by decide) ?_
    exact v_iret (pc := 8) X hr hlk dX6_sessionOf_8 hf
set_option maxHeartbeats 4000000 in
set_option maxRecDepth 100000 in
theorem w_X6_set_55 {p : Program} {l : Launch} {e : Env} {s0 : State} {m : MethodId} {args : Array Value} {below : List Frame} {meth : Method} {c : Code} {D : va_G} {cA : Nat → ClassId} {L : List Nat} {sh : Sh} (X : Cx p s0 m c args cX6_set 6 (wM yX6_set cX6_set 6 (some .int)) RX6 (fun q => q ∈ L) D cA L sh) (hr : meth.sig.returnType = (some .int)) (hlk : meth.locks = false) (x0 : Nat) (x3 : Int32) (Xc : Hp → Prop) (K : Int32 → Hp → Prop) (hx : ∀  (h1 : Hp), Xc  h1 → V p l e (headSpec (wM yX6_set cX6_set 6 (some .int)) ({ frames := 4, cells := 0, slots := 0, locals := 90 } : Room)).room s0 m args below meth c (MQ below (QI D cA L sh K) args s0 0 0 (fun q => q ∈ L)) (fun q => q ∈ L) 0 0 D cA L sh 6 h1 81 [(3, .int x3)] []) : ∀ (n : Nat) (s : Int32) (h : Hp), lp (b_X6_set_55 sh x0 x3 Xc) n s h → V p l e (headSpec (wM yX6_set cX6_set 6 (some .int)) ({ frames := 4, cells := 0, slots := 0, locals := 90 } : Room)).room s0 m args below meth c (MQ below (QI D cA L sh K) args s0 0 0 (fun q => q ∈ L)) (fun q => q ∈ L) 0 0 D cA L sh 6 h 55 [(0, .ref x0), (3, .int x3), (4, .int s)] [] := by
  have k7 := X.ht _ (inM _ q_485)
  intro n
  induction n with
  | zero => intro s h hf; exact hf.elim
  | succ n ih =>
    intro s h hf
    replace hf : b_X6_set_55 sh x0 x3 Xc (lp (b_X6_set_55 sh x0 x3 Xc) n) s h := hf
    unfold b_X6_set_55 at hf
    refine v_iload (pc := 55) X 2 dX6_set_55 rfl ?_
    refine v_iconst (pc := 57) X (v := (4 : Int32)) dX6_set_57 (by decide) ?_
    refine v_icmp_ge (pc := 58) X 81 dX6_set_58 (by decide) (fun c => ?_) (fun c => ?_)
    · replace hf := if_t c hf
      refine v_sub [1] rfl ?_
      exact hx h hf
    · replace hf := if_f c hf
      refine v_aload_n (pc := 61) X 0 dX6_set_61 rfl rfl ?_
      refine v_iload (pc := 62) X 2 dX6_set_62 rfl ?_
      refine v_aload_n (pc := 64) X 0 dX6_set_64 rfl rfl ?_
      obtain ⟨t16, hf⟩ := hf
      obtain ⟨q17, e_q17, hf⟩ := hf
      refine ge_6_0 (pc := 65) X (fun w h => inM w (inG6 w h)) k7 t16 e_q17 dX6_set_65 ?_
      refine v_iconst (pc := 68) X (v := (4 : Int32)) dX6_set_68 (by decide) ?_
      obtain ⟨t18, hf⟩ := hf
      obtain ⟨b20, v19, e_v19, hf⟩ := hf
      refine v_iald (pc := 69) X t18 b20 e_v19 dX6_set_69 ?_
      refine v_callVI (pc := 70) X (As := [.int s, .int v19]) (rest := []) (c_X6_shrink l D cA L sh x0 s v19 h _ hf) (cwV 2 X.ht (gwV inM q_588 q_589 q_761 q_7 q_590) rfl rfl rfl (by decide +kernel) ⟨Nat.le_of_ble_eq_true rfl, Nat.le_of_ble_eq_true rfl⟩) rfl (by decide) t16 (ent_6 t16) rfl rfl (Nat.le_of_ble_eq_true rfl) ⟨Nat.zero_le _, Nat.zero_le _⟩ dX6_set_70 (fun r21 h22 hf => ?_)
      refine v_istore (pc := 73) X (i := 5) (lv' := [(5, .int r21), (0, .ref x0), (3, .int x3), (4, .int s)]) dX6_set_73 (Nat.le_of_ble_eq_true rfl) rfl ?_
      refine v_iinc (pc := 75) X 3 (v := s + (1 : Int32)) (lv' := [(4, .int (s + (1 : Int32))), (5, .int r21), (0, .ref x0), (3, .int x3)]) dX6_set_75 rfl rfl (Nat.le_of_ble_eq_true rfl) rfl ?_
      refine v_goto (pc := 78) X 55 dX6_set_78 (by decide) ?_
      refine v_sub [2, 3, 0] rfl ?_
      exact ih (s + (1 : Int32)) h22 hf

set_option maxHeartbeats 4000000 in
set_option maxRecDepth 100000 in
theorem c_X6_set (l : Launch) (D : va_G) (cA : Nat → ClassId) (L : List Nat) (sh : Sh) (a0 : Nat) (p1 : Int32) (p2 : Int32) (h : Hp) (K : Int32 → Hp → Prop) (hf : f_X6_set sh a0 p1 p2 h K) : Met l yX6_set (wM yX6_set cX6_set 6 (some .int)) ({ frames := 4, cells := 0, slots := 0, locals := 90 } : Room) (PreM D cA L sh h [.ref a0, .int p1, .int p2]) (QI D cA L sh K) 0 0 (fun q => q ∈ L) := by
  refine met_v (cc := cX6_set) (nL := 6) (ret := (some .int)) [(0, .ref a0), (1, .int p1), (2, .int p2)] (by decide) rfl (Nat.le_of_ble_eq_true rfl) rfl ?_
  intro p e s0 m below meth c X hr hlk
  have k7 := X.ht _ (inM _ q_485)
  unfold f_X6_set at hf
  refine v_iload_n (pc := 0) X 1 dX6_set_0 rfl rfl ?_
  refine v_iconst (pc := 1) X (v := (0 : Int32)) dX6_set_1 (by decide) ?_
  refine v_iconst (pc := 2) X (v := (1 : Int32)) dX6_set_2 (by decide) ?_
  refine v_callSI (pc := 3) X (As := [.int p1, .int (0 : Int32), .int (1 : Int32)]) (rest := []) (c_X6_in l D cA L sh p1 (0 : Int32) (1 : Int32) h _ hf) (va_cwS 3 X.ht (gwS inM q_533 q_534 q_7 q_535) rfl rfl rfl (by decide +kernel) ⟨Nat.le_of_ble_eq_true rfl, Nat.le_of_ble_eq_true rfl⟩) rfl rfl (Nat.le_of_ble_eq_true rfl) ⟨Nat.zero_le _, Nat.zero_le _⟩ dX6_set_3 (fun r1 h2 hf => ?_)
  refine v_if_eq (pc := 6) X 28 dX6_set_6 (by decide) (fun c => ?_) (fun c => ?_)
  · replace hf := if_t c hf
    refine v_iconst (pc := 28) X (v := (-1 : Int32)) dX6_set_28 (by decide) ?_
    exact v_iret (pc := 29) X hr hlk dX6_set_29 hf
  · replace hf := if_f c hf
    refine v_iload_n (pc := 9) X 2 dX6_set_9 rfl rfl ?_
    refine v_iload_n (pc := 10) X 1 dX6_set_10 rfl rfl ?_
    refine v_iload_n (pc := 11) X 1 dX6_set_11 rfl rfl ?_
    refine v_if_ne (pc := 12) X 20 dX6_set_12 (by decide) (fun c => ?_) (fun c => ?_)
    · replace hf := if_f c hf
      refine v_bipush (pc := 20) X (v := (8 : Int32)) dX6_set_20 (by decide) ?_
      refine v_callSI (pc := 22) X (As := [.int p2, .int p1, .int (8 : Int32)]) (rest := []) (c_X6_in l D cA L sh p2 p1 (8 : Int32) h2 _ hf) (va_cwS 3 X.ht (gwS inM q_533 q_534 q_7 q_535) rfl rfl rfl (by decide +kernel) ⟨Nat.le_of_ble_eq_true rfl, Nat.le_of_ble_eq_true rfl⟩) rfl rfl (Nat.le_of_ble_eq_true rfl) ⟨Nat.zero_le _, Nat.zero_le _⟩ dX6_set_22 (fun r3 h4 hf => ?_)
      refine v_if_ne (pc := 25) X 30 dX6_set_25 (by decide) (fun c => ?_) (fun c => ?_)
      · replace hf := if_f c hf
        refine v_aload_n (pc := 30) X 0 dX6_set_30 rfl rfl ?_
        obtain ⟨t5, hf⟩ := hf
        refine v_callVV (pc := 31) X (As := []) (rest := []) (c_X6_know l D cA L sh a0 h4 _ hf) (cwV 0 X.ht (gwV inM q_542 q_543 q_750 q_7 q_544) rfl rfl rfl (by decide +kernel) ⟨Nat.le_of_ble_eq_true rfl, Nat.le_of_ble_eq_true rfl⟩) rfl (by decide) t5 (ent_6 t5) rfl rfl (Nat.le_of_ble_eq_true rfl) ⟨Nat.zero_le _, Nat.zero_le _⟩ dX6_set_31 (fun h7 hf => ?_)
        refine v_aload_n (pc := 34) X 0 dX6_set_34 rfl rfl ?_
        obtain ⟨q8, e_q8, hf⟩ := hf
        refine ge_6_0 (pc := 35) X (fun w h => inM w (inG6 w h)) k7 t5 e_q8 dX6_set_35 ?_
        refine v_iconst (pc := 38) X (v := (3 : Int32)) dX6_set_38 (by decide) ?_
        refine v_iload_n (pc := 39) X 1 dX6_set_39 rfl rfl ?_
        refine v_iadd (pc := 40) X dX6_set_40 ?_
        obtain ⟨t9, hf⟩ := hf
        obtain ⟨b11, v10, e_v10, hf⟩ := hf
        refine v_iald (pc := 41) X t9 b11 e_v10 dX6_set_41 ?_
        refine v_istore_n (pc := 42) X (i := 3) (lv' := [(3, .int v10), (0, .ref a0), (1, .int p1), (2, .int p2)]) dX6_set_42 rfl (Nat.le_of_ble_eq_true rfl) rfl ?_
        refine v_aload_n (pc := 43) X 1 dX6_set_43 rfl rfl ?_
        obtain ⟨q12, e_q12, hf⟩ := hf
        refine ge_6_0 (pc := 44) X (fun w h => inM w (inG6 w h)) k7 t5 e_q12 dX6_set_44 ?_
        refine v_iconst (pc := 47) X (v := (3 : Int32)) dX6_set_47 (by decide) ?_
        refine v_iload_n (pc := 48) X 2 dX6_set_48 rfl rfl ?_
        refine v_iadd (pc := 49) X dX6_set_49 ?_
        refine v_iload_n (pc := 50) X 3 dX6_set_50 rfl rfl ?_
        obtain ⟨t13, hf⟩ := hf
        obtain ⟨b15, h14, e_h14, hf⟩ := hf
        refine v_iast (pc := 51) X t13 b15 e_h14 dX6_set_51 ?_
        refine v_iconst (pc := 52) X (v := (0 : Int32)) dX6_set_52 (by decide) ?_
        refine v_istore (pc := 53) X (i := 4) (lv' := [(4, .int (0 : Int32)), (3, .int v10), (0, .ref a0), (1, .int p1), (2, .int p2)]) dX6_set_53 (Nat.le_of_ble_eq_true rfl) rfl ?_
        obtain ⟨n, hf⟩ := hf
        refine v_sub [2, 1, 0] rfl ?_
        refine w_X6_set_55 X hr hlk a0 v10 _ K (fun  h23 hf => ?_) n (0 : Int32) h14 hf
        refine v_iload_n (pc := 81) X 0 dX6_set_81 rfl rfl ?_
        exact v_iret (pc := 82) X hr hlk dX6_set_82 hf
      · replace hf := if_t c hf
        refine v_iconst (pc := 28) X (v := (-1 : Int32)) dX6_set_28 (by decide) ?_
        exact v_iret (pc := 29) X hr hlk dX6_set_29 hf
    · replace hf := if_t c hf
      refine v_bipush (pc := 15) X (v := (20 : Int32)) dX6_set_15 (by decide) ?_
      refine v_goto (pc := 17) X 22 dX6_set_17 (by decide) ?_
      refine v_callSI (pc := 22) X (As := [.int p2, .int p1, .int (20 : Int32)]) (rest := []) (c_X6_in l D cA L sh p2 p1 (20 : Int32) h2 _ hf) (va_cwS 3 X.ht (gwS inM q_533 q_534 q_7 q_535) rfl rfl rfl (by decide +kernel) ⟨Nat.le_of_ble_eq_true rfl, Nat.le_of_ble_eq_true rfl⟩) rfl rfl (Nat.le_of_ble_eq_true rfl) ⟨Nat.zero_le _, Nat.zero_le _⟩ dX6_set_22 (fun r24 h25 hf => ?_)
      refine v_if_ne (pc := 25) X 30 dX6_set_25 (by decide) (fun c => ?_) (fun c => ?_)
      · replace hf := if_f c hf
        refine v_aload_n (pc := 30) X 0 dX6_set_30 rfl rfl ?_
        obtain ⟨t26, hf⟩ := hf
        refine v_callVV (pc := 31) X (As := []) (rest := []) (c_X6_know l D cA L sh a0 h25 _ hf) (cwV 0 X.ht (gwV inM q_542 q_543 q_750 q_7 q_544) rfl rfl rfl (by decide +kernel) ⟨Nat.le_of_ble_eq_true rfl, Nat.le_of_ble_eq_true rfl⟩) rfl (by decide) t26 (ent_6 t26) rfl rfl (Nat.le_of_ble_eq_true rfl) ⟨Nat.zero_le _, Nat.zero_le _⟩ dX6_set_31 (fun h28 hf => ?_)
        refine v_aload_n (pc := 34) X 0 dX6_set_34 rfl rfl ?_
        obtain ⟨q29, e_q29, hf⟩ := hf
        refine ge_6_0 (pc := 35) X (fun w h => inM w (inG6 w h)) k7 t26 e_q29 dX6_set_35 ?_
        refine v_iconst (pc := 38) X (v := (3 : Int32)) dX6_set_38 (by decide) ?_
        refine v_iload_n (pc := 39) X 1 dX6_set_39 rfl rfl ?_
        refine v_iadd (pc := 40) X dX6_set_40 ?_
        obtain ⟨t30, hf⟩ := hf
        obtain ⟨b32, v31, e_v31, hf⟩ := hf
        refine v_iald (pc := 41) X t30 b32 e_v31 dX6_set_41 ?_
        refine v_istore_n (pc := 42) X (i := 3) (lv' := [(3, .int v31), (0, .ref a0), (1, .int p1), (2, .int p2)]) dX6_set_42 rfl (Nat.le_of_ble_eq_true rfl) rfl ?_
        refine v_aload_n (pc := 43) X 1 dX6_set_43 rfl rfl ?_
        obtain ⟨q33, e_q33, hf⟩ := hf
        refine ge_6_0 (pc := 44) X (fun w h => inM w (inG6 w h)) k7 t26 e_q33 dX6_set_44 ?_
        refine v_iconst (pc := 47) X (v := (3 : Int32)) dX6_set_47 (by decide) ?_
        refine v_iload_n (pc := 48) X 2 dX6_set_48 rfl rfl ?_
        refine v_iadd (pc := 49) X dX6_set_49 ?_
        refine v_iload_n (pc := 50) X 3 dX6_set_50 rfl rfl ?_
        obtain ⟨t34, hf⟩ := hf
        obtain ⟨b36, h35, e_h35, hf⟩ := hf
        refine v_iast (pc := 51) X t34 b36 e_h35 dX6_set_51 ?_
        refine v_iconst (pc := 52) X (v := (0 : Int32)) dX6_set_52 (by decide) ?_
        refine v_istore (pc := 53) X (i := 4) (lv' := [(4, .int (0 : Int32)), (3, .int v31), (0, .ref a0), (1, .int p1), (2, .int p2)]) dX6_set_53 (Nat.le_of_ble_eq_true rfl) rfl ?_
        obtain ⟨n, hf⟩ := hf
        refine v_sub [2, 1, 0] rfl ?_
        refine w_X6_set_55 X hr hlk a0 v31 _ K (fun  h37 hf => ?_) n (0 : Int32) h35 hf
        refine v_iload_n (pc := 81) X 0 dX6_set_81 rfl rfl ?_
        exact v_iret (pc := 82) X hr hlk dX6_set_82 hf
      · replace hf := if_t c hf
        refine v_iconst (pc := 28) X (v := (-1 : Int32)) dX6_set_28 (by decide) ?_
        exact v_iret (pc := 29) X hr hlk dX6_set_29 hf
set_option maxHeartbeats 4000000 in
set_option maxRecDepth 100000 in
theorem c_X6_startFault (l : Launch) (D : va_G) (cA : Nat → ClassId) (L : List Nat) (sh : Sh) (a0 : Nat) (p1 : Int32) (p2 : Int32) (h : Hp) (K : Int32 → Hp → Prop) (hf : f_X6_startFault sh a0 p1 p2 h K) : Met l yX6_startFault (wM yX6_startFault cX6_startFault 4 (some .int)) ({ frames := 6, cells := 0, slots := 0, locals := 141 } : Room) (PreM D cA L sh h [.ref a0, .int p1, .int p2]) (QI D cA L sh K) 0 0 (fun q => q ∈ L) := by
  refine met_v (cc := cX6_startFault) (nL := 4) (ret := (some .int)) [(0, .ref a0), (1, .int p1), (2, .int p2)] (by decide) rfl (Nat.le_of_ble_eq_true rfl) rfl ?_
  intro p e s0 m below meth c X hr hlk
  unfold f_X6_startFault at hf
  refine v_iload_n (pc := 0) X 1 dX6_startFault_0 rfl rfl ?_
  refine v_callSI (pc := 1) X (As := [.int p1]) (rest := []) (c_X6_isSession l D cA L sh p1 h _ hf) (va_cwS 1 X.ht (gwS inM q_573 q_574 q_7 q_575) rfl rfl rfl (by decide +kernel) ⟨Nat.le_of_ble_eq_true rfl, Nat.le_of_ble_eq_true rfl⟩) rfl rfl (Nat.le_of_ble_eq_true rfl) ⟨Nat.zero_le _, Nat.zero_le _⟩ dX6_startFault_1 (fun r1 h2 hf => ?_)
  refine v_if_eq (pc := 4) X 17 dX6_startFault_4 (by decide) (fun c => ?_) (fun c => ?_)
  · replace hf := if_t c hf
    refine v_iconst (pc := 17) X (v := (-1 : Int32)) dX6_startFault_17 (by decide) ?_
    exact v_iret (pc := 18) X hr hlk dX6_startFault_18 hf
  · replace hf := if_f c hf
    refine v_iload_n (pc := 7) X 2 dX6_startFault_7 rfl rfl ?_
    refine v_iconst (pc := 8) X (v := (1 : Int32)) dX6_startFault_8 (by decide) ?_
    refine v_bipush (pc := 9) X (v := (63 : Int32)) dX6_startFault_9 (by decide) ?_
    refine v_callSI (pc := 11) X (As := [.int p2, .int (1 : Int32), .int (63 : Int32)]) (rest := []) (c_X6_in l D cA L sh p2 (1 : Int32) (63 : Int32) h2 _ hf) (va_cwS 3 X.ht (gwS inM q_533 q_534 q_7 q_535) rfl rfl rfl (by decide +kernel) ⟨Nat.le_of_ble_eq_true rfl, Nat.le_of_ble_eq_true rfl⟩) rfl rfl (Nat.le_of_ble_eq_true rfl) ⟨Nat.zero_le _, Nat.zero_le _⟩ dX6_startFault_11 (fun r3 h4 hf => ?_)
    refine v_if_ne (pc := 14) X 19 dX6_startFault_14 (by decide) (fun c => ?_) (fun c => ?_)
    · replace hf := if_f c hf
      refine v_aload_n (pc := 19) X 0 dX6_startFault_19 rfl rfl ?_
      obtain ⟨t5, hf⟩ := hf
      refine v_callVV (pc := 20) X (As := []) (rest := []) (c_X6_putAside l D cA L sh a0 h4 _ hf) (cwV 0 X.ht (gwV inM q_576 q_577 q_757 q_7 q_578) rfl rfl rfl (by decide +kernel) ⟨Nat.le_of_ble_eq_true rfl, Nat.le_of_ble_eq_true rfl⟩) rfl (by decide) t5 (ent_6 t5) rfl rfl (Nat.le_of_ble_eq_true rfl) ⟨Nat.zero_le _, Nat.zero_le _⟩ dX6_startFault_20 (fun h7 hf => ?_)
      refine v_aload_n (pc := 23) X 0 dX6_startFault_23 rfl rfl ?_
      refine v_iload_n (pc := 24) X 1 dX6_startFault_24 rfl rfl ?_
      refine v_iload_n (pc := 25) X 2 dX6_startFault_25 rfl rfl ?_
      refine v_callVI (pc := 26) X (As := [.int p1, .int p2]) (rest := []) (c_X6_starts l D cA L sh a0 p1 p2 h7 _ hf) (cwV 2 X.ht (gwV inM q_579 q_580 q_758 q_7 q_581) rfl rfl rfl (by decide +kernel) ⟨Nat.le_of_ble_eq_true rfl, Nat.le_of_ble_eq_true rfl⟩) rfl (by decide) t5 (ent_6 t5) rfl rfl (Nat.le_of_ble_eq_true rfl) ⟨Nat.zero_le _, Nat.zero_le _⟩ dX6_startFault_26 (fun r8 h9 hf => ?_)
      refine v_istore_n (pc := 29) X (i := 3) (lv' := [(3, .int r8), (0, .ref a0), (1, .int p1), (2, .int p2)]) dX6_startFault_29 rfl (Nat.le_of_ble_eq_true rfl) rfl ?_
      refine v_aload_n (pc := 30) X 1 dX6_startFault_30 rfl rfl ?_
      refine v_callVV (pc := 31) X (As := []) (rest := []) (c_X6_putBack l D cA L sh a0 h9 _ hf) (cwV 0 X.ht (gwV inM q_600 q_601 q_765 q_7 q_602) rfl rfl rfl (by decide +kernel) ⟨Nat.le_of_ble_eq_true rfl, Nat.le_of_ble_eq_true rfl⟩) rfl (by decide) t5 (ent_6 t5) rfl rfl (Nat.le_of_ble_eq_true rfl) ⟨Nat.zero_le _, Nat.zero_le _⟩ dX6_startFault_31 (fun h11 hf => ?_)
      refine v_iload_n (pc := 34) X 0 dX6_startFault_34 rfl rfl ?_
      refine v_if_ge (pc := 35) X 42 dX6_startFault_35 (by decide) (fun c => ?_) (fun c => ?_)
      · replace hf := if_t c hf
        refine v_iconst (pc := 42) X (v := (0 : Int32)) dX6_startFault_42 (by decide) ?_
        exact v_iret (pc := 43) X hr hlk dX6_startFault_43 hf
      · replace hf := if_f c hf
        refine v_iload_n (pc := 38) X 0 dX6_startFault_38 rfl rfl ?_
        refine v_goto (pc := 39) X 43 dX6_startFault_39 (by decide) ?_
        exact v_iret (pc := 43) X hr hlk dX6_startFault_43 hf
    · replace hf := if_t c hf
      refine v_iconst (pc := 17) X (v := (-1 : Int32)) dX6_startFault_17 (by decide) ?_
      exact v_iret (pc := 18) X hr hlk dX6_startFault_18 hf
set_option maxHeartbeats 4000000 in
set_option maxRecDepth 100000 in
theorem c_X6_start (l : Launch) (D : va_G) (cA : Nat → ClassId) (L : List Nat) (sh : Sh) (a0 : Nat) (p1 : Int32) (p2 : Int32) (h : Hp) (K : Int32 → Hp → Prop) (hf : f_X6_start sh a0 p1 p2 h K) : Met l yX6_start (wM yX6_start cX6_start 4 (some .int)) ({ frames := 7, cells := 0, slots := 0, locals := 164 } : Room) (PreM D cA L sh h [.ref a0, .int p1, .int p2]) (QI D cA L sh K) 0 0 (fun q => q ∈ L) := by
  refine met_v (cc := cX6_start) (nL := 4) (ret := (some .int)) [(0, .ref a0), (1, .int p1), (2, .int p2)] (by decide) rfl (Nat.le_of_ble_eq_true rfl) rfl ?_
  intro p e s0 m below meth c X hr hlk
  unfold f_X6_start at hf
  refine v_aload_n (pc := 0) X 0 dX6_start_0 rfl rfl ?_
  refine v_iload_n (pc := 1) X 1 dX6_start_1 rfl rfl ?_
  refine v_iload_n (pc := 2) X 2 dX6_start_2 rfl rfl ?_
  obtain ⟨t1, hf⟩ := hf
  refine v_callVI (pc := 3) X (As := [.int p1, .int p2]) (rest := []) (c_X6_startFault l D cA L sh a0 p1 p2 h _ hf) (cwV 2 X.ht (gwV inM q_570 q_571 q_756 q_7 q_572) rfl rfl rfl (by decide +kernel) ⟨Nat.le_of_ble_eq_true rfl, Nat.le_of_ble_eq_true rfl⟩) rfl (by decide) t1 (ent_6 t1) rfl rfl (Nat.le_of_ble_eq_true rfl) ⟨Nat.zero_le _, Nat.zero_le _⟩ dX6_start_3 (fun r2 h3 hf => ?_)
  refine v_istore_n (pc := 6) X (i := 3) (lv' := [(3, .int r2), (0, .ref a0), (1, .int p1), (2, .int p2)]) dX6_start_6 rfl (Nat.le_of_ble_eq_true rfl) rfl ?_
  refine v_iload_n (pc := 7) X 0 dX6_start_7 rfl rfl ?_
  refine v_if_ge (pc := 8) X 13 dX6_start_8 (by decide) (fun c => ?_) (fun c => ?_)
  · replace hf := if_t c hf
    refine v_aload_n (pc := 13) X 1 dX6_start_13 rfl rfl ?_
    refine v_callVV (pc := 14) X (As := []) (rest := []) (c_X6_know l D cA L sh a0 h3 _ hf) (cwV 0 X.ht (gwV inM q_542 q_543 q_750 q_7 q_544) rfl rfl rfl (by decide +kernel) ⟨Nat.le_of_ble_eq_true rfl, Nat.le_of_ble_eq_true rfl⟩) rfl (by decide) t1 (ent_6 t1) rfl rfl (Nat.le_of_ble_eq_true rfl) ⟨Nat.zero_le _, Nat.zero_le _⟩ dX6_start_14 (fun h5 hf => ?_)
    refine v_aload_n (pc := 17) X 1 dX6_start_17 rfl rfl ?_
    refine v_iload_n (pc := 18) X 2 dX6_start_18 rfl rfl ?_
    refine v_iload_n (pc := 19) X 3 dX6_start_19 rfl rfl ?_
    refine v_callVI (pc := 20) X (As := [.int p1, .int p2]) (rest := []) (c_X6_starts l D cA L sh a0 p1 p2 h5 _ hf) (cwV 2 X.ht (gwV inM q_579 q_580 q_758 q_7 q_581) rfl rfl rfl (by decide +kernel) ⟨Nat.le_of_ble_eq_true rfl, Nat.le_of_ble_eq_true rfl⟩) rfl (by decide) t1 (ent_6 t1) rfl rfl (Nat.le_of_ble_eq_true rfl) ⟨Nat.zero_le _, Nat.zero_le _⟩ dX6_start_20 (fun r6 h7 hf => ?_)
    exact v_iret (pc := 23) X hr hlk dX6_start_23 hf
  · replace hf := if_f c hf
    refine v_iload_n (pc := 11) X 0 dX6_start_11 rfl rfl ?_
    exact v_iret (pc := 12) X hr hlk dX6_start_12 hf
set_option maxHeartbeats 4000000 in
set_option maxRecDepth 100000 in
theorem c_X6_statement (l : Launch) (D : va_G) (cA : Nat → ClassId) (L : List Nat) (sh : Sh) (a0 : Nat) (p1 : Int32) (p2 : Int32) (h : Hp) (K : Int32 → Hp → Prop) (hf : f_X6_statement sh a0 p1 p2 h K) : Met l yX6_statement (wM yX6_statement cX6_statement 4 (some .int)) ({ frames := 2, cells := 0, slots := 0, locals := 45 } : Room) (PreM D cA L sh h [.ref a0, .int p1, .int p2]) (QI D cA L sh K) 0 0 (fun q => q ∈ L) := by
  refine met_v (cc := cX6_statement) (nL := 4) (ret := (some .int)) [(0, .ref a0), (1, .int p1), (2, .int p2)] (by decide) rfl (Nat.le_of_ble_eq_true rfl) rfl ?_
  intro p e s0 m below meth c X hr hlk
  have k7 := X.ht _ (inM _ q_485)
  unfold f_X6_statement at hf
  refine v_iload_n (pc := 0) X 1 dX6_statement_0 rfl rfl ?_
  refine v_if_lt (pc := 1) X 13 dX6_statement_1 (by decide) (fun c => ?_) (fun c => ?_)
  · replace hf := if_t c hf
    refine v_iconst (pc := 13) X (v := (-1 : Int32)) dX6_statement_13 (by decide) ?_
    exact v_iret (pc := 14) X hr hlk dX6_statement_14 hf
  · replace hf := if_f c hf
    refine v_iload_n (pc := 4) X 2 dX6_statement_4 rfl rfl ?_
    refine v_iconst (pc := 5) X (v := (0 : Int32)) dX6_statement_5 (by decide) ?_
    refine v_iconst (pc := 6) X (v := (3 : Int32)) dX6_statement_6 (by decide) ?_
    refine v_callSI (pc := 7) X (As := [.int p2, .int (0 : Int32), .int (3 : Int32)]) (rest := []) (c_X6_in l D cA L sh p2 (0 : Int32) (3 : Int32) h _ hf) (va_cwS 3 X.ht (gwS inM q_533 q_534 q_7 q_535) rfl rfl rfl (by decide +kernel) ⟨Nat.le_of_ble_eq_true rfl, Nat.le_of_ble_eq_true rfl⟩) rfl rfl (Nat.le_of_ble_eq_true rfl) ⟨Nat.zero_le _, Nat.zero_le _⟩ dX6_statement_7 (fun r1 h2 hf => ?_)
    refine v_if_ne (pc := 10) X 15 dX6_statement_10 (by decide) (fun c => ?_) (fun c => ?_)
    · replace hf := if_f c hf
      refine v_aload_n (pc := 15) X 0 dX6_statement_15 rfl rfl ?_
      refine v_iload_n (pc := 16) X 1 dX6_statement_16 rfl rfl ?_
      obtain ⟨t3, hf⟩ := hf
      refine v_callVI (pc := 17) X (As := [.int p1]) (rest := []) (c_X6_placeOf l D cA L sh a0 p1 h2 _ hf) (cwV 1 X.ht (gwV inM q_610 q_611 q_767 q_7 q_612) rfl rfl rfl (by decide +kernel) ⟨Nat.le_of_ble_eq_true rfl, Nat.le_of_ble_eq_true rfl⟩) rfl (by decide) t3 (ent_6 t3) rfl rfl (Nat.le_of_ble_eq_true rfl) ⟨Nat.zero_le _, Nat.zero_le _⟩ dX6_statement_17 (fun r4 h5 hf => ?_)
      refine v_istore_n (pc := 20) X (i := 3) (lv' := [(3, .int r4), (0, .ref a0), (1, .int p1), (2, .int p2)]) dX6_statement_20 rfl (Nat.le_of_ble_eq_true rfl) rfl ?_
      refine v_iload_n (pc := 21) X 0 dX6_statement_21 rfl rfl ?_
      refine v_if_ge (pc := 22) X 28 dX6_statement_22 (by decide) (fun c => ?_) (fun c => ?_)
      · replace hf := if_t c hf
        refine v_iload_n (pc := 28) X 3 dX6_statement_28 rfl rfl ?_
        refine v_iconst (pc := 29) X (v := (3 : Int32)) dX6_statement_29 (by decide) ?_
        refine v_icmp_ge (pc := 30) X 48 dX6_statement_30 (by decide) (fun c => ?_) (fun c => ?_)
        · replace hf := if_t c hf
          refine v_aload_n (pc := 48) X 1 dX6_statement_48 rfl rfl ?_
          refine v_iload_n (pc := 49) X 0 dX6_statement_49 rfl rfl ?_
          refine v_callVI (pc := 50) X (As := [.int r4]) (rest := []) (c_X6_older l D cA L sh a0 r4 h5 _ hf) (cwV 1 X.ht (gwV inM q_655 q_656 q_774 q_7 q_657) rfl rfl rfl (by decide +kernel) ⟨Nat.le_of_ble_eq_true rfl, Nat.le_of_ble_eq_true rfl⟩) rfl (by decide) t3 (ent_6 t3) rfl rfl (Nat.le_of_ble_eq_true rfl) ⟨Nat.zero_le _, Nat.zero_le _⟩ dX6_statement_50 (fun r6 h7 hf => ?_)
          exact v_iret (pc := 53) X hr hlk dX6_statement_53 hf
        · replace hf := if_f c hf
          refine v_aload_n (pc := 33) X 1 dX6_statement_33 rfl rfl ?_
          obtain ⟨q8, e_q8, hf⟩ := hf
          refine ge_6_0 (pc := 34) X (fun w h => inM w (inG6 w h)) k7 t3 e_q8 dX6_statement_34 ?_
          refine v_iload_n (pc := 37) X 0 dX6_statement_37 rfl rfl ?_
          refine v_iconst (pc := 38) X (v := (1 : Int32)) dX6_statement_38 (by decide) ?_
          refine v_iload_n (pc := 39) X 3 dX6_statement_39 rfl rfl ?_
          refine v_iadd (pc := 40) X dX6_statement_40 ?_
          refine v_callSI (pc := 41) X (As := [.int r4, .int ((1 : Int32) + p2)]) (rest := [.ref q8]) (c_X6_ofOpen l D cA L sh r4 ((1 : Int32) + p2) h5 _ hf) (va_cwS 2 X.ht (gwS inM q_539 q_540 q_7 q_541) rfl rfl rfl (by decide +kernel) ⟨Nat.le_of_ble_eq_true rfl, Nat.le_of_ble_eq_true rfl⟩) rfl rfl (Nat.le_of_ble_eq_true rfl) ⟨Nat.zero_le _, Nat.zero_le _⟩ dX6_statement_41 (fun r9 h10 hf => ?_)
          obtain ⟨t11, hf⟩ := hf
          obtain ⟨b13, v12, e_v12, hf⟩ := hf
          refine v_iald (pc := 44) X t11 b13 e_v12 dX6_statement_44 ?_
          refine v_goto (pc := 45) X 53 dX6_statement_45 (by decide) ?_
          exact v_iret (pc := 53) X hr hlk dX6_statement_53 hf
      · replace hf := if_f c hf
        refine v_bipush (pc := 25) X (v := (-4 : Int32)) dX6_statement_25 (by decide) ?_
        exact v_iret (pc := 27) X hr hlk dX6_statement_27 hf
    · replace hf := if_t c hf
      refine v_iconst (pc := 13) X (v := (-1 : Int32)) dX6_statement_13 (by decide) ?_
      exact v_iret (pc := 14) X hr hlk dX6_statement_14 hf
set_option maxHeartbeats 4000000 in
set_option maxRecDepth 100000 in
theorem c_X6_tableOf (l : Launch) (D : va_G) (cA : Nat → ClassId) (L : List Nat) (sh : Sh) (a0 : Nat) (p1 : Int32) (p2 : Int32) (h : Hp) (K : Int32 → Hp → Prop) (hf : f_X6_tableOf sh a0 p1 p2 h K) : Met l yX6_tableOf (wM yX6_tableOf cX6_tableOf 3 (some .int)) ({ frames := 4, cells := 0, slots := 0, locals := 92 } : Room) (PreM D cA L sh h [.ref a0, .int p1, .int p2]) (QI D cA L sh K) 0 0 (fun q => q ∈ L) := by
  refine met_v (cc := cX6_tableOf) (nL := 3) (ret := (some .int)) [(0, .ref a0), (1, .int p1), (2, .int p2)] (by decide) rfl (Nat.le_of_ble_eq_true rfl) rfl ?_
  intro p e s0 m below meth c X hr hlk
  have k7 := X.ht _ (inM _ q_485)
  unfold f_X6_tableOf at hf
  refine v_iload_n (pc := 0) X 1 dX6_tableOf_0 rfl rfl ?_
  refine v_callSI (pc := 1) X (As := [.int p1]) (rest := []) (c_X6_isTable l D cA L sh p1 h _ hf) (va_cwS 1 X.ht (gwS inM q_530 q_531 q_7 q_532) rfl rfl rfl (by decide +kernel) ⟨Nat.le_of_ble_eq_true rfl, Nat.le_of_ble_eq_true rfl⟩) rfl rfl (Nat.le_of_ble_eq_true rfl) ⟨Nat.zero_le _, Nat.zero_le _⟩ dX6_tableOf_1 (fun r1 h2 hf => ?_)
  refine v_if_ne (pc := 4) X 9 dX6_tableOf_4 (by decide) (fun c => ?_) (fun c => ?_)
  · replace hf := if_f c hf
    refine v_iload_n (pc := 9) X 2 dX6_tableOf_9 rfl rfl ?_
    by_cases c0 : p2 = (0 : Int32)
    · replace hf := if_t c0 hf
      refine v_tableIn (pc := 10) X (off := 34) 44 dX6_tableOf_10 (by rw [c0]; decide) (by rw [c0]; decide) (by rw [c0]; decide) (by decide) ?_
      refine v_aload_n (pc := 44) X 0 dX6_tableOf_44 rfl rfl ?_
      obtain ⟨t3, hf⟩ := hf
      obtain ⟨q4, e_q4, hf⟩ := hf
      refine ge_6_0 (pc := 45) X (fun w h => inM w (inG6 w h)) k7 t3 e_q4 dX6_tableOf_45 ?_
      refine v_iconst (pc := 48) X (v := (5 : Int32)) dX6_tableOf_48 (by decide) ?_
      refine v_iload_n (pc := 49) X 1 dX6_tableOf_49 rfl rfl ?_
      refine v_iadd (pc := 50) X dX6_tableOf_50 ?_
      obtain ⟨t5, hf⟩ := hf
      obtain ⟨b7, v6, e_v6, hf⟩ := hf
      refine v_iald (pc := 51) X t5 b7 e_v6 dX6_tableOf_51 ?_
      exact v_iret (pc := 52) X hr hlk dX6_tableOf_52 hf
    replace hf := if_f c0 hf
    by_cases c1 : p2 = (1 : Int32)
    · replace hf := if_t c1 hf
      refine v_tableIn (pc := 10) X (off := 43) 53 dX6_tableOf_10 (by rw [c1]; decide) (by rw [c1]; decide) (by rw [c1]; decide) (by decide) ?_
      refine v_aload_n (pc := 53) X 0 dX6_tableOf_53 rfl rfl ?_
      obtain ⟨t8, hf⟩ := hf
      obtain ⟨q9, e_q9, hf⟩ := hf
      refine ge_6_0 (pc := 54) X (fun w h => inM w (inG6 w h)) k7 t8 e_q9 dX6_tableOf_54 ?_
      refine v_bipush (pc := 57) X (v := (11 : Int32)) dX6_tableOf_57 (by decide) ?_
      refine v_iload_n (pc := 59) X 1 dX6_tableOf_59 rfl rfl ?_
      refine v_iadd (pc := 60) X dX6_tableOf_60 ?_
      obtain ⟨t10, hf⟩ := hf
      obtain ⟨b12, v11, e_v11, hf⟩ := hf
      refine v_iald (pc := 61) X t10 b12 e_v11 dX6_tableOf_61 ?_
      exact v_iret (pc := 62) X hr hlk dX6_tableOf_62 hf
    replace hf := if_f c1 hf
    by_cases c2 : p2 = (2 : Int32)
    · replace hf := if_t c2 hf
      refine v_tableIn (pc := 10) X (off := 53) 63 dX6_tableOf_10 (by rw [c2]; decide) (by rw [c2]; decide) (by rw [c2]; decide) (by decide) ?_
      refine v_aload_n (pc := 63) X 0 dX6_tableOf_63 rfl rfl ?_
      refine v_iload_n (pc := 64) X 1 dX6_tableOf_64 rfl rfl ?_
      obtain ⟨t13, hf⟩ := hf
      refine v_callVI (pc := 65) X (As := [.int p1]) (rest := []) (c_X6_leastVersion l D cA L sh a0 p1 h2 _ hf) (cwV 1 X.ht (gwV inM q_631 q_632 q_770 q_7 q_633) rfl rfl rfl (by decide +kernel) ⟨Nat.le_of_ble_eq_true rfl, Nat.le_of_ble_eq_true rfl⟩) rfl (by decide) t13 (ent_6 t13) rfl rfl (Nat.le_of_ble_eq_true rfl) ⟨Nat.zero_le _, Nat.zero_le _⟩ dX6_tableOf_65 (fun r14 h15 hf => ?_)
      exact v_iret (pc := 68) X hr hlk dX6_tableOf_68 hf
    replace hf := if_f c2 hf
    by_cases c3 : p2 = (3 : Int32)
    · replace hf := if_t c3 hf
      refine v_tableIn (pc := 10) X (off := 59) 69 dX6_tableOf_10 (by rw [c3]; decide) (by rw [c3]; decide) (by rw [c3]; decide) (by decide) ?_
      refine v_aload_n (pc := 69) X 0 dX6_tableOf_69 rfl rfl ?_
      refine v_iload_n (pc := 70) X 1 dX6_tableOf_70 rfl rfl ?_
      obtain ⟨t16, hf⟩ := hf
      refine v_callVI (pc := 71) X (As := [.int p1]) (rest := []) (c_X6_hands l D cA L sh a0 p1 h2 _ hf) (cwV 1 X.ht (gwV inM q_634 q_635 q_771 q_7 q_636) rfl rfl rfl (by decide +kernel) ⟨Nat.le_of_ble_eq_true rfl, Nat.le_of_ble_eq_true rfl⟩) rfl (by decide) t16 (ent_6 t16) rfl rfl (Nat.le_of_ble_eq_true rfl) ⟨Nat.zero_le _, Nat.zero_le _⟩ dX6_tableOf_71 (fun r17 h18 hf => ?_)
      exact v_iret (pc := 74) X hr hlk dX6_tableOf_74 hf
    replace hf := if_f c3 hf
    by_cases c4 : p2 = (4 : Int32)
    · replace hf := if_t c4 hf
      refine v_tableIn (pc := 10) X (off := 65) 75 dX6_tableOf_10 (by rw [c4]; decide) (by rw [c4]; decide) (by rw [c4]; decide) (by decide) ?_
      refine v_aload_n (pc := 75) X 0 dX6_tableOf_75 rfl rfl ?_
      refine v_iload_n (pc := 76) X 1 dX6_tableOf_76 rfl rfl ?_
      obtain ⟨t19, hf⟩ := hf
      refine v_callVI (pc := 77) X (As := [.int p1]) (rest := []) (c_X6_inWay l D cA L sh a0 p1 h2 _ hf) (cwV 1 X.ht (gwV inM q_536 q_537 q_749 q_7 q_538) rfl rfl rfl (by decide +kernel) ⟨Nat.le_of_ble_eq_true rfl, Nat.le_of_ble_eq_true rfl⟩) rfl (by decide) t19 (ent_6 t19) rfl rfl (Nat.le_of_ble_eq_true rfl) ⟨Nat.zero_le _, Nat.zero_le _⟩ dX6_tableOf_77 (fun r20 h21 hf => ?_)
      refine v_bipush (pc := 80) X (v := (-4 : Int32)) dX6_tableOf_80 (by decide) ?_
      refine v_icmp_ne (pc := 82) X 89 dX6_tableOf_82 (by decide) (fun c => ?_) (fun c => ?_)
      · replace hf := if_f c hf
        refine v_iconst (pc := 89) X (v := (0 : Int32)) dX6_tableOf_89 (by decide) ?_
        exact v_iret (pc := 90) X hr hlk dX6_tableOf_90 hf
      · replace hf := if_t c hf
        refine v_iconst (pc := 85) X (v := (1 : Int32)) dX6_tableOf_85 (by decide) ?_
        refine v_goto (pc := 86) X 90 dX6_tableOf_86 (by decide) ?_
        exact v_iret (pc := 90) X hr hlk dX6_tableOf_90 hf
    replace hf := if_f c4 hf
    refine v_tableOut (pc := 10) X 91 dX6_tableOf_10 (tab_out_0_4 c0 c1 c2 c3 c4) (by decide) ?_
    refine v_iconst (pc := 91) X (v := (-1 : Int32)) dX6_tableOf_91 (by decide) ?_
    exact v_iret (pc := 92) X hr hlk dX6_tableOf_92 hf
  · replace hf := if_t c hf
    refine v_iconst (pc := 7) X (v := (-1 : Int32)) dX6_tableOf_7 (by decide) ?_
    exact v_iret (pc := 8) X hr hlk dX6_tableOf_8 hf
set_option maxHeartbeats 4000000 in
set_option maxRecDepth 100000 in
theorem c_X6_tick (l : Launch) (D : va_G) (cA : Nat → ClassId) (L : List Nat) (sh : Sh) (a0 : Nat) (p1 : Int32) (h : Hp) (K : Int32 → Hp → Prop) (hf : f_X6_tick sh a0 p1 h K) : Met l yX6_tick (wM yX6_tick cX6_tick 2 (some .int)) ({ frames := 7, cells := 0, slots := 0, locals := 160 } : Room) (PreM D cA L sh h [.ref a0, .int p1]) (QI D cA L sh K) 0 0 (fun q => q ∈ L) := by
  refine met_v (cc := cX6_tick) (nL := 2) (ret := (some .int)) [(0, .ref a0), (1, .int p1)] (by decide) rfl (Nat.le_of_ble_eq_true rfl) rfl ?_
  intro p e s0 m below meth c X hr hlk
  unfold f_X6_tick at hf
  refine v_iload_n (pc := 0) X 1 dX6_tick_0 rfl rfl ?_
  refine v_iconst (pc := 1) X (v := (1 : Int32)) dX6_tick_1 (by decide) ?_
  refine v_bipush (pc := 2) X (v := (99 : Int32)) dX6_tick_2 (by decide) ?_
  refine v_callSI (pc := 4) X (As := [.int p1, .int (1 : Int32), .int (99 : Int32)]) (rest := []) (c_X6_in l D cA L sh p1 (1 : Int32) (99 : Int32) h _ hf) (va_cwS 3 X.ht (gwS inM q_533 q_534 q_7 q_535) rfl rfl rfl (by decide +kernel) ⟨Nat.le_of_ble_eq_true rfl, Nat.le_of_ble_eq_true rfl⟩) rfl rfl (Nat.le_of_ble_eq_true rfl) ⟨Nat.zero_le _, Nat.zero_le _⟩ dX6_tick_4 (fun r1 h2 hf => ?_)
  refine v_if_ne (pc := 7) X 12 dX6_tick_7 (by decide) (fun c => ?_) (fun c => ?_)
  · replace hf := if_f c hf
    refine v_aload_n (pc := 12) X 0 dX6_tick_12 rfl rfl ?_
    obtain ⟨t3, hf⟩ := hf
    refine v_callVV (pc := 13) X (As := []) (rest := []) (c_X6_know l D cA L sh a0 h2 _ hf) (cwV 0 X.ht (gwV inM q_542 q_543 q_750 q_7 q_544) rfl rfl rfl (by decide +kernel) ⟨Nat.le_of_ble_eq_true rfl, Nat.le_of_ble_eq_true rfl⟩) rfl (by decide) t3 (ent_6 t3) rfl rfl (Nat.le_of_ble_eq_true rfl) ⟨Nat.zero_le _, Nat.zero_le _⟩ dX6_tick_13 (fun h5 hf => ?_)
    refine v_aload_n (pc := 16) X 0 dX6_tick_16 rfl rfl ?_
    refine v_iload_n (pc := 17) X 1 dX6_tick_17 rfl rfl ?_
    refine v_callVI (pc := 18) X (As := [.int p1]) (rest := []) (c_X6_ticks l D cA L sh a0 p1 h5 _ hf) (cwV 1 X.ht (gwV inM q_620 q_621 q_769 q_7 q_622) rfl rfl rfl (by decide +kernel) ⟨Nat.le_of_ble_eq_true rfl, Nat.le_of_ble_eq_true rfl⟩) rfl (by decide) t3 (ent_6 t3) rfl rfl (Nat.le_of_ble_eq_true rfl) ⟨Nat.zero_le _, Nat.zero_le _⟩ dX6_tick_18 (fun r6 h7 hf => ?_)
    exact v_iret (pc := 21) X hr hlk dX6_tick_21 hf
  · replace hf := if_t c hf
    refine v_iconst (pc := 10) X (v := (-1 : Int32)) dX6_tick_10 (by decide) ?_
    exact v_iret (pc := 11) X hr hlk dX6_tick_11 hf
set_option maxHeartbeats 4000000 in
set_option maxRecDepth 100000 in
theorem c_X6_type (l : Launch) (D : va_G) (cA : Nat → ClassId) (L : List Nat) (sh : Sh) (a0 : Nat) (p1 : Int32) (h : Hp) (K : Int32 → Hp → Prop) (hf : f_X6_type sh a0 p1 h K) : Met l yX6_type (wM yX6_type cX6_type 2 (some .int)) ({ frames := 1, cells := 0, slots := 0, locals := 22 } : Room) (PreM D cA L sh h [.ref a0, .int p1]) (QI D cA L sh K) 0 0 (fun q => q ∈ L) := by
  refine met_v (cc := cX6_type) (nL := 2) (ret := (some .int)) [(0, .ref a0), (1, .int p1)] (by decide) rfl (Nat.le_of_ble_eq_true rfl) rfl ?_
  intro p e s0 m below meth c X hr hlk
  have k145 := X.ht _ (inM _ q_492)
  have k22 := X.ht _ (inM _ q_491)
  unfold f_X6_type at hf
  refine v_iload_n (pc := 0) X 1 dX6_type_0 rfl rfl ?_
  refine v_bipush (pc := 1) X (v := (32 : Int32)) dX6_type_1 (by decide) ?_
  refine v_bipush (pc := 3) X (v := (126 : Int32)) dX6_type_3 (by decide) ?_
  refine v_callSI (pc := 5) X (As := [.int p1, .int (32 : Int32), .int (126 : Int32)]) (rest := []) (c_X6_in l D cA L sh p1 (32 : Int32) (126 : Int32) h _ hf) (va_cwS 3 X.ht (gwS inM q_533 q_534 q_7 q_535) rfl rfl rfl (by decide +kernel) ⟨Nat.le_of_ble_eq_true rfl, Nat.le_of_ble_eq_true rfl⟩) rfl rfl (Nat.le_of_ble_eq_true rfl) ⟨Nat.zero_le _, Nat.zero_le _⟩ dX6_type_5 (fun r1 h2 hf => ?_)
  refine v_if_ne (pc := 8) X 13 dX6_type_8 (by decide) (fun c => ?_) (fun c => ?_)
  · replace hf := if_f c hf
    refine v_aload_n (pc := 13) X 0 dX6_type_13 rfl rfl ?_
    obtain ⟨t3, hf⟩ := hf
    obtain ⟨v4, e_v4, hf⟩ := hf
    refine ge_6_7 (pc := 14) X (fun w h => inM w (inG6 w h)) k145 t3 e_v4 dX6_type_14 ?_
    refine v_bipush (pc := 17) X (v := (60 : Int32)) dX6_type_17 (by decide) ?_
    refine v_icmp_ne (pc := 19) X 25 dX6_type_19 (by decide) (fun c => ?_) (fun c => ?_)
    · replace hf := if_f c hf
      refine v_aload_n (pc := 25) X 0 dX6_type_25 rfl rfl ?_
      obtain ⟨q5, e_q5, hf⟩ := hf
      refine ge_6_6 (pc := 26) X (fun w h => inM w (inG6 w h)) k22 t3 e_q5 dX6_type_26 ?_
      refine v_aload_n (pc := 29) X 0 dX6_type_29 rfl rfl ?_
      obtain ⟨v6, e_v6, hf⟩ := hf
      refine ge_6_7 (pc := 30) X (fun w h => inM w (inG6 w h)) k145 t3 e_v6 dX6_type_30 ?_
      refine v_iload_n (pc := 33) X 1 dX6_type_33 rfl rfl ?_
      obtain ⟨t7, hf⟩ := hf
      obtain ⟨b9, h8, e_h8, hf⟩ := hf
      refine v_iast (pc := 34) X t7 b9 e_h8 dX6_type_34 ?_
      refine v_aload_n (pc := 35) X 0 dX6_type_35 rfl rfl ?_
      refine v_dup (pc := 36) X dX6_type_36 rfl ?_
      obtain ⟨v10, e_v10, hf⟩ := hf
      refine ge_6_7 (pc := 37) X (fun w h => inM w (inG6 w h)) k145 t3 e_v10 dX6_type_37 ?_
      refine v_iconst (pc := 40) X (v := (1 : Int32)) dX6_type_40 (by decide) ?_
      refine v_iadd (pc := 41) X dX6_type_41 ?_
      obtain ⟨h11, e_h11, hf⟩ := hf
      refine pu_6_7 (pc := 42) X (fun w h => inM w (inG6 w h)) k145 t3 e_h11 dX6_type_42 ?_
      refine v_aload_n (pc := 45) X 0 dX6_type_45 rfl rfl ?_
      obtain ⟨v12, e_v12, hf⟩ := hf
      refine ge_6_7 (pc := 46) X (fun w h => inM w (inG6 w h)) k145 t3 e_v12 dX6_type_46 ?_
      exact v_iret (pc := 49) X hr hlk dX6_type_49 hf
    · replace hf := if_t c hf
      refine v_bipush (pc := 22) X (v := (-3 : Int32)) dX6_type_22 (by decide) ?_
      exact v_iret (pc := 24) X hr hlk dX6_type_24 hf
  · replace hf := if_t c hf
    refine v_iconst (pc := 11) X (v := (-1 : Int32)) dX6_type_11 (by decide) ?_
    exact v_iret (pc := 12) X hr hlk dX6_type_12 hf
set_option maxHeartbeats 4000000 in
set_option maxRecDepth 100000 in
theorem w_X6_undo_22 {p : Program} {l : Launch} {e : Env} {s0 : State} {m : MethodId} {args : Array Value} {below : List Frame} {meth : Method} {c : Code} {D : va_G} {cA : Nat → ClassId} {L : List Nat} {sh : Sh} (X : Cx p s0 m c args cX6_undo 2 (wM yX6_undo cX6_undo 2 (some .int)) RX6 (fun q => q ∈ L) D cA L sh) (hr : meth.sig.returnType = (some .int)) (hlk : meth.locks = false) (x0 : Nat) (Xc : Hp → Prop) (K : Int32 → Hp → Prop) (hx : ∀  (h1 : Hp), Xc  h1 → V p l e (headSpec (wM yX6_undo cX6_undo 2 (some .int)) ({ frames := 0, cells := 0, slots := 0, locals := 0 } : Room)).room s0 m args below meth c (MQ below (QI D cA L sh K) args s0 0 0 (fun q => q ∈ L)) (fun q => q ∈ L) 0 0 D cA L sh 2 h1 56 [(0, .ref x0)] []) : ∀ (n : Nat) (s : Int32) (h : Hp), lp (b_X6_undo_22 sh x0 Xc) n s h → V p l e (headSpec (wM yX6_undo cX6_undo 2 (some .int)) ({ frames := 0, cells := 0, slots := 0, locals := 0 } : Room)).room s0 m args below meth c (MQ below (QI D cA L sh K) args s0 0 0 (fun q => q ∈ L)) (fun q => q ∈ L) 0 0 D cA L sh 2 h 22 [(0, .ref x0), (1, .int s)] [] := by
  have k42 := X.ht _ (inM _ q_488)
  have k7 := X.ht _ (inM _ q_485)
  have k16 := X.ht _ (inM _ q_487)
  intro n
  induction n with
  | zero => intro s h hf; exact hf.elim
  | succ n ih =>
    intro s h hf
    replace hf : b_X6_undo_22 sh x0 Xc (lp (b_X6_undo_22 sh x0 Xc) n) s h := hf
    unfold b_X6_undo_22 at hf
    refine v_iload_n (pc := 22) X 1 dX6_undo_22 rfl rfl ?_
    refine v_sipush (pc := 23) X (v := (623 : Int32)) dX6_undo_23 (by decide) ?_
    refine v_icmp_ge (pc := 26) X 56 dX6_undo_26 (by decide) (fun c => ?_) (fun c => ?_)
    · replace hf := if_t c hf
      refine v_sub [0] rfl ?_
      exact hx h hf
    · replace hf := if_f c hf
      refine v_aload_n (pc := 29) X 0 dX6_undo_29 rfl rfl ?_
      obtain ⟨t5, hf⟩ := hf
      obtain ⟨q6, e_q6, hf⟩ := hf
      refine ge_6_0 (pc := 30) X (fun w h => inM w (inG6 w h)) k7 t5 e_q6 dX6_undo_30 ?_
      refine v_iload_n (pc := 33) X 1 dX6_undo_33 rfl rfl ?_
      refine v_aload_n (pc := 34) X 0 dX6_undo_34 rfl rfl ?_
      obtain ⟨q7, e_q7, hf⟩ := hf
      refine ge_6_2 (pc := 35) X (fun w h => inM w (inG6 w h)) k16 t5 e_q7 dX6_undo_35 ?_
      refine v_sipush (pc := 38) X (v := (623 : Int32)) dX6_undo_38 (by decide) ?_
      refine v_aload_n (pc := 41) X 0 dX6_undo_41 rfl rfl ?_
      obtain ⟨v8, e_v8, hf⟩ := hf
      refine ge_6_3 (pc := 42) X (fun w h => inM w (inG6 w h)) k42 t5 e_v8 dX6_undo_42 ?_
      refine v_imul (pc := 45) X dX6_undo_45 ?_
      refine v_iload_n (pc := 46) X 1 dX6_undo_46 rfl rfl ?_
      refine v_iadd (pc := 47) X dX6_undo_47 ?_
      obtain ⟨t9, hf⟩ := hf
      obtain ⟨b11, v10, e_v10, hf⟩ := hf
      refine v_iald (pc := 48) X t9 b11 e_v10 dX6_undo_48 ?_
      obtain ⟨t12, hf⟩ := hf
      obtain ⟨b14, h13, e_h13, hf⟩ := hf
      refine v_iast (pc := 49) X t12 b14 e_h13 dX6_undo_49 ?_
      refine v_iinc (pc := 50) X 1 (v := s + (1 : Int32)) (lv' := [(1, .int (s + (1 : Int32))), (0, .ref x0)]) dX6_undo_50 rfl rfl (Nat.le_of_ble_eq_true rfl) rfl ?_
      refine v_goto (pc := 53) X 22 dX6_undo_53 (by decide) ?_
      refine v_sub [1, 0] rfl ?_
      exact ih (s + (1 : Int32)) h13 hf

set_option maxHeartbeats 4000000 in
set_option maxRecDepth 100000 in
theorem c_X6_undo (l : Launch) (D : va_G) (cA : Nat → ClassId) (L : List Nat) (sh : Sh) (a0 : Nat) (h : Hp) (K : Int32 → Hp → Prop) (hf : f_X6_undo sh a0 h K) : Met l yX6_undo (wM yX6_undo cX6_undo 2 (some .int)) ({ frames := 0, cells := 0, slots := 0, locals := 0 } : Room) (PreM D cA L sh h [.ref a0]) (QI D cA L sh K) 0 0 (fun q => q ∈ L) := by
  refine met_v (cc := cX6_undo) (nL := 2) (ret := (some .int)) [(0, .ref a0)] (by decide) rfl (Nat.le_of_ble_eq_true rfl) rfl ?_
  intro p e s0 m below meth c X hr hlk
  have k42 := X.ht _ (inM _ q_488)
  have k7 := X.ht _ (inM _ q_485)
  have k16 := X.ht _ (inM _ q_487)
  unfold f_X6_undo at hf
  refine v_aload_n (pc := 0) X 0 dX6_undo_0 rfl rfl ?_
  obtain ⟨t1, hf⟩ := hf
  obtain ⟨v2, e_v2, hf⟩ := hf
  refine ge_6_3 (pc := 1) X (fun w h => inM w (inG6 w h)) k42 t1 e_v2 dX6_undo_1 ?_
  refine v_if_ne (pc := 4) X 10 dX6_undo_4 (by decide) (fun c => ?_) (fun c => ?_)
  · replace hf := if_f c hf
    refine v_aload_n (pc := 10) X 0 dX6_undo_10 rfl rfl ?_
    refine v_dup (pc := 11) X dX6_undo_11 rfl ?_
    obtain ⟨v3, e_v3, hf⟩ := hf
    refine ge_6_3 (pc := 12) X (fun w h => inM w (inG6 w h)) k42 t1 e_v3 dX6_undo_12 ?_
    refine v_iconst (pc := 15) X (v := (1 : Int32)) dX6_undo_15 (by decide) ?_
    refine v_isub (pc := 16) X dX6_undo_16 ?_
    obtain ⟨h4, e_h4, hf⟩ := hf
    refine pu_6_3 (pc := 17) X (fun w h => inM w (inG6 w h)) k42 t1 e_h4 dX6_undo_17 ?_
    refine v_iconst (pc := 20) X (v := (0 : Int32)) dX6_undo_20 (by decide) ?_
    refine v_istore_n (pc := 21) X (i := 1) (lv' := [(1, .int (0 : Int32)), (0, .ref a0)]) dX6_undo_21 rfl (Nat.le_of_ble_eq_true rfl) rfl ?_
    obtain ⟨n, hf⟩ := hf
    refine v_sub [1, 0] rfl ?_
    refine w_X6_undo_22 X hr hlk a0 _ K (fun  h15 hf => ?_) n (0 : Int32) h4 hf
    refine v_aload_n (pc := 56) X 0 dX6_undo_56 rfl rfl ?_
    obtain ⟨v16, e_v16, hf⟩ := hf
    refine ge_6_3 (pc := 57) X (fun w h => inM w (inG6 w h)) k42 t1 e_v16 dX6_undo_57 ?_
    exact v_iret (pc := 60) X hr hlk dX6_undo_60 hf
  · replace hf := if_t c hf
    refine v_bipush (pc := 7) X (v := (-2 : Int32)) dX6_undo_7 (by decide) ?_
    exact v_iret (pc := 9) X hr hlk dX6_undo_9 hf
set_option maxHeartbeats 4000000 in
set_option maxRecDepth 100000 in
theorem c_X6_would (l : Launch) (D : va_G) (cA : Nat → ClassId) (L : List Nat) (sh : Sh) (a0 : Nat) (p1 : Int32) (p2 : Int32) (p3 : Int32) (h : Hp) (K : Int32 → Hp → Prop) (hf : f_X6_would sh a0 p1 p2 p3 h K) : Met l yX6_would (wM yX6_would cX6_would 7 (some .int)) ({ frames := 6, cells := 0, slots := 0, locals := 141 } : Room) (PreM D cA L sh h [.ref a0, .int p1, .int p2, .int p3]) (QI D cA L sh K) 0 0 (fun q => q ∈ L) := by
  refine met_v (cc := cX6_would) (nL := 7) (ret := (some .int)) [(0, .ref a0), (1, .int p1), (2, .int p2), (3, .int p3)] (by decide) rfl (Nat.le_of_ble_eq_true rfl) rfl ?_
  intro p e s0 m below meth c X hr hlk
  have k7 := X.ht _ (inM _ q_485)
  have k13 := X.ht _ (inM _ q_486)
  unfold f_X6_would at hf
  refine v_iload_n (pc := 0) X 1 dX6_would_0 rfl rfl ?_
  refine v_callSI (pc := 1) X (As := [.int p1]) (rest := []) (c_X6_isSession l D cA L sh p1 h _ hf) (va_cwS 1 X.ht (gwS inM q_573 q_574 q_7 q_575) rfl rfl rfl (by decide +kernel) ⟨Nat.le_of_ble_eq_true rfl, Nat.le_of_ble_eq_true rfl⟩) rfl rfl (Nat.le_of_ble_eq_true rfl) ⟨Nat.zero_le _, Nat.zero_le _⟩ dX6_would_1 (fun r1 h2 hf => ?_)
  refine v_if_eq (pc := 4) X 26 dX6_would_4 (by decide) (fun c => ?_) (fun c => ?_)
  · replace hf := if_t c hf
    refine v_iconst (pc := 26) X (v := (-1 : Int32)) dX6_would_26 (by decide) ?_
    exact v_iret (pc := 27) X hr hlk dX6_would_27 hf
  · replace hf := if_f c hf
    refine v_iload_n (pc := 7) X 2 dX6_would_7 rfl rfl ?_
    refine v_iconst (pc := 8) X (v := (1 : Int32)) dX6_would_8 (by decide) ?_
    refine v_bipush (pc := 9) X (v := (63 : Int32)) dX6_would_9 (by decide) ?_
    refine v_callSI (pc := 11) X (As := [.int p2, .int (1 : Int32), .int (63 : Int32)]) (rest := []) (c_X6_in l D cA L sh p2 (1 : Int32) (63 : Int32) h2 _ hf) (va_cwS 3 X.ht (gwS inM q_533 q_534 q_7 q_535) rfl rfl rfl (by decide +kernel) ⟨Nat.le_of_ble_eq_true rfl, Nat.le_of_ble_eq_true rfl⟩) rfl rfl (Nat.le_of_ble_eq_true rfl) ⟨Nat.zero_le _, Nat.zero_le _⟩ dX6_would_11 (fun r3 h4 hf => ?_)
    refine v_if_eq (pc := 14) X 26 dX6_would_14 (by decide) (fun c => ?_) (fun c => ?_)
    · replace hf := if_t c hf
      refine v_iconst (pc := 26) X (v := (-1 : Int32)) dX6_would_26 (by decide) ?_
      exact v_iret (pc := 27) X hr hlk dX6_would_27 hf
    · replace hf := if_f c hf
      refine v_iload_n (pc := 17) X 3 dX6_would_17 rfl rfl ?_
      refine v_iconst (pc := 18) X (v := (0 : Int32)) dX6_would_18 (by decide) ?_
      refine v_iconst (pc := 19) X (v := (3 : Int32)) dX6_would_19 (by decide) ?_
      refine v_callSI (pc := 20) X (As := [.int p3, .int (0 : Int32), .int (3 : Int32)]) (rest := []) (c_X6_in l D cA L sh p3 (0 : Int32) (3 : Int32) h4 _ hf) (va_cwS 3 X.ht (gwS inM q_533 q_534 q_7 q_535) rfl rfl rfl (by decide +kernel) ⟨Nat.le_of_ble_eq_true rfl, Nat.le_of_ble_eq_true rfl⟩) rfl rfl (Nat.le_of_ble_eq_true rfl) ⟨Nat.zero_le _, Nat.zero_le _⟩ dX6_would_20 (fun r5 h6 hf => ?_)
      refine v_if_ne (pc := 23) X 28 dX6_would_23 (by decide) (fun c => ?_) (fun c => ?_)
      · replace hf := if_f c hf
        refine v_aload_n (pc := 28) X 0 dX6_would_28 rfl rfl ?_
        obtain ⟨t7, hf⟩ := hf
        refine v_callVV (pc := 29) X (As := []) (rest := []) (c_X6_putAside l D cA L sh a0 h6 _ hf) (cwV 0 X.ht (gwV inM q_576 q_577 q_757 q_7 q_578) rfl rfl rfl (by decide +kernel) ⟨Nat.le_of_ble_eq_true rfl, Nat.le_of_ble_eq_true rfl⟩) rfl (by decide) t7 (ent_6 t7) rfl rfl (Nat.le_of_ble_eq_true rfl) ⟨Nat.zero_le _, Nat.zero_le _⟩ dX6_would_29 (fun h9 hf => ?_)
        refine v_aload_n (pc := 32) X 0 dX6_would_32 rfl rfl ?_
        refine v_iload_n (pc := 33) X 1 dX6_would_33 rfl rfl ?_
        refine v_iload_n (pc := 34) X 2 dX6_would_34 rfl rfl ?_
        refine v_callVI (pc := 35) X (As := [.int p1, .int p2]) (rest := []) (c_X6_starts l D cA L sh a0 p1 p2 h9 _ hf) (cwV 2 X.ht (gwV inM q_579 q_580 q_758 q_7 q_581) rfl rfl rfl (by decide +kernel) ⟨Nat.le_of_ble_eq_true rfl, Nat.le_of_ble_eq_true rfl⟩) rfl (by decide) t7 (ent_6 t7) rfl rfl (Nat.le_of_ble_eq_true rfl) ⟨Nat.zero_le _, Nat.zero_le _⟩ dX6_would_35 (fun r10 h11 hf => ?_)
        refine v_istore (pc := 38) X (i := 4) (lv' := [(4, .int r10), (0, .ref a0), (1, .int p1), (2, .int p2), (3, .int p3)]) dX6_would_38 (Nat.le_of_ble_eq_true rfl) rfl ?_
        refine v_iload_n (pc := 40) X 4 dX6_would_40 rfl rfl ?_
        refine v_iconst (pc := 41) X (v := (3 : Int32)) dX6_would_41 (by decide) ?_
        refine v_icmp_ne (pc := 42) X 53 dX6_would_42 (by decide) (fun c => ?_) (fun c => ?_)
        · replace hf := if_f c hf
          refine v_iload_n (pc := 53) X 2 dX6_would_53 rfl rfl ?_
          refine v_iconst (pc := 54) X (v := (1 : Int32)) dX6_would_54 (by decide) ?_
          refine v_iload_n (pc := 55) X 4 dX6_would_55 rfl rfl ?_
          refine v_iadd (pc := 56) X dX6_would_56 ?_
          refine v_callSI (pc := 57) X (As := [.int p1, .int ((1 : Int32) + p3)]) (rest := []) (c_X6_of l D cA L sh p1 ((1 : Int32) + p3) h11 _ hf) (va_cwS 2 X.ht (gwS inM q_551 q_552 q_7 q_553) rfl rfl rfl (by decide +kernel) ⟨Nat.le_of_ble_eq_true rfl, Nat.le_of_ble_eq_true rfl⟩) rfl rfl (Nat.le_of_ble_eq_true rfl) ⟨Nat.zero_le _, Nat.zero_le _⟩ dX6_would_57 (fun r12 h13 hf => ?_)
          refine v_istore (pc := 60) X (i := 5) (lv' := [(5, .int r12), (4, .int r10), (0, .ref a0), (1, .int p1), (2, .int p2), (3, .int p3)]) dX6_would_60 (Nat.le_of_ble_eq_true rfl) rfl ?_
          refine v_aload_n (pc := 62) X 2 dX6_would_62 rfl rfl ?_
          obtain ⟨q14, e_q14, hf⟩ := hf
          refine ge_6_0 (pc := 63) X (fun w h => inM w (inG6 w h)) k7 t7 e_q14 dX6_would_63 ?_
          refine v_iload (pc := 66) X 0 dX6_would_66 rfl ?_
          obtain ⟨t15, hf⟩ := hf
          obtain ⟨b17, v16, e_v16, hf⟩ := hf
          refine v_iald (pc := 68) X t15 b17 e_v16 dX6_would_68 ?_
          refine v_aload_n (pc := 69) X 2 dX6_would_69 rfl rfl ?_
          obtain ⟨q18, e_q18, hf⟩ := hf
          refine ge_6_1 (pc := 70) X (fun w h => inM w (inG6 w h)) k13 t7 e_q18 dX6_would_70 ?_
          refine v_iload (pc := 73) X 0 dX6_would_73 rfl ?_
          obtain ⟨t19, hf⟩ := hf
          obtain ⟨b21, v20, e_v20, hf⟩ := hf
          refine v_iald (pc := 75) X t19 b21 e_v20 dX6_would_75 ?_
          refine v_isub (pc := 76) X dX6_would_76 ?_
          refine v_istore (pc := 77) X (i := 6) (lv' := [(6, .int (v16 - v20)), (5, .int r12), (4, .int r10), (0, .ref a0), (1, .int p1), (2, .int p2), (3, .int p3)]) dX6_would_77 (Nat.le_of_ble_eq_true rfl) rfl ?_
          refine v_aload_n (pc := 79) X 3 dX6_would_79 rfl rfl ?_
          refine v_callVV (pc := 80) X (As := []) (rest := []) (c_X6_putBack l D cA L sh a0 h13 _ hf) (cwV 0 X.ht (gwV inM q_600 q_601 q_765 q_7 q_602) rfl rfl rfl (by decide +kernel) ⟨Nat.le_of_ble_eq_true rfl, Nat.le_of_ble_eq_true rfl⟩) rfl (by decide) t7 (ent_6 t7) rfl rfl (Nat.le_of_ble_eq_true rfl) ⟨Nat.zero_le _, Nat.zero_le _⟩ dX6_would_80 (fun h23 hf => ?_)
          refine v_iload (pc := 83) X 2 dX6_would_83 rfl ?_
          refine v_if_ge (pc := 85) X 93 dX6_would_85 (by decide) (fun c => ?_) (fun c => ?_)
          · replace hf := if_t c hf
            refine v_iload (pc := 93) X 0 dX6_would_93 rfl ?_
            exact v_iret (pc := 95) X hr hlk dX6_would_95 hf
          · replace hf := if_f c hf
            refine v_iload (pc := 88) X 2 dX6_would_88 rfl ?_
            refine v_goto (pc := 90) X 95 dX6_would_90 (by decide) ?_
            exact v_iret (pc := 95) X hr hlk dX6_would_95 hf
        · replace hf := if_t c hf
          refine v_iload_n (pc := 45) X 2 dX6_would_45 rfl rfl ?_
          refine v_iconst (pc := 46) X (v := (0 : Int32)) dX6_would_46 (by decide) ?_
          refine v_callSI (pc := 47) X (As := [.int p1, .int (0 : Int32)]) (rest := []) (c_X6_of l D cA L sh p1 (0 : Int32) h11 _ hf) (va_cwS 2 X.ht (gwS inM q_551 q_552 q_7 q_553) rfl rfl rfl (by decide +kernel) ⟨Nat.le_of_ble_eq_true rfl, Nat.le_of_ble_eq_true rfl⟩) rfl rfl (Nat.le_of_ble_eq_true rfl) ⟨Nat.zero_le _, Nat.zero_le _⟩ dX6_would_47 (fun r24 h25 hf => ?_)
          refine v_goto (pc := 50) X 60 dX6_would_50 (by decide) ?_
          refine v_istore (pc := 60) X (i := 5) (lv' := [(5, .int r24), (4, .int r10), (0, .ref a0), (1, .int p1), (2, .int p2), (3, .int p3)]) dX6_would_60 (Nat.le_of_ble_eq_true rfl) rfl ?_
          refine v_aload_n (pc := 62) X 2 dX6_would_62 rfl rfl ?_
          obtain ⟨q26, e_q26, hf⟩ := hf
          refine ge_6_0 (pc := 63) X (fun w h => inM w (inG6 w h)) k7 t7 e_q26 dX6_would_63 ?_
          refine v_iload (pc := 66) X 0 dX6_would_66 rfl ?_
          obtain ⟨t27, hf⟩ := hf
          obtain ⟨b29, v28, e_v28, hf⟩ := hf
          refine v_iald (pc := 68) X t27 b29 e_v28 dX6_would_68 ?_
          refine v_aload_n (pc := 69) X 2 dX6_would_69 rfl rfl ?_
          obtain ⟨q30, e_q30, hf⟩ := hf
          refine ge_6_1 (pc := 70) X (fun w h => inM w (inG6 w h)) k13 t7 e_q30 dX6_would_70 ?_
          refine v_iload (pc := 73) X 0 dX6_would_73 rfl ?_
          obtain ⟨t31, hf⟩ := hf
          obtain ⟨b33, v32, e_v32, hf⟩ := hf
          refine v_iald (pc := 75) X t31 b33 e_v32 dX6_would_75 ?_
          refine v_isub (pc := 76) X dX6_would_76 ?_
          refine v_istore (pc := 77) X (i := 6) (lv' := [(6, .int (v28 - v32)), (5, .int r24), (4, .int r10), (0, .ref a0), (1, .int p1), (2, .int p2), (3, .int p3)]) dX6_would_77 (Nat.le_of_ble_eq_true rfl) rfl ?_
          refine v_aload_n (pc := 79) X 3 dX6_would_79 rfl rfl ?_
          refine v_callVV (pc := 80) X (As := []) (rest := []) (c_X6_putBack l D cA L sh a0 h25 _ hf) (cwV 0 X.ht (gwV inM q_600 q_601 q_765 q_7 q_602) rfl rfl rfl (by decide +kernel) ⟨Nat.le_of_ble_eq_true rfl, Nat.le_of_ble_eq_true rfl⟩) rfl (by decide) t7 (ent_6 t7) rfl rfl (Nat.le_of_ble_eq_true rfl) ⟨Nat.zero_le _, Nat.zero_le _⟩ dX6_would_80 (fun h35 hf => ?_)
          refine v_iload (pc := 83) X 2 dX6_would_83 rfl ?_
          refine v_if_ge (pc := 85) X 93 dX6_would_85 (by decide) (fun c => ?_) (fun c => ?_)
          · replace hf := if_t c hf
            refine v_iload (pc := 93) X 0 dX6_would_93 rfl ?_
            exact v_iret (pc := 95) X hr hlk dX6_would_95 hf
          · replace hf := if_f c hf
            refine v_iload (pc := 88) X 2 dX6_would_88 rfl ?_
            refine v_goto (pc := 90) X 95 dX6_would_90 (by decide) ?_
            exact v_iret (pc := 95) X hr hlk dX6_would_95 hf
      · replace hf := if_t c hf
        refine v_iconst (pc := 26) X (v := (-1 : Int32)) dX6_would_26 (by decide) ?_
        exact v_iret (pc := 27) X hr hlk dX6_would_27 hf

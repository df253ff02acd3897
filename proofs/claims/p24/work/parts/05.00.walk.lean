set_option maxHeartbeats 4000000 in
set_option maxRecDepth 100000 in
theorem c_X0_comesBehind (l : Launch) (D : va_G) (cA : Nat → ClassId) (L : List Nat) (sh : Sh) (a0 : Nat) (p1 : Int32) (p2 : Int32) (h : Hp) (K : Int32 → Hp → Prop) (hf : f_X0_comesBehind sh a0 p1 p2 h K) : Met l yX0_comesBehind (wM yX0_comesBehind cX0_comesBehind 3 (some .boolean)) ({ frames := 0, cells := 0, slots := 0, locals := 0 } : Room) (PreM D cA L sh h [.ref a0, .int p1, .int p2]) (QI D cA L sh K) 0 0 (fun q => q ∈ L) := by
  refine met_v (cc := cX0_comesBehind) (nL := 3) (ret := (some .boolean)) [(0, .ref a0), (1, .int p1), (2, .int p2)] (by decide) rfl (Nat.le_of_ble_eq_true rfl) rfl ?_
  intro p e s0 m below meth c X hr hlk
  have k7 := X.ht _ (inM _ q_36)
  have k13 := X.ht _ (inM _ q_40)
  unfold f_X0_comesBehind at hf
  refine v_aload_n (pc := 0) X 0 dX0_comesBehind_0 rfl rfl ?_
  obtain ⟨t1, hf⟩ := hf
  obtain ⟨v2, e_v2, hf⟩ := hf
  refine ge_0_0 (pc := 1) X (fun w h => inM w (inG0 w h)) k7 t1 e_v2 dX0_comesBehind_1 ?_
  refine v_iload_n (pc := 4) X 1 dX0_comesBehind_4 rfl rfl ?_
  refine v_icmp_gt (pc := 5) X 24 dX0_comesBehind_5 (by decide) (fun c => ?_) (fun c => ?_)
  · replace hf := if_t c hf
    refine v_iconst (pc := 24) X (v := (1 : Int32)) dX0_comesBehind_24 (by decide) ?_
    refine v_goto (pc := 25) X 29 dX0_comesBehind_25 (by decide) ?_
    exact v_zret (pc := 29) X hr hlk dX0_comesBehind_29 (by decide) hf
  · replace hf := if_f c hf
    refine v_aload_n (pc := 8) X 0 dX0_comesBehind_8 rfl rfl ?_
    obtain ⟨v3, e_v3, hf⟩ := hf
    refine ge_0_0 (pc := 9) X (fun w h => inM w (inG0 w h)) k7 t1 e_v3 dX0_comesBehind_9 ?_
    refine v_iload_n (pc := 12) X 1 dX0_comesBehind_12 rfl rfl ?_
    refine v_icmp_ne (pc := 13) X 28 dX0_comesBehind_13 (by decide) (fun c => ?_) (fun c => ?_)
    · replace hf := if_f c hf
      refine v_iconst (pc := 28) X (v := (0 : Int32)) dX0_comesBehind_28 (by decide) ?_
      exact v_zret (pc := 29) X hr hlk dX0_comesBehind_29 (by decide) hf
    · replace hf := if_t c hf
      refine v_aload_n (pc := 16) X 0 dX0_comesBehind_16 rfl rfl ?_
      obtain ⟨v4, e_v4, hf⟩ := hf
      refine ge_0_1 (pc := 17) X (fun w h => inM w (inG0 w h)) k13 t1 e_v4 dX0_comesBehind_17 ?_
      refine v_iload_n (pc := 20) X 2 dX0_comesBehind_20 rfl rfl ?_
      refine v_icmp_le (pc := 21) X 28 dX0_comesBehind_21 (by decide) (fun c => ?_) (fun c => ?_)
      · replace hf := if_t c hf
        refine v_iconst (pc := 28) X (v := (0 : Int32)) dX0_comesBehind_28 (by decide) ?_
        exact v_zret (pc := 29) X hr hlk dX0_comesBehind_29 (by decide) hf
      · replace hf := if_f c hf
        refine v_iconst (pc := 24) X (v := (1 : Int32)) dX0_comesBehind_24 (by decide) ?_
        refine v_goto (pc := 25) X 29 dX0_comesBehind_25 (by decide) ?_
        exact v_zret (pc := 29) X hr hlk dX0_comesBehind_29 (by decide) hf
set_option maxHeartbeats 4000000 in
set_option maxRecDepth 100000 in
theorem c_X0_copyFrom (l : Launch) (D : va_G) (cA : Nat → ClassId) (L : List Nat) (sh : Sh) (a0 : Nat) (p1 : Nat) (h : Hp) (K : Hp → Prop) (hf : f_X0_copyFrom sh a0 p1 h K) : Met l yX0_copyFrom (wM yX0_copyFrom cX0_copyFrom 2 none) ({ frames := 0, cells := 0, slots := 0, locals := 0 } : Room) (PreM D cA L sh h [.ref a0, .ref p1]) (QV D cA L sh K) 0 0 (fun q => q ∈ L) := by
  refine met_v (cc := cX0_copyFrom) (nL := 2) (ret := none) [(0, .ref a0), (1, .ref p1)] (by decide) rfl (Nat.le_of_ble_eq_true rfl) rfl ?_
  intro p e s0 m below meth c X hr hlk
  have k7 := X.ht _ (inM _ q_36)
  have k13 := X.ht _ (inM _ q_40)
  have k16 := X.ht _ (inM _ q_44)
  have k19 := X.ht _ (inM _ q_47)
  have k22 := X.ht _ (inM _ q_50)
  have k25 := X.ht _ (inM _ q_53)
  unfold f_X0_copyFrom at hf
  refine v_aload_n (pc := 0) X 0 dX0_copyFrom_0 rfl rfl ?_
  refine v_aload_n (pc := 1) X 1 dX0_copyFrom_1 rfl rfl ?_
  obtain ⟨t1, hf⟩ := hf
  obtain ⟨v2, e_v2, hf⟩ := hf
  refine ge_0_0 (pc := 2) X (fun w h => inM w (inG0 w h)) k7 t1 e_v2 dX0_copyFrom_2 ?_
  obtain ⟨t3, hf⟩ := hf
  obtain ⟨h4, e_h4, hf⟩ := hf
  refine pu_0_0 (pc := 5) X (fun w h => inM w (inG0 w h)) k7 t3 e_h4 dX0_copyFrom_5 ?_
  refine v_aload_n (pc := 8) X 0 dX0_copyFrom_8 rfl rfl ?_
  refine v_aload_n (pc := 9) X 1 dX0_copyFrom_9 rfl rfl ?_
  obtain ⟨v5, e_v5, hf⟩ := hf
  refine ge_0_1 (pc := 10) X (fun w h => inM w (inG0 w h)) k13 t1 e_v5 dX0_copyFrom_10 ?_
  obtain ⟨h6, e_h6, hf⟩ := hf
  refine pu_0_1 (pc := 13) X (fun w h => inM w (inG0 w h)) k13 t3 e_h6 dX0_copyFrom_13 ?_
  refine v_aload_n (pc := 16) X 0 dX0_copyFrom_16 rfl rfl ?_
  refine v_aload_n (pc := 17) X 1 dX0_copyFrom_17 rfl rfl ?_
  obtain ⟨v7, e_v7, hf⟩ := hf
  refine ge_0_2 (pc := 18) X (fun w h => inM w (inG0 w h)) k16 t1 e_v7 dX0_copyFrom_18 ?_
  obtain ⟨h8, e_h8, hf⟩ := hf
  refine pu_0_2 (pc := 21) X (fun w h => inM w (inG0 w h)) k16 t3 e_h8 dX0_copyFrom_21 ?_
  refine v_aload_n (pc := 24) X 0 dX0_copyFrom_24 rfl rfl ?_
  refine v_aload_n (pc := 25) X 1 dX0_copyFrom_25 rfl rfl ?_
  obtain ⟨v9, e_v9, hf⟩ := hf
  refine ge_0_3 (pc := 26) X (fun w h => inM w (inG0 w h)) k19 t1 e_v9 dX0_copyFrom_26 ?_
  obtain ⟨h10, e_h10, hf⟩ := hf
  refine pu_0_3 (pc := 29) X (fun w h => inM w (inG0 w h)) k19 t3 e_h10 dX0_copyFrom_29 ?_
  refine v_aload_n (pc := 32) X 0 dX0_copyFrom_32 rfl rfl ?_
  refine v_aload_n (pc := 33) X 1 dX0_copyFrom_33 rfl rfl ?_
  obtain ⟨v11, e_v11, hf⟩ := hf
  refine ge_0_4 (pc := 34) X (fun w h => inM w (inG0 w h)) k22 t1 e_v11 dX0_copyFrom_34 ?_
  obtain ⟨h12, e_h12, hf⟩ := hf
  refine pu_0_4 (pc := 37) X (fun w h => inM w (inG0 w h)) k22 t3 e_h12 dX0_copyFrom_37 ?_
  refine v_aload_n (pc := 40) X 0 dX0_copyFrom_40 rfl rfl ?_
  refine v_aload_n (pc := 41) X 1 dX0_copyFrom_41 rfl rfl ?_
  obtain ⟨v13, e_v13, hf⟩ := hf
  refine ge_0_5 (pc := 42) X (fun w h => inM w (inG0 w h)) k25 t1 e_v13 dX0_copyFrom_42 ?_
  obtain ⟨z15, hf⟩ := hf
  obtain ⟨h14, e_h14, hf⟩ := hf
  refine pu_0_5 (pc := 45) X (fun w h => inM w (inG0 w h)) k25 t3 z15 e_h14 dX0_copyFrom_45 ?_
  exact v_vret (pc := 48) X hr hlk dX0_copyFrom_48 hf
set_option maxHeartbeats 4000000 in
set_option maxRecDepth 100000 in
theorem w_X1_clear_37 {p : Program} {l : Launch} {e : Env} {s0 : State} {m : MethodId} {args : Array Value} {below : List Frame} {meth : Method} {c : Code} {D : va_G} {cA : Nat → ClassId} {L : List Nat} {sh : Sh} (X : Cx p s0 m c args cX1_clear 2 (wM yX1_clear cX1_clear 2 none) RX1 (fun q => q ∈ L) D cA L sh) (hr : meth.sig.returnType = none) (hlk : meth.locks = false) (x0 : Nat) (Xc : Hp → Prop) (K : Hp → Prop) (hx : ∀  (h1 : Hp), Xc  h1 → V p l e (headSpec (wM yX1_clear cX1_clear 2 none) ({ frames := 0, cells := 0, slots := 0, locals := 0 } : Room)).room s0 m args below meth c (MQ below (QV D cA L sh K) args s0 0 0 (fun q => q ∈ L)) (fun q => q ∈ L) 0 0 D cA L sh 2 h1 58 [] []) : ∀ (n : Nat) (s : Int32) (h : Hp), lp (b_X1_clear_37 sh x0 Xc) n s h → V p l e (headSpec (wM yX1_clear cX1_clear 2 none) ({ frames := 0, cells := 0, slots := 0, locals := 0 } : Room)).room s0 m args below meth c (MQ below (QV D cA L sh K) args s0 0 0 (fun q => q ∈ L)) (fun q => q ∈ L) 0 0 D cA L sh 2 h 37 [(0, .ref x0), (1, .int s)] [] := by
  have k25 := X.ht _ (inM _ q_86)
  have k29 := X.ht _ (inM _ q_89)
  have k32 := X.ht _ (inM _ q_91)
  have k35 := X.ht _ (inM _ q_94)
  have k38 := X.ht _ (inM _ q_96)
  have k41 := X.ht _ (inM _ q_99)
  have k44 := X.ht _ (inM _ q_102)
  have k20 := X.ht _ (inM _ q_106)
  have k47 := X.ht _ (inM _ q_71)
  intro n
  induction n with
  | zero => intro s h hf; exact hf.elim
  | succ n ih =>
    intro s h hf
    replace hf : b_X1_clear_37 sh x0 Xc (lp (b_X1_clear_37 sh x0 Xc) n) s h := hf
    unfold b_X1_clear_37 at hf
    refine v_iload_n (pc := 37) X 1 dX1_clear_37 rfl rfl ?_
    refine v_iconst (pc := 38) X (v := (4 : Int32)) dX1_clear_38 (by decide) ?_
    refine v_icmp_ge (pc := 39) X 58 dX1_clear_39 (by decide) (fun c => ?_) (fun c => ?_)
    · replace hf := if_t c hf
      refine v_sub [] rfl ?_
      exact hx h hf
    · replace hf := if_f c hf
      refine v_aload_n (pc := 42) X 0 dX1_clear_42 rfl rfl ?_
      obtain ⟨t9, hf⟩ := hf
      obtain ⟨q10, e_q10, hf⟩ := hf
      refine ge_1_8 (pc := 43) X (fun w h => inM w (inG1 w h)) k20 t9 e_q10 dX1_clear_43 ?_
      refine v_iload_n (pc := 46) X 1 dX1_clear_46 rfl rfl ?_
      obtain ⟨t11, hf⟩ := hf
      obtain ⟨b13, q12, e_q12, hf⟩ := hf
      refine v_aald_11 (pc := 47) X t11 b13 e_q12 dX1_clear_47 ?_
      refine v_iconst (pc := 48) X (v := (-1 : Int32)) dX1_clear_48 (by decide) ?_
      obtain ⟨t14, hf⟩ := hf
      obtain ⟨h15, e_h15, hf⟩ := hf
      refine pu_4_0 (pc := 49) X (fun w h => inM w (inG4 w h)) k47 t14 e_h15 dX1_clear_49 ?_
      refine v_iinc (pc := 52) X 1 (v := s + (1 : Int32)) (lv' := [(1, .int (s + (1 : Int32))), (0, .ref x0)]) dX1_clear_52 rfl rfl (Nat.le_of_ble_eq_true rfl) rfl ?_
      refine v_goto (pc := 55) X 37 dX1_clear_55 (by decide) ?_
      refine v_sub [1, 0] rfl ?_
      exact ih (s + (1 : Int32)) h15 hf

set_option maxHeartbeats 4000000 in
set_option maxRecDepth 100000 in
theorem c_X1_clear (l : Launch) (D : va_G) (cA : Nat → ClassId) (L : List Nat) (sh : Sh) (a0 : Nat) (h : Hp) (K : Hp → Prop) (hf : f_X1_clear sh a0 h K) : Met l yX1_clear (wM yX1_clear cX1_clear 2 none) ({ frames := 0, cells := 0, slots := 0, locals := 0 } : Room) (PreM D cA L sh h [.ref a0]) (QV D cA L sh K) 0 0 (fun q => q ∈ L) := by
  refine met_v (cc := cX1_clear) (nL := 2) (ret := none) [(0, .ref a0)] (by decide) rfl (Nat.le_of_ble_eq_true rfl) rfl ?_
  intro p e s0 m below meth c X hr hlk
  have k25 := X.ht _ (inM _ q_86)
  have k29 := X.ht _ (inM _ q_89)
  have k32 := X.ht _ (inM _ q_91)
  have k35 := X.ht _ (inM _ q_94)
  have k38 := X.ht _ (inM _ q_96)
  have k41 := X.ht _ (inM _ q_99)
  have k44 := X.ht _ (inM _ q_102)
  have k20 := X.ht _ (inM _ q_106)
  have k47 := X.ht _ (inM _ q_71)
  unfold f_X1_clear at hf
  refine v_aload_n (pc := 0) X 0 dX1_clear_0 rfl rfl ?_
  refine v_iconst (pc := 1) X (v := (0 : Int32)) dX1_clear_1 (by decide) ?_
  obtain ⟨t1, hf⟩ := hf
  obtain ⟨h2, e_h2, hf⟩ := hf
  refine pu_1_0 (pc := 2) X (fun w h => inM w (inG1 w h)) k25 t1 e_h2 dX1_clear_2 ?_
  refine v_aload_n (pc := 5) X 0 dX1_clear_5 rfl rfl ?_
  refine v_iconst (pc := 6) X (v := (0 : Int32)) dX1_clear_6 (by decide) ?_
  obtain ⟨h3, e_h3, hf⟩ := hf
  refine pu_1_1 (pc := 7) X (fun w h => inM w (inG1 w h)) k29 t1 e_h3 dX1_clear_7 ?_
  refine v_aload_n (pc := 10) X 0 dX1_clear_10 rfl rfl ?_
  refine v_iconst (pc := 11) X (v := (0 : Int32)) dX1_clear_11 (by decide) ?_
  obtain ⟨h4, e_h4, hf⟩ := hf
  refine pu_1_2 (pc := 12) X (fun w h => inM w (inG1 w h)) k32 t1 e_h4 dX1_clear_12 ?_
  refine v_aload_n (pc := 15) X 0 dX1_clear_15 rfl rfl ?_
  refine v_iconst (pc := 16) X (v := (0 : Int32)) dX1_clear_16 (by decide) ?_
  obtain ⟨h5, e_h5, hf⟩ := hf
  refine pu_1_3 (pc := 17) X (fun w h => inM w (inG1 w h)) k35 t1 e_h5 dX1_clear_17 ?_
  refine v_aload_n (pc := 20) X 0 dX1_clear_20 rfl rfl ?_
  refine v_iconst (pc := 21) X (v := (0 : Int32)) dX1_clear_21 (by decide) ?_
  obtain ⟨h6, e_h6, hf⟩ := hf
  refine pu_1_4 (pc := 22) X (fun w h => inM w (inG1 w h)) k38 t1 e_h6 dX1_clear_22 ?_
  refine v_aload_n (pc := 25) X 0 dX1_clear_25 rfl rfl ?_
  refine v_iconst (pc := 26) X (v := (0 : Int32)) dX1_clear_26 (by decide) ?_
  obtain ⟨h7, e_h7, hf⟩ := hf
  refine pu_1_5 (pc := 27) X (fun w h => inM w (inG1 w h)) k41 t1 e_h7 dX1_clear_27 ?_
  refine v_aload_n (pc := 30) X 0 dX1_clear_30 rfl rfl ?_
  refine v_iconst (pc := 31) X (v := (0 : Int32)) dX1_clear_31 (by decide) ?_
  obtain ⟨h8, e_h8, hf⟩ := hf
  refine pu_1_6 (pc := 32) X (fun w h => inM w (inG1 w h)) k44 t1 e_h8 dX1_clear_32 ?_
  refine v_iconst (pc := 35) X (v := (0 : Int32)) dX1_clear_35 (by decide) ?_
  refine v_istore_n (pc := 36) X (i := 1) (lv' := [(1, .int (0 : Int32)), (0, .ref a0)]) dX1_clear_36 rfl (Nat.le_of_ble_eq_true rfl) rfl ?_
  obtain ⟨n, hf⟩ := hf
  refine v_sub [1, 0] rfl ?_
  refine w_X1_clear_37 X hr hlk a0 _ K (fun  h16 hf => ?_) n (0 : Int32) h8 hf
  exact v_vret (pc := 58) X hr hlk dX1_clear_58 hf
set_option maxHeartbeats 4000000 in
set_option maxRecDepth 100000 in
theorem w_X4_copyFrom_26 {p : Program} {l : Launch} {e : Env} {s0 : State} {m : MethodId} {args : Array Value} {below : List Frame} {meth : Method} {c : Code} {D : va_G} {cA : Nat → ClassId} {L : List Nat} {sh : Sh} (X : Cx p s0 m c args cX4_copyFrom 3 (wM yX4_copyFrom cX4_copyFrom 3 none) RX4 (fun q => q ∈ L) D cA L sh) (hr : meth.sig.returnType = none) (hlk : meth.locks = false) (x0 : Nat) (x1 : Nat) (Xc : Hp → Prop) (K : Hp → Prop) (hx : ∀  (h1 : Hp), Xc  h1 → V p l e (headSpec (wM yX4_copyFrom cX4_copyFrom 3 none) ({ frames := 0, cells := 0, slots := 0, locals := 0 } : Room)).room s0 m args below meth c (MQ below (QV D cA L sh K) args s0 0 0 (fun q => q ∈ L)) (fun q => q ∈ L) 0 0 D cA L sh 3 h1 50 [] []) : ∀ (n : Nat) (s : Int32) (h : Hp), lp (b_X4_copyFrom_26 sh x0 x1 Xc) n s h → V p l e (headSpec (wM yX4_copyFrom cX4_copyFrom 3 none) ({ frames := 0, cells := 0, slots := 0, locals := 0 } : Room)).room s0 m args below meth c (MQ below (QV D cA L sh K) args s0 0 0 (fun q => q ∈ L)) (fun q => q ∈ L) 0 0 D cA L sh 3 h 26 [(0, .ref x0), (1, .ref x1), (2, .int s)] [] := by
  have k9 := X.ht _ (inM _ q_70)
  have k19 := X.ht _ (inM _ q_73)
  have k22 := X.ht _ (inM _ q_77)
  have k15 := X.ht _ (inM _ q_80)
  intro n
  induction n with
  | zero => intro s h hf; exact hf.elim
  | succ n ih =>
    intro s h hf
    replace hf : b_X4_copyFrom_26 sh x0 x1 Xc (lp (b_X4_copyFrom_26 sh x0 x1 Xc) n) s h := hf
    unfold b_X4_copyFrom_26 at hf
    refine v_iload_n (pc := 26) X 2 dX4_copyFrom_26 rfl rfl ?_
    refine v_bipush (pc := 27) X (v := (6 : Int32)) dX4_copyFrom_27 (by decide) ?_
    refine v_icmp_ge (pc := 29) X 50 dX4_copyFrom_29 (by decide) (fun c => ?_) (fun c => ?_)
    · replace hf := if_t c hf
      refine v_sub [] rfl ?_
      exact hx h hf
    · replace hf := if_f c hf
      refine v_aload_n (pc := 32) X 0 dX4_copyFrom_32 rfl rfl ?_
      obtain ⟨t9, hf⟩ := hf
      obtain ⟨q10, e_q10, hf⟩ := hf
      refine ge_4_3 (pc := 33) X (fun w h => inM w (inG4 w h)) k15 t9 e_q10 dX4_copyFrom_33 ?_
      refine v_iload_n (pc := 36) X 2 dX4_copyFrom_36 rfl rfl ?_
      refine v_aload_n (pc := 37) X 1 dX4_copyFrom_37 rfl rfl ?_
      obtain ⟨t11, hf⟩ := hf
      obtain ⟨q12, e_q12, hf⟩ := hf
      refine ge_4_3 (pc := 38) X (fun w h => inM w (inG4 w h)) k15 t11 e_q12 dX4_copyFrom_38 ?_
      refine v_iload_n (pc := 41) X 2 dX4_copyFrom_41 rfl rfl ?_
      obtain ⟨t13, hf⟩ := hf
      obtain ⟨b15, v14, e_v14, hf⟩ := hf
      refine v_iald (pc := 42) X t13 b15 e_v14 dX4_copyFrom_42 ?_
      obtain ⟨t16, hf⟩ := hf
      obtain ⟨b18, h17, e_h17, hf⟩ := hf
      refine v_iast (pc := 43) X t16 b18 e_h17 dX4_copyFrom_43 ?_
      refine v_iinc (pc := 44) X 2 (v := s + (1 : Int32)) (lv' := [(2, .int (s + (1 : Int32))), (0, .ref x0), (1, .ref x1)]) dX4_copyFrom_44 rfl rfl (Nat.le_of_ble_eq_true rfl) rfl ?_
      refine v_goto (pc := 47) X 26 dX4_copyFrom_47 (by decide) ?_
      refine v_sub [1, 2, 0] rfl ?_
      exact ih (s + (1 : Int32)) h17 hf

set_option maxHeartbeats 4000000 in
set_option maxRecDepth 100000 in
theorem c_X4_copyFrom (l : Launch) (D : va_G) (cA : Nat → ClassId) (L : List Nat) (sh : Sh) (a0 : Nat) (p1 : Nat) (h : Hp) (K : Hp → Prop) (hf : f_X4_copyFrom sh a0 p1 h K) : Met l yX4_copyFrom (wM yX4_copyFrom cX4_copyFrom 3 none) ({ frames := 0, cells := 0, slots := 0, locals := 0 } : Room) (PreM D cA L sh h [.ref a0, .ref p1]) (QV D cA L sh K) 0 0 (fun q => q ∈ L) := by
  refine met_v (cc := cX4_copyFrom) (nL := 3) (ret := none) [(0, .ref a0), (1, .ref p1)] (by decide) rfl (Nat.le_of_ble_eq_true rfl) rfl ?_
  intro p e s0 m below meth c X hr hlk
  have k9 := X.ht _ (inM _ q_70)
  have k19 := X.ht _ (inM _ q_73)
  have k22 := X.ht _ (inM _ q_77)
  have k15 := X.ht _ (inM _ q_80)
  unfold f_X4_copyFrom at hf
  refine v_aload_n (pc := 0) X 0 dX4_copyFrom_0 rfl rfl ?_
  refine v_aload_n (pc := 1) X 1 dX4_copyFrom_1 rfl rfl ?_
  obtain ⟨t1, hf⟩ := hf
  obtain ⟨v2, e_v2, hf⟩ := hf
  refine ge_4_0 (pc := 2) X (fun w h => inM w (inG4 w h)) k9 t1 e_v2 dX4_copyFrom_2 ?_
  obtain ⟨t3, hf⟩ := hf
  obtain ⟨h4, e_h4, hf⟩ := hf
  refine pu_4_0 (pc := 5) X (fun w h => inM w (inG4 w h)) k9 t3 e_h4 dX4_copyFrom_5 ?_
  refine v_aload_n (pc := 8) X 0 dX4_copyFrom_8 rfl rfl ?_
  refine v_aload_n (pc := 9) X 1 dX4_copyFrom_9 rfl rfl ?_
  obtain ⟨v5, e_v5, hf⟩ := hf
  refine ge_4_1 (pc := 10) X (fun w h => inM w (inG4 w h)) k19 t1 e_v5 dX4_copyFrom_10 ?_
  obtain ⟨h6, e_h6, hf⟩ := hf
  refine pu_4_1 (pc := 13) X (fun w h => inM w (inG4 w h)) k19 t3 e_h6 dX4_copyFrom_13 ?_
  refine v_aload_n (pc := 16) X 0 dX4_copyFrom_16 rfl rfl ?_
  refine v_aload_n (pc := 17) X 1 dX4_copyFrom_17 rfl rfl ?_
  obtain ⟨v7, e_v7, hf⟩ := hf
  refine ge_4_2 (pc := 18) X (fun w h => inM w (inG4 w h)) k22 t1 e_v7 dX4_copyFrom_18 ?_
  obtain ⟨h8, e_h8, hf⟩ := hf
  refine pu_4_2 (pc := 21) X (fun w h => inM w (inG4 w h)) k22 t3 e_h8 dX4_copyFrom_21 ?_
  refine v_iconst (pc := 24) X (v := (0 : Int32)) dX4_copyFrom_24 (by decide) ?_
  refine v_istore_n (pc := 25) X (i := 2) (lv' := [(2, .int (0 : Int32)), (0, .ref a0), (1, .ref p1)]) dX4_copyFrom_25 rfl (Nat.le_of_ble_eq_true rfl) rfl ?_
  obtain ⟨n, hf⟩ := hf
  refine v_sub [1, 2, 0] rfl ?_
  refine w_X4_copyFrom_26 X hr hlk a0 p1 _ K (fun  h19 hf => ?_) n (0 : Int32) h8 hf
  exact v_vret (pc := 50) X hr hlk dX4_copyFrom_50 hf
set_option maxHeartbeats 4000000 in
set_option maxRecDepth 100000 in
theorem w_X1_copyFrom_58 {p : Program} {l : Launch} {e : Env} {s0 : State} {m : MethodId} {args : Array Value} {below : List Frame} {meth : Method} {c : Code} {D : va_G} {cA : Nat → ClassId} {L : List Nat} {sh : Sh} (X : Cx p s0 m c args cX1_copyFrom 3 (wM yX1_copyFrom cX1_copyFrom 3 none) RX1 (fun q => q ∈ L) D cA L sh) (hr : meth.sig.returnType = none) (hlk : meth.locks = false) (x0 : Nat) (x1 : Nat) (Xc : Hp → Prop) (K : Hp → Prop) (hx : ∀  (h1 : Hp), Xc  h1 → V p l e (headSpec (wM yX1_copyFrom cX1_copyFrom 3 none) ({ frames := 1, cells := 0, slots := 0, locals := 22 } : Room)).room s0 m args below meth c (MQ below (QV D cA L sh K) args s0 0 0 (fun q => q ∈ L)) (fun q => q ∈ L) 0 0 D cA L sh 3 h1 93 [(0, .ref x0), (1, .ref x1)] []) : ∀ (n : Nat) (s : Int32) (h : Hp), lp (b_X1_copyFrom_58 sh x0 x1 Xc) n s h → V p l e (headSpec (wM yX1_copyFrom cX1_copyFrom 3 none) ({ frames := 1, cells := 0, slots := 0, locals := 22 } : Room)).room s0 m args below meth c (MQ below (QV D cA L sh K) args s0 0 0 (fun q => q ∈ L)) (fun q => q ∈ L) 0 0 D cA L sh 3 h 58 [(0, .ref x0), (1, .ref x1), (2, .int s)] [] := by
  have k25 := X.ht _ (inM _ q_86)
  have k29 := X.ht _ (inM _ q_89)
  have k32 := X.ht _ (inM _ q_91)
  have k35 := X.ht _ (inM _ q_94)
  have k38 := X.ht _ (inM _ q_96)
  have k41 := X.ht _ (inM _ q_99)
  have k44 := X.ht _ (inM _ q_102)
  have k11 := X.ht _ (inM _ q_104)
  have k20 := X.ht _ (inM _ q_106)
  intro n
  induction n with
  | zero => intro s h hf; exact hf.elim
  | succ n ih =>
    intro s h hf
    replace hf : b_X1_copyFrom_58 sh x0 x1 Xc (lp (b_X1_copyFrom_58 sh x0 x1 Xc) n) s h := hf
    unfold b_X1_copyFrom_58 at hf
    refine v_iload_n (pc := 58) X 2 dX1_copyFrom_58 rfl rfl ?_
    refine v_aload_n (pc := 59) X 0 dX1_copyFrom_59 rfl rfl ?_
    obtain ⟨t17, hf⟩ := hf
    obtain ⟨v18, e_v18, hf⟩ := hf
    refine ge_1_6 (pc := 60) X (fun w h => inM w (inG1 w h)) k44 t17 e_v18 dX1_copyFrom_60 ?_
    refine v_icmp_ge (pc := 63) X 93 dX1_copyFrom_63 (by decide) (fun c => ?_) (fun c => ?_)
    · replace hf := if_t c hf
      refine v_sub [0, 1] rfl ?_
      exact hx h hf
    · replace hf := if_f c hf
      refine v_iload_n (pc := 66) X 2 dX1_copyFrom_66 rfl rfl ?_
      refine v_bipush (pc := 67) X (v := (8 : Int32)) dX1_copyFrom_67 (by decide) ?_
      refine v_icmp_ge (pc := 69) X 93 dX1_copyFrom_69 (by decide) (fun c => ?_) (fun c => ?_)
      · replace hf := if_t c hf
        refine v_sub [0, 1] rfl ?_
        exact hx h hf
      · replace hf := if_f c hf
        refine v_aload_n (pc := 72) X 0 dX1_copyFrom_72 rfl rfl ?_
        obtain ⟨q19, e_q19, hf⟩ := hf
        refine ge_1_7 (pc := 73) X (fun w h => inM w (inG1 w h)) k11 t17 e_q19 dX1_copyFrom_73 ?_
        refine v_iload_n (pc := 76) X 2 dX1_copyFrom_76 rfl rfl ?_
        obtain ⟨t20, hf⟩ := hf
        obtain ⟨b22, q21, e_q21, hf⟩ := hf
        refine v_aald_8 (pc := 77) X t20 b22 e_q21 dX1_copyFrom_77 ?_
        refine v_aload_n (pc := 78) X 1 dX1_copyFrom_78 rfl rfl ?_
        obtain ⟨t23, hf⟩ := hf
        obtain ⟨q24, e_q24, hf⟩ := hf
        refine ge_1_7 (pc := 79) X (fun w h => inM w (inG1 w h)) k11 t23 e_q24 dX1_copyFrom_79 ?_
        refine v_iload_n (pc := 82) X 2 dX1_copyFrom_82 rfl rfl ?_
        obtain ⟨t25, hf⟩ := hf
        obtain ⟨b27, q26, e_q26, hf⟩ := hf
        refine v_aald_8 (pc := 83) X t25 b27 e_q26 dX1_copyFrom_83 ?_
        obtain ⟨t28, hf⟩ := hf
        refine v_callVV (pc := 84) X (As := [.ref q26]) (rest := []) (c_X0_copyFrom l D cA L sh q21 q26 h _ hf) (cwV 1 X.ht (gwV inM q_328 q_329 q_330 q_4 q_331) rfl rfl rfl (by decide +kernel) ⟨Nat.le_of_ble_eq_true rfl, Nat.le_of_ble_eq_true rfl⟩) rfl (by decide) t28 (ent_0 t28) rfl rfl (Nat.le_of_ble_eq_true rfl) ⟨Nat.zero_le _, Nat.zero_le _⟩ dX1_copyFrom_84 (fun h30 hf => ?_)
        refine v_iinc (pc := 87) X 2 (v := s + (1 : Int32)) (lv' := [(2, .int (s + (1 : Int32))), (0, .ref x0), (1, .ref x1)]) dX1_copyFrom_87 rfl rfl (Nat.le_of_ble_eq_true rfl) rfl ?_
        refine v_goto (pc := 90) X 58 dX1_copyFrom_90 (by decide) ?_
        refine v_sub [1, 2, 0] rfl ?_
        exact ih (s + (1 : Int32)) h30 hf

set_option maxHeartbeats 4000000 in
set_option maxRecDepth 100000 in
theorem w_X1_copyFrom_95 {p : Program} {l : Launch} {e : Env} {s0 : State} {m : MethodId} {args : Array Value} {below : List Frame} {meth : Method} {c : Code} {D : va_G} {cA : Nat → ClassId} {L : List Nat} {sh : Sh} (X : Cx p s0 m c args cX1_copyFrom 3 (wM yX1_copyFrom cX1_copyFrom 3 none) RX1 (fun q => q ∈ L) D cA L sh) (hr : meth.sig.returnType = none) (hlk : meth.locks = false) (x0 : Nat) (x1 : Nat) (Xc : Hp → Prop) (K : Hp → Prop) (hx : ∀  (h1 : Hp), Xc  h1 → V p l e (headSpec (wM yX1_copyFrom cX1_copyFrom 3 none) ({ frames := 1, cells := 0, slots := 0, locals := 22 } : Room)).room s0 m args below meth c (MQ below (QV D cA L sh K) args s0 0 0 (fun q => q ∈ L)) (fun q => q ∈ L) 0 0 D cA L sh 3 h1 121 [] []) : ∀ (n : Nat) (s : Int32) (h : Hp), lp (b_X1_copyFrom_95 sh x0 x1 Xc) n s h → V p l e (headSpec (wM yX1_copyFrom cX1_copyFrom 3 none) ({ frames := 1, cells := 0, slots := 0, locals := 22 } : Room)).room s0 m args below meth c (MQ below (QV D cA L sh K) args s0 0 0 (fun q => q ∈ L)) (fun q => q ∈ L) 0 0 D cA L sh 3 h 95 [(0, .ref x0), (1, .ref x1), (2, .int s)] [] := by
  have k25 := X.ht _ (inM _ q_86)
  have k29 := X.ht _ (inM _ q_89)
  have k32 := X.ht _ (inM _ q_91)
  have k35 := X.ht _ (inM _ q_94)
  have k38 := X.ht _ (inM _ q_96)
  have k41 := X.ht _ (inM _ q_99)
  have k44 := X.ht _ (inM _ q_102)
  have k11 := X.ht _ (inM _ q_104)
  have k20 := X.ht _ (inM _ q_106)
  intro n
  induction n with
  | zero => intro s h hf; exact hf.elim
  | succ n ih =>
    intro s h hf
    replace hf : b_X1_copyFrom_95 sh x0 x1 Xc (lp (b_X1_copyFrom_95 sh x0 x1 Xc) n) s h := hf
    unfold b_X1_copyFrom_95 at hf
    refine v_iload_n (pc := 95) X 2 dX1_copyFrom_95 rfl rfl ?_
    refine v_iconst (pc := 96) X (v := (4 : Int32)) dX1_copyFrom_96 (by decide) ?_
    refine v_icmp_ge (pc := 97) X 121 dX1_copyFrom_97 (by decide) (fun c => ?_) (fun c => ?_)
    · replace hf := if_t c hf
      refine v_sub [] rfl ?_
      exact hx h hf
    · replace hf := if_f c hf
      refine v_aload_n (pc := 100) X 0 dX1_copyFrom_100 rfl rfl ?_
      obtain ⟨t32, hf⟩ := hf
      obtain ⟨q33, e_q33, hf⟩ := hf
      refine ge_1_8 (pc := 101) X (fun w h => inM w (inG1 w h)) k20 t32 e_q33 dX1_copyFrom_101 ?_
      refine v_iload_n (pc := 104) X 2 dX1_copyFrom_104 rfl rfl ?_
      obtain ⟨t34, hf⟩ := hf
      obtain ⟨b36, q35, e_q35, hf⟩ := hf
      refine v_aald_11 (pc := 105) X t34 b36 e_q35 dX1_copyFrom_105 ?_
      refine v_aload_n (pc := 106) X 1 dX1_copyFrom_106 rfl rfl ?_
      obtain ⟨t37, hf⟩ := hf
      obtain ⟨q38, e_q38, hf⟩ := hf
      refine ge_1_8 (pc := 107) X (fun w h => inM w (inG1 w h)) k20 t37 e_q38 dX1_copyFrom_107 ?_
      refine v_iload_n (pc := 110) X 2 dX1_copyFrom_110 rfl rfl ?_
      obtain ⟨t39, hf⟩ := hf
      obtain ⟨b41, q40, e_q40, hf⟩ := hf
      refine v_aald_11 (pc := 111) X t39 b41 e_q40 dX1_copyFrom_111 ?_
      obtain ⟨t42, hf⟩ := hf
      refine v_callVV (pc := 112) X (As := [.ref q40]) (rest := []) (c_X4_copyFrom l D cA L sh q35 q40 h _ hf) (cwV 1 X.ht (gwV inM q_332 q_333 q_334 q_5 q_335) rfl rfl rfl (by decide +kernel) ⟨Nat.le_of_ble_eq_true rfl, Nat.le_of_ble_eq_true rfl⟩) rfl (by decide) t42 (ent_4 t42) rfl rfl (Nat.le_of_ble_eq_true rfl) ⟨Nat.zero_le _, Nat.zero_le _⟩ dX1_copyFrom_112 (fun h44 hf => ?_)
      refine v_iinc (pc := 115) X 2 (v := s + (1 : Int32)) (lv' := [(2, .int (s + (1 : Int32))), (0, .ref x0), (1, .ref x1)]) dX1_copyFrom_115 rfl rfl (Nat.le_of_ble_eq_true rfl) rfl ?_
      refine v_goto (pc := 118) X 95 dX1_copyFrom_118 (by decide) ?_
      refine v_sub [1, 2, 0] rfl ?_
      exact ih (s + (1 : Int32)) h44 hf

set_option maxHeartbeats 4000000 in
set_option maxRecDepth 100000 in
theorem c_X1_copyFrom (l : Launch) (D : va_G) (cA : Nat → ClassId) (L : List Nat) (sh : Sh) (a0 : Nat) (p1 : Nat) (h : Hp) (K : Hp → Prop) (hf : f_X1_copyFrom sh a0 p1 h K) : Met l yX1_copyFrom (wM yX1_copyFrom cX1_copyFrom 3 none) ({ frames := 1, cells := 0, slots := 0, locals := 22 } : Room) (PreM D cA L sh h [.ref a0, .ref p1]) (QV D cA L sh K) 0 0 (fun q => q ∈ L) := by
  refine met_v (cc := cX1_copyFrom) (nL := 3) (ret := none) [(0, .ref a0), (1, .ref p1)] (by decide) rfl (Nat.le_of_ble_eq_true rfl) rfl ?_
  intro p e s0 m below meth c X hr hlk
  have k25 := X.ht _ (inM _ q_86)
  have k29 := X.ht _ (inM _ q_89)
  have k32 := X.ht _ (inM _ q_91)
  have k35 := X.ht _ (inM _ q_94)
  have k38 := X.ht _ (inM _ q_96)
  have k41 := X.ht _ (inM _ q_99)
  have k44 := X.ht _ (inM _ q_102)
  have k11 := X.ht _ (inM _ q_104)
  have k20 := X.ht _ (inM _ q_106)
  unfold f_X1_copyFrom at hf
  refine v_aload_n (pc := 0) X 0 dX1_copyFrom_0 rfl rfl ?_
  refine v_aload_n (pc := 1) X 1 dX1_copyFrom_1 rfl rfl ?_
  obtain ⟨t1, hf⟩ := hf
  obtain ⟨v2, e_v2, hf⟩ := hf
  refine ge_1_0 (pc := 2) X (fun w h => inM w (inG1 w h)) k25 t1 e_v2 dX1_copyFrom_2 ?_
  obtain ⟨t3, hf⟩ := hf
  obtain ⟨h4, e_h4, hf⟩ := hf
  refine pu_1_0 (pc := 5) X (fun w h => inM w (inG1 w h)) k25 t3 e_h4 dX1_copyFrom_5 ?_
  refine v_aload_n (pc := 8) X 0 dX1_copyFrom_8 rfl rfl ?_
  refine v_aload_n (pc := 9) X 1 dX1_copyFrom_9 rfl rfl ?_
  obtain ⟨v5, e_v5, hf⟩ := hf
  refine ge_1_1 (pc := 10) X (fun w h => inM w (inG1 w h)) k29 t1 e_v5 dX1_copyFrom_10 ?_
  obtain ⟨h6, e_h6, hf⟩ := hf
  refine pu_1_1 (pc := 13) X (fun w h => inM w (inG1 w h)) k29 t3 e_h6 dX1_copyFrom_13 ?_
  refine v_aload_n (pc := 16) X 0 dX1_copyFrom_16 rfl rfl ?_
  refine v_aload_n (pc := 17) X 1 dX1_copyFrom_17 rfl rfl ?_
  obtain ⟨v7, e_v7, hf⟩ := hf
  refine ge_1_2 (pc := 18) X (fun w h => inM w (inG1 w h)) k32 t1 e_v7 dX1_copyFrom_18 ?_
  obtain ⟨h8, e_h8, hf⟩ := hf
  refine pu_1_2 (pc := 21) X (fun w h => inM w (inG1 w h)) k32 t3 e_h8 dX1_copyFrom_21 ?_
  refine v_aload_n (pc := 24) X 0 dX1_copyFrom_24 rfl rfl ?_
  refine v_aload_n (pc := 25) X 1 dX1_copyFrom_25 rfl rfl ?_
  obtain ⟨v9, e_v9, hf⟩ := hf
  refine ge_1_3 (pc := 26) X (fun w h => inM w (inG1 w h)) k35 t1 e_v9 dX1_copyFrom_26 ?_
  obtain ⟨h10, e_h10, hf⟩ := hf
  refine pu_1_3 (pc := 29) X (fun w h => inM w (inG1 w h)) k35 t3 e_h10 dX1_copyFrom_29 ?_
  refine v_aload_n (pc := 32) X 0 dX1_copyFrom_32 rfl rfl ?_
  refine v_aload_n (pc := 33) X 1 dX1_copyFrom_33 rfl rfl ?_
  obtain ⟨v11, e_v11, hf⟩ := hf
  refine ge_1_4 (pc := 34) X (fun w h => inM w (inG1 w h)) k38 t1 e_v11 dX1_copyFrom_34 ?_
  obtain ⟨h12, e_h12, hf⟩ := hf
  refine pu_1_4 (pc := 37) X (fun w h => inM w (inG1 w h)) k38 t3 e_h12 dX1_copyFrom_37 ?_
  refine v_aload_n (pc := 40) X 0 dX1_copyFrom_40 rfl rfl ?_
  refine v_aload_n (pc := 41) X 1 dX1_copyFrom_41 rfl rfl ?_
  obtain ⟨v13, e_v13, hf⟩ := hf
  refine ge_1_5 (pc := 42) X (fun w h => inM w (inG1 w h)) k41 t1 e_v13 dX1_copyFrom_42 ?_
  obtain ⟨h14, e_h14, hf⟩ := hf
  refine pu_1_5 (pc := 45) X (fun w h => inM w (inG1 w h)) k41 t3 e_h14 dX1_copyFrom_45 ?_
  refine v_aload_n (pc := 48) X 0 dX1_copyFrom_48 rfl rfl ?_
  refine v_aload_n (pc := 49) X 1 dX1_copyFrom_49 rfl rfl ?_
  obtain ⟨v15, e_v15, hf⟩ := hf
  refine ge_1_6 (pc := 50) X (fun w h => inM w (inG1 w h)) k44 t1 e_v15 dX1_copyFrom_50 ?_
  obtain ⟨h16, e_h16, hf⟩ := hf
  refine pu_1_6 (pc := 53) X (fun w h => inM w (inG1 w h)) k44 t3 e_h16 dX1_copyFrom_53 ?_
  refine v_iconst (pc := 56) X (v := (0 : Int32)) dX1_copyFrom_56 (by decide) ?_
  refine v_istore_n (pc := 57) X (i := 2) (lv' := [(2, .int (0 : Int32)), (0, .ref a0), (1, .ref p1)]) dX1_copyFrom_57 rfl (Nat.le_of_ble_eq_true rfl) rfl ?_
  obtain ⟨n, hf⟩ := hf
  refine v_sub [1, 2, 0] rfl ?_
  refine w_X1_copyFrom_58 X hr hlk a0 p1 _ K (fun  h31 hf => ?_) n (0 : Int32) h16 hf
  refine v_iconst (pc := 93) X (v := (0 : Int32)) dX1_copyFrom_93 (by decide) ?_
  refine v_istore_n (pc := 94) X (i := 2) (lv' := [(2, .int (0 : Int32)), (0, .ref a0), (1, .ref p1)]) dX1_copyFrom_94 rfl (Nat.le_of_ble_eq_true rfl) rfl ?_
  obtain ⟨n, hf⟩ := hf
  refine v_sub [1, 2, 0] rfl ?_
  refine w_X1_copyFrom_95 X hr hlk a0 p1 _ K (fun  h45 hf => ?_) n (0 : Int32) h31 hf
  exact v_vret (pc := 121) X hr hlk dX1_copyFrom_121 hf
set_option maxHeartbeats 4000000 in
set_option maxRecDepth 100000 in
theorem w_X1_freshEntryOf_2 {p : Program} {l : Launch} {e : Env} {s0 : State} {m : MethodId} {args : Array Value} {below : List Frame} {meth : Method} {c : Code} {D : va_G} {cA : Nat → ClassId} {L : List Nat} {sh : Sh} (X : Cx p s0 m c args cX1_freshEntryOf 3 (wM yX1_freshEntryOf cX1_freshEntryOf 3 (some .int)) RX1 (fun q => q ∈ L) D cA L sh) (hr : meth.sig.returnType = (some .int)) (hlk : meth.locks = false) (x0 : Nat) (x1 : Int32) (Xc : Hp → Prop) (K : Int32 → Hp → Prop) (hx : ∀  (h1 : Hp), Xc  h1 → V p l e (headSpec (wM yX1_freshEntryOf cX1_freshEntryOf 3 (some .int)) ({ frames := 0, cells := 0, slots := 0, locals := 0 } : Room)).room s0 m args below meth c (MQ below (QI D cA L sh K) args s0 0 0 (fun q => q ∈ L)) (fun q => q ∈ L) 0 0 D cA L sh 3 h1 43 [] []) : ∀ (n : Nat) (s : Int32) (h : Hp), lp (b_X1_freshEntryOf_2 sh x0 x1 Xc K) n s h → V p l e (headSpec (wM yX1_freshEntryOf cX1_freshEntryOf 3 (some .int)) ({ frames := 0, cells := 0, slots := 0, locals := 0 } : Room)).room s0 m args below meth c (MQ below (QI D cA L sh K) args s0 0 0 (fun q => q ∈ L)) (fun q => q ∈ L) 0 0 D cA L sh 3 h 2 [(0, .ref x0), (1, .int x1), (2, .int s)] [] := by
  have k44 := X.ht _ (inM _ q_102)
  have k11 := X.ht _ (inM _ q_104)
  have k57 := X.ht _ (inM _ q_38)
  have k63 := X.ht _ (inM _ q_54)
  intro n
  induction n with
  | zero => intro s h hf; exact hf.elim
  | succ n ih =>
    intro s h hf
    replace hf : b_X1_freshEntryOf_2 sh x0 x1 Xc K (lp (b_X1_freshEntryOf_2 sh x0 x1 Xc K) n) s h := hf
    unfold b_X1_freshEntryOf_2 at hf
    refine v_iload_n (pc := 2) X 2 dX1_freshEntryOf_2 rfl rfl ?_
    refine v_aload_n (pc := 3) X 0 dX1_freshEntryOf_3 rfl rfl ?_
    obtain ⟨t1, hf⟩ := hf
    obtain ⟨v2, e_v2, hf⟩ := hf
    refine ge_1_6 (pc := 4) X (fun w h => inM w (inG1 w h)) k44 t1 e_v2 dX1_freshEntryOf_4 ?_
    refine v_icmp_ge (pc := 7) X 43 dX1_freshEntryOf_7 (by decide) (fun c => ?_) (fun c => ?_)
    · replace hf := if_t c hf
      refine v_sub [] rfl ?_
      exact hx h hf
    · replace hf := if_f c hf
      refine v_aload_n (pc := 10) X 0 dX1_freshEntryOf_10 rfl rfl ?_
      obtain ⟨q3, e_q3, hf⟩ := hf
      refine ge_1_7 (pc := 11) X (fun w h => inM w (inG1 w h)) k11 t1 e_q3 dX1_freshEntryOf_11 ?_
      refine v_iload_n (pc := 14) X 2 dX1_freshEntryOf_14 rfl rfl ?_
      obtain ⟨t4, hf⟩ := hf
      obtain ⟨b6, q5, e_q5, hf⟩ := hf
      refine v_aald_8 (pc := 15) X t4 b6 e_q5 dX1_freshEntryOf_15 ?_
      obtain ⟨t7, hf⟩ := hf
      obtain ⟨v8, e_v8, hf⟩ := hf
      refine ge_0_0 (pc := 16) X (fun w h => inM w (inG0 w h)) k57 t7 e_v8 dX1_freshEntryOf_16 ?_
      refine v_iload_n (pc := 19) X 1 dX1_freshEntryOf_19 rfl rfl ?_
      refine v_icmp_ne (pc := 20) X 37 dX1_freshEntryOf_20 (by decide) (fun c => ?_) (fun c => ?_)
      · replace hf := if_f c hf
        refine v_iinc (pc := 37) X 2 (v := s + (1 : Int32)) (lv' := [(2, .int (s + (1 : Int32))), (0, .ref x0), (1, .int x1)]) dX1_freshEntryOf_37 rfl rfl (Nat.le_of_ble_eq_true rfl) rfl ?_
        refine v_goto (pc := 40) X 2 dX1_freshEntryOf_40 (by decide) ?_
        refine v_sub [1, 2, 0] rfl ?_
        exact ih (s + (1 : Int32)) h hf
      · replace hf := if_t c hf
        refine v_aload_n (pc := 23) X 0 dX1_freshEntryOf_23 rfl rfl ?_
        obtain ⟨q9, e_q9, hf⟩ := hf
        refine ge_1_7 (pc := 24) X (fun w h => inM w (inG1 w h)) k11 t1 e_q9 dX1_freshEntryOf_24 ?_
        refine v_iload_n (pc := 27) X 2 dX1_freshEntryOf_27 rfl rfl ?_
        obtain ⟨t10, hf⟩ := hf
        obtain ⟨b12, q11, e_q11, hf⟩ := hf
        refine v_aald_8 (pc := 28) X t10 b12 e_q11 dX1_freshEntryOf_28 ?_
        obtain ⟨t13, hf⟩ := hf
        obtain ⟨v14, e_v14, hf⟩ := hf
        refine ge_0_5 (pc := 29) X (fun w h => inM w (inG0 w h)) k63 t13 e_v14 dX1_freshEntryOf_29 ?_
        refine v_if_ne (pc := 32) X 37 dX1_freshEntryOf_32 (by decide) (fun c => ?_) (fun c => ?_)
        · replace hf := if_f c hf
          refine v_iinc (pc := 37) X 2 (v := s + (1 : Int32)) (lv' := [(2, .int (s + (1 : Int32))), (0, .ref x0), (1, .int x1)]) dX1_freshEntryOf_37 rfl rfl (Nat.le_of_ble_eq_true rfl) rfl ?_
          refine v_goto (pc := 40) X 2 dX1_freshEntryOf_40 (by decide) ?_
          refine v_sub [1, 2, 0] rfl ?_
          exact ih (s + (1 : Int32)) h hf
        · replace hf := if_t c hf
          refine v_iload_n (pc := 35) X 2 dX1_freshEntryOf_35 rfl rfl ?_
          exact v_iret (pc := 36) X hr hlk dX1_freshEntryOf_36 hf

set_option maxHeartbeats 4000000 in
set_option maxRecDepth 100000 in
theorem c_X1_freshEntryOf (l : Launch) (D : va_G) (cA : Nat → ClassId) (L : List Nat) (sh : Sh) (a0 : Nat) (p1 : Int32) (h : Hp) (K : Int32 → Hp → Prop) (hf : f_X1_freshEntryOf sh a0 p1 h K) : Met l yX1_freshEntryOf (wM yX1_freshEntryOf cX1_freshEntryOf 3 (some .int)) ({ frames := 0, cells := 0, slots := 0, locals := 0 } : Room) (PreM D cA L sh h [.ref a0, .int p1]) (QI D cA L sh K) 0 0 (fun q => q ∈ L) := by
  refine met_v (cc := cX1_freshEntryOf) (nL := 3) (ret := (some .int)) [(0, .ref a0), (1, .int p1)] (by decide) rfl (Nat.le_of_ble_eq_true rfl) rfl ?_
  intro p e s0 m below meth c X hr hlk
  have k44 := X.ht _ (inM _ q_102)
  have k11 := X.ht _ (inM _ q_104)
  have k57 := X.ht _ (inM _ q_38)
  have k63 := X.ht _ (inM _ q_54)
  unfold f_X1_freshEntryOf at hf
  refine v_iconst (pc := 0) X (v := (0 : Int32)) dX1_freshEntryOf_0 (by decide) ?_
  refine v_istore_n (pc := 1) X (i := 2) (lv' := [(2, .int (0 : Int32)), (0, .ref a0), (1, .int p1)]) dX1_freshEntryOf_1 rfl (Nat.le_of_ble_eq_true rfl) rfl ?_
  obtain ⟨n, hf⟩ := hf
  refine v_sub [1, 2, 0] rfl ?_
  refine w_X1_freshEntryOf_2 X hr hlk a0 p1 _ K (fun  h15 hf => ?_) n (0 : Int32) h hf
  refine v_iconst (pc := 43) X (v := (-1 : Int32)) dX1_freshEntryOf_43 (by decide) ?_
  exact v_iret (pc := 44) X hr hlk dX1_freshEntryOf_44 hf
set_option maxHeartbeats 4000000 in
set_option maxRecDepth 100000 in
theorem w_X1_workWithNumber_2 {p : Program} {l : Launch} {e : Env} {s0 : State} {m : MethodId} {args : Array Value} {below : List Frame} {meth : Method} {c : Code} {D : va_G} {cA : Nat → ClassId} {L : List Nat} {sh : Sh} (X : Cx p s0 m c args cX1_workWithNumber 3 (wM yX1_workWithNumber cX1_workWithNumber 3 (some (.object "ShapeSessions$Work"))) RX1 (fun q => q ∈ L) D cA L sh) (hr : meth.sig.returnType = (some (.object "ShapeSessions$Work"))) (hlk : meth.locks = false) (x0 : Nat) (x1 : Int32) (Xc : Hp → Prop) (K : Option Nat → Hp → Prop) (hx : ∀  (h1 : Hp), Xc  h1 → V p l e (headSpec (wM yX1_workWithNumber cX1_workWithNumber 3 (some (.object "ShapeSessions$Work"))) ({ frames := 0, cells := 0, slots := 0, locals := 0 } : Room)).room s0 m args below meth c (MQ below (QN D cA L sh K) args s0 0 0 (fun q => q ∈ L)) (fun q => q ∈ L) 0 0 D cA L sh 3 h1 33 [] []) : ∀ (n : Nat) (s : Int32) (h : Hp), lp (b_X1_workWithNumber_2 sh x0 x1 Xc K) n s h → V p l e (headSpec (wM yX1_workWithNumber cX1_workWithNumber 3 (some (.object "ShapeSessions$Work"))) ({ frames := 0, cells := 0, slots := 0, locals := 0 } : Room)).room s0 m args below meth c (MQ below (QN D cA L sh K) args s0 0 0 (fun q => q ∈ L)) (fun q => q ∈ L) 0 0 D cA L sh 3 h 2 [(0, .ref x0), (1, .int x1), (2, .int s)] [] := by
  have k20 := X.ht _ (inM _ q_106)
  have k47 := X.ht _ (inM _ q_71)
  intro n
  induction n with
  | zero => intro s h hf; exact hf.elim
  | succ n ih =>
    intro s h hf
    replace hf : b_X1_workWithNumber_2 sh x0 x1 Xc K (lp (b_X1_workWithNumber_2 sh x0 x1 Xc K) n) s h := hf
    unfold b_X1_workWithNumber_2 at hf
    refine v_iload_n (pc := 2) X 2 dX1_workWithNumber_2 rfl rfl ?_
    refine v_iconst (pc := 3) X (v := (4 : Int32)) dX1_workWithNumber_3 (by decide) ?_
    refine v_icmp_ge (pc := 4) X 33 dX1_workWithNumber_4 (by decide) (fun c => ?_) (fun c => ?_)
    · replace hf := if_t c hf
      refine v_sub [] rfl ?_
      exact hx h hf
    · replace hf := if_f c hf
      refine v_aload_n (pc := 7) X 0 dX1_workWithNumber_7 rfl rfl ?_
      obtain ⟨t1, hf⟩ := hf
      obtain ⟨q2, e_q2, hf⟩ := hf
      refine ge_1_8 (pc := 8) X (fun w h => inM w (inG1 w h)) k20 t1 e_q2 dX1_workWithNumber_8 ?_
      refine v_iload_n (pc := 11) X 2 dX1_workWithNumber_11 rfl rfl ?_
      obtain ⟨t3, hf⟩ := hf
      obtain ⟨b5, q4, e_q4, hf⟩ := hf
      refine v_aald_11 (pc := 12) X t3 b5 e_q4 dX1_workWithNumber_12 ?_
      obtain ⟨t6, hf⟩ := hf
      obtain ⟨v7, e_v7, hf⟩ := hf
      refine ge_4_0 (pc := 13) X (fun w h => inM w (inG4 w h)) k47 t6 e_v7 dX1_workWithNumber_13 ?_
      refine v_iload_n (pc := 16) X 1 dX1_workWithNumber_16 rfl rfl ?_
      refine v_icmp_ne (pc := 17) X 27 dX1_workWithNumber_17 (by decide) (fun c => ?_) (fun c => ?_)
      · replace hf := if_f c hf
        refine v_iinc (pc := 27) X 2 (v := s + (1 : Int32)) (lv' := [(2, .int (s + (1 : Int32))), (0, .ref x0), (1, .int x1)]) dX1_workWithNumber_27 rfl rfl (Nat.le_of_ble_eq_true rfl) rfl ?_
        refine v_goto (pc := 30) X 2 dX1_workWithNumber_30 (by decide) ?_
        refine v_sub [1, 2, 0] rfl ?_
        exact ih (s + (1 : Int32)) h hf
      · replace hf := if_t c hf
        refine v_aload_n (pc := 20) X 0 dX1_workWithNumber_20 rfl rfl ?_
        obtain ⟨q8, e_q8, hf⟩ := hf
        refine ge_1_8 (pc := 21) X (fun w h => inM w (inG1 w h)) k20 t1 e_q8 dX1_workWithNumber_21 ?_
        refine v_iload_n (pc := 24) X 2 dX1_workWithNumber_24 rfl rfl ?_
        obtain ⟨t9, hf⟩ := hf
        obtain ⟨b11, q10, e_q10, hf⟩ := hf
        refine v_aald_11 (pc := 25) X t9 b11 e_q10 dX1_workWithNumber_25 ?_
        exact v_aret (pc := 26) X (some q10) rfl hr hlk dX1_workWithNumber_26 hf

set_option maxHeartbeats 4000000 in
set_option maxRecDepth 100000 in
theorem c_X1_workWithNumber (l : Launch) (D : va_G) (cA : Nat → ClassId) (L : List Nat) (sh : Sh) (a0 : Nat) (p1 : Int32) (h : Hp) (K : Option Nat → Hp → Prop) (hf : f_X1_workWithNumber sh a0 p1 h K) : Met l yX1_workWithNumber (wM yX1_workWithNumber cX1_workWithNumber 3 (some (.object "ShapeSessions$Work"))) ({ frames := 0, cells := 0, slots := 0, locals := 0 } : Room) (PreM D cA L sh h [.ref a0, .int p1]) (QN D cA L sh K) 0 0 (fun q => q ∈ L) := by
  refine met_v (cc := cX1_workWithNumber) (nL := 3) (ret := (some (.object "ShapeSessions$Work"))) [(0, .ref a0), (1, .int p1)] (by decide) rfl (Nat.le_of_ble_eq_true rfl) rfl ?_
  intro p e s0 m below meth c X hr hlk
  have k20 := X.ht _ (inM _ q_106)
  have k47 := X.ht _ (inM _ q_71)
  unfold f_X1_workWithNumber at hf
  refine v_iconst (pc := 0) X (v := (0 : Int32)) dX1_workWithNumber_0 (by decide) ?_
  refine v_istore_n (pc := 1) X (i := 2) (lv' := [(2, .int (0 : Int32)), (0, .ref a0), (1, .int p1)]) dX1_workWithNumber_1 rfl (Nat.le_of_ble_eq_true rfl) rfl ?_
  obtain ⟨n, hf⟩ := hf
  refine v_sub [1, 2, 0] rfl ?_
  refine w_X1_workWithNumber_2 X hr hlk a0 p1 _ K (fun  h12 hf => ?_) n (0 : Int32) h hf
  refine v_null (pc := 33) X dX1_workWithNumber_33 ?_
  exact v_aret (pc := 34) X none rfl hr hlk dX1_workWithNumber_34 hf
set_option maxHeartbeats 4000000 in
set_option maxRecDepth 100000 in
theorem c_X1_idleWork (l : Launch) (D : va_G) (cA : Nat → ClassId) (L : List Nat) (sh : Sh) (a0 : Nat) (h : Hp) (K : Option Nat → Hp → Prop) (hf : f_X1_idleWork sh a0 h K) : Met l yX1_idleWork (wM yX1_idleWork cX1_idleWork 1 (some (.object "ShapeSessions$Work"))) ({ frames := 1, cells := 0, slots := 0, locals := 22 } : Room) (PreM D cA L sh h [.ref a0]) (QN D cA L sh K) 0 0 (fun q => q ∈ L) := by
  refine met_v (cc := cX1_idleWork) (nL := 1) (ret := (some (.object "ShapeSessions$Work"))) [(0, .ref a0)] (by decide) rfl (Nat.le_of_ble_eq_true rfl) rfl ?_
  intro p e s0 m below meth c X hr hlk
  unfold f_X1_idleWork at hf
  refine v_aload_n (pc := 0) X 0 dX1_idleWork_0 rfl rfl ?_
  refine v_iconst (pc := 1) X (v := (-1 : Int32)) dX1_idleWork_1 (by decide) ?_
  obtain ⟨t1, hf⟩ := hf
  refine v_callVN (pc := 2) X (As := [.int (-1 : Int32)]) (rest := []) (c_X1_workWithNumber l D cA L sh a0 (-1 : Int32) h _ hf) (cwV 1 X.ht (gwV inM q_257 q_258 q_437 q_3 q_259) rfl rfl rfl (by decide +kernel) ⟨Nat.le_of_ble_eq_true rfl, Nat.le_of_ble_eq_true rfl⟩) rfl (by decide) t1 (ent_1 t1) rfl rfl (Nat.le_of_ble_eq_true rfl) ⟨Nat.zero_le _, Nat.zero_le _⟩ dX1_idleWork_2 (fun r2 h3 hf => ?_)
  exact v_aret (pc := 5) X r2 rfl hr hlk dX1_idleWork_5 hf
set_option maxHeartbeats 4000000 in
set_option maxRecDepth 100000 in
theorem w_X1_takeOut_19 {p : Program} {l : Launch} {e : Env} {s0 : State} {m : MethodId} {args : Array Value} {below : List Frame} {meth : Method} {c : Code} {D : va_G} {cA : Nat → ClassId} {L : List Nat} {sh : Sh} (X : Cx p s0 m c args cX1_takeOut 4 (wM yX1_takeOut cX1_takeOut 4 none) RX1 (fun q => q ∈ L) D cA L sh) (hr : meth.sig.returnType = none) (hlk : meth.locks = false) (x0 : Nat) (x2 : Nat) (Xc : Hp → Prop) (K : Hp → Prop) (hx : ∀  (h1 : Hp), Xc  h1 → V p l e (headSpec (wM yX1_takeOut cX1_takeOut 4 none) ({ frames := 0, cells := 0, slots := 0, locals := 0 } : Room)).room s0 m args below meth c (MQ below (QV D cA L sh K) args s0 0 0 (fun q => q ∈ L)) (fun q => q ∈ L) 0 0 D cA L sh 4 h1 47 [(0, .ref x0), (2, .ref x2)] []) : ∀ (n : Nat) (s : Int32) (h : Hp), lp (b_X1_takeOut_19 sh x0 x2 Xc) n s h → V p l e (headSpec (wM yX1_takeOut cX1_takeOut 4 none) ({ frames := 0, cells := 0, slots := 0, locals := 0 } : Room)).room s0 m args below meth c (MQ below (QV D cA L sh K) args s0 0 0 (fun q => q ∈ L)) (fun q => q ∈ L) 0 0 D cA L sh 4 h 19 [(0, .ref x0), (2, .ref x2), (3, .int s)] [] := by
  have k11 := X.ht _ (inM _ q_104)
  have k44 := X.ht _ (inM _ q_102)
  intro n
  induction n with
  | zero => intro s h hf; exact hf.elim
  | succ n ih =>
    intro s h hf
    replace hf : b_X1_takeOut_19 sh x0 x2 Xc (lp (b_X1_takeOut_19 sh x0 x2 Xc) n) s h := hf
    unfold b_X1_takeOut_19 at hf
    refine v_iload_n (pc := 19) X 2 dX1_takeOut_19 rfl rfl ?_
    refine v_aload_n (pc := 20) X 0 dX1_takeOut_20 rfl rfl ?_
    obtain ⟨t8, hf⟩ := hf
    obtain ⟨v9, e_v9, hf⟩ := hf
    refine ge_1_6 (pc := 21) X (fun w h => inM w (inG1 w h)) k44 t8 e_v9 dX1_takeOut_21 ?_
    refine v_icmp_ge (pc := 24) X 47 dX1_takeOut_24 (by decide) (fun c => ?_) (fun c => ?_)
    · replace hf := if_t c hf
      refine v_sub [0, 1] rfl ?_
      exact hx h hf
    · replace hf := if_f c hf
      refine v_aload_n (pc := 27) X 0 dX1_takeOut_27 rfl rfl ?_
      obtain ⟨q10, e_q10, hf⟩ := hf
      refine ge_1_7 (pc := 28) X (fun w h => inM w (inG1 w h)) k11 t8 e_q10 dX1_takeOut_28 ?_
      refine v_iload_n (pc := 31) X 2 dX1_takeOut_31 rfl rfl ?_
      refine v_aload_n (pc := 32) X 0 dX1_takeOut_32 rfl rfl ?_
      obtain ⟨q11, e_q11, hf⟩ := hf
      refine ge_1_7 (pc := 33) X (fun w h => inM w (inG1 w h)) k11 t8 e_q11 dX1_takeOut_33 ?_
      refine v_iload_n (pc := 36) X 2 dX1_takeOut_36 rfl rfl ?_
      refine v_iconst (pc := 37) X (v := (1 : Int32)) dX1_takeOut_37 (by decide) ?_
      refine v_iadd (pc := 38) X dX1_takeOut_38 ?_
      obtain ⟨t12, hf⟩ := hf
      obtain ⟨b14, q13, e_q13, hf⟩ := hf
      refine v_aald_8 (pc := 39) X t12 b14 e_q13 dX1_takeOut_39 ?_
      obtain ⟨t15, hf⟩ := hf
      obtain ⟨t16, hf⟩ := hf
      obtain ⟨b18, h17, e_h17, hf⟩ := hf
      refine v_aast_8 (pc := 40) X t15 t16 b18 e_h17 dX1_takeOut_40 ?_
      refine v_iinc (pc := 41) X 2 (v := s + (1 : Int32)) (lv' := [(3, .int (s + (1 : Int32))), (0, .ref x0), (2, .ref x2)]) dX1_takeOut_41 rfl rfl (Nat.le_of_ble_eq_true rfl) rfl ?_
      refine v_goto (pc := 44) X 19 dX1_takeOut_44 (by decide) ?_
      refine v_sub [1, 2, 0] rfl ?_
      exact ih (s + (1 : Int32)) h17 hf

set_option maxHeartbeats 4000000 in
set_option maxRecDepth 100000 in
theorem c_X1_takeOut (l : Launch) (D : va_G) (cA : Nat → ClassId) (L : List Nat) (sh : Sh) (a0 : Nat) (p1 : Int32) (h : Hp) (K : Hp → Prop) (hf : f_X1_takeOut sh a0 p1 h K) : Met l yX1_takeOut (wM yX1_takeOut cX1_takeOut 4 none) ({ frames := 0, cells := 0, slots := 0, locals := 0 } : Room) (PreM D cA L sh h [.ref a0, .int p1]) (QV D cA L sh K) 0 0 (fun q => q ∈ L) := by
  refine met_v (cc := cX1_takeOut) (nL := 4) (ret := none) [(0, .ref a0), (1, .int p1)] (by decide) rfl (Nat.le_of_ble_eq_true rfl) rfl ?_
  intro p e s0 m below meth c X hr hlk
  have k11 := X.ht _ (inM _ q_104)
  have k44 := X.ht _ (inM _ q_102)
  unfold f_X1_takeOut at hf
  refine v_aload_n (pc := 0) X 0 dX1_takeOut_0 rfl rfl ?_
  obtain ⟨t1, hf⟩ := hf
  obtain ⟨q2, e_q2, hf⟩ := hf
  refine ge_1_7 (pc := 1) X (fun w h => inM w (inG1 w h)) k11 t1 e_q2 dX1_takeOut_1 ?_
  refine v_iload_n (pc := 4) X 1 dX1_takeOut_4 rfl rfl ?_
  obtain ⟨t3, hf⟩ := hf
  obtain ⟨b5, q4, e_q4, hf⟩ := hf
  refine v_aald_8 (pc := 5) X t3 b5 e_q4 dX1_takeOut_5 ?_
  refine v_astore_n (pc := 6) X (i := 2) (lv' := [(2, .ref q4), (0, .ref a0), (1, .int p1)]) dX1_takeOut_6 rfl (Nat.le_of_ble_eq_true rfl) rfl ?_
  refine v_aload_n (pc := 7) X 1 dX1_takeOut_7 rfl rfl ?_
  refine v_dup (pc := 8) X dX1_takeOut_8 rfl ?_
  obtain ⟨v6, e_v6, hf⟩ := hf
  refine ge_1_6 (pc := 9) X (fun w h => inM w (inG1 w h)) k44 t1 e_v6 dX1_takeOut_9 ?_
  refine v_iconst (pc := 12) X (v := (1 : Int32)) dX1_takeOut_12 (by decide) ?_
  refine v_isub (pc := 13) X dX1_takeOut_13 ?_
  obtain ⟨h7, e_h7, hf⟩ := hf
  refine pu_1_6 (pc := 14) X (fun w h => inM w (inG1 w h)) k44 t1 e_h7 dX1_takeOut_14 ?_
  refine v_iload_n (pc := 17) X 2 dX1_takeOut_17 rfl rfl ?_
  refine v_istore_n (pc := 18) X (i := 3) (lv' := [(3, .int p1), (2, .ref q4), (0, .ref a0), (1, .int p1)]) dX1_takeOut_18 rfl (Nat.le_of_ble_eq_true rfl) rfl ?_
  obtain ⟨n, hf⟩ := hf
  refine v_sub [2, 1, 0] rfl ?_
  refine w_X1_takeOut_19 X hr hlk a0 q4 _ K (fun  h19 hf => ?_) n p1 h7 hf
  refine v_aload_n (pc := 47) X 0 dX1_takeOut_47 rfl rfl ?_
  obtain ⟨q20, e_q20, hf⟩ := hf
  refine ge_1_7 (pc := 48) X (fun w h => inM w (inG1 w h)) k11 t1 e_q20 dX1_takeOut_48 ?_
  refine v_aload_n (pc := 51) X 0 dX1_takeOut_51 rfl rfl ?_
  obtain ⟨v21, e_v21, hf⟩ := hf
  refine ge_1_6 (pc := 52) X (fun w h => inM w (inG1 w h)) k44 t1 e_v21 dX1_takeOut_52 ?_
  refine v_aload_n (pc := 55) X 1 dX1_takeOut_55 rfl rfl ?_
  obtain ⟨t22, hf⟩ := hf
  obtain ⟨t23, hf⟩ := hf
  obtain ⟨b25, h24, e_h24, hf⟩ := hf
  refine v_aast_8 (pc := 56) X t22 t23 b25 e_h24 dX1_takeOut_56 ?_
  exact v_vret (pc := 57) X hr hlk dX1_takeOut_57 hf
set_option maxHeartbeats 4000000 in
set_option maxRecDepth 100000 in
theorem w_X1_learn_33 {p : Program} {l : Launch} {e : Env} {s0 : State} {m : MethodId} {args : Array Value} {below : List Frame} {meth : Method} {c : Code} {D : va_G} {cA : Nat → ClassId} {L : List Nat} {sh : Sh} (X : Cx p s0 m c args cX1_learn 6 (wM yX1_learn cX1_learn 6 none) RX1 (fun q => q ∈ L) D cA L sh) (hr : meth.sig.returnType = none) (hlk : meth.locks = false) (x0 : Nat) (x1 : Int32) (x2 : Nat) (x3 : Nat) (x4 : Int32) (Xc : Hp → Prop) (K : Hp → Prop) (hx : ∀  (h1 : Hp), Xc  h1 → V p l e (headSpec (wM yX1_learn cX1_learn 6 none) ({ frames := 1, cells := 0, slots := 0, locals := 23 } : Room)).room s0 m args below meth c (MQ below (QV D cA L sh K) args s0 0 0 (fun q => q ∈ L)) (fun q => q ∈ L) 0 0 D cA L sh 6 h1 106 [(0, .ref x0), (1, .int x1), (2, .ref x2), (3, .ref x3)] []) : ∀ (n : Nat) (s : Int32) (h : Hp), lp (b_X1_learn_33 sh x0 x1 x2 x3 x4 Xc) n s h → V p l e (headSpec (wM yX1_learn cX1_learn 6 none) ({ frames := 1, cells := 0, slots := 0, locals := 23 } : Room)).room s0 m args below meth c (MQ below (QV D cA L sh K) args s0 0 0 (fun q => q ∈ L)) (fun q => q ∈ L) 0 0 D cA L sh 6 h 33 [(0, .ref x0), (1, .int x1), (2, .ref x2), (3, .ref x3), (4, .int x4), (5, .int s)] [] := by
  have k25 := X.ht _ (inM _ q_86)
  have k44 := X.ht _ (inM _ q_102)
  have k11 := X.ht _ (inM _ q_104)
  have k57 := X.ht _ (inM _ q_38)
  have k60 := X.ht _ (inM _ q_42)
  have k63 := X.ht _ (inM _ q_54)
  have k67 := X.ht _ (inM _ q_48)
  intro n
  induction n with
  | zero => intro s h hf; exact hf.elim
  | succ n ih =>
    intro s h hf
    replace hf : b_X1_learn_33 sh x0 x1 x2 x3 x4 Xc (lp (b_X1_learn_33 sh x0 x1 x2 x3 x4 Xc) n) s h := hf
    unfold b_X1_learn_33 at hf
    refine v_iload (pc := 33) X 5 dX1_learn_33 rfl ?_
    refine v_if_lt (pc := 35) X 106 dX1_learn_35 (by decide) (fun c => ?_) (fun c => ?_)
    · replace hf := if_t c hf
      refine v_sub [0, 1, 2, 3] rfl ?_
      exact hx h hf
    · replace hf := if_f c hf
      refine v_aload_n (pc := 38) X 0 dX1_learn_38 rfl rfl ?_
      obtain ⟨t9, hf⟩ := hf
      obtain ⟨q10, e_q10, hf⟩ := hf
      refine ge_1_7 (pc := 39) X (fun w h => inM w (inG1 w h)) k11 t9 e_q10 dX1_learn_39 ?_
      refine v_iload (pc := 42) X 5 dX1_learn_42 rfl ?_
      obtain ⟨t11, hf⟩ := hf
      obtain ⟨b13, q12, e_q12, hf⟩ := hf
      refine v_aald_8 (pc := 44) X t11 b13 e_q12 dX1_learn_44 ?_
      obtain ⟨t14, hf⟩ := hf
      obtain ⟨v15, e_v15, hf⟩ := hf
      refine ge_0_0 (pc := 45) X (fun w h => inM w (inG0 w h)) k57 t14 e_v15 dX1_learn_45 ?_
      refine v_iload (pc := 48) X 4 dX1_learn_48 rfl ?_
      refine v_icmp_ne (pc := 50) X 100 dX1_learn_50 (by decide) (fun c => ?_) (fun c => ?_)
      · replace hf := if_f c hf
        refine v_iinc (pc := 100) X 5 (v := s + (-1 : Int32)) (lv' := [(5, .int (s + (-1 : Int32))), (0, .ref x0), (1, .int x1), (2, .ref x2), (3, .ref x3), (4, .int x4)]) dX1_learn_100 rfl rfl (Nat.le_of_ble_eq_true rfl) rfl ?_
        refine v_goto (pc := 103) X 33 dX1_learn_103 (by decide) ?_
        refine v_sub [1, 2, 3, 4, 5, 0] rfl ?_
        exact ih (s + (-1 : Int32)) h hf
      · replace hf := if_t c hf
        refine v_aload_n (pc := 53) X 0 dX1_learn_53 rfl rfl ?_
        obtain ⟨q16, e_q16, hf⟩ := hf
        refine ge_1_7 (pc := 54) X (fun w h => inM w (inG1 w h)) k11 t9 e_q16 dX1_learn_54 ?_
        refine v_iload (pc := 57) X 5 dX1_learn_57 rfl ?_
        obtain ⟨t17, hf⟩ := hf
        obtain ⟨b19, q18, e_q18, hf⟩ := hf
        refine v_aald_8 (pc := 59) X t17 b19 e_q18 dX1_learn_59 ?_
        obtain ⟨t20, hf⟩ := hf
        obtain ⟨v21, e_v21, hf⟩ := hf
        refine ge_0_1 (pc := 60) X (fun w h => inM w (inG0 w h)) k60 t20 e_v21 dX1_learn_60 ?_
        refine v_aload_n (pc := 63) X 3 dX1_learn_63 rfl rfl ?_
        refine v_iload (pc := 64) X 4 dX1_learn_64 rfl ?_
        obtain ⟨t22, hf⟩ := hf
        obtain ⟨b24, v23, e_v23, hf⟩ := hf
        refine v_iald (pc := 66) X t22 b24 e_v23 dX1_learn_66 ?_
        refine v_icmp_ge (pc := 67) X 100 dX1_learn_67 (by decide) (fun c => ?_) (fun c => ?_)
        · replace hf := if_t c hf
          refine v_iinc (pc := 100) X 5 (v := s + (-1 : Int32)) (lv' := [(5, .int (s + (-1 : Int32))), (0, .ref x0), (1, .int x1), (2, .ref x2), (3, .ref x3), (4, .int x4)]) dX1_learn_100 rfl rfl (Nat.le_of_ble_eq_true rfl) rfl ?_
          refine v_goto (pc := 103) X 33 dX1_learn_103 (by decide) ?_
          refine v_sub [1, 2, 3, 4, 5, 0] rfl ?_
          exact ih (s + (-1 : Int32)) h hf
        · replace hf := if_f c hf
          refine v_aload_n (pc := 70) X 0 dX1_learn_70 rfl rfl ?_
          obtain ⟨q25, e_q25, hf⟩ := hf
          refine ge_1_7 (pc := 71) X (fun w h => inM w (inG1 w h)) k11 t9 e_q25 dX1_learn_71 ?_
          refine v_iload (pc := 74) X 5 dX1_learn_74 rfl ?_
          obtain ⟨t26, hf⟩ := hf
          obtain ⟨b28, q27, e_q27, hf⟩ := hf
          refine v_aald_8 (pc := 76) X t26 b28 e_q27 dX1_learn_76 ?_
          refine v_iconst (pc := 77) X (v := (1 : Int32)) dX1_learn_77 (by decide) ?_
          obtain ⟨t29, hf⟩ := hf
          obtain ⟨h30, e_h30, hf⟩ := hf
          refine pu_0_5 (pc := 78) X (fun w h => inM w (inG0 w h)) k63 t29 (by decide) e_h30 dX1_learn_78 ?_
          refine v_aload_n (pc := 81) X 0 dX1_learn_81 rfl rfl ?_
          obtain ⟨q31, e_q31, hf⟩ := hf
          refine ge_1_7 (pc := 82) X (fun w h => inM w (inG1 w h)) k11 t9 e_q31 dX1_learn_82 ?_
          refine v_iload (pc := 85) X 5 dX1_learn_85 rfl ?_
          obtain ⟨t32, hf⟩ := hf
          obtain ⟨b34, q33, e_q33, hf⟩ := hf
          refine v_aald_8 (pc := 87) X t32 b34 e_q33 dX1_learn_87 ?_
          obtain ⟨t35, hf⟩ := hf
          obtain ⟨v36, e_v36, hf⟩ := hf
          refine ge_0_3 (pc := 88) X (fun w h => inM w (inG0 w h)) k67 t35 e_v36 dX1_learn_88 ?_
          refine v_if_ne (pc := 91) X 100 dX1_learn_91 (by decide) (fun c => ?_) (fun c => ?_)
          · replace hf := if_f c hf
            refine v_iinc (pc := 100) X 5 (v := s + (-1 : Int32)) (lv' := [(5, .int (s + (-1 : Int32))), (0, .ref x0), (1, .int x1), (2, .ref x2), (3, .ref x3), (4, .int x4)]) dX1_learn_100 rfl rfl (Nat.le_of_ble_eq_true rfl) rfl ?_
            refine v_goto (pc := 103) X 33 dX1_learn_103 (by decide) ?_
            refine v_sub [1, 2, 3, 4, 5, 0] rfl ?_
            exact ih (s + (-1 : Int32)) h30 hf
          · replace hf := if_t c hf
            refine v_aload_n (pc := 94) X 0 dX1_learn_94 rfl rfl ?_
            refine v_iload (pc := 95) X 5 dX1_learn_95 rfl ?_
            refine v_callVV (pc := 97) X (As := [.int s]) (rest := []) (c_X1_takeOut l D cA L sh x0 s h30 _ hf) (cwV 1 X.ht (gwV inM q_264 q_265 q_438 q_3 q_266) rfl rfl rfl (by decide +kernel) ⟨Nat.le_of_ble_eq_true rfl, Nat.le_of_ble_eq_true rfl⟩) rfl (by decide) t9 (ent_1 t9) rfl rfl (Nat.le_of_ble_eq_true rfl) ⟨Nat.zero_le _, Nat.zero_le _⟩ dX1_learn_97 (fun h38 hf => ?_)
            refine v_iinc (pc := 100) X 5 (v := s + (-1 : Int32)) (lv' := [(5, .int (s + (-1 : Int32))), (0, .ref x0), (1, .int x1), (2, .ref x2), (3, .ref x3), (4, .int x4)]) dX1_learn_100 rfl rfl (Nat.le_of_ble_eq_true rfl) rfl ?_
            refine v_goto (pc := 103) X 33 dX1_learn_103 (by decide) ?_
            refine v_sub [1, 2, 3, 4, 5, 0] rfl ?_
            exact ih (s + (-1 : Int32)) h38 hf

set_option maxHeartbeats 4000000 in
set_option maxRecDepth 100000 in
theorem w_X1_learn_0 {p : Program} {l : Launch} {e : Env} {s0 : State} {m : MethodId} {args : Array Value} {below : List Frame} {meth : Method} {c : Code} {D : va_G} {cA : Nat → ClassId} {L : List Nat} {sh : Sh} (X : Cx p s0 m c args cX1_learn 6 (wM yX1_learn cX1_learn 6 none) RX1 (fun q => q ∈ L) D cA L sh) (hr : meth.sig.returnType = none) (hlk : meth.locks = false) (x0 : Nat) (x1 : Int32) (x2 : Nat) (x3 : Nat) (Xc : Hp → Prop) (K : Hp → Prop) (hx : ∀  (h1 : Hp), Xc  h1 → V p l e (headSpec (wM yX1_learn cX1_learn 6 none) ({ frames := 1, cells := 0, slots := 0, locals := 23 } : Room)).room s0 m args below meth c (MQ below (QV D cA L sh K) args s0 0 0 (fun q => q ∈ L)) (fun q => q ∈ L) 0 0 D cA L sh 6 h1 119 [] []) : ∀ (n : Nat) (s : Unit) (h : Hp), lp (b_X1_learn_0 sh x0 x1 x2 x3 Xc) n s h → V p l e (headSpec (wM yX1_learn cX1_learn 6 none) ({ frames := 1, cells := 0, slots := 0, locals := 23 } : Room)).room s0 m args below meth c (MQ below (QV D cA L sh K) args s0 0 0 (fun q => q ∈ L)) (fun q => q ∈ L) 0 0 D cA L sh 6 h 0 [(0, .ref x0), (1, .int x1), (2, .ref x2), (3, .ref x3)] [] := by
  have k25 := X.ht _ (inM _ q_86)
  have k44 := X.ht _ (inM _ q_102)
  have k11 := X.ht _ (inM _ q_104)
  have k57 := X.ht _ (inM _ q_38)
  have k60 := X.ht _ (inM _ q_42)
  have k63 := X.ht _ (inM _ q_54)
  have k67 := X.ht _ (inM _ q_48)
  intro n
  induction n with
  | zero => intro s h hf; exact hf.elim
  | succ n ih =>
    intro s h hf
    replace hf : b_X1_learn_0 sh x0 x1 x2 x3 Xc (lp (b_X1_learn_0 sh x0 x1 x2 x3 Xc) n) s h := hf
    unfold b_X1_learn_0 at hf
    refine v_aload_n (pc := 0) X 0 dX1_learn_0 rfl rfl ?_
    obtain ⟨t1, hf⟩ := hf
    obtain ⟨v2, e_v2, hf⟩ := hf
    refine ge_1_0 (pc := 1) X (fun w h => inM w (inG1 w h)) k25 t1 e_v2 dX1_learn_1 ?_
    refine v_iload_n (pc := 4) X 1 dX1_learn_4 rfl rfl ?_
    refine v_icmp_ge (pc := 5) X 119 dX1_learn_5 (by decide) (fun c => ?_) (fun c => ?_)
    · replace hf := if_t c hf
      refine v_sub [] rfl ?_
      exact hx h hf
    · replace hf := if_f c hf
      refine v_aload_n (pc := 8) X 0 dX1_learn_8 rfl rfl ?_
      obtain ⟨v3, e_v3, hf⟩ := hf
      refine ge_1_0 (pc := 9) X (fun w h => inM w (inG1 w h)) k25 t1 e_v3 dX1_learn_9 ?_
      refine v_bipush (pc := 12) X (v := (100 : Int32)) dX1_learn_12 (by decide) ?_
      refine v_icmp_ge (pc := 14) X 119 dX1_learn_14 (by decide) (fun c => ?_) (fun c => ?_)
      · replace hf := if_t c hf
        refine v_sub [] rfl ?_
        exact hx h hf
      · replace hf := if_f c hf
        refine v_aload_n (pc := 17) X 2 dX1_learn_17 rfl rfl ?_
        refine v_aload_n (pc := 18) X 0 dX1_learn_18 rfl rfl ?_
        obtain ⟨v4, e_v4, hf⟩ := hf
        refine ge_1_0 (pc := 19) X (fun w h => inM w (inG1 w h)) k25 t1 e_v4 dX1_learn_19 ?_
        obtain ⟨t5, hf⟩ := hf
        obtain ⟨b7, v6, e_v6, hf⟩ := hf
        refine v_iald (pc := 22) X t5 b7 e_v6 dX1_learn_22 ?_
        refine v_istore (pc := 23) X (i := 4) (lv' := [(4, .int v6), (0, .ref x0), (1, .int x1), (2, .ref x2), (3, .ref x3)]) dX1_learn_23 (Nat.le_of_ble_eq_true rfl) rfl ?_
        refine v_aload_n (pc := 25) X 1 dX1_learn_25 rfl rfl ?_
        obtain ⟨v8, e_v8, hf⟩ := hf
        refine ge_1_6 (pc := 26) X (fun w h => inM w (inG1 w h)) k44 t1 e_v8 dX1_learn_26 ?_
        refine v_iconst (pc := 29) X (v := (1 : Int32)) dX1_learn_29 (by decide) ?_
        refine v_isub (pc := 30) X dX1_learn_30 ?_
        refine v_istore (pc := 31) X (i := 5) (lv' := [(5, .int (v8 - (1 : Int32))), (4, .int v6), (0, .ref x0), (1, .int x1), (2, .ref x2), (3, .ref x3)]) dX1_learn_31 (Nat.le_of_ble_eq_true rfl) rfl ?_
        obtain ⟨n, hf⟩ := hf
        refine v_sub [2, 3, 4, 5, 1, 0] rfl ?_
        refine w_X1_learn_33 X hr hlk x0 x1 x2 x3 v6 _ K (fun  h39 hf => ?_) n (v8 - (1 : Int32)) h hf
        refine v_aload_n (pc := 106) X 0 dX1_learn_106 rfl rfl ?_
        refine v_dup (pc := 107) X dX1_learn_107 rfl ?_
        obtain ⟨v40, e_v40, hf⟩ := hf
        refine ge_1_0 (pc := 108) X (fun w h => inM w (inG1 w h)) k25 t1 e_v40 dX1_learn_108 ?_
        refine v_iconst (pc := 111) X (v := (1 : Int32)) dX1_learn_111 (by decide) ?_
        refine v_iadd (pc := 112) X dX1_learn_112 ?_
        obtain ⟨h41, e_h41, hf⟩ := hf
        refine pu_1_0 (pc := 113) X (fun w h => inM w (inG1 w h)) k25 t1 e_h41 dX1_learn_113 ?_
        refine v_goto (pc := 116) X 0 dX1_learn_116 (by decide) ?_
        refine v_sub [0, 1, 2, 3] rfl ?_
        exact ih () h41 hf

set_option maxHeartbeats 4000000 in
set_option maxRecDepth 100000 in
theorem c_X1_learn (l : Launch) (D : va_G) (cA : Nat → ClassId) (L : List Nat) (sh : Sh) (a0 : Nat) (p1 : Int32) (p2 : Nat) (p3 : Nat) (h : Hp) (K : Hp → Prop) (hf : f_X1_learn sh a0 p1 p2 p3 h K) : Met l yX1_learn (wM yX1_learn cX1_learn 6 none) ({ frames := 1, cells := 0, slots := 0, locals := 23 } : Room) (PreM D cA L sh h [.ref a0, .int p1, .ref p2, .ref p3]) (QV D cA L sh K) 0 0 (fun q => q ∈ L) := by
  refine met_v (cc := cX1_learn) (nL := 6) (ret := none) [(0, .ref a0), (1, .int p1), (2, .ref p2), (3, .ref p3)] (by decide) rfl (Nat.le_of_ble_eq_true rfl) rfl ?_
  intro p e s0 m below meth c X hr hlk
  have k25 := X.ht _ (inM _ q_86)
  have k44 := X.ht _ (inM _ q_102)
  have k11 := X.ht _ (inM _ q_104)
  have k57 := X.ht _ (inM _ q_38)
  have k60 := X.ht _ (inM _ q_42)
  have k63 := X.ht _ (inM _ q_54)
  have k67 := X.ht _ (inM _ q_48)
  unfold f_X1_learn at hf
  obtain ⟨n, hf⟩ := hf
  refine v_sub [0, 1, 2, 3] rfl ?_
  refine w_X1_learn_0 X hr hlk a0 p1 p2 p3 _ K (fun  h42 hf => ?_) n () h hf
  exact v_vret (pc := 119) X hr hlk dX1_learn_119 hf
set_option maxHeartbeats 4000000 in
set_option maxRecDepth 100000 in
theorem w_X1_leastVersionAtWork_2 {p : Program} {l : Launch} {e : Env} {s0 : State} {m : MethodId} {args : Array Value} {below : List Frame} {meth : Method} {c : Code} {D : va_G} {cA : Nat → ClassId} {L : List Nat} {sh : Sh} (X : Cx p s0 m c args cX1_leastVersionAtWork 3 (wM yX1_leastVersionAtWork cX1_leastVersionAtWork 3 (some .int)) RX1 (fun q => q ∈ L) D cA L sh) (hr : meth.sig.returnType = (some .int)) (hlk : meth.locks = false) (x0 : Nat) (x1 : Int32) (Xc : Hp → Prop) (K : Int32 → Hp → Prop) (hx : ∀  (h1 : Hp), Xc  h1 → V p l e (headSpec (wM yX1_leastVersionAtWork cX1_leastVersionAtWork 3 (some .int)) ({ frames := 0, cells := 0, slots := 0, locals := 0 } : Room)).room s0 m args below meth c (MQ below (QI D cA L sh K) args s0 0 0 (fun q => q ∈ L)) (fun q => q ∈ L) 0 0 D cA L sh 3 h1 51 [] []) : ∀ (n : Nat) (s : Int32) (h : Hp), lp (b_X1_leastVersionAtWork_2 sh x0 x1 Xc K) n s h → V p l e (headSpec (wM yX1_leastVersionAtWork cX1_leastVersionAtWork 3 (some .int)) ({ frames := 0, cells := 0, slots := 0, locals := 0 } : Room)).room s0 m args below meth c (MQ below (QI D cA L sh K) args s0 0 0 (fun q => q ∈ L)) (fun q => q ∈ L) 0 0 D cA L sh 3 h 2 [(0, .ref x0), (1, .int x1), (2, .int s)] [] := by
  have k44 := X.ht _ (inM _ q_102)
  have k11 := X.ht _ (inM _ q_104)
  have k57 := X.ht _ (inM _ q_38)
  have k67 := X.ht _ (inM _ q_48)
  have k60 := X.ht _ (inM _ q_42)
  intro n
  induction n with
  | zero => intro s h hf; exact hf.elim
  | succ n ih =>
    intro s h hf
    replace hf : b_X1_leastVersionAtWork_2 sh x0 x1 Xc K (lp (b_X1_leastVersionAtWork_2 sh x0 x1 Xc K) n) s h := hf
    unfold b_X1_leastVersionAtWork_2 at hf
    refine v_iload_n (pc := 2) X 2 dX1_leastVersionAtWork_2 rfl rfl ?_
    refine v_aload_n (pc := 3) X 0 dX1_leastVersionAtWork_3 rfl rfl ?_
    obtain ⟨t1, hf⟩ := hf
    obtain ⟨v2, e_v2, hf⟩ := hf
    refine ge_1_6 (pc := 4) X (fun w h => inM w (inG1 w h)) k44 t1 e_v2 dX1_leastVersionAtWork_4 ?_
    refine v_icmp_ge (pc := 7) X 51 dX1_leastVersionAtWork_7 (by decide) (fun c => ?_) (fun c => ?_)
    · replace hf := if_t c hf
      refine v_sub [] rfl ?_
      exact hx h hf
    · replace hf := if_f c hf
      refine v_aload_n (pc := 10) X 0 dX1_leastVersionAtWork_10 rfl rfl ?_
      obtain ⟨q3, e_q3, hf⟩ := hf
      refine ge_1_7 (pc := 11) X (fun w h => inM w (inG1 w h)) k11 t1 e_q3 dX1_leastVersionAtWork_11 ?_
      refine v_iload_n (pc := 14) X 2 dX1_leastVersionAtWork_14 rfl rfl ?_
      obtain ⟨t4, hf⟩ := hf
      obtain ⟨b6, q5, e_q5, hf⟩ := hf
      refine v_aald_8 (pc := 15) X t4 b6 e_q5 dX1_leastVersionAtWork_15 ?_
      obtain ⟨t7, hf⟩ := hf
      obtain ⟨v8, e_v8, hf⟩ := hf
      refine ge_0_0 (pc := 16) X (fun w h => inM w (inG0 w h)) k57 t7 e_v8 dX1_leastVersionAtWork_16 ?_
      refine v_iload_n (pc := 19) X 1 dX1_leastVersionAtWork_19 rfl rfl ?_
      refine v_icmp_ne (pc := 20) X 45 dX1_leastVersionAtWork_20 (by decide) (fun c => ?_) (fun c => ?_)
      · replace hf := if_f c hf
        refine v_iinc (pc := 45) X 2 (v := s + (1 : Int32)) (lv' := [(2, .int (s + (1 : Int32))), (0, .ref x0), (1, .int x1)]) dX1_leastVersionAtWork_45 rfl rfl (Nat.le_of_ble_eq_true rfl) rfl ?_
        refine v_goto (pc := 48) X 2 dX1_leastVersionAtWork_48 (by decide) ?_
        refine v_sub [1, 2, 0] rfl ?_
        exact ih (s + (1 : Int32)) h hf
      · replace hf := if_t c hf
        refine v_aload_n (pc := 23) X 0 dX1_leastVersionAtWork_23 rfl rfl ?_
        obtain ⟨q9, e_q9, hf⟩ := hf
        refine ge_1_7 (pc := 24) X (fun w h => inM w (inG1 w h)) k11 t1 e_q9 dX1_leastVersionAtWork_24 ?_
        refine v_iload_n (pc := 27) X 2 dX1_leastVersionAtWork_27 rfl rfl ?_
        obtain ⟨t10, hf⟩ := hf
        obtain ⟨b12, q11, e_q11, hf⟩ := hf
        refine v_aald_8 (pc := 28) X t10 b12 e_q11 dX1_leastVersionAtWork_28 ?_
        obtain ⟨t13, hf⟩ := hf
        obtain ⟨v14, e_v14, hf⟩ := hf
        refine ge_0_3 (pc := 29) X (fun w h => inM w (inG0 w h)) k67 t13 e_v14 dX1_leastVersionAtWork_29 ?_
        refine v_if_le (pc := 32) X 45 dX1_leastVersionAtWork_32 (by decide) (fun c => ?_) (fun c => ?_)
        · replace hf := if_t c hf
          refine v_iinc (pc := 45) X 2 (v := s + (1 : Int32)) (lv' := [(2, .int (s + (1 : Int32))), (0, .ref x0), (1, .int x1)]) dX1_leastVersionAtWork_45 rfl rfl (Nat.le_of_ble_eq_true rfl) rfl ?_
          refine v_goto (pc := 48) X 2 dX1_leastVersionAtWork_48 (by decide) ?_
          refine v_sub [1, 2, 0] rfl ?_
          exact ih (s + (1 : Int32)) h hf
        · replace hf := if_f c hf
          refine v_aload_n (pc := 35) X 0 dX1_leastVersionAtWork_35 rfl rfl ?_
          obtain ⟨q15, e_q15, hf⟩ := hf
          refine ge_1_7 (pc := 36) X (fun w h => inM w (inG1 w h)) k11 t1 e_q15 dX1_leastVersionAtWork_36 ?_
          refine v_iload_n (pc := 39) X 2 dX1_leastVersionAtWork_39 rfl rfl ?_
          obtain ⟨t16, hf⟩ := hf
          obtain ⟨b18, q17, e_q17, hf⟩ := hf
          refine v_aald_8 (pc := 40) X t16 b18 e_q17 dX1_leastVersionAtWork_40 ?_
          obtain ⟨t19, hf⟩ := hf
          obtain ⟨v20, e_v20, hf⟩ := hf
          refine ge_0_1 (pc := 41) X (fun w h => inM w (inG0 w h)) k60 t19 e_v20 dX1_leastVersionAtWork_41 ?_
          exact v_iret (pc := 44) X hr hlk dX1_leastVersionAtWork_44 hf

set_option maxHeartbeats 4000000 in
set_option maxRecDepth 100000 in
theorem c_X1_leastVersionAtWork (l : Launch) (D : va_G) (cA : Nat → ClassId) (L : List Nat) (sh : Sh) (a0 : Nat) (p1 : Int32) (h : Hp) (K : Int32 → Hp → Prop) (hf : f_X1_leastVersionAtWork sh a0 p1 h K) : Met l yX1_leastVersionAtWork (wM yX1_leastVersionAtWork cX1_leastVersionAtWork 3 (some .int)) ({ frames := 0, cells := 0, slots := 0, locals := 0 } : Room) (PreM D cA L sh h [.ref a0, .int p1]) (QI D cA L sh K) 0 0 (fun q => q ∈ L) := by
  refine met_v (cc := cX1_leastVersionAtWork) (nL := 3) (ret := (some .int)) [(0, .ref a0), (1, .int p1)] (by decide) rfl (Nat.le_of_ble_eq_true rfl) rfl ?_
  intro p e s0 m below meth c X hr hlk
  have k44 := X.ht _ (inM _ q_102)
  have k11 := X.ht _ (inM _ q_104)
  have k57 := X.ht _ (inM _ q_38)
  have k67 := X.ht _ (inM _ q_48)
  have k60 := X.ht _ (inM _ q_42)
  unfold f_X1_leastVersionAtWork at hf
  refine v_iconst (pc := 0) X (v := (0 : Int32)) dX1_leastVersionAtWork_0 (by decide) ?_
  refine v_istore_n (pc := 1) X (i := 2) (lv' := [(2, .int (0 : Int32)), (0, .ref a0), (1, .int p1)]) dX1_leastVersionAtWork_1 rfl (Nat.le_of_ble_eq_true rfl) rfl ?_
  obtain ⟨n, hf⟩ := hf
  refine v_sub [1, 2, 0] rfl ?_
  refine w_X1_leastVersionAtWork_2 X hr hlk a0 p1 _ K (fun  h21 hf => ?_) n (0 : Int32) h hf
  refine v_iconst (pc := 51) X (v := (-1 : Int32)) dX1_leastVersionAtWork_51 (by decide) ?_
  exact v_iret (pc := 52) X hr hlk dX1_leastVersionAtWork_52 hf
set_option maxHeartbeats 4000000 in
set_option maxRecDepth 100000 in
theorem w_X1_longestUnused_4 {p : Program} {l : Launch} {e : Env} {s0 : State} {m : MethodId} {args : Array Value} {below : List Frame} {meth : Method} {c : Code} {D : va_G} {cA : Nat → ClassId} {L : List Nat} {sh : Sh} (X : Cx p s0 m c args cX1_longestUnused 3 (wM yX1_longestUnused cX1_longestUnused 3 (some .int)) RX1 (fun q => q ∈ L) D cA L sh) (hr : meth.sig.returnType = (some .int)) (hlk : meth.locks = false) (x0 : Nat) (Xc : Int32 → Hp → Prop) (K : Int32 → Hp → Prop) (hx : ∀ (y1 : Int32) (h1 : Hp), Xc y1 h1 → V p l e (headSpec (wM yX1_longestUnused cX1_longestUnused 3 (some .int)) ({ frames := 0, cells := 0, slots := 0, locals := 0 } : Room)).room s0 m args below meth c (MQ below (QI D cA L sh K) args s0 0 0 (fun q => q ∈ L)) (fun q => q ∈ L) 0 0 D cA L sh 3 h1 57 [(1, .int y1)] []) : ∀ (n : Nat) (s : Int32 × Int32) (h : Hp), lp (b_X1_longestUnused_4 sh x0 Xc) n s h → V p l e (headSpec (wM yX1_longestUnused cX1_longestUnused 3 (some .int)) ({ frames := 0, cells := 0, slots := 0, locals := 0 } : Room)).room s0 m args below meth c (MQ below (QI D cA L sh K) args s0 0 0 (fun q => q ∈ L)) (fun q => q ∈ L) 0 0 D cA L sh 3 h 4 [(0, .ref x0), (1, .int s.1), (2, .int s.2)] [] := by
  have k44 := X.ht _ (inM _ q_102)
  have k11 := X.ht _ (inM _ q_104)
  have k67 := X.ht _ (inM _ q_48)
  have k85 := X.ht _ (inM _ q_51)
  intro n
  induction n with
  | zero => intro s h hf; exact hf.elim
  | succ n ih =>
    intro s h hf
    replace hf : b_X1_longestUnused_4 sh x0 Xc (lp (b_X1_longestUnused_4 sh x0 Xc) n) s h := hf
    unfold b_X1_longestUnused_4 at hf
    refine v_iload_n (pc := 4) X 2 dX1_longestUnused_4 rfl rfl ?_
    refine v_aload_n (pc := 5) X 0 dX1_longestUnused_5 rfl rfl ?_
    obtain ⟨t1, hf⟩ := hf
    obtain ⟨v2, e_v2, hf⟩ := hf
    refine ge_1_6 (pc := 6) X (fun w h => inM w (inG1 w h)) k44 t1 e_v2 dX1_longestUnused_6 ?_
    refine v_icmp_ge (pc := 9) X 57 dX1_longestUnused_9 (by decide) (fun c => ?_) (fun c => ?_)
    · replace hf := if_t c hf
      refine v_sub [1] rfl ?_
      exact hx s.1 h hf
    · replace hf := if_f c hf
      refine v_aload_n (pc := 12) X 0 dX1_longestUnused_12 rfl rfl ?_
      obtain ⟨q3, e_q3, hf⟩ := hf
      refine ge_1_7 (pc := 13) X (fun w h => inM w (inG1 w h)) k11 t1 e_q3 dX1_longestUnused_13 ?_
      refine v_iload_n (pc := 16) X 2 dX1_longestUnused_16 rfl rfl ?_
      obtain ⟨t4, hf⟩ := hf
      obtain ⟨b6, q5, e_q5, hf⟩ := hf
      refine v_aald_8 (pc := 17) X t4 b6 e_q5 dX1_longestUnused_17 ?_
      obtain ⟨t7, hf⟩ := hf
      obtain ⟨v8, e_v8, hf⟩ := hf
      refine ge_0_3 (pc := 18) X (fun w h => inM w (inG0 w h)) k67 t7 e_v8 dX1_longestUnused_18 ?_
      refine v_if_ne (pc := 21) X 51 dX1_longestUnused_21 (by decide) (fun c => ?_) (fun c => ?_)
      · replace hf := if_f c hf
        refine v_iinc (pc := 51) X 2 (v := s.2 + (1 : Int32)) (lv' := [(2, .int (s.2 + (1 : Int32))), (0, .ref x0), (1, .int s.1)]) dX1_longestUnused_51 rfl rfl (Nat.le_of_ble_eq_true rfl) rfl ?_
        refine v_goto (pc := 54) X 4 dX1_longestUnused_54 (by decide) ?_
        refine v_sub [1, 2, 0] rfl ?_
        exact ih (s.1, s.2 + (1 : Int32)) h hf
      · replace hf := if_t c hf
        refine v_iload_n (pc := 24) X 1 dX1_longestUnused_24 rfl rfl ?_
        refine v_if_lt (pc := 25) X 49 dX1_longestUnused_25 (by decide) (fun c => ?_) (fun c => ?_)
        · replace hf := if_t c hf
          refine v_iload_n (pc := 49) X 2 dX1_longestUnused_49 rfl rfl ?_
          refine v_istore_n (pc := 50) X (i := 1) (lv' := [(1, .int s.2), (0, .ref x0), (2, .int s.2)]) dX1_longestUnused_50 rfl (Nat.le_of_ble_eq_true rfl) rfl ?_
          refine v_iinc (pc := 51) X 2 (v := s.2 + (1 : Int32)) (lv' := [(2, .int (s.2 + (1 : Int32))), (1, .int s.2), (0, .ref x0)]) dX1_longestUnused_51 rfl rfl (Nat.le_of_ble_eq_true rfl) rfl ?_
          refine v_goto (pc := 54) X 4 dX1_longestUnused_54 (by decide) ?_
          refine v_sub [2, 1, 0] rfl ?_
          exact ih (s.2, s.2 + (1 : Int32)) h hf
        · replace hf := if_f c hf
          refine v_aload_n (pc := 28) X 0 dX1_longestUnused_28 rfl rfl ?_
          obtain ⟨q9, e_q9, hf⟩ := hf
          refine ge_1_7 (pc := 29) X (fun w h => inM w (inG1 w h)) k11 t1 e_q9 dX1_longestUnused_29 ?_
          refine v_iload_n (pc := 32) X 2 dX1_longestUnused_32 rfl rfl ?_
          obtain ⟨t10, hf⟩ := hf
          obtain ⟨b12, q11, e_q11, hf⟩ := hf
          refine v_aald_8 (pc := 33) X t10 b12 e_q11 dX1_longestUnused_33 ?_
          obtain ⟨t13, hf⟩ := hf
          obtain ⟨v14, e_v14, hf⟩ := hf
          refine ge_0_4 (pc := 34) X (fun w h => inM w (inG0 w h)) k85 t13 e_v14 dX1_longestUnused_34 ?_
          refine v_aload_n (pc := 37) X 0 dX1_longestUnused_37 rfl rfl ?_
          obtain ⟨q15, e_q15, hf⟩ := hf
          refine ge_1_7 (pc := 38) X (fun w h => inM w (inG1 w h)) k11 t1 e_q15 dX1_longestUnused_38 ?_
          refine v_iload_n (pc := 41) X 1 dX1_longestUnused_41 rfl rfl ?_
          obtain ⟨t16, hf⟩ := hf
          obtain ⟨b18, q17, e_q17, hf⟩ := hf
          refine v_aald_8 (pc := 42) X t16 b18 e_q17 dX1_longestUnused_42 ?_
          obtain ⟨t19, hf⟩ := hf
          obtain ⟨v20, e_v20, hf⟩ := hf
          refine ge_0_4 (pc := 43) X (fun w h => inM w (inG0 w h)) k85 t19 e_v20 dX1_longestUnused_43 ?_
          refine v_icmp_ge (pc := 46) X 51 dX1_longestUnused_46 (by decide) (fun c => ?_) (fun c => ?_)
          · replace hf := if_t c hf
            refine v_iinc (pc := 51) X 2 (v := s.2 + (1 : Int32)) (lv' := [(2, .int (s.2 + (1 : Int32))), (0, .ref x0), (1, .int s.1)]) dX1_longestUnused_51 rfl rfl (Nat.le_of_ble_eq_true rfl) rfl ?_
            refine v_goto (pc := 54) X 4 dX1_longestUnused_54 (by decide) ?_
            refine v_sub [1, 2, 0] rfl ?_
            exact ih (s.1, s.2 + (1 : Int32)) h hf
          · replace hf := if_f c hf
            refine v_iload_n (pc := 49) X 2 dX1_longestUnused_49 rfl rfl ?_
            refine v_istore_n (pc := 50) X (i := 1) (lv' := [(1, .int s.2), (0, .ref x0), (2, .int s.2)]) dX1_longestUnused_50 rfl (Nat.le_of_ble_eq_true rfl) rfl ?_
            refine v_iinc (pc := 51) X 2 (v := s.2 + (1 : Int32)) (lv' := [(2, .int (s.2 + (1 : Int32))), (1, .int s.2), (0, .ref x0)]) dX1_longestUnused_51 rfl rfl (Nat.le_of_ble_eq_true rfl) rfl ?_
            refine v_goto (pc := 54) X 4 dX1_longestUnused_54 (by decide) ?_
            refine v_sub [2, 1, 0] rfl ?_
            exact ih (s.2, s.2 + (1 : Int32)) h hf

set_option maxHeartbeats 4000000 in
set_option maxRecDepth 100000 in
theorem c_X1_longestUnused (l : Launch) (D : va_G) (cA : Nat → ClassId) (L : List Nat) (sh : Sh) (a0 : Nat) (h : Hp) (K : Int32 → Hp → Prop) (hf : f_X1_longestUnused sh a0 h K) : Met l yX1_longestUnused (wM yX1_longestUnused cX1_longestUnused 3 (some .int)) ({ frames := 0, cells := 0, slots := 0, locals := 0 } : Room) (PreM D cA L sh h [.ref a0]) (QI D cA L sh K) 0 0 (fun q => q ∈ L) := by
  refine met_v (cc := cX1_longestUnused) (nL := 3) (ret := (some .int)) [(0, .ref a0)] (by decide) rfl (Nat.le_of_ble_eq_true rfl) rfl ?_
  intro p e s0 m below meth c X hr hlk
  have k44 := X.ht _ (inM _ q_102)
  have k11 := X.ht _ (inM _ q_104)
  have k67 := X.ht _ (inM _ q_48)
  have k85 := X.ht _ (inM _ q_51)
  unfold f_X1_longestUnused at hf
  refine v_iconst (pc := 0) X (v := (-1 : Int32)) dX1_longestUnused_0 (by decide) ?_
  refine v_istore_n (pc := 1) X (i := 1) (lv' := [(1, .int (-1 : Int32)), (0, .ref a0)]) dX1_longestUnused_1 rfl (Nat.le_of_ble_eq_true rfl) rfl ?_
  refine v_iconst (pc := 2) X (v := (0 : Int32)) dX1_longestUnused_2 (by decide) ?_
  refine v_istore_n (pc := 3) X (i := 2) (lv' := [(2, .int (0 : Int32)), (1, .int (-1 : Int32)), (0, .ref a0)]) dX1_longestUnused_3 rfl (Nat.le_of_ble_eq_true rfl) rfl ?_
  obtain ⟨n, hf⟩ := hf
  refine v_sub [2, 1, 0] rfl ?_
  refine w_X1_longestUnused_4 X hr hlk a0 _ K (fun y21 h22 hf => ?_) n ((-1 : Int32), (0 : Int32)) h hf
  refine v_iload_n (pc := 57) X 0 dX1_longestUnused_57 rfl rfl ?_
  exact v_iret (pc := 58) X hr hlk dX1_longestUnused_58 hf
set_option maxHeartbeats 4000000 in
set_option maxRecDepth 100000 in
theorem c_X5_contains (l : Launch) (D : va_G) (cA : Nat → ClassId) (L : List Nat) (sh : Sh) (p0 : Int32) (p1 : Int32) (h : Hp) (K : Int32 → Hp → Prop) (hf : f_X5_contains sh p0 p1 h K) : Met l yX5_contains (wM yX5_contains cX5_contains 2 (some .boolean)) ({ frames := 0, cells := 0, slots := 0, locals := 0 } : Room) (PreM D cA L sh h [.int p0, .int p1]) (QI D cA L sh K) 0 0 (fun q => q ∈ L) := by
  refine met_v (cc := cX5_contains) (nL := 2) (ret := (some .boolean)) [(0, .int p0), (1, .int p1)] (by decide) rfl (Nat.le_of_ble_eq_true rfl) rfl ?_
  intro p e s0 m below meth c X hr hlk
  unfold f_X5_contains at hf
  refine v_iload_n (pc := 0) X 0 dX5_contains_0 rfl rfl ?_
  refine v_iload_n (pc := 1) X 1 dX5_contains_1 rfl rfl ?_
  refine v_ishr (pc := 2) X dX5_contains_2 ?_
  refine v_iconst (pc := 3) X (v := (1 : Int32)) dX5_contains_3 (by decide) ?_
  refine v_iand (pc := 4) X dX5_contains_4 ?_
  refine v_iconst (pc := 5) X (v := (1 : Int32)) dX5_contains_5 (by decide) ?_
  refine v_icmp_ne (pc := 6) X 13 dX5_contains_6 (by decide) (fun c => ?_) (fun c => ?_)
  · replace hf := if_f c hf
    refine v_iconst (pc := 13) X (v := (0 : Int32)) dX5_contains_13 (by decide) ?_
    exact v_zret (pc := 14) X hr hlk dX5_contains_14 (by decide) hf
  · replace hf := if_t c hf
    refine v_iconst (pc := 9) X (v := (1 : Int32)) dX5_contains_9 (by decide) ?_
    refine v_goto (pc := 10) X 14 dX5_contains_10 (by decide) ?_
    exact v_zret (pc := 14) X hr hlk dX5_contains_14 (by decide) hf
set_option maxHeartbeats 4000000 in
set_option maxRecDepth 100000 in
theorem w_X1_lowestBehind_5 {p : Program} {l : Launch} {e : Env} {s0 : State} {m : MethodId} {args : Array Value} {below : List Frame} {meth : Method} {c : Code} {D : va_G} {cA : Nat → ClassId} {L : List Nat} {sh : Sh} (X : Cx p s0 m c args cX1_lowestBehind 7 (wM yX1_lowestBehind cX1_lowestBehind 7 (some .int)) RX1 (fun q => q ∈ L) D cA L sh) (hr : meth.sig.returnType = (some .int)) (hlk : meth.locks = false) (x0 : Nat) (x1 : Int32) (x2 : Int32) (Xc : Int32 → Hp → Prop) (K : Int32 → Hp → Prop) (hx : ∀ (y3 : Int32) (h1 : Hp), Xc y3 h1 → V p l e (headSpec (wM yX1_lowestBehind cX1_lowestBehind 7 (some .int)) ({ frames := 1, cells := 0, slots := 0, locals := 21 } : Room)).room s0 m args below meth c (MQ below (QI D cA L sh K) args s0 0 0 (fun q => q ∈ L)) (fun q => q ∈ L) 0 0 D cA L sh 7 h1 88 [(3, .int y3)] []) : ∀ (n : Nat) (s : Int32 × Int32) (h : Hp), lp (b_X1_lowestBehind_5 sh x0 x1 x2 Xc) n s h → V p l e (headSpec (wM yX1_lowestBehind cX1_lowestBehind 7 (some .int)) ({ frames := 1, cells := 0, slots := 0, locals := 21 } : Room)).room s0 m args below meth c (MQ below (QI D cA L sh K) args s0 0 0 (fun q => q ∈ L)) (fun q => q ∈ L) 0 0 D cA L sh 7 h 5 [(0, .ref x0), (1, .int x1), (2, .int x2), (3, .int s.1), (4, .int s.2)] [] := by
  have k20 := X.ht _ (inM _ q_106)
  have k47 := X.ht _ (inM _ q_71)
  have k106 := X.ht _ (inM _ q_76)
  have k88 := X.ht _ (inM _ q_81)
  intro n
  induction n with
  | zero => intro s h hf; exact hf.elim
  | succ n ih =>
    intro s h hf
    replace hf : b_X1_lowestBehind_5 sh x0 x1 x2 Xc (lp (b_X1_lowestBehind_5 sh x0 x1 x2 Xc) n) s h := hf
    unfold b_X1_lowestBehind_5 at hf
    refine v_iload (pc := 5) X 4 dX1_lowestBehind_5 rfl ?_
    refine v_iconst (pc := 7) X (v := (4 : Int32)) dX1_lowestBehind_7 (by decide) ?_
    refine v_icmp_ge (pc := 8) X 88 dX1_lowestBehind_8 (by decide) (fun c => ?_) (fun c => ?_)
    · replace hf := if_t c hf
      refine v_sub [3] rfl ?_
      exact hx s.1 h hf
    · replace hf := if_f c hf
      refine v_aload_n (pc := 11) X 0 dX1_lowestBehind_11 rfl rfl ?_
      obtain ⟨t1, hf⟩ := hf
      obtain ⟨q2, e_q2, hf⟩ := hf
      refine ge_1_8 (pc := 12) X (fun w h => inM w (inG1 w h)) k20 t1 e_q2 dX1_lowestBehind_12 ?_
      refine v_iload (pc := 15) X 4 dX1_lowestBehind_15 rfl ?_
      obtain ⟨t3, hf⟩ := hf
      obtain ⟨b5, q4, e_q4, hf⟩ := hf
      refine v_aald_11 (pc := 17) X t3 b5 e_q4 dX1_lowestBehind_17 ?_
      refine v_astore (pc := 18) X (i := 5) (lv' := [(5, .ref q4), (0, .ref x0), (1, .int x1), (2, .int x2), (3, .int s.1), (4, .int s.2)]) dX1_lowestBehind_18 (Nat.le_of_ble_eq_true rfl) rfl ?_
      refine v_aload (pc := 20) X 0 dX1_lowestBehind_20 rfl ?_
      obtain ⟨t6, hf⟩ := hf
      obtain ⟨v7, e_v7, hf⟩ := hf
      refine ge_4_0 (pc := 22) X (fun w h => inM w (inG4 w h)) k47 t6 e_v7 dX1_lowestBehind_22 ?_
      refine v_if_lt (pc := 25) X 55 dX1_lowestBehind_25 (by decide) (fun c => ?_) (fun c => ?_)
      · replace hf := if_t c hf
        refine v_iconst (pc := 55) X (v := (0 : Int32)) dX1_lowestBehind_55 (by decide) ?_
        refine v_istore (pc := 56) X (i := 6) (lv' := [(6, .int (0 : Int32)), (5, .ref q4), (0, .ref x0), (1, .int x1), (2, .int x2), (3, .int s.1), (4, .int s.2)]) dX1_lowestBehind_56 (Nat.le_of_ble_eq_true rfl) rfl ?_
        refine v_iload (pc := 58) X 0 dX1_lowestBehind_58 rfl ?_
        refine v_if_eq (pc := 60) X 82 dX1_lowestBehind_60 (by decide) (fun _ => ?_) (fun c => absurd c (by decide))
        refine v_iinc (pc := 82) X 6 (v := s.2 + (1 : Int32)) (lv' := [(4, .int (s.2 + (1 : Int32))), (6, .int (0 : Int32)), (5, .ref q4), (0, .ref x0), (1, .int x1), (2, .int x2), (3, .int s.1)]) dX1_lowestBehind_82 rfl rfl (Nat.le_of_ble_eq_true rfl) rfl ?_
        refine v_goto (pc := 85) X 5 dX1_lowestBehind_85 (by decide) ?_
        refine v_sub [3, 4, 5, 6, 0] rfl ?_
        exact ih (s.1, s.2 + (1 : Int32)) h hf
      · replace hf := if_f c hf
        refine v_aload (pc := 28) X 0 dX1_lowestBehind_28 rfl ?_
        obtain ⟨v8, e_v8, hf⟩ := hf
        refine ge_4_1 (pc := 30) X (fun w h => inM w (inG4 w h)) k106 t6 e_v8 dX1_lowestBehind_30 ?_
        refine v_iload_n (pc := 33) X 2 dX1_lowestBehind_33 rfl rfl ?_
        refine v_callSNI (pc := 34) X (As := [.int v8, .int x1]) (rest := []) (c_X5_contains l D cA L sh v8 x1 h _ hf) ⟨va_cnB 2 X.ht (good_wM inM q_269) rfl rfl rfl X.2.1.2.2.1 (X.ht _ (inM _ q_1)) (by decide +kernel) ⟨Nat.le_of_ble_eq_true rfl, Nat.le_of_ble_eq_true rfl⟩, X.ht _ (inM _ q_268), trivial⟩ rfl rfl (Nat.le_of_ble_eq_true rfl) ⟨Nat.zero_le _, Nat.zero_le _⟩ dX1_lowestBehind_34 (fun r9 h10 hf => ?_)
        refine v_if_eq (pc := 37) X 55 dX1_lowestBehind_37 (by decide) (fun c => ?_) (fun c => ?_)
        · replace hf := if_t c hf
          refine v_iconst (pc := 55) X (v := (0 : Int32)) dX1_lowestBehind_55 (by decide) ?_
          refine v_istore (pc := 56) X (i := 6) (lv' := [(6, .int (0 : Int32)), (5, .ref q4), (0, .ref x0), (1, .int x1), (2, .int x2), (3, .int s.1), (4, .int s.2)]) dX1_lowestBehind_56 (Nat.le_of_ble_eq_true rfl) rfl ?_
          refine v_iload (pc := 58) X 0 dX1_lowestBehind_58 rfl ?_
          refine v_if_eq (pc := 60) X 82 dX1_lowestBehind_60 (by decide) (fun _ => ?_) (fun c => absurd c (by decide))
          refine v_iinc (pc := 82) X 6 (v := s.2 + (1 : Int32)) (lv' := [(4, .int (s.2 + (1 : Int32))), (6, .int (0 : Int32)), (5, .ref q4), (0, .ref x0), (1, .int x1), (2, .int x2), (3, .int s.1)]) dX1_lowestBehind_82 rfl rfl (Nat.le_of_ble_eq_true rfl) rfl ?_
          refine v_goto (pc := 85) X 5 dX1_lowestBehind_85 (by decide) ?_
          refine v_sub [3, 4, 5, 6, 0] rfl ?_
          exact ih (s.1, s.2 + (1 : Int32)) h10 hf
        · replace hf := if_f c hf
          refine v_aload (pc := 40) X 0 dX1_lowestBehind_40 rfl ?_
          obtain ⟨q11, e_q11, hf⟩ := hf
          refine ge_4_3 (pc := 42) X (fun w h => inM w (inG4 w h)) k88 t6 e_q11 dX1_lowestBehind_42 ?_
          refine v_iload_n (pc := 45) X 2 dX1_lowestBehind_45 rfl rfl ?_
          obtain ⟨t12, hf⟩ := hf
          obtain ⟨b14, v13, e_v13, hf⟩ := hf
          refine v_iald (pc := 46) X t12 b14 e_v13 dX1_lowestBehind_46 ?_
          refine v_iload_n (pc := 47) X 3 dX1_lowestBehind_47 rfl rfl ?_
          refine v_icmp_ge (pc := 48) X 55 dX1_lowestBehind_48 (by decide) (fun c => ?_) (fun c => ?_)
          · replace hf := if_t c hf
            refine v_iconst (pc := 55) X (v := (0 : Int32)) dX1_lowestBehind_55 (by decide) ?_
            refine v_istore (pc := 56) X (i := 6) (lv' := [(6, .int (0 : Int32)), (5, .ref q4), (0, .ref x0), (1, .int x1), (2, .int x2), (3, .int s.1), (4, .int s.2)]) dX1_lowestBehind_56 (Nat.le_of_ble_eq_true rfl) rfl ?_
            refine v_iload (pc := 58) X 0 dX1_lowestBehind_58 rfl ?_
            refine v_if_eq (pc := 60) X 82 dX1_lowestBehind_60 (by decide) (fun _ => ?_) (fun c => absurd c (by decide))
            refine v_iinc (pc := 82) X 6 (v := s.2 + (1 : Int32)) (lv' := [(4, .int (s.2 + (1 : Int32))), (6, .int (0 : Int32)), (5, .ref q4), (0, .ref x0), (1, .int x1), (2, .int x2), (3, .int s.1)]) dX1_lowestBehind_82 rfl rfl (Nat.le_of_ble_eq_true rfl) rfl ?_
            refine v_goto (pc := 85) X 5 dX1_lowestBehind_85 (by decide) ?_
            refine v_sub [3, 4, 5, 6, 0] rfl ?_
            exact ih (s.1, s.2 + (1 : Int32)) h10 hf
          · replace hf := if_f c hf
            refine v_iconst (pc := 51) X (v := (1 : Int32)) dX1_lowestBehind_51 (by decide) ?_
            refine v_goto (pc := 52) X 56 dX1_lowestBehind_52 (by decide) ?_
            refine v_istore (pc := 56) X (i := 6) (lv' := [(6, .int (1 : Int32)), (5, .ref q4), (0, .ref x0), (1, .int x1), (2, .int x2), (3, .int s.1), (4, .int s.2)]) dX1_lowestBehind_56 (Nat.le_of_ble_eq_true rfl) rfl ?_
            refine v_iload (pc := 58) X 0 dX1_lowestBehind_58 rfl ?_
            refine v_if_eq (pc := 60) X 82 dX1_lowestBehind_60 (by decide) (fun c => absurd c (by decide)) (fun _ => ?_)
            refine v_iload_n (pc := 63) X 5 dX1_lowestBehind_63 rfl rfl ?_
            refine v_if_lt (pc := 64) X 76 dX1_lowestBehind_64 (by decide) (fun c => ?_) (fun c => ?_)
            · replace hf := if_t c hf
              refine v_aload (pc := 76) X 1 dX1_lowestBehind_76 rfl ?_
              obtain ⟨v15, e_v15, hf⟩ := hf
              refine ge_4_0 (pc := 78) X (fun w h => inM w (inG4 w h)) k47 t6 e_v15 dX1_lowestBehind_78 ?_
              refine v_istore_n (pc := 81) X (i := 3) (lv' := [(3, .int v15), (6, .int (1 : Int32)), (5, .ref q4), (0, .ref x0), (1, .int x1), (2, .int x2), (4, .int s.2)]) dX1_lowestBehind_81 rfl (Nat.le_of_ble_eq_true rfl) rfl ?_
              refine v_iinc (pc := 82) X 6 (v := s.2 + (1 : Int32)) (lv' := [(4, .int (s.2 + (1 : Int32))), (3, .int v15), (6, .int (1 : Int32)), (5, .ref q4), (0, .ref x0), (1, .int x1), (2, .int x2)]) dX1_lowestBehind_82 rfl rfl (Nat.le_of_ble_eq_true rfl) rfl ?_
              refine v_goto (pc := 85) X 5 dX1_lowestBehind_85 (by decide) ?_
              refine v_sub [4, 5, 6, 1, 0] rfl ?_
              exact ih (v15, s.2 + (1 : Int32)) h10 hf
            · replace hf := if_f c hf
              refine v_aload (pc := 67) X 1 dX1_lowestBehind_67 rfl ?_
              obtain ⟨v16, e_v16, hf⟩ := hf
              refine ge_4_0 (pc := 69) X (fun w h => inM w (inG4 w h)) k47 t6 e_v16 dX1_lowestBehind_69 ?_
              refine v_iload_n (pc := 72) X 5 dX1_lowestBehind_72 rfl rfl ?_
              refine v_icmp_ge (pc := 73) X 82 dX1_lowestBehind_73 (by decide) (fun c => ?_) (fun c => ?_)
              · replace hf := if_t c hf
                refine v_iinc (pc := 82) X 6 (v := s.2 + (1 : Int32)) (lv' := [(4, .int (s.2 + (1 : Int32))), (6, .int (1 : Int32)), (5, .ref q4), (0, .ref x0), (1, .int x1), (2, .int x2), (3, .int s.1)]) dX1_lowestBehind_82 rfl rfl (Nat.le_of_ble_eq_true rfl) rfl ?_
                refine v_goto (pc := 85) X 5 dX1_lowestBehind_85 (by decide) ?_
                refine v_sub [3, 4, 5, 6, 0] rfl ?_
                exact ih (s.1, s.2 + (1 : Int32)) h10 hf
              · replace hf := if_f c hf
                refine v_aload (pc := 76) X 1 dX1_lowestBehind_76 rfl ?_
                obtain ⟨v17, e_v17, hf⟩ := hf
                refine ge_4_0 (pc := 78) X (fun w h => inM w (inG4 w h)) k47 t6 e_v17 dX1_lowestBehind_78 ?_
                refine v_istore_n (pc := 81) X (i := 3) (lv' := [(3, .int v17), (6, .int (1 : Int32)), (5, .ref q4), (0, .ref x0), (1, .int x1), (2, .int x2), (4, .int s.2)]) dX1_lowestBehind_81 rfl (Nat.le_of_ble_eq_true rfl) rfl ?_
                refine v_iinc (pc := 82) X 6 (v := s.2 + (1 : Int32)) (lv' := [(4, .int (s.2 + (1 : Int32))), (3, .int v17), (6, .int (1 : Int32)), (5, .ref q4), (0, .ref x0), (1, .int x1), (2, .int x2)]) dX1_lowestBehind_82 rfl rfl (Nat.le_of_ble_eq_true rfl) rfl ?_
                refine v_goto (pc := 85) X 5 dX1_lowestBehind_85 (by decide) ?_
                refine v_sub [4, 5, 6, 1, 0] rfl ?_
                exact ih (v17, s.2 + (1 : Int32)) h10 hf

set_option maxHeartbeats 4000000 in
set_option maxRecDepth 100000 in
theorem c_X1_lowestBehind (l : Launch) (D : va_G) (cA : Nat → ClassId) (L : List Nat) (sh : Sh) (a0 : Nat) (p1 : Int32) (p2 : Int32) (h : Hp) (K : Int32 → Hp → Prop) (hf : f_X1_lowestBehind sh a0 p1 p2 h K) : Met l yX1_lowestBehind (wM yX1_lowestBehind cX1_lowestBehind 7 (some .int)) ({ frames := 1, cells := 0, slots := 0, locals := 21 } : Room) (PreM D cA L sh h [.ref a0, .int p1, .int p2]) (QI D cA L sh K) 0 0 (fun q => q ∈ L) := by
  refine met_v (cc := cX1_lowestBehind) (nL := 7) (ret := (some .int)) [(0, .ref a0), (1, .int p1), (2, .int p2)] (by decide) rfl (Nat.le_of_ble_eq_true rfl) rfl ?_
  intro p e s0 m below meth c X hr hlk
  have k20 := X.ht _ (inM _ q_106)
  have k47 := X.ht _ (inM _ q_71)
  have k106 := X.ht _ (inM _ q_76)
  have k88 := X.ht _ (inM _ q_81)
  unfold f_X1_lowestBehind at hf
  refine v_iconst (pc := 0) X (v := (-1 : Int32)) dX1_lowestBehind_0 (by decide) ?_
  refine v_istore_n (pc := 1) X (i := 3) (lv' := [(3, .int (-1 : Int32)), (0, .ref a0), (1, .int p1), (2, .int p2)]) dX1_lowestBehind_1 rfl (Nat.le_of_ble_eq_true rfl) rfl ?_
  refine v_iconst (pc := 2) X (v := (0 : Int32)) dX1_lowestBehind_2 (by decide) ?_
  refine v_istore (pc := 3) X (i := 4) (lv' := [(4, .int (0 : Int32)), (3, .int (-1 : Int32)), (0, .ref a0), (1, .int p1), (2, .int p2)]) dX1_lowestBehind_3 (Nat.le_of_ble_eq_true rfl) rfl ?_
  obtain ⟨n, hf⟩ := hf
  refine v_sub [2, 3, 4, 1, 0] rfl ?_
  refine w_X1_lowestBehind_5 X hr hlk a0 p1 p2 _ K (fun y18 h19 hf => ?_) n ((-1 : Int32), (0 : Int32)) h hf
  refine v_iload_n (pc := 88) X 0 dX1_lowestBehind_88 rfl rfl ?_
  exact v_iret (pc := 89) X hr hlk dX1_lowestBehind_89 hf
set_option maxHeartbeats 4000000 in
set_option maxRecDepth 100000 in
theorem w_X1_putIn_17 {p : Program} {l : Launch} {e : Env} {s0 : State} {m : MethodId} {args : Array Value} {below : List Frame} {meth : Method} {c : Code} {D : va_G} {cA : Nat → ClassId} {L : List Nat} {sh : Sh} (X : Cx p s0 m c args cX1_putIn 6 (wM yX1_putIn cX1_putIn 6 (some .int)) RX1 (fun q => q ∈ L) D cA L sh) (hr : meth.sig.returnType = (some .int)) (hlk : meth.locks = false) (x0 : Nat) (x1 : Int32) (x2 : Int32) (x3 : Int32) (x4 : Nat) (Xc : Int32 → Hp → Prop) (K : Int32 → Hp → Prop) (hx : ∀ (y5 : Int32) (h1 : Hp), Xc y5 h1 → V p l e (headSpec (wM yX1_putIn cX1_putIn 6 (some .int)) ({ frames := 1, cells := 0, slots := 0, locals := 22 } : Room)).room s0 m args below meth c (MQ below (QI D cA L sh K) args s0 0 0 (fun q => q ∈ L)) (fun q => q ∈ L) 0 0 D cA L sh 6 h1 61 [(0, .ref x0), (1, .int x1), (2, .int x2), (3, .int x3), (4, .ref x4), (5, .int y5)] []) : ∀ (n : Nat) (s : Int32) (h : Hp), lp (b_X1_putIn_17 sh x0 x1 x2 x3 x4 Xc) n s h → V p l e (headSpec (wM yX1_putIn cX1_putIn 6 (some .int)) ({ frames := 1, cells := 0, slots := 0, locals := 22 } : Room)).room s0 m args below meth c (MQ below (QI D cA L sh K) args s0 0 0 (fun q => q ∈ L)) (fun q => q ∈ L) 0 0 D cA L sh 6 h 17 [(0, .ref x0), (1, .int x1), (2, .int x2), (3, .int x3), (4, .ref x4), (5, .int s)] [] := by
  have k11 := X.ht _ (inM _ q_104)
  have k44 := X.ht _ (inM _ q_102)
  have k57 := X.ht _ (inM _ q_38)
  have k60 := X.ht _ (inM _ q_42)
  have k103 := X.ht _ (inM _ q_45)
  have k67 := X.ht _ (inM _ q_48)
  have k63 := X.ht _ (inM _ q_54)
  intro n
  induction n with
  | zero => intro s h hf; exact hf.elim
  | succ n ih =>
    intro s h hf
    replace hf : b_X1_putIn_17 sh x0 x1 x2 x3 x4 Xc (lp (b_X1_putIn_17 sh x0 x1 x2 x3 x4 Xc) n) s h := hf
    unfold b_X1_putIn_17 at hf
    refine v_iload (pc := 17) X 5 dX1_putIn_17 rfl ?_
    refine v_if_le (pc := 19) X 61 dX1_putIn_19 (by decide) (fun c => ?_) (fun c => ?_)
    · replace hf := if_t c hf
      refine v_sub [0, 1, 2, 3, 4, 5] rfl ?_
      exact hx s h hf
    · replace hf := if_f c hf
      refine v_aload_n (pc := 22) X 0 dX1_putIn_22 rfl rfl ?_
      obtain ⟨t8, hf⟩ := hf
      obtain ⟨q9, e_q9, hf⟩ := hf
      refine ge_1_7 (pc := 23) X (fun w h => inM w (inG1 w h)) k11 t8 e_q9 dX1_putIn_23 ?_
      refine v_iload (pc := 26) X 5 dX1_putIn_26 rfl ?_
      refine v_iconst (pc := 28) X (v := (1 : Int32)) dX1_putIn_28 (by decide) ?_
      refine v_isub (pc := 29) X dX1_putIn_29 ?_
      obtain ⟨t10, hf⟩ := hf
      obtain ⟨b12, q11, e_q11, hf⟩ := hf
      refine v_aald_8 (pc := 30) X t10 b12 e_q11 dX1_putIn_30 ?_
      refine v_iload_n (pc := 31) X 1 dX1_putIn_31 rfl rfl ?_
      refine v_iload_n (pc := 32) X 2 dX1_putIn_32 rfl rfl ?_
      obtain ⟨t13, hf⟩ := hf
      refine v_callVI (pc := 33) X (As := [.int x1, .int x2]) (rest := []) (c_X0_comesBehind l D cA L sh q11 x1 x2 h _ hf) (cwV 2 X.ht (gwV inM q_285 q_286 q_287 q_4 q_288) rfl rfl rfl (by decide +kernel) ⟨Nat.le_of_ble_eq_true rfl, Nat.le_of_ble_eq_true rfl⟩) rfl (by decide) t13 (ent_0 t13) rfl rfl (Nat.le_of_ble_eq_true rfl) ⟨Nat.zero_le _, Nat.zero_le _⟩ dX1_putIn_33 (fun r14 h15 hf => ?_)
      refine v_if_eq (pc := 36) X 61 dX1_putIn_36 (by decide) (fun c => ?_) (fun c => ?_)
      · replace hf := if_t c hf
        refine v_sub [0, 1, 2, 3, 4, 5] rfl ?_
        exact hx s h15 hf
      · replace hf := if_f c hf
        refine v_aload_n (pc := 39) X 0 dX1_putIn_39 rfl rfl ?_
        obtain ⟨q16, e_q16, hf⟩ := hf
        refine ge_1_7 (pc := 40) X (fun w h => inM w (inG1 w h)) k11 t8 e_q16 dX1_putIn_40 ?_
        refine v_iload (pc := 43) X 5 dX1_putIn_43 rfl ?_
        refine v_aload_n (pc := 45) X 0 dX1_putIn_45 rfl rfl ?_
        obtain ⟨q17, e_q17, hf⟩ := hf
        refine ge_1_7 (pc := 46) X (fun w h => inM w (inG1 w h)) k11 t8 e_q17 dX1_putIn_46 ?_
        refine v_iload (pc := 49) X 5 dX1_putIn_49 rfl ?_
        refine v_iconst (pc := 51) X (v := (1 : Int32)) dX1_putIn_51 (by decide) ?_
        refine v_isub (pc := 52) X dX1_putIn_52 ?_
        obtain ⟨t18, hf⟩ := hf
        obtain ⟨b20, q19, e_q19, hf⟩ := hf
        refine v_aald_8 (pc := 53) X t18 b20 e_q19 dX1_putIn_53 ?_
        obtain ⟨t21, hf⟩ := hf
        obtain ⟨t22, hf⟩ := hf
        obtain ⟨b24, h23, e_h23, hf⟩ := hf
        refine v_aast_8 (pc := 54) X t21 t22 b24 e_h23 dX1_putIn_54 ?_
        refine v_iinc (pc := 55) X 5 (v := s + (-1 : Int32)) (lv' := [(5, .int (s + (-1 : Int32))), (0, .ref x0), (1, .int x1), (2, .int x2), (3, .int x3), (4, .ref x4)]) dX1_putIn_55 rfl rfl (Nat.le_of_ble_eq_true rfl) rfl ?_
        refine v_goto (pc := 58) X 17 dX1_putIn_58 (by decide) ?_
        refine v_sub [1, 2, 3, 4, 5, 0] rfl ?_
        exact ih (s + (-1 : Int32)) h23 hf

set_option maxHeartbeats 4000000 in
set_option maxRecDepth 100000 in
theorem c_X1_putIn (l : Launch) (D : va_G) (cA : Nat → ClassId) (L : List Nat) (sh : Sh) (a0 : Nat) (p1 : Int32) (p2 : Int32) (p3 : Int32) (h : Hp) (K : Int32 → Hp → Prop) (hf : f_X1_putIn sh a0 p1 p2 p3 h K) : Met l yX1_putIn (wM yX1_putIn cX1_putIn 6 (some .int)) ({ frames := 1, cells := 0, slots := 0, locals := 22 } : Room) (PreM D cA L sh h [.ref a0, .int p1, .int p2, .int p3]) (QI D cA L sh K) 0 0 (fun q => q ∈ L) := by
  refine met_v (cc := cX1_putIn) (nL := 6) (ret := (some .int)) [(0, .ref a0), (1, .int p1), (2, .int p2), (3, .int p3)] (by decide) rfl (Nat.le_of_ble_eq_true rfl) rfl ?_
  intro p e s0 m below meth c X hr hlk
  have k11 := X.ht _ (inM _ q_104)
  have k44 := X.ht _ (inM _ q_102)
  have k57 := X.ht _ (inM _ q_38)
  have k60 := X.ht _ (inM _ q_42)
  have k103 := X.ht _ (inM _ q_45)
  have k67 := X.ht _ (inM _ q_48)
  have k63 := X.ht _ (inM _ q_54)
  unfold f_X1_putIn at hf
  refine v_aload_n (pc := 0) X 0 dX1_putIn_0 rfl rfl ?_
  obtain ⟨t1, hf⟩ := hf
  obtain ⟨q2, e_q2, hf⟩ := hf
  refine ge_1_7 (pc := 1) X (fun w h => inM w (inG1 w h)) k11 t1 e_q2 dX1_putIn_1 ?_
  refine v_aload_n (pc := 4) X 0 dX1_putIn_4 rfl rfl ?_
  obtain ⟨v3, e_v3, hf⟩ := hf
  refine ge_1_6 (pc := 5) X (fun w h => inM w (inG1 w h)) k44 t1 e_v3 dX1_putIn_5 ?_
  obtain ⟨t4, hf⟩ := hf
  obtain ⟨b6, q5, e_q5, hf⟩ := hf
  refine v_aald_8 (pc := 8) X t4 b6 e_q5 dX1_putIn_8 ?_
  refine v_astore (pc := 9) X (i := 4) (lv' := [(4, .ref q5), (0, .ref a0), (1, .int p1), (2, .int p2), (3, .int p3)]) dX1_putIn_9 (Nat.le_of_ble_eq_true rfl) rfl ?_
  refine v_aload_n (pc := 11) X 1 dX1_putIn_11 rfl rfl ?_
  obtain ⟨v7, e_v7, hf⟩ := hf
  refine ge_1_6 (pc := 12) X (fun w h => inM w (inG1 w h)) k44 t1 e_v7 dX1_putIn_12 ?_
  refine v_istore (pc := 15) X (i := 5) (lv' := [(5, .int v7), (4, .ref q5), (0, .ref a0), (1, .int p1), (2, .int p2), (3, .int p3)]) dX1_putIn_15 (Nat.le_of_ble_eq_true rfl) rfl ?_
  obtain ⟨n, hf⟩ := hf
  refine v_sub [2, 3, 4, 5, 1, 0] rfl ?_
  refine w_X1_putIn_17 X hr hlk a0 p1 p2 p3 q5 _ K (fun y25 h26 hf => ?_) n v7 h hf
  refine v_aload_n (pc := 61) X 0 dX1_putIn_61 rfl rfl ?_
  obtain ⟨q27, e_q27, hf⟩ := hf
  refine ge_1_7 (pc := 62) X (fun w h => inM w (inG1 w h)) k11 t1 e_q27 dX1_putIn_62 ?_
  refine v_iload (pc := 65) X 5 dX1_putIn_65 rfl ?_
  refine v_aload (pc := 67) X 4 dX1_putIn_67 rfl ?_
  obtain ⟨t28, hf⟩ := hf
  obtain ⟨t29, hf⟩ := hf
  obtain ⟨b31, h30, e_h30, hf⟩ := hf
  refine v_aast_8 (pc := 69) X t28 t29 b31 e_h30 dX1_putIn_69 ?_
  refine v_aload (pc := 70) X 4 dX1_putIn_70 rfl ?_
  refine v_iload_n (pc := 72) X 1 dX1_putIn_72 rfl rfl ?_
  obtain ⟨h32, e_h32, hf⟩ := hf
  refine pu_0_0 (pc := 73) X (fun w h => inM w (inG0 w h)) k57 t29 e_h32 dX1_putIn_73 ?_
  refine v_aload (pc := 76) X 4 dX1_putIn_76 rfl ?_
  refine v_iload_n (pc := 78) X 2 dX1_putIn_78 rfl rfl ?_
  obtain ⟨h33, e_h33, hf⟩ := hf
  refine pu_0_1 (pc := 79) X (fun w h => inM w (inG0 w h)) k60 t29 e_h33 dX1_putIn_79 ?_
  refine v_aload (pc := 82) X 4 dX1_putIn_82 rfl ?_
  refine v_iload_n (pc := 84) X 3 dX1_putIn_84 rfl rfl ?_
  obtain ⟨h34, e_h34, hf⟩ := hf
  refine pu_0_2 (pc := 85) X (fun w h => inM w (inG0 w h)) k103 t29 e_h34 dX1_putIn_85 ?_
  refine v_aload (pc := 88) X 4 dX1_putIn_88 rfl ?_
  refine v_iconst (pc := 90) X (v := (0 : Int32)) dX1_putIn_90 (by decide) ?_
  obtain ⟨h35, e_h35, hf⟩ := hf
  refine pu_0_3 (pc := 91) X (fun w h => inM w (inG0 w h)) k67 t29 e_h35 dX1_putIn_91 ?_
  refine v_aload (pc := 94) X 4 dX1_putIn_94 rfl ?_
  refine v_iconst (pc := 96) X (v := (0 : Int32)) dX1_putIn_96 (by decide) ?_
  obtain ⟨h36, e_h36, hf⟩ := hf
  refine pu_0_5 (pc := 97) X (fun w h => inM w (inG0 w h)) k63 t29 (by decide) e_h36 dX1_putIn_97 ?_
  refine v_aload_n (pc := 100) X 0 dX1_putIn_100 rfl rfl ?_
  refine v_dup (pc := 101) X dX1_putIn_101 rfl ?_
  obtain ⟨v37, e_v37, hf⟩ := hf
  refine ge_1_6 (pc := 102) X (fun w h => inM w (inG1 w h)) k44 t1 e_v37 dX1_putIn_102 ?_
  refine v_iconst (pc := 105) X (v := (1 : Int32)) dX1_putIn_105 (by decide) ?_
  refine v_iadd (pc := 106) X dX1_putIn_106 ?_
  obtain ⟨h38, e_h38, hf⟩ := hf
  refine pu_1_6 (pc := 107) X (fun w h => inM w (inG1 w h)) k44 t1 e_h38 dX1_putIn_107 ?_
  refine v_iload (pc := 110) X 5 dX1_putIn_110 rfl ?_
  exact v_iret (pc := 112) X hr hlk dX1_putIn_112 hf
set_option maxHeartbeats 4000000 in
set_option maxRecDepth 100000 in
theorem c_X4_worksBy (l : Launch) (D : va_G) (cA : Nat → ClassId) (L : List Nat) (sh : Sh) (a0 : Nat) (p1 : Nat) (h : Hp) (K : Int32 → Hp → Prop) (hf : f_X4_worksBy sh a0 p1 h K) : Met l yX4_worksBy (wM yX4_worksBy cX4_worksBy 2 (some .boolean)) ({ frames := 1, cells := 0, slots := 0, locals := 21 } : Room) (PreM D cA L sh h [.ref a0, .ref p1]) (QI D cA L sh K) 0 0 (fun q => q ∈ L) := by
  refine met_v (cc := cX4_worksBy) (nL := 2) (ret := (some .boolean)) [(0, .ref a0), (1, .ref p1)] (by decide) rfl (Nat.le_of_ble_eq_true rfl) rfl ?_
  intro p e s0 m below meth c X hr hlk
  have k19 := X.ht _ (inM _ q_73)
  have k25 := X.ht _ (inM _ q_37)
  have k15 := X.ht _ (inM _ q_80)
  have k34 := X.ht _ (inM _ q_41)
  unfold f_X4_worksBy at hf
  refine v_aload_n (pc := 0) X 0 dX4_worksBy_0 rfl rfl ?_
  obtain ⟨t1, hf⟩ := hf
  obtain ⟨v2, e_v2, hf⟩ := hf
  refine ge_4_1 (pc := 1) X (fun w h => inM w (inG4 w h)) k19 t1 e_v2 dX4_worksBy_1 ?_
  refine v_aload_n (pc := 4) X 1 dX4_worksBy_4 rfl rfl ?_
  obtain ⟨t3, hf⟩ := hf
  obtain ⟨v4, e_v4, hf⟩ := hf
  refine ge_0_0 (pc := 5) X (fun w h => inM w (inG0 w h)) k25 t3 e_v4 dX4_worksBy_5 ?_
  refine v_callSNI (pc := 8) X (As := [.int v2, .int v4]) (rest := []) (c_X5_contains l D cA L sh v2 v4 h _ hf) ⟨va_cnB 2 X.ht (good_wM inM q_269) rfl rfl rfl X.2.1.2.2.2.2.1 (X.ht _ (inM _ q_1)) (by decide +kernel) ⟨Nat.le_of_ble_eq_true rfl, Nat.le_of_ble_eq_true rfl⟩, X.ht _ (inM _ q_268), trivial⟩ rfl rfl (Nat.le_of_ble_eq_true rfl) ⟨Nat.zero_le _, Nat.zero_le _⟩ dX4_worksBy_8 (fun r5 h6 hf => ?_)
  refine v_if_eq (pc := 11) X 34 dX4_worksBy_11 (by decide) (fun c => ?_) (fun c => ?_)
  · replace hf := if_t c hf
    refine v_iconst (pc := 34) X (v := (0 : Int32)) dX4_worksBy_34 (by decide) ?_
    exact v_zret (pc := 35) X hr hlk dX4_worksBy_35 (by decide) hf
  · replace hf := if_f c hf
    refine v_aload_n (pc := 14) X 0 dX4_worksBy_14 rfl rfl ?_
    obtain ⟨q7, e_q7, hf⟩ := hf
    refine ge_4_3 (pc := 15) X (fun w h => inM w (inG4 w h)) k15 t1 e_q7 dX4_worksBy_15 ?_
    refine v_aload_n (pc := 18) X 1 dX4_worksBy_18 rfl rfl ?_
    obtain ⟨v8, e_v8, hf⟩ := hf
    refine ge_0_0 (pc := 19) X (fun w h => inM w (inG0 w h)) k25 t3 e_v8 dX4_worksBy_19 ?_
    obtain ⟨t9, hf⟩ := hf
    obtain ⟨b11, v10, e_v10, hf⟩ := hf
    refine v_iald (pc := 22) X t9 b11 e_v10 dX4_worksBy_22 ?_
    refine v_aload_n (pc := 23) X 1 dX4_worksBy_23 rfl rfl ?_
    obtain ⟨v12, e_v12, hf⟩ := hf
    refine ge_0_1 (pc := 24) X (fun w h => inM w (inG0 w h)) k34 t3 e_v12 dX4_worksBy_24 ?_
    refine v_icmp_ne (pc := 27) X 34 dX4_worksBy_27 (by decide) (fun c => ?_) (fun c => ?_)
    · replace hf := if_f c hf
      refine v_iconst (pc := 34) X (v := (0 : Int32)) dX4_worksBy_34 (by decide) ?_
      exact v_zret (pc := 35) X hr hlk dX4_worksBy_35 (by decide) hf
    · replace hf := if_t c hf
      refine v_iconst (pc := 30) X (v := (1 : Int32)) dX4_worksBy_30 (by decide) ?_
      refine v_goto (pc := 31) X 35 dX4_worksBy_31 (by decide) ?_
      exact v_zret (pc := 35) X hr hlk dX4_worksBy_35 (by decide) hf
set_option maxHeartbeats 4000000 in
set_option maxRecDepth 100000 in
theorem w_X1_shrinkTo_5 {p : Program} {l : Launch} {e : Env} {s0 : State} {m : MethodId} {args : Array Value} {below : List Frame} {meth : Method} {c : Code} {D : va_G} {cA : Nat → ClassId} {L : List Nat} {sh : Sh} (X : Cx p s0 m c args cX1_shrinkTo 4 (wM yX1_shrinkTo cX1_shrinkTo 4 none) RX1 (fun q => q ∈ L) D cA L sh) (hr : meth.sig.returnType = none) (hlk : meth.locks = false) (x0 : Nat) (x1 : Int32) (Xc : Hp → Prop) (K : Hp → Prop) (hx : ∀  (h1 : Hp), Xc  h1 → V p l e (headSpec (wM yX1_shrinkTo cX1_shrinkTo 4 none) ({ frames := 1, cells := 0, slots := 0, locals := 23 } : Room)).room s0 m args below meth c (MQ below (QV D cA L sh K) args s0 0 0 (fun q => q ∈ L)) (fun q => q ∈ L) 0 0 D cA L sh 4 h1 41 [] []) : ∀ (n : Nat) (s : Int32) (h : Hp), lp (b_X1_shrinkTo_5 sh x0 x1 Xc K) n s h → V p l e (headSpec (wM yX1_shrinkTo cX1_shrinkTo 4 none) ({ frames := 1, cells := 0, slots := 0, locals := 23 } : Room)).room s0 m args below meth c (MQ below (QV D cA L sh K) args s0 0 0 (fun q => q ∈ L)) (fun q => q ∈ L) 0 0 D cA L sh 4 h 5 [(0, .ref x0), (1, .int x1), (2, .int s)] [] := by
  have k44 := X.ht _ (inM _ q_102)
  have k35 := X.ht _ (inM _ q_94)
  intro n
  induction n with
  | zero => intro s h hf; exact hf.elim
  | succ n ih =>
    intro s h hf
    replace hf : b_X1_shrinkTo_5 sh x0 x1 Xc K (lp (b_X1_shrinkTo_5 sh x0 x1 Xc K) n) s h := hf
    unfold b_X1_shrinkTo_5 at hf
    refine v_iload_n (pc := 5) X 2 dX1_shrinkTo_5 rfl rfl ?_
    refine v_iload_n (pc := 6) X 1 dX1_shrinkTo_6 rfl rfl ?_
    refine v_icmp_le (pc := 7) X 41 dX1_shrinkTo_7 (by decide) (fun c => ?_) (fun c => ?_)
    · replace hf := if_t c hf
      refine v_sub [] rfl ?_
      exact hx h hf
    · replace hf := if_f c hf
      refine v_aload_n (pc := 10) X 0 dX1_shrinkTo_10 rfl rfl ?_
      obtain ⟨t3, hf⟩ := hf
      refine v_callVI (pc := 11) X (As := []) (rest := []) (c_X1_longestUnused l D cA L sh x0 h _ hf) (cwV 0 X.ht (gwV inM q_279 q_280 q_439 q_3 q_281) rfl rfl rfl (by decide +kernel) ⟨Nat.le_of_ble_eq_true rfl, Nat.le_of_ble_eq_true rfl⟩) rfl (by decide) t3 (ent_1 t3) rfl rfl (Nat.le_of_ble_eq_true rfl) ⟨Nat.zero_le _, Nat.zero_le _⟩ dX1_shrinkTo_11 (fun r4 h5 hf => ?_)
      refine v_istore_n (pc := 14) X (i := 3) (lv' := [(3, .int r4), (0, .ref x0), (1, .int x1), (2, .int s)]) dX1_shrinkTo_14 rfl (Nat.le_of_ble_eq_true rfl) rfl ?_
      refine v_iload_n (pc := 15) X 0 dX1_shrinkTo_15 rfl rfl ?_
      refine v_if_ge (pc := 16) X 20 dX1_shrinkTo_16 (by decide) (fun c => ?_) (fun c => ?_)
      · replace hf := if_t c hf
        refine v_aload_n (pc := 20) X 1 dX1_shrinkTo_20 rfl rfl ?_
        refine v_iload_n (pc := 21) X 0 dX1_shrinkTo_21 rfl rfl ?_
        refine v_callVV (pc := 22) X (As := [.int r4]) (rest := []) (c_X1_takeOut l D cA L sh x0 r4 h5 _ hf) (cwV 1 X.ht (gwV inM q_264 q_265 q_438 q_3 q_266) rfl rfl rfl (by decide +kernel) ⟨Nat.le_of_ble_eq_true rfl, Nat.le_of_ble_eq_true rfl⟩) rfl (by decide) t3 (ent_1 t3) rfl rfl (Nat.le_of_ble_eq_true rfl) ⟨Nat.zero_le _, Nat.zero_le _⟩ dX1_shrinkTo_22 (fun h7 hf => ?_)
        refine v_aload_n (pc := 25) X 1 dX1_shrinkTo_25 rfl rfl ?_
        refine v_dup (pc := 26) X dX1_shrinkTo_26 rfl ?_
        obtain ⟨v8, e_v8, hf⟩ := hf
        refine ge_1_3 (pc := 27) X (fun w h => inM w (inG1 w h)) k35 t3 e_v8 dX1_shrinkTo_27 ?_
        refine v_iconst (pc := 30) X (v := (1 : Int32)) dX1_shrinkTo_30 (by decide) ?_
        refine v_iadd (pc := 31) X dX1_shrinkTo_31 ?_
        obtain ⟨h9, e_h9, hf⟩ := hf
        refine pu_1_3 (pc := 32) X (fun w h => inM w (inG1 w h)) k35 t3 e_h9 dX1_shrinkTo_32 ?_
        refine v_iinc (pc := 35) X 3 (v := s + (-1 : Int32)) (lv' := [(2, .int (s + (-1 : Int32))), (3, .int r4), (0, .ref x0), (1, .int x1)]) dX1_shrinkTo_35 rfl rfl (Nat.le_of_ble_eq_true rfl) rfl ?_
        refine v_goto (pc := 38) X 5 dX1_shrinkTo_38 (by decide) ?_
        refine v_sub [2, 3, 0] rfl ?_
        exact ih (s + (-1 : Int32)) h9 hf
      · replace hf := if_f c hf
        exact v_vret (pc := 19) X hr hlk dX1_shrinkTo_19 hf

set_option maxHeartbeats 4000000 in
set_option maxRecDepth 100000 in
theorem c_X1_shrinkTo (l : Launch) (D : va_G) (cA : Nat → ClassId) (L : List Nat) (sh : Sh) (a0 : Nat) (p1 : Int32) (h : Hp) (K : Hp → Prop) (hf : f_X1_shrinkTo sh a0 p1 h K) : Met l yX1_shrinkTo (wM yX1_shrinkTo cX1_shrinkTo 4 none) ({ frames := 1, cells := 0, slots := 0, locals := 23 } : Room) (PreM D cA L sh h [.ref a0, .int p1]) (QV D cA L sh K) 0 0 (fun q => q ∈ L) := by
  refine met_v (cc := cX1_shrinkTo) (nL := 4) (ret := none) [(0, .ref a0), (1, .int p1)] (by decide) rfl (Nat.le_of_ble_eq_true rfl) rfl ?_
  intro p e s0 m below meth c X hr hlk
  have k44 := X.ht _ (inM _ q_102)
  have k35 := X.ht _ (inM _ q_94)
  unfold f_X1_shrinkTo at hf
  refine v_aload_n (pc := 0) X 0 dX1_shrinkTo_0 rfl rfl ?_
  obtain ⟨t1, hf⟩ := hf
  obtain ⟨v2, e_v2, hf⟩ := hf
  refine ge_1_6 (pc := 1) X (fun w h => inM w (inG1 w h)) k44 t1 e_v2 dX1_shrinkTo_1 ?_
  refine v_istore_n (pc := 4) X (i := 2) (lv' := [(2, .int v2), (0, .ref a0), (1, .int p1)]) dX1_shrinkTo_4 rfl (Nat.le_of_ble_eq_true rfl) rfl ?_
  obtain ⟨n, hf⟩ := hf
  refine v_sub [1, 2, 0] rfl ?_
  refine w_X1_shrinkTo_5 X hr hlk a0 p1 _ K (fun  h10 hf => ?_) n v2 h hf
  exact v_vret (pc := 41) X hr hlk dX1_shrinkTo_41 hf
set_option maxHeartbeats 4000000 in
set_option maxRecDepth 100000 in
theorem w_X1_release_13 {p : Program} {l : Launch} {e : Env} {s0 : State} {m : MethodId} {args : Array Value} {below : List Frame} {meth : Method} {c : Code} {D : va_G} {cA : Nat → ClassId} {L : List Nat} {sh : Sh} (X : Cx p s0 m c args cX1_release 6 (wM yX1_release cX1_release 6 (some .int)) RX1 (fun q => q ∈ L) D cA L sh) (hr : meth.sig.returnType = (some .int)) (hlk : meth.locks = false) (x0 : Nat) (x1 : Nat) (x2 : Int32) (x3 : Int32) (Xc : Hp → Prop) (K : Int32 → Hp → Prop) (hx : ∀  (h1 : Hp), Xc  h1 → V p l e (headSpec (wM yX1_release cX1_release 6 (some .int)) ({ frames := 2, cells := 0, slots := 0, locals := 46 } : Room)).room s0 m args below meth c (MQ below (QI D cA L sh K) args s0 0 0 (fun q => q ∈ L)) (fun q => q ∈ L) 0 0 D cA L sh 6 h1 75 [(0, .ref x0), (1, .ref x1), (2, .int x2), (3, .int x3)] []) : ∀ (n : Nat) (s : Int32) (h : Hp), lp (b_X1_release_13 sh x0 x1 x2 x3 Xc) n s h → V p l e (headSpec (wM yX1_release cX1_release 6 (some .int)) ({ frames := 2, cells := 0, slots := 0, locals := 46 } : Room)).room s0 m args below meth c (MQ below (QI D cA L sh K) args s0 0 0 (fun q => q ∈ L)) (fun q => q ∈ L) 0 0 D cA L sh 6 h 13 [(0, .ref x0), (1, .ref x1), (2, .int x2), (3, .int x3), (4, .int s)] [] := by
  have k44 := X.ht _ (inM _ q_102)
  have k11 := X.ht _ (inM _ q_104)
  have k67 := X.ht _ (inM _ q_48)
  have k63 := X.ht _ (inM _ q_54)
  have k47 := X.ht _ (inM _ q_71)
  intro n
  induction n with
  | zero => intro s h hf; exact hf.elim
  | succ n ih =>
    intro s h hf
    replace hf : b_X1_release_13 sh x0 x1 x2 x3 Xc (lp (b_X1_release_13 sh x0 x1 x2 x3 Xc) n) s h := hf
    unfold b_X1_release_13 at hf
    refine v_iload (pc := 13) X 4 dX1_release_13 rfl ?_
    refine v_if_lt (pc := 15) X 75 dX1_release_15 (by decide) (fun c => ?_) (fun c => ?_)
    · replace hf := if_t c hf
      refine v_sub [0, 1, 2, 3] rfl ?_
      exact hx h hf
    · replace hf := if_f c hf
      refine v_aload_n (pc := 18) X 0 dX1_release_18 rfl rfl ?_
      obtain ⟨t4, hf⟩ := hf
      obtain ⟨q5, e_q5, hf⟩ := hf
      refine ge_1_7 (pc := 19) X (fun w h => inM w (inG1 w h)) k11 t4 e_q5 dX1_release_19 ?_
      refine v_iload (pc := 22) X 4 dX1_release_22 rfl ?_
      obtain ⟨t6, hf⟩ := hf
      obtain ⟨b8, q7, e_q7, hf⟩ := hf
      refine v_aald_8 (pc := 24) X t6 b8 e_q7 dX1_release_24 ?_
      refine v_astore (pc := 25) X (i := 5) (lv' := [(5, .ref q7), (0, .ref x0), (1, .ref x1), (2, .int x2), (3, .int x3), (4, .int s)]) dX1_release_25 (Nat.le_of_ble_eq_true rfl) rfl ?_
      refine v_aload_n (pc := 27) X 2 dX1_release_27 rfl rfl ?_
      refine v_aload (pc := 28) X 0 dX1_release_28 rfl ?_
      obtain ⟨t9, hf⟩ := hf
      refine v_callVI (pc := 30) X (As := [.ref q7]) (rest := []) (c_X4_worksBy l D cA L sh x1 q7 h _ hf) (cwV 1 X.ht (gwV inM q_301 q_302 q_303 q_5 q_304) rfl rfl rfl (by decide +kernel) ⟨Nat.le_of_ble_eq_true rfl, Nat.le_of_ble_eq_true rfl⟩) rfl (by decide) t9 (ent_4 t9) rfl rfl (Nat.le_of_ble_eq_true rfl) ⟨Nat.zero_le _, Nat.zero_le _⟩ dX1_release_30 (fun r10 h11 hf => ?_)
      refine v_if_eq (pc := 33) X 69 dX1_release_33 (by decide) (fun c => ?_) (fun c => ?_)
      · replace hf := if_t c hf
        refine v_iinc (pc := 69) X 5 (v := s + (-1 : Int32)) (lv' := [(4, .int (s + (-1 : Int32))), (5, .ref q7), (0, .ref x0), (1, .ref x1), (2, .int x2), (3, .int x3)]) dX1_release_69 rfl rfl (Nat.le_of_ble_eq_true rfl) rfl ?_
        refine v_goto (pc := 72) X 13 dX1_release_72 (by decide) ?_
        refine v_sub [2, 3, 4, 5, 0] rfl ?_
        exact ih (s + (-1 : Int32)) h11 hf
      · replace hf := if_f c hf
        refine v_aload (pc := 36) X 0 dX1_release_36 rfl ?_
        refine v_dup (pc := 38) X dX1_release_38 rfl ?_
        obtain ⟨t12, hf⟩ := hf
        obtain ⟨v13, e_v13, hf⟩ := hf
        refine ge_0_3 (pc := 39) X (fun w h => inM w (inG0 w h)) k67 t12 e_v13 dX1_release_39 ?_
        refine v_iconst (pc := 42) X (v := (1 : Int32)) dX1_release_42 (by decide) ?_
        refine v_isub (pc := 43) X dX1_release_43 ?_
        obtain ⟨h14, e_h14, hf⟩ := hf
        refine pu_0_3 (pc := 44) X (fun w h => inM w (inG0 w h)) k67 t12 e_h14 dX1_release_44 ?_
        refine v_aload (pc := 47) X 0 dX1_release_47 rfl ?_
        obtain ⟨v15, e_v15, hf⟩ := hf
        refine ge_0_5 (pc := 49) X (fun w h => inM w (inG0 w h)) k63 t12 e_v15 dX1_release_49 ?_
        refine v_if_eq (pc := 52) X 69 dX1_release_52 (by decide) (fun c => ?_) (fun c => ?_)
        · replace hf := if_t c hf
          refine v_iinc (pc := 69) X 5 (v := s + (-1 : Int32)) (lv' := [(4, .int (s + (-1 : Int32))), (5, .ref q7), (0, .ref x0), (1, .ref x1), (2, .int x2), (3, .int x3)]) dX1_release_69 rfl rfl (Nat.le_of_ble_eq_true rfl) rfl ?_
          refine v_goto (pc := 72) X 13 dX1_release_72 (by decide) ?_
          refine v_sub [2, 3, 4, 5, 0] rfl ?_
          exact ih (s + (-1 : Int32)) h14 hf
        · replace hf := if_f c hf
          refine v_aload (pc := 55) X 0 dX1_release_55 rfl ?_
          obtain ⟨v16, e_v16, hf⟩ := hf
          refine ge_0_3 (pc := 57) X (fun w h => inM w (inG0 w h)) k67 t12 e_v16 dX1_release_57 ?_
          refine v_if_ne (pc := 60) X 69 dX1_release_60 (by decide) (fun c => ?_) (fun c => ?_)
          · replace hf := if_f c hf
            refine v_iinc (pc := 69) X 5 (v := s + (-1 : Int32)) (lv' := [(4, .int (s + (-1 : Int32))), (5, .ref q7), (0, .ref x0), (1, .ref x1), (2, .int x2), (3, .int x3)]) dX1_release_69 rfl rfl (Nat.le_of_ble_eq_true rfl) rfl ?_
            refine v_goto (pc := 72) X 13 dX1_release_72 (by decide) ?_
            refine v_sub [2, 3, 4, 5, 0] rfl ?_
            exact ih (s + (-1 : Int32)) h14 hf
          · replace hf := if_t c hf
            refine v_aload_n (pc := 63) X 1 dX1_release_63 rfl rfl ?_
            refine v_iload (pc := 64) X 5 dX1_release_64 rfl ?_
            refine v_callVV (pc := 66) X (As := [.int s]) (rest := []) (c_X1_takeOut l D cA L sh x0 s h14 _ hf) (cwV 1 X.ht (gwV inM q_264 q_265 q_438 q_3 q_266) rfl rfl rfl (by decide +kernel) ⟨Nat.le_of_ble_eq_true rfl, Nat.le_of_ble_eq_true rfl⟩) rfl (by decide) t4 (ent_1 t4) rfl rfl (Nat.le_of_ble_eq_true rfl) ⟨Nat.zero_le _, Nat.zero_le _⟩ dX1_release_66 (fun h18 hf => ?_)
            refine v_iinc (pc := 69) X 5 (v := s + (-1 : Int32)) (lv' := [(4, .int (s + (-1 : Int32))), (5, .ref q7), (0, .ref x0), (1, .ref x1), (2, .int x2), (3, .int x3)]) dX1_release_69 rfl rfl (Nat.le_of_ble_eq_true rfl) rfl ?_
            refine v_goto (pc := 72) X 13 dX1_release_72 (by decide) ?_
            refine v_sub [2, 3, 4, 5, 0] rfl ?_
            exact ih (s + (-1 : Int32)) h18 hf

set_option maxHeartbeats 4000000 in
set_option maxRecDepth 100000 in
theorem c_X1_release (l : Launch) (D : va_G) (cA : Nat → ClassId) (L : List Nat) (sh : Sh) (a0 : Nat) (p1 : Nat) (p2 : Int32) (h : Hp) (K : Int32 → Hp → Prop) (hf : f_X1_release sh a0 p1 p2 h K) : Met l yX1_release (wM yX1_release cX1_release 6 (some .int)) ({ frames := 2, cells := 0, slots := 0, locals := 46 } : Room) (PreM D cA L sh h [.ref a0, .ref p1, .int p2]) (QI D cA L sh K) 0 0 (fun q => q ∈ L) := by
  refine met_v (cc := cX1_release) (nL := 6) (ret := (some .int)) [(0, .ref a0), (1, .ref p1), (2, .int p2)] (by decide) rfl (Nat.le_of_ble_eq_true rfl) rfl ?_
  intro p e s0 m below meth c X hr hlk
  have k44 := X.ht _ (inM _ q_102)
  have k11 := X.ht _ (inM _ q_104)
  have k67 := X.ht _ (inM _ q_48)
  have k63 := X.ht _ (inM _ q_54)
  have k47 := X.ht _ (inM _ q_71)
  unfold f_X1_release at hf
  refine v_aload_n (pc := 0) X 0 dX1_release_0 rfl rfl ?_
  obtain ⟨t1, hf⟩ := hf
  obtain ⟨v2, e_v2, hf⟩ := hf
  refine ge_1_6 (pc := 1) X (fun w h => inM w (inG1 w h)) k44 t1 e_v2 dX1_release_1 ?_
  refine v_istore_n (pc := 4) X (i := 3) (lv' := [(3, .int v2), (0, .ref a0), (1, .ref p1), (2, .int p2)]) dX1_release_4 rfl (Nat.le_of_ble_eq_true rfl) rfl ?_
  refine v_aload_n (pc := 5) X 1 dX1_release_5 rfl rfl ?_
  obtain ⟨v3, e_v3, hf⟩ := hf
  refine ge_1_6 (pc := 6) X (fun w h => inM w (inG1 w h)) k44 t1 e_v3 dX1_release_6 ?_
  refine v_iconst (pc := 9) X (v := (1 : Int32)) dX1_release_9 (by decide) ?_
  refine v_isub (pc := 10) X dX1_release_10 ?_
  refine v_istore (pc := 11) X (i := 4) (lv' := [(4, .int (v3 - (1 : Int32))), (3, .int v2), (0, .ref a0), (1, .ref p1), (2, .int p2)]) dX1_release_11 (Nat.le_of_ble_eq_true rfl) rfl ?_
  obtain ⟨n, hf⟩ := hf
  refine v_sub [2, 3, 4, 1, 0] rfl ?_
  refine w_X1_release_13 X hr hlk a0 p1 p2 v2 _ K (fun  h19 hf => ?_) n (v3 - (1 : Int32)) h hf
  refine v_aload_n (pc := 75) X 1 dX1_release_75 rfl rfl ?_
  refine v_iconst (pc := 76) X (v := (-1 : Int32)) dX1_release_76 (by decide) ?_
  obtain ⟨t20, hf⟩ := hf
  obtain ⟨h21, e_h21, hf⟩ := hf
  refine pu_4_0 (pc := 77) X (fun w h => inM w (inG4 w h)) k47 t20 e_h21 dX1_release_77 ?_
  refine v_aload_n (pc := 80) X 0 dX1_release_80 rfl rfl ?_
  refine v_iload_n (pc := 81) X 2 dX1_release_81 rfl rfl ?_
  refine v_callVV (pc := 82) X (As := [.int p2]) (rest := []) (c_X1_shrinkTo l D cA L sh a0 p2 h21 _ hf) (cwV 1 X.ht (gwV inM q_275 q_276 q_277 q_3 q_278) rfl rfl rfl (by decide +kernel) ⟨Nat.le_of_ble_eq_true rfl, Nat.le_of_ble_eq_true rfl⟩) rfl (by decide) t1 (ent_1 t1) rfl rfl (Nat.le_of_ble_eq_true rfl) ⟨Nat.zero_le _, Nat.zero_le _⟩ dX1_release_82 (fun h23 hf => ?_)
  refine v_iload_n (pc := 85) X 3 dX1_release_85 rfl rfl ?_
  refine v_aload_n (pc := 86) X 0 dX1_release_86 rfl rfl ?_
  obtain ⟨v24, e_v24, hf⟩ := hf
  refine ge_1_6 (pc := 87) X (fun w h => inM w (inG1 w h)) k44 t1 e_v24 dX1_release_87 ?_
  refine v_isub (pc := 90) X dX1_release_90 ?_
  exact v_iret (pc := 91) X hr hlk dX1_release_91 hf
set_option maxHeartbeats 4000000 in
set_option maxRecDepth 100000 in
theorem w_X1_staleInHand_4 {p : Program} {l : Launch} {e : Env} {s0 : State} {m : MethodId} {args : Array Value} {below : List Frame} {meth : Method} {c : Code} {D : va_G} {cA : Nat → ClassId} {L : List Nat} {sh : Sh} (X : Cx p s0 m c args cX1_staleInHand 3 (wM yX1_staleInHand cX1_staleInHand 3 (some .int)) RX1 (fun q => q ∈ L) D cA L sh) (hr : meth.sig.returnType = (some .int)) (hlk : meth.locks = false) (x0 : Nat) (Xc : Int32 → Hp → Prop) (K : Int32 → Hp → Prop) (hx : ∀ (y1 : Int32) (h1 : Hp), Xc y1 h1 → V p l e (headSpec (wM yX1_staleInHand cX1_staleInHand 3 (some .int)) ({ frames := 0, cells := 0, slots := 0, locals := 0 } : Room)).room s0 m args below meth c (MQ below (QI D cA L sh K) args s0 0 0 (fun q => q ∈ L)) (fun q => q ∈ L) 0 0 D cA L sh 3 h1 33 [(1, .int y1)] []) : ∀ (n : Nat) (s : Int32 × Int32) (h : Hp), lp (b_X1_staleInHand_4 sh x0 Xc) n s h → V p l e (headSpec (wM yX1_staleInHand cX1_staleInHand 3 (some .int)) ({ frames := 0, cells := 0, slots := 0, locals := 0 } : Room)).room s0 m args below meth c (MQ below (QI D cA L sh K) args s0 0 0 (fun q => q ∈ L)) (fun q => q ∈ L) 0 0 D cA L sh 3 h 4 [(0, .ref x0), (1, .int s.1), (2, .int s.2)] [] := by
  have k44 := X.ht _ (inM _ q_102)
  have k11 := X.ht _ (inM _ q_104)
  have k63 := X.ht _ (inM _ q_54)
  intro n
  induction n with
  | zero => intro s h hf; exact hf.elim
  | succ n ih =>
    intro s h hf
    replace hf : b_X1_staleInHand_4 sh x0 Xc (lp (b_X1_staleInHand_4 sh x0 Xc) n) s h := hf
    unfold b_X1_staleInHand_4 at hf
    refine v_iload_n (pc := 4) X 2 dX1_staleInHand_4 rfl rfl ?_
    refine v_aload_n (pc := 5) X 0 dX1_staleInHand_5 rfl rfl ?_
    obtain ⟨t1, hf⟩ := hf
    obtain ⟨v2, e_v2, hf⟩ := hf
    refine ge_1_6 (pc := 6) X (fun w h => inM w (inG1 w h)) k44 t1 e_v2 dX1_staleInHand_6 ?_
    refine v_icmp_ge (pc := 9) X 33 dX1_staleInHand_9 (by decide) (fun c => ?_) (fun c => ?_)
    · replace hf := if_t c hf
      refine v_sub [1] rfl ?_
      exact hx s.1 h hf
    · replace hf := if_f c hf
      refine v_aload_n (pc := 12) X 0 dX1_staleInHand_12 rfl rfl ?_
      obtain ⟨q3, e_q3, hf⟩ := hf
      refine ge_1_7 (pc := 13) X (fun w h => inM w (inG1 w h)) k11 t1 e_q3 dX1_staleInHand_13 ?_
      refine v_iload_n (pc := 16) X 2 dX1_staleInHand_16 rfl rfl ?_
      obtain ⟨t4, hf⟩ := hf
      obtain ⟨b6, q5, e_q5, hf⟩ := hf
      refine v_aald_8 (pc := 17) X t4 b6 e_q5 dX1_staleInHand_17 ?_
      obtain ⟨t7, hf⟩ := hf
      obtain ⟨v8, e_v8, hf⟩ := hf
      refine ge_0_5 (pc := 18) X (fun w h => inM w (inG0 w h)) k63 t7 e_v8 dX1_staleInHand_18 ?_
      refine v_if_eq (pc := 21) X 27 dX1_staleInHand_21 (by decide) (fun c => ?_) (fun c => ?_)
      · replace hf := if_t c hf
        refine v_iinc (pc := 27) X 2 (v := s.2 + (1 : Int32)) (lv' := [(2, .int (s.2 + (1 : Int32))), (0, .ref x0), (1, .int s.1)]) dX1_staleInHand_27 rfl rfl (Nat.le_of_ble_eq_true rfl) rfl ?_
        refine v_goto (pc := 30) X 4 dX1_staleInHand_30 (by decide) ?_
        refine v_sub [1, 2, 0] rfl ?_
        exact ih (s.1, s.2 + (1 : Int32)) h hf
      · replace hf := if_f c hf
        refine v_iinc (pc := 24) X 1 (v := s.1 + (1 : Int32)) (lv' := [(1, .int (s.1 + (1 : Int32))), (0, .ref x0), (2, .int s.2)]) dX1_staleInHand_24 rfl rfl (Nat.le_of_ble_eq_true rfl) rfl ?_
        refine v_iinc (pc := 27) X 2 (v := s.2 + (1 : Int32)) (lv' := [(2, .int (s.2 + (1 : Int32))), (1, .int (s.1 + (1 : Int32))), (0, .ref x0)]) dX1_staleInHand_27 rfl rfl (Nat.le_of_ble_eq_true rfl) rfl ?_
        refine v_goto (pc := 30) X 4 dX1_staleInHand_30 (by decide) ?_
        refine v_sub [2, 1, 0] rfl ?_
        exact ih (s.1 + (1 : Int32), s.2 + (1 : Int32)) h hf

set_option maxHeartbeats 4000000 in
set_option maxRecDepth 100000 in
theorem c_X1_staleInHand (l : Launch) (D : va_G) (cA : Nat → ClassId) (L : List Nat) (sh : Sh) (a0 : Nat) (h : Hp) (K : Int32 → Hp → Prop) (hf : f_X1_staleInHand sh a0 h K) : Met l yX1_staleInHand (wM yX1_staleInHand cX1_staleInHand 3 (some .int)) ({ frames := 0, cells := 0, slots := 0, locals := 0 } : Room) (PreM D cA L sh h [.ref a0]) (QI D cA L sh K) 0 0 (fun q => q ∈ L) := by
  refine met_v (cc := cX1_staleInHand) (nL := 3) (ret := (some .int)) [(0, .ref a0)] (by decide) rfl (Nat.le_of_ble_eq_true rfl) rfl ?_
  intro p e s0 m below meth c X hr hlk
  have k44 := X.ht _ (inM _ q_102)
  have k11 := X.ht _ (inM _ q_104)
  have k63 := X.ht _ (inM _ q_54)
  unfold f_X1_staleInHand at hf
  refine v_iconst (pc := 0) X (v := (0 : Int32)) dX1_staleInHand_0 (by decide) ?_
  refine v_istore_n (pc := 1) X (i := 1) (lv' := [(1, .int (0 : Int32)), (0, .ref a0)]) dX1_staleInHand_1 rfl (Nat.le_of_ble_eq_true rfl) rfl ?_
  refine v_iconst (pc := 2) X (v := (0 : Int32)) dX1_staleInHand_2 (by decide) ?_
  refine v_istore_n (pc := 3) X (i := 2) (lv' := [(2, .int (0 : Int32)), (1, .int (0 : Int32)), (0, .ref a0)]) dX1_staleInHand_3 rfl (Nat.le_of_ble_eq_true rfl) rfl ?_
  obtain ⟨n, hf⟩ := hf
  refine v_sub [2, 1, 0] rfl ?_
  refine w_X1_staleInHand_4 X hr hlk a0 _ K (fun y9 h10 hf => ?_) n ((0 : Int32), (0 : Int32)) h hf
  refine v_iload_n (pc := 33) X 0 dX1_staleInHand_33 rfl rfl ?_
  exact v_iret (pc := 34) X hr hlk dX1_staleInHand_34 hf
set_option maxHeartbeats 4000000 in
set_option maxRecDepth 100000 in
theorem w_X1_statementsAtWork_4 {p : Program} {l : Launch} {e : Env} {s0 : State} {m : MethodId} {args : Array Value} {below : List Frame} {meth : Method} {c : Code} {D : va_G} {cA : Nat → ClassId} {L : List Nat} {sh : Sh} (X : Cx p s0 m c args cX1_statementsAtWork 3 (wM yX1_statementsAtWork cX1_statementsAtWork 3 (some .int)) RX1 (fun q => q ∈ L) D cA L sh) (hr : meth.sig.returnType = (some .int)) (hlk : meth.locks = false) (x0 : Nat) (Xc : Int32 → Hp → Prop) (K : Int32 → Hp → Prop) (hx : ∀ (y1 : Int32) (h1 : Hp), Xc y1 h1 → V p l e (headSpec (wM yX1_statementsAtWork cX1_statementsAtWork 3 (some .int)) ({ frames := 0, cells := 0, slots := 0, locals := 0 } : Room)).room s0 m args below meth c (MQ below (QI D cA L sh K) args s0 0 0 (fun q => q ∈ L)) (fun q => q ∈ L) 0 0 D cA L sh 3 h1 30 [(1, .int y1)] []) : ∀ (n : Nat) (s : Int32 × Int32) (h : Hp), lp (b_X1_statementsAtWork_4 sh x0 Xc) n s h → V p l e (headSpec (wM yX1_statementsAtWork cX1_statementsAtWork 3 (some .int)) ({ frames := 0, cells := 0, slots := 0, locals := 0 } : Room)).room s0 m args below meth c (MQ below (QI D cA L sh K) args s0 0 0 (fun q => q ∈ L)) (fun q => q ∈ L) 0 0 D cA L sh 3 h 4 [(0, .ref x0), (1, .int s.1), (2, .int s.2)] [] := by
  have k20 := X.ht _ (inM _ q_106)
  have k47 := X.ht _ (inM _ q_71)
  intro n
  induction n with
  | zero => intro s h hf; exact hf.elim
  | succ n ih =>
    intro s h hf
    replace hf : b_X1_statementsAtWork_4 sh x0 Xc (lp (b_X1_statementsAtWork_4 sh x0 Xc) n) s h := hf
    unfold b_X1_statementsAtWork_4 at hf
    refine v_iload_n (pc := 4) X 2 dX1_statementsAtWork_4 rfl rfl ?_
    refine v_iconst (pc := 5) X (v := (4 : Int32)) dX1_statementsAtWork_5 (by decide) ?_
    refine v_icmp_ge (pc := 6) X 30 dX1_statementsAtWork_6 (by decide) (fun c => ?_) (fun c => ?_)
    · replace hf := if_t c hf
      refine v_sub [1] rfl ?_
      exact hx s.1 h hf
    · replace hf := if_f c hf
      refine v_aload_n (pc := 9) X 0 dX1_statementsAtWork_9 rfl rfl ?_
      obtain ⟨t1, hf⟩ := hf
      obtain ⟨q2, e_q2, hf⟩ := hf
      refine ge_1_8 (pc := 10) X (fun w h => inM w (inG1 w h)) k20 t1 e_q2 dX1_statementsAtWork_10 ?_
      refine v_iload_n (pc := 13) X 2 dX1_statementsAtWork_13 rfl rfl ?_
      obtain ⟨t3, hf⟩ := hf
      obtain ⟨b5, q4, e_q4, hf⟩ := hf
      refine v_aald_11 (pc := 14) X t3 b5 e_q4 dX1_statementsAtWork_14 ?_
      obtain ⟨t6, hf⟩ := hf
      obtain ⟨v7, e_v7, hf⟩ := hf
      refine ge_4_0 (pc := 15) X (fun w h => inM w (inG4 w h)) k47 t6 e_v7 dX1_statementsAtWork_15 ?_
      refine v_if_lt (pc := 18) X 24 dX1_statementsAtWork_18 (by decide) (fun c => ?_) (fun c => ?_)
      · replace hf := if_t c hf
        refine v_iinc (pc := 24) X 2 (v := s.2 + (1 : Int32)) (lv' := [(2, .int (s.2 + (1 : Int32))), (0, .ref x0), (1, .int s.1)]) dX1_statementsAtWork_24 rfl rfl (Nat.le_of_ble_eq_true rfl) rfl ?_
        refine v_goto (pc := 27) X 4 dX1_statementsAtWork_27 (by decide) ?_
        refine v_sub [1, 2, 0] rfl ?_
        exact ih (s.1, s.2 + (1 : Int32)) h hf
      · replace hf := if_f c hf
        refine v_iinc (pc := 21) X 1 (v := s.1 + (1 : Int32)) (lv' := [(1, .int (s.1 + (1 : Int32))), (0, .ref x0), (2, .int s.2)]) dX1_statementsAtWork_21 rfl rfl (Nat.le_of_ble_eq_true rfl) rfl ?_
        refine v_iinc (pc := 24) X 2 (v := s.2 + (1 : Int32)) (lv' := [(2, .int (s.2 + (1 : Int32))), (1, .int (s.1 + (1 : Int32))), (0, .ref x0)]) dX1_statementsAtWork_24 rfl rfl (Nat.le_of_ble_eq_true rfl) rfl ?_
        refine v_goto (pc := 27) X 4 dX1_statementsAtWork_27 (by decide) ?_
        refine v_sub [2, 1, 0] rfl ?_
        exact ih (s.1 + (1 : Int32), s.2 + (1 : Int32)) h hf

set_option maxHeartbeats 4000000 in
set_option maxRecDepth 100000 in
theorem c_X1_statementsAtWork (l : Launch) (D : va_G) (cA : Nat → ClassId) (L : List Nat) (sh : Sh) (a0 : Nat) (h : Hp) (K : Int32 → Hp → Prop) (hf : f_X1_statementsAtWork sh a0 h K) : Met l yX1_statementsAtWork (wM yX1_statementsAtWork cX1_statementsAtWork 3 (some .int)) ({ frames := 0, cells := 0, slots := 0, locals := 0 } : Room) (PreM D cA L sh h [.ref a0]) (QI D cA L sh K) 0 0 (fun q => q ∈ L) := by
  refine met_v (cc := cX1_statementsAtWork) (nL := 3) (ret := (some .int)) [(0, .ref a0)] (by decide) rfl (Nat.le_of_ble_eq_true rfl) rfl ?_
  intro p e s0 m below meth c X hr hlk
  have k20 := X.ht _ (inM _ q_106)
  have k47 := X.ht _ (inM _ q_71)
  unfold f_X1_statementsAtWork at hf
  refine v_iconst (pc := 0) X (v := (0 : Int32)) dX1_statementsAtWork_0 (by decide) ?_
  refine v_istore_n (pc := 1) X (i := 1) (lv' := [(1, .int (0 : Int32)), (0, .ref a0)]) dX1_statementsAtWork_1 rfl (Nat.le_of_ble_eq_true rfl) rfl ?_
  refine v_iconst (pc := 2) X (v := (0 : Int32)) dX1_statementsAtWork_2 (by decide) ?_
  refine v_istore_n (pc := 3) X (i := 2) (lv' := [(2, .int (0 : Int32)), (1, .int (0 : Int32)), (0, .ref a0)]) dX1_statementsAtWork_3 rfl (Nat.le_of_ble_eq_true rfl) rfl ?_
  obtain ⟨n, hf⟩ := hf
  refine v_sub [2, 1, 0] rfl ?_
  refine w_X1_statementsAtWork_4 X hr hlk a0 _ K (fun y8 h9 hf => ?_) n ((0 : Int32), (0 : Int32)) h hf
  refine v_iload_n (pc := 30) X 0 dX1_statementsAtWork_30 rfl rfl ?_
  exact v_iret (pc := 31) X hr hlk dX1_statementsAtWork_31 hf
set_option maxHeartbeats 4000000 in
set_option maxRecDepth 100000 in
theorem c_X1_use (l : Launch) (D : va_G) (cA : Nat → ClassId) (L : List Nat) (sh : Sh) (a0 : Nat) (p1 : Nat) (p2 : Int32) (p3 : Int32) (p4 : Int32) (p5 : Int32) (h : Hp) (K : Int32 → Hp → Prop) (hf : f_X1_use sh a0 p1 p2 p3 p4 p5 h K) : Met l yX1_use (wM yX1_use cX1_use 8 (some .boolean)) ({ frames := 2, cells := 0, slots := 0, locals := 47 } : Room) (PreM D cA L sh h [.ref a0, .ref p1, .int p2, .int p3, .int p4, .int p5]) (QI D cA L sh K) 0 0 (fun q => q ∈ L) := by
  refine met_v (cc := cX1_use) (nL := 8) (ret := (some .boolean)) [(0, .ref a0), (1, .ref p1), (2, .int p2), (3, .int p3), (4, .int p4), (5, .int p5)] (by decide) rfl (Nat.le_of_ble_eq_true rfl) rfl ?_
  intro p e s0 m below meth c X hr hlk
  have k29 := X.ht _ (inM _ q_89)
  have k44 := X.ht _ (inM _ q_102)
  have k32 := X.ht _ (inM _ q_91)
  have k11 := X.ht _ (inM _ q_104)
  have k47 := X.ht _ (inM _ q_71)
  have k85 := X.ht _ (inM _ q_51)
  have k67 := X.ht _ (inM _ q_48)
  have k88 := X.ht _ (inM _ q_81)
  have k60 := X.ht _ (inM _ q_42)
  unfold f_X1_use at hf
  refine v_aload_n (pc := 0) X 0 dX1_use_0 rfl rfl ?_
  refine v_iload_n (pc := 1) X 2 dX1_use_1 rfl rfl ?_
  obtain ⟨t1, hf⟩ := hf
  refine v_callVI (pc := 2) X (As := [.int p2]) (rest := []) (c_X1_freshEntryOf l D cA L sh a0 p2 h _ hf) (cwV 1 X.ht (gwV inM q_274 q_210 q_211 q_3 q_212) rfl rfl rfl (by decide +kernel) ⟨Nat.le_of_ble_eq_true rfl, Nat.le_of_ble_eq_true rfl⟩) rfl (by decide) t1 (ent_1 t1) rfl rfl (Nat.le_of_ble_eq_true rfl) ⟨Nat.zero_le _, Nat.zero_le _⟩ dX1_use_2 (fun r2 h3 hf => ?_)
  refine v_istore (pc := 5) X (i := 6) (lv' := [(6, .int r2), (0, .ref a0), (1, .ref p1), (2, .int p2), (3, .int p3), (4, .int p4), (5, .int p5)]) dX1_use_5 (Nat.le_of_ble_eq_true rfl) rfl ?_
  refine v_iload (pc := 7) X 0 dX1_use_7 rfl ?_
  refine v_if_lt (pc := 9) X 25 dX1_use_9 (by decide) (fun c => ?_) (fun c => ?_)
  · replace hf := if_t c hf
    refine v_aload_n (pc := 25) X 1 dX1_use_25 rfl rfl ?_
    refine v_iload (pc := 26) X 6 dX1_use_26 rfl ?_
    refine v_iconst (pc := 28) X (v := (1 : Int32)) dX1_use_28 (by decide) ?_
    refine v_isub (pc := 29) X dX1_use_29 ?_
    refine v_callVV (pc := 30) X (As := [.int (p5 - (1 : Int32))]) (rest := []) (c_X1_shrinkTo l D cA L sh a0 (p5 - (1 : Int32)) h3 _ hf) (cwV 1 X.ht (gwV inM q_275 q_276 q_277 q_3 q_278) rfl rfl rfl (by decide +kernel) ⟨Nat.le_of_ble_eq_true rfl, Nat.le_of_ble_eq_true rfl⟩) rfl (by decide) t1 (ent_1 t1) rfl rfl (Nat.le_of_ble_eq_true rfl) ⟨Nat.zero_le _, Nat.zero_le _⟩ dX1_use_30 (fun h5 hf => ?_)
    refine v_aload_n (pc := 33) X 1 dX1_use_33 rfl rfl ?_
    obtain ⟨v6, e_v6, hf⟩ := hf
    refine ge_1_6 (pc := 34) X (fun w h => inM w (inG1 w h)) k44 t1 e_v6 dX1_use_34 ?_
    refine v_iload (pc := 37) X 6 dX1_use_37 rfl ?_
    refine v_icmp_ge (pc := 39) X 51 dX1_use_39 (by decide) (fun c => ?_) (fun c => ?_)
    · replace hf := if_t c hf
      refine v_iconst (pc := 51) X (v := (0 : Int32)) dX1_use_51 (by decide) ?_
      exact v_zret (pc := 52) X hr hlk dX1_use_52 (by decide) hf
    · replace hf := if_f c hf
      refine v_aload_n (pc := 42) X 1 dX1_use_42 rfl rfl ?_
      obtain ⟨v7, e_v7, hf⟩ := hf
      refine ge_1_6 (pc := 43) X (fun w h => inM w (inG1 w h)) k44 t1 e_v7 dX1_use_43 ?_
      refine v_bipush (pc := 46) X (v := (8 : Int32)) dX1_use_46 (by decide) ?_
      refine v_icmp_lt (pc := 48) X 53 dX1_use_48 (by decide) (fun c => ?_) (fun c => ?_)
      · replace hf := if_t c hf
        refine v_aload_n (pc := 53) X 1 dX1_use_53 rfl rfl ?_
        refine v_iload_n (pc := 54) X 3 dX1_use_54 rfl rfl ?_
        refine v_iload_n (pc := 55) X 4 dX1_use_55 rfl rfl ?_
        refine v_iload (pc := 56) X 5 dX1_use_56 rfl ?_
        refine v_callVI (pc := 58) X (As := [.int p2, .int p3, .int p4]) (rest := []) (c_X1_putIn l D cA L sh a0 p2 p3 p4 h5 _ hf) (cwV 3 X.ht (gwV inM q_282 q_283 q_440 q_3 q_284) rfl rfl rfl (by decide +kernel) ⟨Nat.le_of_ble_eq_true rfl, Nat.le_of_ble_eq_true rfl⟩) rfl (by decide) t1 (ent_1 t1) rfl rfl (Nat.le_of_ble_eq_true rfl) ⟨Nat.zero_le _, Nat.zero_le _⟩ dX1_use_58 (fun r8 h9 hf => ?_)
        refine v_istore (pc := 61) X (i := 6) (lv' := [(6, .int r8), (0, .ref a0), (1, .ref p1), (2, .int p2), (3, .int p3), (4, .int p4), (5, .int p5)]) dX1_use_61 (Nat.le_of_ble_eq_true rfl) rfl ?_
        refine v_aload_n (pc := 63) X 1 dX1_use_63 rfl rfl ?_
        refine v_dup (pc := 64) X dX1_use_64 rfl ?_
        obtain ⟨v10, e_v10, hf⟩ := hf
        refine ge_1_2 (pc := 65) X (fun w h => inM w (inG1 w h)) k32 t1 e_v10 dX1_use_65 ?_
        refine v_iconst (pc := 68) X (v := (1 : Int32)) dX1_use_68 (by decide) ?_
        refine v_iadd (pc := 69) X dX1_use_69 ?_
        obtain ⟨h11, e_h11, hf⟩ := hf
        refine pu_1_2 (pc := 70) X (fun w h => inM w (inG1 w h)) k32 t1 e_h11 dX1_use_70 ?_
        refine v_aload_n (pc := 73) X 1 dX1_use_73 rfl rfl ?_
        obtain ⟨q12, e_q12, hf⟩ := hf
        refine ge_1_7 (pc := 74) X (fun w h => inM w (inG1 w h)) k11 t1 e_q12 dX1_use_74 ?_
        refine v_iload (pc := 77) X 0 dX1_use_77 rfl ?_
        obtain ⟨t13, hf⟩ := hf
        obtain ⟨b15, q14, e_q14, hf⟩ := hf
        refine v_aald_8 (pc := 79) X t13 b15 e_q14 dX1_use_79 ?_
        refine v_astore (pc := 80) X (i := 7) (lv' := [(7, .ref q14), (6, .int r8), (0, .ref a0), (1, .ref p1), (2, .int p2), (3, .int p3), (4, .int p4), (5, .int p5)]) dX1_use_80 (Nat.le_of_ble_eq_true rfl) rfl ?_
        refine v_aload (pc := 82) X 0 dX1_use_82 rfl ?_
        refine v_aload_n (pc := 84) X 3 dX1_use_84 rfl rfl ?_
        obtain ⟨t16, hf⟩ := hf
        obtain ⟨v17, e_v17, hf⟩ := hf
        refine ge_4_0 (pc := 85) X (fun w h => inM w (inG4 w h)) k47 t16 e_v17 dX1_use_85 ?_
        obtain ⟨t18, hf⟩ := hf
        obtain ⟨h19, e_h19, hf⟩ := hf
        refine pu_0_4 (pc := 88) X (fun w h => inM w (inG0 w h)) k85 t18 e_h19 dX1_use_88 ?_
        refine v_aload (pc := 91) X 0 dX1_use_91 rfl ?_
        refine v_dup (pc := 93) X dX1_use_93 rfl ?_
        obtain ⟨v20, e_v20, hf⟩ := hf
        refine ge_0_3 (pc := 94) X (fun w h => inM w (inG0 w h)) k67 t18 e_v20 dX1_use_94 ?_
        refine v_iconst (pc := 97) X (v := (1 : Int32)) dX1_use_97 (by decide) ?_
        refine v_iadd (pc := 98) X dX1_use_98 ?_
        obtain ⟨h21, e_h21, hf⟩ := hf
        refine pu_0_3 (pc := 99) X (fun w h => inM w (inG0 w h)) k67 t18 e_h21 dX1_use_99 ?_
        refine v_aload_n (pc := 102) X 3 dX1_use_102 rfl rfl ?_
        obtain ⟨q22, e_q22, hf⟩ := hf
        refine ge_4_3 (pc := 103) X (fun w h => inM w (inG4 w h)) k88 t16 e_q22 dX1_use_103 ?_
        refine v_iload_n (pc := 106) X 4 dX1_use_106 rfl rfl ?_
        refine v_aload (pc := 107) X 0 dX1_use_107 rfl ?_
        obtain ⟨v23, e_v23, hf⟩ := hf
        refine ge_0_1 (pc := 109) X (fun w h => inM w (inG0 w h)) k60 t18 e_v23 dX1_use_109 ?_
        obtain ⟨t24, hf⟩ := hf
        obtain ⟨b26, h25, e_h25, hf⟩ := hf
        refine v_iast (pc := 112) X t24 b26 e_h25 dX1_use_112 ?_
        refine v_iconst (pc := 113) X (v := (1 : Int32)) dX1_use_113 (by decide) ?_
        exact v_zret (pc := 114) X hr hlk dX1_use_114 (by decide) hf
      · replace hf := if_f c hf
        refine v_iconst (pc := 51) X (v := (0 : Int32)) dX1_use_51 (by decide) ?_
        exact v_zret (pc := 52) X hr hlk dX1_use_52 (by decide) hf
  · replace hf := if_f c hf
    refine v_aload_n (pc := 12) X 1 dX1_use_12 rfl rfl ?_
    refine v_dup (pc := 13) X dX1_use_13 rfl ?_
    obtain ⟨v27, e_v27, hf⟩ := hf
    refine ge_1_1 (pc := 14) X (fun w h => inM w (inG1 w h)) k29 t1 e_v27 dX1_use_14 ?_
    refine v_iconst (pc := 17) X (v := (1 : Int32)) dX1_use_17 (by decide) ?_
    refine v_iadd (pc := 18) X dX1_use_18 ?_
    obtain ⟨h28, e_h28, hf⟩ := hf
    refine pu_1_1 (pc := 19) X (fun w h => inM w (inG1 w h)) k29 t1 e_h28 dX1_use_19 ?_
    refine v_goto (pc := 22) X 73 dX1_use_22 (by decide) ?_
    refine v_aload_n (pc := 73) X 1 dX1_use_73 rfl rfl ?_
    obtain ⟨q29, e_q29, hf⟩ := hf
    refine ge_1_7 (pc := 74) X (fun w h => inM w (inG1 w h)) k11 t1 e_q29 dX1_use_74 ?_
    refine v_iload (pc := 77) X 0 dX1_use_77 rfl ?_
    obtain ⟨t30, hf⟩ := hf
    obtain ⟨b32, q31, e_q31, hf⟩ := hf
    refine v_aald_8 (pc := 79) X t30 b32 e_q31 dX1_use_79 ?_
    refine v_astore (pc := 80) X (i := 7) (lv' := [(7, .ref q31), (6, .int r2), (0, .ref a0), (1, .ref p1), (2, .int p2), (3, .int p3), (4, .int p4), (5, .int p5)]) dX1_use_80 (Nat.le_of_ble_eq_true rfl) rfl ?_
    refine v_aload (pc := 82) X 0 dX1_use_82 rfl ?_
    refine v_aload_n (pc := 84) X 3 dX1_use_84 rfl rfl ?_
    obtain ⟨t33, hf⟩ := hf
    obtain ⟨v34, e_v34, hf⟩ := hf
    refine ge_4_0 (pc := 85) X (fun w h => inM w (inG4 w h)) k47 t33 e_v34 dX1_use_85 ?_
    obtain ⟨t35, hf⟩ := hf
    obtain ⟨h36, e_h36, hf⟩ := hf
    refine pu_0_4 (pc := 88) X (fun w h => inM w (inG0 w h)) k85 t35 e_h36 dX1_use_88 ?_
    refine v_aload (pc := 91) X 0 dX1_use_91 rfl ?_
    refine v_dup (pc := 93) X dX1_use_93 rfl ?_
    obtain ⟨v37, e_v37, hf⟩ := hf
    refine ge_0_3 (pc := 94) X (fun w h => inM w (inG0 w h)) k67 t35 e_v37 dX1_use_94 ?_
    refine v_iconst (pc := 97) X (v := (1 : Int32)) dX1_use_97 (by decide) ?_
    refine v_iadd (pc := 98) X dX1_use_98 ?_
    obtain ⟨h38, e_h38, hf⟩ := hf
    refine pu_0_3 (pc := 99) X (fun w h => inM w (inG0 w h)) k67 t35 e_h38 dX1_use_99 ?_
    refine v_aload_n (pc := 102) X 3 dX1_use_102 rfl rfl ?_
    obtain ⟨q39, e_q39, hf⟩ := hf
    refine ge_4_3 (pc := 103) X (fun w h => inM w (inG4 w h)) k88 t33 e_q39 dX1_use_103 ?_
    refine v_iload_n (pc := 106) X 4 dX1_use_106 rfl rfl ?_
    refine v_aload (pc := 107) X 0 dX1_use_107 rfl ?_
    obtain ⟨v40, e_v40, hf⟩ := hf
    refine ge_0_1 (pc := 109) X (fun w h => inM w (inG0 w h)) k60 t35 e_v40 dX1_use_109 ?_
    obtain ⟨t41, hf⟩ := hf
    obtain ⟨b43, h42, e_h42, hf⟩ := hf
    refine v_iast (pc := 112) X t41 b43 e_h42 dX1_use_112 ?_
    refine v_iconst (pc := 113) X (v := (1 : Int32)) dX1_use_113 (by decide) ?_
    exact v_zret (pc := 114) X hr hlk dX1_use_114 (by decide) hf
set_option maxHeartbeats 4000000 in
set_option maxRecDepth 100000 in
theorem c_X1_workOf (l : Launch) (D : va_G) (cA : Nat → ClassId) (L : List Nat) (sh : Sh) (a0 : Nat) (p1 : Int32) (h : Hp) (K : Option Nat → Hp → Prop) (hf : f_X1_workOf sh a0 p1 h K) : Met l yX1_workOf (wM yX1_workOf cX1_workOf 2 (some (.object "ShapeSessions$Work"))) ({ frames := 1, cells := 0, slots := 0, locals := 22 } : Room) (PreM D cA L sh h [.ref a0, .int p1]) (QN D cA L sh K) 0 0 (fun q => q ∈ L) := by
  refine met_v (cc := cX1_workOf) (nL := 2) (ret := (some (.object "ShapeSessions$Work"))) [(0, .ref a0), (1, .int p1)] (by decide) rfl (Nat.le_of_ble_eq_true rfl) rfl ?_
  intro p e s0 m below meth c X hr hlk
  unfold f_X1_workOf at hf
  refine v_iload_n (pc := 0) X 1 dX1_workOf_0 rfl rfl ?_
  refine v_if_ge (pc := 1) X 8 dX1_workOf_1 (by decide) (fun c => ?_) (fun c => ?_)
  · replace hf := if_t c hf
    refine v_aload_n (pc := 8) X 0 dX1_workOf_8 rfl rfl ?_
    refine v_iload_n (pc := 9) X 1 dX1_workOf_9 rfl rfl ?_
    obtain ⟨t1, hf⟩ := hf
    refine v_callVN (pc := 10) X (As := [.int p1]) (rest := []) (c_X1_workWithNumber l D cA L sh a0 p1 h _ hf) (cwV 1 X.ht (gwV inM q_257 q_258 q_437 q_3 q_259) rfl rfl rfl (by decide +kernel) ⟨Nat.le_of_ble_eq_true rfl, Nat.le_of_ble_eq_true rfl⟩) rfl (by decide) t1 (ent_1 t1) rfl rfl (Nat.le_of_ble_eq_true rfl) ⟨Nat.zero_le _, Nat.zero_le _⟩ dX1_workOf_10 (fun r2 h3 hf => ?_)
    exact v_aret (pc := 13) X r2 rfl hr hlk dX1_workOf_13 hf
  · replace hf := if_f c hf
    refine v_null (pc := 4) X dX1_workOf_4 ?_
    refine v_goto (pc := 5) X 13 dX1_workOf_5 (by decide) ?_
    exact v_aret (pc := 13) X none rfl hr hlk dX1_workOf_13 hf
set_option maxHeartbeats 4000000 in
set_option maxRecDepth 100000 in
theorem w_X2_adjust_55 {p : Program} {l : Launch} {e : Env} {s0 : State} {m : MethodId} {args : Array Value} {below : List Frame} {meth : Method} {c : Code} {D : va_G} {cA : Nat → ClassId} {L : List Nat} {sh : Sh} (X : Cx p s0 m c args cX2_adjust 5 (wM yX2_adjust cX2_adjust 5 (some .int)) RX2 (fun q => q ∈ L) D cA L sh) (hr : meth.sig.returnType = (some .int)) (hlk : meth.locks = false) (x0 : Nat) (x3 : Int32) (Xc : Hp → Prop) (K : Int32 → Hp → Prop) (hx : ∀  (h1 : Hp), Xc  h1 → V p l e (headSpec (wM yX2_adjust cX2_adjust 5 (some .int)) ({ frames := 2, cells := 0, slots := 0, locals := 46 } : Room)).room s0 m args below meth c (MQ below (QI D cA L sh K) args s0 0 0 (fun q => q ∈ L)) (fun q => q ∈ L) 0 0 D cA L sh 5 h1 81 [(3, .int x3)] []) : ∀ (n : Nat) (s : Int32) (h : Hp), lp (b_X2_adjust_55 sh x0 x3 Xc) n s h → V p l e (headSpec (wM yX2_adjust cX2_adjust 5 (some .int)) ({ frames := 2, cells := 0, slots := 0, locals := 46 } : Room)).room s0 m args below meth c (MQ below (QI D cA L sh K) args s0 0 0 (fun q => q ∈ L)) (fun q => q ∈ L) 0 0 D cA L sh 5 h 55 [(0, .ref x0), (3, .int x3), (4, .int s)] [] := by
  have k41 := X.ht _ (inM _ q_118)
  have k44 := X.ht _ (inM _ q_120)
  have k32 := X.ht _ (inM _ q_136)
  intro n
  induction n with
  | zero => intro s h hf; exact hf.elim
  | succ n ih =>
    intro s h hf
    replace hf : b_X2_adjust_55 sh x0 x3 Xc (lp (b_X2_adjust_55 sh x0 x3 Xc) n) s h := hf
    unfold b_X2_adjust_55 at hf
    refine v_iload (pc := 55) X 2 dX2_adjust_55 rfl ?_
    refine v_iconst (pc := 57) X (v := (4 : Int32)) dX2_adjust_57 (by decide) ?_
    refine v_icmp_ge (pc := 58) X 81 dX2_adjust_58 (by decide) (fun c => ?_) (fun c => ?_)
    · replace hf := if_t c hf
      refine v_sub [1] rfl ?_
      exact hx h hf
    · replace hf := if_f c hf
      refine v_aload_n (pc := 61) X 0 dX2_adjust_61 rfl rfl ?_
      obtain ⟨t4, hf⟩ := hf
      obtain ⟨q5, e_q5, hf⟩ := hf
      refine ge_2_11 (pc := 62) X (fun w h => inM w (inG2 w h)) k32 t4 e_q5 dX2_adjust_62 ?_
      refine v_iload (pc := 65) X 2 dX2_adjust_65 rfl ?_
      obtain ⟨t6, hf⟩ := hf
      obtain ⟨b8, q7, e_q7, hf⟩ := hf
      refine v_aald_9 (pc := 67) X t6 b8 e_q7 dX2_adjust_67 ?_
      refine v_aload_n (pc := 68) X 0 dX2_adjust_68 rfl rfl ?_
      obtain ⟨v9, e_v9, hf⟩ := hf
      refine ge_2_2 (pc := 69) X (fun w h => inM w (inG2 w h)) k44 t4 e_v9 dX2_adjust_69 ?_
      obtain ⟨t10, hf⟩ := hf
      refine v_callVV (pc := 72) X (As := [.int v9]) (rest := []) (c_X1_shrinkTo l D cA L sh q7 v9 h _ hf) (cwV 1 X.ht (gwV inM q_357 q_276 q_277 q_3 q_278) rfl rfl rfl (by decide +kernel) ⟨Nat.le_of_ble_eq_true rfl, Nat.le_of_ble_eq_true rfl⟩) rfl (by decide) t10 (ent_1 t10) rfl rfl (Nat.le_of_ble_eq_true rfl) ⟨Nat.zero_le _, Nat.zero_le _⟩ dX2_adjust_72 (fun h12 hf => ?_)
      refine v_iinc (pc := 75) X 2 (v := s + (1 : Int32)) (lv' := [(4, .int (s + (1 : Int32))), (0, .ref x0), (3, .int x3)]) dX2_adjust_75 rfl rfl (Nat.le_of_ble_eq_true rfl) rfl ?_
      refine v_goto (pc := 78) X 55 dX2_adjust_78 (by decide) ?_
      refine v_sub [1, 2, 0] rfl ?_
      exact ih (s + (1 : Int32)) h12 hf

set_option maxHeartbeats 4000000 in
set_option maxRecDepth 100000 in
theorem c_X2_adjust (l : Launch) (D : va_G) (cA : Nat → ClassId) (L : List Nat) (sh : Sh) (a0 : Nat) (p1 : Int32) (p2 : Int32) (h : Hp) (K : Int32 → Hp → Prop) (hf : f_X2_adjust sh a0 p1 p2 h K) : Met l yX2_adjust (wM yX2_adjust cX2_adjust 5 (some .int)) ({ frames := 2, cells := 0, slots := 0, locals := 46 } : Room) (PreM D cA L sh h [.ref a0, .int p1, .int p2]) (QI D cA L sh K) 0 0 (fun q => q ∈ L) := by
  refine met_v (cc := cX2_adjust) (nL := 5) (ret := (some .int)) [(0, .ref a0), (1, .int p1), (2, .int p2)] (by decide) rfl (Nat.le_of_ble_eq_true rfl) rfl ?_
  intro p e s0 m below meth c X hr hlk
  have k41 := X.ht _ (inM _ q_118)
  have k44 := X.ht _ (inM _ q_120)
  have k32 := X.ht _ (inM _ q_136)
  unfold f_X2_adjust at hf
  refine v_iload_n (pc := 0) X 1 dX2_adjust_0 rfl rfl ?_
  refine v_if_ne (pc := 1) X 26 dX2_adjust_1 (by decide) (fun c => ?_) (fun c => ?_)
  · replace hf := if_f c hf
    refine v_iload_n (pc := 26) X 1 dX2_adjust_26 rfl rfl ?_
    refine v_iconst (pc := 27) X (v := (1 : Int32)) dX2_adjust_27 (by decide) ?_
    refine v_icmp_ne (pc := 28) X 83 dX2_adjust_28 (by decide) (fun c => ?_) (fun c => ?_)
    · replace hf := if_f c hf
      refine v_iconst (pc := 83) X (v := (-1 : Int32)) dX2_adjust_83 (by decide) ?_
      exact v_iret (pc := 84) X hr hlk dX2_adjust_84 hf
    · replace hf := if_t c hf
      refine v_iload_n (pc := 31) X 2 dX2_adjust_31 rfl rfl ?_
      refine v_iconst (pc := 32) X (v := (1 : Int32)) dX2_adjust_32 (by decide) ?_
      refine v_icmp_lt (pc := 33) X 83 dX2_adjust_33 (by decide) (fun c => ?_) (fun c => ?_)
      · replace hf := if_t c hf
        refine v_iconst (pc := 83) X (v := (-1 : Int32)) dX2_adjust_83 (by decide) ?_
        exact v_iret (pc := 84) X hr hlk dX2_adjust_84 hf
      · replace hf := if_f c hf
        refine v_iload_n (pc := 36) X 2 dX2_adjust_36 rfl rfl ?_
        refine v_bipush (pc := 37) X (v := (8 : Int32)) dX2_adjust_37 (by decide) ?_
        refine v_icmp_gt (pc := 39) X 83 dX2_adjust_39 (by decide) (fun c => ?_) (fun c => ?_)
        · replace hf := if_t c hf
          refine v_iconst (pc := 83) X (v := (-1 : Int32)) dX2_adjust_83 (by decide) ?_
          exact v_iret (pc := 84) X hr hlk dX2_adjust_84 hf
        · replace hf := if_f c hf
          refine v_aload_n (pc := 42) X 0 dX2_adjust_42 rfl rfl ?_
          obtain ⟨t1, hf⟩ := hf
          obtain ⟨v2, e_v2, hf⟩ := hf
          refine ge_2_2 (pc := 43) X (fun w h => inM w (inG2 w h)) k44 t1 e_v2 dX2_adjust_43 ?_
          refine v_istore_n (pc := 46) X (i := 3) (lv' := [(3, .int v2), (0, .ref a0), (1, .int p1), (2, .int p2)]) dX2_adjust_46 rfl (Nat.le_of_ble_eq_true rfl) rfl ?_
          refine v_aload_n (pc := 47) X 1 dX2_adjust_47 rfl rfl ?_
          refine v_iload_n (pc := 48) X 3 dX2_adjust_48 rfl rfl ?_
          obtain ⟨h3, e_h3, hf⟩ := hf
          refine pu_2_2 (pc := 49) X (fun w h => inM w (inG2 w h)) k44 t1 e_h3 dX2_adjust_49 ?_
          refine v_iconst (pc := 52) X (v := (0 : Int32)) dX2_adjust_52 (by decide) ?_
          refine v_istore (pc := 53) X (i := 4) (lv' := [(4, .int (0 : Int32)), (3, .int v2), (0, .ref a0), (1, .int p1), (2, .int p2)]) dX2_adjust_53 (Nat.le_of_ble_eq_true rfl) rfl ?_
          obtain ⟨n, hf⟩ := hf
          refine v_sub [2, 1, 0] rfl ?_
          refine w_X2_adjust_55 X hr hlk a0 v2 _ K (fun  h13 hf => ?_) n (0 : Int32) h3 hf
          refine v_iload_n (pc := 81) X 0 dX2_adjust_81 rfl rfl ?_
          exact v_iret (pc := 82) X hr hlk dX2_adjust_82 hf
  · replace hf := if_t c hf
    refine v_iload_n (pc := 4) X 2 dX2_adjust_4 rfl rfl ?_
    refine v_if_lt (pc := 5) X 26 dX2_adjust_5 (by decide) (fun c => ?_) (fun c => ?_)
    · replace hf := if_t c hf
      refine v_iload_n (pc := 26) X 1 dX2_adjust_26 rfl rfl ?_
      refine v_iconst (pc := 27) X (v := (1 : Int32)) dX2_adjust_27 (by decide) ?_
      refine v_icmp_ne (pc := 28) X 83 dX2_adjust_28 (by decide) (fun c => ?_) (fun c => ?_)
      · replace hf := if_f c hf
        refine v_iconst (pc := 83) X (v := (-1 : Int32)) dX2_adjust_83 (by decide) ?_
        exact v_iret (pc := 84) X hr hlk dX2_adjust_84 hf
      · replace hf := if_t c hf
        refine v_iload_n (pc := 31) X 2 dX2_adjust_31 rfl rfl ?_
        refine v_iconst (pc := 32) X (v := (1 : Int32)) dX2_adjust_32 (by decide) ?_
        refine v_icmp_lt (pc := 33) X 83 dX2_adjust_33 (by decide) (fun c => ?_) (fun c => ?_)
        · replace hf := if_t c hf
          refine v_iconst (pc := 83) X (v := (-1 : Int32)) dX2_adjust_83 (by decide) ?_
          exact v_iret (pc := 84) X hr hlk dX2_adjust_84 hf
        · replace hf := if_f c hf
          refine v_iload_n (pc := 36) X 2 dX2_adjust_36 rfl rfl ?_
          refine v_bipush (pc := 37) X (v := (8 : Int32)) dX2_adjust_37 (by decide) ?_
          refine v_icmp_gt (pc := 39) X 83 dX2_adjust_39 (by decide) (fun c => ?_) (fun c => ?_)
          · replace hf := if_t c hf
            refine v_iconst (pc := 83) X (v := (-1 : Int32)) dX2_adjust_83 (by decide) ?_
            exact v_iret (pc := 84) X hr hlk dX2_adjust_84 hf
          · replace hf := if_f c hf
            refine v_aload_n (pc := 42) X 0 dX2_adjust_42 rfl rfl ?_
            obtain ⟨t14, hf⟩ := hf
            obtain ⟨v15, e_v15, hf⟩ := hf
            refine ge_2_2 (pc := 43) X (fun w h => inM w (inG2 w h)) k44 t14 e_v15 dX2_adjust_43 ?_
            refine v_istore_n (pc := 46) X (i := 3) (lv' := [(3, .int v15), (0, .ref a0), (1, .int p1), (2, .int p2)]) dX2_adjust_46 rfl (Nat.le_of_ble_eq_true rfl) rfl ?_
            refine v_aload_n (pc := 47) X 1 dX2_adjust_47 rfl rfl ?_
            refine v_iload_n (pc := 48) X 3 dX2_adjust_48 rfl rfl ?_
            obtain ⟨h16, e_h16, hf⟩ := hf
            refine pu_2_2 (pc := 49) X (fun w h => inM w (inG2 w h)) k44 t14 e_h16 dX2_adjust_49 ?_
            refine v_iconst (pc := 52) X (v := (0 : Int32)) dX2_adjust_52 (by decide) ?_
            refine v_istore (pc := 53) X (i := 4) (lv' := [(4, .int (0 : Int32)), (3, .int v15), (0, .ref a0), (1, .int p1), (2, .int p2)]) dX2_adjust_53 (Nat.le_of_ble_eq_true rfl) rfl ?_
            obtain ⟨n, hf⟩ := hf
            refine v_sub [2, 1, 0] rfl ?_
            refine w_X2_adjust_55 X hr hlk a0 v15 _ K (fun  h17 hf => ?_) n (0 : Int32) h16 hf
            refine v_iload_n (pc := 81) X 0 dX2_adjust_81 rfl rfl ?_
            exact v_iret (pc := 82) X hr hlk dX2_adjust_82 hf
    · replace hf := if_f c hf
      refine v_iload_n (pc := 8) X 2 dX2_adjust_8 rfl rfl ?_
      refine v_bipush (pc := 9) X (v := (20 : Int32)) dX2_adjust_9 (by decide) ?_
      refine v_icmp_gt (pc := 11) X 26 dX2_adjust_11 (by decide) (fun c => ?_) (fun c => ?_)
      · replace hf := if_t c hf
        refine v_iload_n (pc := 26) X 1 dX2_adjust_26 rfl rfl ?_
        refine v_iconst (pc := 27) X (v := (1 : Int32)) dX2_adjust_27 (by decide) ?_
        refine v_icmp_ne (pc := 28) X 83 dX2_adjust_28 (by decide) (fun c => ?_) (fun c => ?_)
        · replace hf := if_f c hf
          refine v_iconst (pc := 83) X (v := (-1 : Int32)) dX2_adjust_83 (by decide) ?_
          exact v_iret (pc := 84) X hr hlk dX2_adjust_84 hf
        · replace hf := if_t c hf
          refine v_iload_n (pc := 31) X 2 dX2_adjust_31 rfl rfl ?_
          refine v_iconst (pc := 32) X (v := (1 : Int32)) dX2_adjust_32 (by decide) ?_
          refine v_icmp_lt (pc := 33) X 83 dX2_adjust_33 (by decide) (fun c => ?_) (fun c => ?_)
          · replace hf := if_t c hf
            refine v_iconst (pc := 83) X (v := (-1 : Int32)) dX2_adjust_83 (by decide) ?_
            exact v_iret (pc := 84) X hr hlk dX2_adjust_84 hf
          · replace hf := if_f c hf
            refine v_iload_n (pc := 36) X 2 dX2_adjust_36 rfl rfl ?_
            refine v_bipush (pc := 37) X (v := (8 : Int32)) dX2_adjust_37 (by decide) ?_
            refine v_icmp_gt (pc := 39) X 83 dX2_adjust_39 (by decide) (fun c => ?_) (fun c => ?_)
            · replace hf := if_t c hf
              refine v_iconst (pc := 83) X (v := (-1 : Int32)) dX2_adjust_83 (by decide) ?_
              exact v_iret (pc := 84) X hr hlk dX2_adjust_84 hf
            · replace hf := if_f c hf
              refine v_aload_n (pc := 42) X 0 dX2_adjust_42 rfl rfl ?_
              obtain ⟨t18, hf⟩ := hf
              obtain ⟨v19, e_v19, hf⟩ := hf
              refine ge_2_2 (pc := 43) X (fun w h => inM w (inG2 w h)) k44 t18 e_v19 dX2_adjust_43 ?_
              refine v_istore_n (pc := 46) X (i := 3) (lv' := [(3, .int v19), (0, .ref a0), (1, .int p1), (2, .int p2)]) dX2_adjust_46 rfl (Nat.le_of_ble_eq_true rfl) rfl ?_
              refine v_aload_n (pc := 47) X 1 dX2_adjust_47 rfl rfl ?_
              refine v_iload_n (pc := 48) X 3 dX2_adjust_48 rfl rfl ?_
              obtain ⟨h20, e_h20, hf⟩ := hf
              refine pu_2_2 (pc := 49) X (fun w h => inM w (inG2 w h)) k44 t18 e_h20 dX2_adjust_49 ?_
              refine v_iconst (pc := 52) X (v := (0 : Int32)) dX2_adjust_52 (by decide) ?_
              refine v_istore (pc := 53) X (i := 4) (lv' := [(4, .int (0 : Int32)), (3, .int v19), (0, .ref a0), (1, .int p1), (2, .int p2)]) dX2_adjust_53 (Nat.le_of_ble_eq_true rfl) rfl ?_
              obtain ⟨n, hf⟩ := hf
              refine v_sub [2, 1, 0] rfl ?_
              refine w_X2_adjust_55 X hr hlk a0 v19 _ K (fun  h21 hf => ?_) n (0 : Int32) h20 hf
              refine v_iload_n (pc := 81) X 0 dX2_adjust_81 rfl rfl ?_
              exact v_iret (pc := 82) X hr hlk dX2_adjust_82 hf
      · replace hf := if_f c hf
        refine v_aload_n (pc := 14) X 0 dX2_adjust_14 rfl rfl ?_
        obtain ⟨t22, hf⟩ := hf
        obtain ⟨v23, e_v23, hf⟩ := hf
        refine ge_2_1 (pc := 15) X (fun w h => inM w (inG2 w h)) k41 t22 e_v23 dX2_adjust_15 ?_
        refine v_istore_n (pc := 18) X (i := 3) (lv' := [(3, .int v23), (0, .ref a0), (1, .int p1), (2, .int p2)]) dX2_adjust_18 rfl (Nat.le_of_ble_eq_true rfl) rfl ?_
        refine v_aload_n (pc := 19) X 1 dX2_adjust_19 rfl rfl ?_
        refine v_iload_n (pc := 20) X 3 dX2_adjust_20 rfl rfl ?_
        obtain ⟨h24, e_h24, hf⟩ := hf
        refine pu_2_1 (pc := 21) X (fun w h => inM w (inG2 w h)) k41 t22 e_h24 dX2_adjust_21 ?_
        refine v_iload_n (pc := 24) X 0 dX2_adjust_24 rfl rfl ?_
        exact v_iret (pc := 25) X hr hlk dX2_adjust_25 hf
set_option maxHeartbeats 4000000 in
set_option maxRecDepth 100000 in
theorem w_X2_arrive_2 {p : Program} {l : Launch} {e : Env} {s0 : State} {m : MethodId} {args : Array Value} {below : List Frame} {meth : Method} {c : Code} {D : va_G} {cA : Nat → ClassId} {L : List Nat} {sh : Sh} (X : Cx p s0 m c args cX2_arrive 3 (wM yX2_arrive cX2_arrive 3 none) RX2 (fun q => q ∈ L) D cA L sh) (hr : meth.sig.returnType = none) (hlk : meth.locks = false) (x0 : Nat) (x1 : Int32) (Xc : Hp → Prop) (K : Hp → Prop) (hx : ∀  (h1 : Hp), Xc  h1 → V p l e (headSpec (wM yX2_arrive cX2_arrive 3 none) ({ frames := 2, cells := 0, slots := 0, locals := 48 } : Room)).room s0 m args below meth c (MQ below (QV D cA L sh K) args s0 0 0 (fun q => q ∈ L)) (fun q => q ∈ L) 0 0 D cA L sh 3 h1 64 [] []) : ∀ (n : Nat) (s : Int32) (h : Hp), lp (b_X2_arrive_2 sh x0 x1 Xc) n s h → V p l e (headSpec (wM yX2_arrive cX2_arrive 3 none) ({ frames := 2, cells := 0, slots := 0, locals := 48 } : Room)).room s0 m args below meth c (MQ below (QV D cA L sh K) args s0 0 0 (fun q => q ∈ L)) (fun q => q ∈ L) 0 0 D cA L sh 3 h 2 [(0, .ref x0), (1, .int x1), (2, .int s)] [] := by
  have k32 := X.ht _ (inM _ q_136)
  have k86 := X.ht _ (inM _ q_87)
  have k128 := X.ht _ (inM _ q_101)
  have k18 := X.ht _ (inM _ q_128)
  have k9 := X.ht _ (inM _ q_122)
  intro n
  induction n with
  | zero => intro s h hf; exact hf.elim
  | succ n ih =>
    intro s h hf
    replace hf : b_X2_arrive_2 sh x0 x1 Xc (lp (b_X2_arrive_2 sh x0 x1 Xc) n) s h := hf
    unfold b_X2_arrive_2 at hf
    refine v_iload_n (pc := 2) X 2 dX2_arrive_2 rfl rfl ?_
    refine v_iconst (pc := 3) X (v := (4 : Int32)) dX2_arrive_3 (by decide) ?_
    refine v_icmp_ge (pc := 4) X 64 dX2_arrive_4 (by decide) (fun c => ?_) (fun c => ?_)
    · replace hf := if_t c hf
      refine v_sub [] rfl ?_
      exact hx h hf
    · replace hf := if_f c hf
      refine v_aload_n (pc := 7) X 0 dX2_arrive_7 rfl rfl ?_
      obtain ⟨t1, hf⟩ := hf
      obtain ⟨q2, e_q2, hf⟩ := hf
      refine ge_2_11 (pc := 8) X (fun w h => inM w (inG2 w h)) k32 t1 e_q2 dX2_arrive_8 ?_
      refine v_iload_n (pc := 11) X 2 dX2_arrive_11 rfl rfl ?_
      obtain ⟨t3, hf⟩ := hf
      obtain ⟨b5, q4, e_q4, hf⟩ := hf
      refine v_aald_9 (pc := 12) X t3 b5 e_q4 dX2_arrive_12 ?_
      obtain ⟨t6, hf⟩ := hf
      obtain ⟨v7, e_v7, hf⟩ := hf
      refine ge_1_0 (pc := 13) X (fun w h => inM w (inG1 w h)) k86 t6 e_v7 dX2_arrive_13 ?_
      refine v_iload_n (pc := 16) X 1 dX2_arrive_16 rfl rfl ?_
      refine v_icmp_le (pc := 17) X 38 dX2_arrive_17 (by decide) (fun c => ?_) (fun c => ?_)
      · replace hf := if_t c hf
        refine v_aload_n (pc := 38) X 0 dX2_arrive_38 rfl rfl ?_
        obtain ⟨q8, e_q8, hf⟩ := hf
        refine ge_2_11 (pc := 39) X (fun w h => inM w (inG2 w h)) k32 t1 e_q8 dX2_arrive_39 ?_
        refine v_iload_n (pc := 42) X 2 dX2_arrive_42 rfl rfl ?_
        obtain ⟨t9, hf⟩ := hf
        obtain ⟨b11, q10, e_q10, hf⟩ := hf
        refine v_aald_9 (pc := 43) X t9 b11 e_q10 dX2_arrive_43 ?_
        refine v_iload_n (pc := 44) X 1 dX2_arrive_44 rfl rfl ?_
        refine v_iconst (pc := 45) X (v := (1 : Int32)) dX2_arrive_45 (by decide) ?_
        refine v_iadd (pc := 46) X dX2_arrive_46 ?_
        refine v_aload_n (pc := 47) X 0 dX2_arrive_47 rfl rfl ?_
        obtain ⟨q12, e_q12, hf⟩ := hf
        refine ge_2_6 (pc := 48) X (fun w h => inM w (inG2 w h)) k18 t1 e_q12 dX2_arrive_48 ?_
        refine v_aload_n (pc := 51) X 0 dX2_arrive_51 rfl rfl ?_
        obtain ⟨q13, e_q13, hf⟩ := hf
        refine ge_2_3 (pc := 52) X (fun w h => inM w (inG2 w h)) k9 t1 e_q13 dX2_arrive_52 ?_
        obtain ⟨t14, hf⟩ := hf
        refine v_callVV (pc := 55) X (As := [.int (x1 + (1 : Int32)), .ref q12, .ref q13]) (rest := []) (c_X1_learn l D cA L sh q10 (x1 + (1 : Int32)) q12 q13 h _ hf) (cwV 3 X.ht (gwV inM q_260 q_261 q_262 q_3 q_263) rfl rfl rfl (by decide +kernel) ⟨Nat.le_of_ble_eq_true rfl, Nat.le_of_ble_eq_true rfl⟩) rfl (by decide) t14 (ent_1 t14) rfl rfl (Nat.le_of_ble_eq_true rfl) ⟨Nat.zero_le _, Nat.zero_le _⟩ dX2_arrive_55 (fun h16 hf => ?_)
        refine v_iinc (pc := 58) X 2 (v := s + (1 : Int32)) (lv' := [(2, .int (s + (1 : Int32))), (0, .ref x0), (1, .int x1)]) dX2_arrive_58 rfl rfl (Nat.le_of_ble_eq_true rfl) rfl ?_
        refine v_goto (pc := 61) X 2 dX2_arrive_61 (by decide) ?_
        refine v_sub [1, 2, 0] rfl ?_
        exact ih (s + (1 : Int32)) h16 hf
      · replace hf := if_f c hf
        refine v_aload_n (pc := 20) X 0 dX2_arrive_20 rfl rfl ?_
        obtain ⟨q17, e_q17, hf⟩ := hf
        refine ge_2_11 (pc := 21) X (fun w h => inM w (inG2 w h)) k32 t1 e_q17 dX2_arrive_21 ?_
        refine v_iload_n (pc := 24) X 2 dX2_arrive_24 rfl rfl ?_
        obtain ⟨t18, hf⟩ := hf
        obtain ⟨b20, q19, e_q19, hf⟩ := hf
        refine v_aald_9 (pc := 25) X t18 b20 e_q19 dX2_arrive_25 ?_
        refine v_dup (pc := 26) X dX2_arrive_26 rfl ?_
        obtain ⟨t21, hf⟩ := hf
        obtain ⟨v22, e_v22, hf⟩ := hf
        refine ge_1_5 (pc := 27) X (fun w h => inM w (inG1 w h)) k128 t21 e_v22 dX2_arrive_27 ?_
        refine v_iconst (pc := 30) X (v := (1 : Int32)) dX2_arrive_30 (by decide) ?_
        refine v_iadd (pc := 31) X dX2_arrive_31 ?_
        obtain ⟨h23, e_h23, hf⟩ := hf
        refine pu_1_5 (pc := 32) X (fun w h => inM w (inG1 w h)) k128 t21 e_h23 dX2_arrive_32 ?_
        refine v_goto (pc := 35) X 58 dX2_arrive_35 (by decide) ?_
        refine v_iinc (pc := 58) X 2 (v := s + (1 : Int32)) (lv' := [(2, .int (s + (1 : Int32))), (0, .ref x0), (1, .int x1)]) dX2_arrive_58 rfl rfl (Nat.le_of_ble_eq_true rfl) rfl ?_
        refine v_goto (pc := 61) X 2 dX2_arrive_61 (by decide) ?_
        refine v_sub [1, 2, 0] rfl ?_
        exact ih (s + (1 : Int32)) h23 hf

set_option maxHeartbeats 4000000 in
set_option maxRecDepth 100000 in
theorem c_X2_arrive (l : Launch) (D : va_G) (cA : Nat → ClassId) (L : List Nat) (sh : Sh) (a0 : Nat) (p1 : Int32) (h : Hp) (K : Hp → Prop) (hf : f_X2_arrive sh a0 p1 h K) : Met l yX2_arrive (wM yX2_arrive cX2_arrive 3 none) ({ frames := 2, cells := 0, slots := 0, locals := 48 } : Room) (PreM D cA L sh h [.ref a0, .int p1]) (QV D cA L sh K) 0 0 (fun q => q ∈ L) := by
  refine met_v (cc := cX2_arrive) (nL := 3) (ret := none) [(0, .ref a0), (1, .int p1)] (by decide) rfl (Nat.le_of_ble_eq_true rfl) rfl ?_
  intro p e s0 m below meth c X hr hlk
  have k32 := X.ht _ (inM _ q_136)
  have k86 := X.ht _ (inM _ q_87)
  have k128 := X.ht _ (inM _ q_101)
  have k18 := X.ht _ (inM _ q_128)
  have k9 := X.ht _ (inM _ q_122)
  unfold f_X2_arrive at hf
  refine v_iconst (pc := 0) X (v := (0 : Int32)) dX2_arrive_0 (by decide) ?_
  refine v_istore_n (pc := 1) X (i := 2) (lv' := [(2, .int (0 : Int32)), (0, .ref a0), (1, .int p1)]) dX2_arrive_1 rfl (Nat.le_of_ble_eq_true rfl) rfl ?_
  obtain ⟨n, hf⟩ := hf
  refine v_sub [1, 2, 0] rfl ?_
  refine w_X2_arrive_2 X hr hlk a0 p1 _ K (fun  h24 hf => ?_) n (0 : Int32) h hf
  exact v_vret (pc := 64) X hr hlk dX2_arrive_64 hf

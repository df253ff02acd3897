set_option maxHeartbeats 4000000 in
set_option maxRecDepth 100000 in
theorem w_X5_record_40 {p : Program} {l : Launch} {e : Env} {s0 : State} {m : MethodId} {args : Array Value} {below : List Frame} {meth : Method} {c : Code} {D : va_G} {cA : Nat → ClassId} {L : List Nat} {sh : Sh} (X : Cx p s0 m c args cX5_record 3 (wM yX5_record cX5_record 3 none) RX5 (fun q => q ∈ L) D cA L sh) (hr : meth.sig.returnType = none) (hlk : meth.locks = false) (x0 : Nat) (x1 : Nat) (Xc : Hp → Prop) (K : Hp → Prop) (hx : ∀  (h1 : Hp), Xc  h1 → V p l e (headSpec (wM yX5_record cX5_record 3 none) ({ frames := 0, cells := 0, slots := 0, locals := 0 } : Room)).room s0 m args below meth c (MQ below (QV D cA L sh K) args s0 0 0 (fun q => q ∈ L)) (fun q => q ∈ L) 0 0 D cA L sh 3 h1 65 [(0, .ref x0), (1, .ref x1)] []) : ∀ (n : Nat) (s : Int32) (h : Hp), lp (b_X5_record_40 sh x0 x1 Xc) n s h → V p l e (headSpec (wM yX5_record cX5_record 3 none) ({ frames := 0, cells := 0, slots := 0, locals := 0 } : Room)).room s0 m args below meth c (MQ below (QV D cA L sh K) args s0 0 0 (fun q => q ∈ L)) (fun q => q ∈ L) 0 0 D cA L sh 3 h 40 [(0, .ref x0), (1, .ref x1), (2, .int s)] [] := by
  have k29 := X.ht _ (inM _ q_189)
  have k33 := X.ht _ (inM _ q_190)
  have k10 := X.ht _ (inM _ q_185)
  have k19 := X.ht _ (inM _ q_186)
  intro n
  induction n with
  | zero => intro s h hf; exact hf.elim
  | succ n ih =>
    intro s h hf
    replace hf : b_X5_record_40 sh x0 x1 Xc (lp (b_X5_record_40 sh x0 x1 Xc) n) s h := hf
    unfold b_X5_record_40 at hf
    refine v_iload_n (pc := 40) X 2 dX5_record_40 rfl rfl ?_
    refine v_iconst (pc := 41) X (v := (4 : Int32)) dX5_record_41 (by decide) ?_
    refine v_icmp_ge (pc := 42) X 65 dX5_record_42 (by decide) (fun c => ?_) (fun c => ?_)
    · replace hf := if_t c hf
      refine v_sub [0, 1] rfl ?_
      exact hx h hf
    · replace hf := if_f c hf
      refine v_aload_n (pc := 45) X 0 dX5_record_45 rfl rfl ?_
      obtain ⟨t7, hf⟩ := hf
      obtain ⟨q8, e_q8, hf⟩ := hf
      refine ge_5_4 (pc := 46) X (fun w h => inM w (inG5 w h)) k29 t7 e_q8 dX5_record_46 ?_
      refine v_iload_n (pc := 49) X 2 dX5_record_49 rfl rfl ?_
      refine v_iconst (pc := 50) X (v := (1 : Int32)) dX5_record_50 (by decide) ?_
      refine v_isub (pc := 51) X dX5_record_51 ?_
      refine v_aload_n (pc := 52) X 0 dX5_record_52 rfl rfl ?_
      obtain ⟨q9, e_q9, hf⟩ := hf
      refine ge_5_4 (pc := 53) X (fun w h => inM w (inG5 w h)) k29 t7 e_q9 dX5_record_53 ?_
      refine v_iload_n (pc := 56) X 2 dX5_record_56 rfl rfl ?_
      obtain ⟨t10, hf⟩ := hf
      obtain ⟨b12, q11, e_q11, hf⟩ := hf
      refine v_aald_10 (pc := 57) X t10 b12 e_q11 dX5_record_57 ?_
      obtain ⟨t13, hf⟩ := hf
      obtain ⟨t14, hf⟩ := hf
      obtain ⟨b16, h15, e_h15, hf⟩ := hf
      refine v_aast_10 (pc := 58) X t13 t14 b16 e_h15 dX5_record_58 ?_
      refine v_iinc (pc := 59) X 2 (v := s + (1 : Int32)) (lv' := [(2, .int (s + (1 : Int32))), (0, .ref x0), (1, .ref x1)]) dX5_record_59 rfl rfl (Nat.le_of_ble_eq_true rfl) rfl ?_
      refine v_goto (pc := 62) X 40 dX5_record_62 (by decide) ?_
      refine v_sub [1, 2, 0] rfl ?_
      exact ih (s + (1 : Int32)) h15 hf

set_option maxHeartbeats 4000000 in
set_option maxRecDepth 100000 in
theorem c_X5_record (l : Launch) (D : va_G) (cA : Nat → ClassId) (L : List Nat) (sh : Sh) (a0 : Nat) (h : Hp) (K : Hp → Prop) (hf : f_X5_record sh a0 h K) : Met l yX5_record (wM yX5_record cX5_record 3 none) ({ frames := 0, cells := 0, slots := 0, locals := 0 } : Room) (PreM D cA L sh h [.ref a0]) (QV D cA L sh K) 0 0 (fun q => q ∈ L) := by
  refine met_v (cc := cX5_record) (nL := 3) (ret := none) [(0, .ref a0)] (by decide) rfl (Nat.le_of_ble_eq_true rfl) rfl ?_
  intro p e s0 m below meth c X hr hlk
  have k29 := X.ht _ (inM _ q_189)
  have k33 := X.ht _ (inM _ q_190)
  have k10 := X.ht _ (inM _ q_185)
  have k19 := X.ht _ (inM _ q_186)
  unfold f_X5_record at hf
  refine v_aload_n (pc := 0) X 0 dX5_record_0 rfl rfl ?_
  obtain ⟨t1, hf⟩ := hf
  obtain ⟨q2, e_q2, hf⟩ := hf
  refine ge_5_4 (pc := 1) X (fun w h => inM w (inG5 w h)) k29 t1 e_q2 dX5_record_1 ?_
  refine v_iconst (pc := 4) X (v := (0 : Int32)) dX5_record_4 (by decide) ?_
  obtain ⟨t3, hf⟩ := hf
  obtain ⟨b5, q4, e_q4, hf⟩ := hf
  refine v_aald_10 (pc := 5) X t3 b5 e_q4 dX5_record_5 ?_
  refine v_astore_n (pc := 6) X (i := 1) (lv' := [(1, .ref q4), (0, .ref a0)]) dX5_record_6 rfl (Nat.le_of_ble_eq_true rfl) rfl ?_
  refine v_aload_n (pc := 7) X 1 dX5_record_7 rfl rfl ?_
  obtain ⟨v6, e_v6, hf⟩ := hf
  refine ge_5_5 (pc := 8) X (fun w h => inM w (inG5 w h)) k33 t1 e_v6 dX5_record_8 ?_
  refine v_iconst (pc := 11) X (v := (4 : Int32)) dX5_record_11 (by decide) ?_
  refine v_icmp_ge (pc := 12) X 38 dX5_record_12 (by decide) (fun c => ?_) (fun c => ?_)
  · replace hf := if_t c hf
    refine v_iconst (pc := 38) X (v := (1 : Int32)) dX5_record_38 (by decide) ?_
    refine v_istore_n (pc := 39) X (i := 2) (lv' := [(2, .int (1 : Int32)), (1, .ref q4), (0, .ref a0)]) dX5_record_39 rfl (Nat.le_of_ble_eq_true rfl) rfl ?_
    obtain ⟨n, hf⟩ := hf
    refine v_sub [2, 1, 0] rfl ?_
    refine w_X5_record_40 X hr hlk a0 q4 _ K (fun  h17 hf => ?_) n (1 : Int32) h hf
    refine v_aload_n (pc := 65) X 0 dX5_record_65 rfl rfl ?_
    obtain ⟨q18, e_q18, hf⟩ := hf
    refine ge_5_4 (pc := 66) X (fun w h => inM w (inG5 w h)) k29 t1 e_q18 dX5_record_66 ?_
    refine v_aload_n (pc := 69) X 0 dX5_record_69 rfl rfl ?_
    obtain ⟨v19, e_v19, hf⟩ := hf
    refine ge_5_5 (pc := 70) X (fun w h => inM w (inG5 w h)) k33 t1 e_v19 dX5_record_70 ?_
    refine v_iconst (pc := 73) X (v := (1 : Int32)) dX5_record_73 (by decide) ?_
    refine v_isub (pc := 74) X dX5_record_74 ?_
    refine v_aload_n (pc := 75) X 0 dX5_record_75 rfl rfl ?_
    obtain ⟨q20, e_q20, hf⟩ := hf
    refine ge_5_0 (pc := 76) X (fun w h => inM w (inG5 w h)) k10 t1 e_q20 dX5_record_76 ?_
    obtain ⟨t21, hf⟩ := hf
    obtain ⟨t22, hf⟩ := hf
    obtain ⟨b24, h23, e_h23, hf⟩ := hf
    refine v_aast_10 (pc := 79) X t21 t22 b24 e_h23 dX5_record_79 ?_
    refine v_aload_n (pc := 80) X 0 dX5_record_80 rfl rfl ?_
    refine v_aload_n (pc := 81) X 0 dX5_record_81 rfl rfl ?_
    obtain ⟨q25, e_q25, hf⟩ := hf
    refine ge_5_1 (pc := 82) X (fun w h => inM w (inG5 w h)) k19 t1 e_q25 dX5_record_82 ?_
    obtain ⟨h26, e_h26, hf⟩ := hf
    refine pu_5_0 (pc := 85) X (fun w h => inM w (inG5 w h)) k10 t1 e_h26 dX5_record_85 ?_
    refine v_aload_n (pc := 88) X 0 dX5_record_88 rfl rfl ?_
    refine v_aload_n (pc := 89) X 1 dX5_record_89 rfl rfl ?_
    obtain ⟨h27, e_h27, hf⟩ := hf
    refine pu_5_1 (pc := 90) X (fun w h => inM w (inG5 w h)) k19 t1 e_h27 dX5_record_90 ?_
    exact v_vret (pc := 93) X hr hlk dX5_record_93 hf
  · replace hf := if_f c hf
    refine v_aload_n (pc := 15) X 1 dX5_record_15 rfl rfl ?_
    obtain ⟨q28, e_q28, hf⟩ := hf
    refine ge_5_4 (pc := 16) X (fun w h => inM w (inG5 w h)) k29 t1 e_q28 dX5_record_16 ?_
    refine v_aload_n (pc := 19) X 1 dX5_record_19 rfl rfl ?_
    obtain ⟨v29, e_v29, hf⟩ := hf
    refine ge_5_5 (pc := 20) X (fun w h => inM w (inG5 w h)) k33 t1 e_v29 dX5_record_20 ?_
    obtain ⟨t30, hf⟩ := hf
    obtain ⟨b32, q31, e_q31, hf⟩ := hf
    refine v_aald_10 (pc := 23) X t30 b32 e_q31 dX5_record_23 ?_
    refine v_astore_n (pc := 24) X (i := 1) (lv' := [(1, .ref q31), (0, .ref a0)]) dX5_record_24 rfl (Nat.le_of_ble_eq_true rfl) rfl ?_
    refine v_aload_n (pc := 25) X 1 dX5_record_25 rfl rfl ?_
    refine v_dup (pc := 26) X dX5_record_26 rfl ?_
    obtain ⟨v33, e_v33, hf⟩ := hf
    refine ge_5_5 (pc := 27) X (fun w h => inM w (inG5 w h)) k33 t1 e_v33 dX5_record_27 ?_
    refine v_iconst (pc := 30) X (v := (1 : Int32)) dX5_record_30 (by decide) ?_
    refine v_iadd (pc := 31) X dX5_record_31 ?_
    obtain ⟨h34, e_h34, hf⟩ := hf
    refine pu_5_5 (pc := 32) X (fun w h => inM w (inG5 w h)) k33 t1 e_h34 dX5_record_32 ?_
    refine v_goto (pc := 35) X 65 dX5_record_35 (by decide) ?_
    refine v_aload_n (pc := 65) X 1 dX5_record_65 rfl rfl ?_
    obtain ⟨q35, e_q35, hf⟩ := hf
    refine ge_5_4 (pc := 66) X (fun w h => inM w (inG5 w h)) k29 t1 e_q35 dX5_record_66 ?_
    refine v_aload_n (pc := 69) X 1 dX5_record_69 rfl rfl ?_
    obtain ⟨v36, e_v36, hf⟩ := hf
    refine ge_5_5 (pc := 70) X (fun w h => inM w (inG5 w h)) k33 t1 e_v36 dX5_record_70 ?_
    refine v_iconst (pc := 73) X (v := (1 : Int32)) dX5_record_73 (by decide) ?_
    refine v_isub (pc := 74) X dX5_record_74 ?_
    refine v_aload_n (pc := 75) X 1 dX5_record_75 rfl rfl ?_
    obtain ⟨q37, e_q37, hf⟩ := hf
    refine ge_5_0 (pc := 76) X (fun w h => inM w (inG5 w h)) k10 t1 e_q37 dX5_record_76 ?_
    obtain ⟨t38, hf⟩ := hf
    obtain ⟨t39, hf⟩ := hf
    obtain ⟨b41, h40, e_h40, hf⟩ := hf
    refine v_aast_10 (pc := 79) X t38 t39 b41 e_h40 dX5_record_79 ?_
    refine v_aload_n (pc := 80) X 1 dX5_record_80 rfl rfl ?_
    refine v_aload_n (pc := 81) X 1 dX5_record_81 rfl rfl ?_
    obtain ⟨q42, e_q42, hf⟩ := hf
    refine ge_5_1 (pc := 82) X (fun w h => inM w (inG5 w h)) k19 t1 e_q42 dX5_record_82 ?_
    obtain ⟨h43, e_h43, hf⟩ := hf
    refine pu_5_0 (pc := 85) X (fun w h => inM w (inG5 w h)) k10 t1 e_h43 dX5_record_85 ?_
    refine v_aload_n (pc := 88) X 1 dX5_record_88 rfl rfl ?_
    refine v_aload_n (pc := 89) X 0 dX5_record_89 rfl rfl ?_
    obtain ⟨h44, e_h44, hf⟩ := hf
    refine pu_5_1 (pc := 90) X (fun w h => inM w (inG5 w h)) k19 t1 e_h44 dX5_record_90 ?_
    exact v_vret (pc := 93) X hr hlk dX5_record_93 hf
set_option maxHeartbeats 4000000 in
set_option maxRecDepth 100000 in
theorem c_X5_settle (l : Launch) (D : va_G) (cA : Nat → ClassId) (L : List Nat) (sh : Sh) (a0 : Nat) (p1 : Int32) (h : Hp) (K : Int32 → Hp → Prop) (hf : f_X5_settle sh a0 p1 h K) : Met l yX5_settle (wM yX5_settle cX5_settle 2 (some .int)) ({ frames := 1, cells := 0, slots := 0, locals := 22 } : Room) (PreM D cA L sh h [.ref a0, .int p1]) (QI D cA L sh K) 0 0 (fun q => q ∈ L) := by
  refine met_v (cc := cX5_settle) (nL := 2) (ret := (some .int)) [(0, .ref a0), (1, .int p1)] (by decide) rfl (Nat.le_of_ble_eq_true rfl) rfl ?_
  intro p e s0 m below meth c X hr hlk
  unfold f_X5_settle at hf
  refine v_iload_n (pc := 0) X 1 dX5_settle_0 rfl rfl ?_
  refine v_if_lt (pc := 1) X 8 dX5_settle_1 (by decide) (fun c => ?_) (fun c => ?_)
  · replace hf := if_t c hf
    refine v_iload_n (pc := 8) X 1 dX5_settle_8 rfl rfl ?_
    exact v_iret (pc := 9) X hr hlk dX5_settle_9 hf
  · replace hf := if_f c hf
    refine v_aload_n (pc := 4) X 0 dX5_settle_4 rfl rfl ?_
    obtain ⟨t1, hf⟩ := hf
    refine v_callVV (pc := 5) X (As := []) (rest := []) (c_X5_record l D cA L sh a0 h _ hf) (cwV 0 X.ht (gwV inM q_254 q_255 q_739 q_1 q_256) rfl rfl rfl (by decide +kernel) ⟨Nat.le_of_ble_eq_true rfl, Nat.le_of_ble_eq_true rfl⟩) rfl (by decide) t1 (ent_5 t1) rfl rfl (Nat.le_of_ble_eq_true rfl) ⟨Nat.zero_le _, Nat.zero_le _⟩ dX5_settle_5 (fun h3 hf => ?_)
    refine v_iload_n (pc := 8) X 1 dX5_settle_8 rfl rfl ?_
    exact v_iret (pc := 9) X hr hlk dX5_settle_9 hf
set_option maxHeartbeats 4000000 in
set_option maxRecDepth 100000 in
theorem c_X5_alter (l : Launch) (D : va_G) (cA : Nat → ClassId) (L : List Nat) (sh : Sh) (a0 : Nat) (p1 : Int32) (p2 : Int32) (h : Hp) (K : Int32 → Hp → Prop) (hf : f_X5_alter sh a0 p1 p2 h K) : Met l yX5_alter (wM yX5_alter cX5_alter 3 (some .int)) ({ frames := 4, cells := 0, slots := 0, locals := 93 } : Room) (PreM D cA L sh h [.ref a0, .int p1, .int p2]) (QI D cA L sh K) 0 0 (fun q => q ∈ L) := by
  refine met_v (cc := cX5_alter) (nL := 3) (ret := (some .int)) [(0, .ref a0), (1, .int p1), (2, .int p2)] (by decide) rfl (Nat.le_of_ble_eq_true rfl) rfl ?_
  intro p e s0 m below meth c X hr hlk
  have k19 := X.ht _ (inM _ q_186)
  have k10 := X.ht _ (inM _ q_185)
  unfold f_X5_alter at hf
  refine v_aload_n (pc := 0) X 0 dX5_alter_0 rfl rfl ?_
  obtain ⟨t1, hf⟩ := hf
  obtain ⟨q2, e_q2, hf⟩ := hf
  refine ge_5_1 (pc := 1) X (fun w h => inM w (inG5 w h)) k19 t1 e_q2 dX5_alter_1 ?_
  refine v_aload_n (pc := 4) X 0 dX5_alter_4 rfl rfl ?_
  obtain ⟨q3, e_q3, hf⟩ := hf
  refine ge_5_0 (pc := 5) X (fun w h => inM w (inG5 w h)) k10 t1 e_q3 dX5_alter_5 ?_
  obtain ⟨t4, hf⟩ := hf
  refine v_callVV (pc := 8) X (As := [.ref q3]) (rest := []) (c_X2_copyFrom l D cA L sh q2 q3 h _ hf) (cwV 1 X.ht (gwV inM q_209 q_210 q_211 q_2 q_212) rfl rfl rfl (by decide +kernel) ⟨Nat.le_of_ble_eq_true rfl, Nat.le_of_ble_eq_true rfl⟩) rfl (by decide) t4 (ent_2 t4) rfl rfl (Nat.le_of_ble_eq_true rfl) ⟨Nat.zero_le _, Nat.zero_le _⟩ dX5_alter_8 (fun h6 hf => ?_)
  refine v_aload_n (pc := 11) X 0 dX5_alter_11 rfl rfl ?_
  refine v_aload_n (pc := 12) X 0 dX5_alter_12 rfl rfl ?_
  obtain ⟨q7, e_q7, hf⟩ := hf
  refine ge_5_1 (pc := 13) X (fun w h => inM w (inG5 w h)) k19 t1 e_q7 dX5_alter_13 ?_
  refine v_iload_n (pc := 16) X 1 dX5_alter_16 rfl rfl ?_
  refine v_iload_n (pc := 17) X 2 dX5_alter_17 rfl rfl ?_
  obtain ⟨t8, hf⟩ := hf
  refine v_callVI (pc := 18) X (As := [.int p1, .int p2]) (rest := [.ref a0]) (c_X2_changeTable l D cA L sh q7 p1 p2 h6 _ hf) (cwV 2 X.ht (gwV inM q_225 q_226 q_227 q_2 q_228) rfl rfl rfl (by decide +kernel) ⟨Nat.le_of_ble_eq_true rfl, Nat.le_of_ble_eq_true rfl⟩) rfl (by decide) t8 (ent_2 t8) rfl rfl (Nat.le_of_ble_eq_true rfl) ⟨Nat.zero_le _, Nat.zero_le _⟩ dX5_alter_18 (fun r9 h10 hf => ?_)
  refine v_callVI (pc := 21) X (As := [.int r9]) (rest := []) (c_X5_settle l D cA L sh a0 r9 h10 _ hf) (cwV 1 X.ht (gwV inM q_251 q_252 q_738 q_1 q_253) rfl rfl rfl (by decide +kernel) ⟨Nat.le_of_ble_eq_true rfl, Nat.le_of_ble_eq_true rfl⟩) rfl (by decide) t1 (ent_5 t1) rfl rfl (Nat.le_of_ble_eq_true rfl) ⟨Nat.zero_le _, Nat.zero_le _⟩ dX5_alter_21 (fun r11 h12 hf => ?_)
  exact v_iret (pc := 24) X hr hlk dX5_alter_24 hf
set_option maxHeartbeats 4000000 in
set_option maxRecDepth 100000 in
theorem w_X5_loadsWithRoom_30 {p : Program} {l : Launch} {e : Env} {s0 : State} {m : MethodId} {args : Array Value} {below : List Frame} {meth : Method} {c : Code} {D : va_G} {cA : Nat → ClassId} {L : List Nat} {sh : Sh} (X : Cx p s0 m c args cX5_loadsWithRoom 5 (wM yX5_loadsWithRoom cX5_loadsWithRoom 5 (some .int)) RX5 (fun q => q ∈ L) D cA L sh) (hr : meth.sig.returnType = (some .int)) (hlk : meth.locks = false) (x0 : Nat) (Xc : Hp → Prop) (K : Int32 → Hp → Prop) (hx : ∀  (h1 : Hp), Xc  h1 → V p l e (headSpec (wM yX5_loadsWithRoom cX5_loadsWithRoom 5 (some .int)) ({ frames := 4, cells := 0, slots := 0, locals := 99 } : Room)).room s0 m args below meth c (MQ below (QI D cA L sh K) args s0 0 0 (fun q => q ∈ L)) (fun q => q ∈ L) 0 0 D cA L sh 5 h1 96 [(0, .ref x0)] []) : ∀ (n : Nat) (s : Int32) (h : Hp), lp (b_X5_loadsWithRoom_30 sh x0 Xc K) n s h → V p l e (headSpec (wM yX5_loadsWithRoom cX5_loadsWithRoom 5 (some .int)) ({ frames := 4, cells := 0, slots := 0, locals := 99 } : Room)).room s0 m args below meth c (MQ below (QI D cA L sh K) args s0 0 0 (fun q => q ∈ L)) (fun q => q ∈ L) 0 0 D cA L sh 5 h 30 [(0, .ref x0), (2, .int s)] [] := by
  have k19 := X.ht _ (inM _ q_186)
  have k197 := X.ht _ (inM _ q_122)
  have k10 := X.ht _ (inM _ q_185)
  have k181 := X.ht _ (inM _ q_133)
  have k211 := X.ht _ (inM _ q_135)
  have k214 := X.ht _ (inM _ q_137)
  have kl206 := X.ht _ (inM _ q_423)
  have ks206 := X.ht _ (inM _ q_424)
  have ki206 := X.ht _ (inM _ q_8)
  have kc206 := X.ht _ (inM _ q_425)
  intro n
  induction n with
  | zero => intro s h hf; exact hf.elim
  | succ n ih =>
    intro s h hf
    replace hf : b_X5_loadsWithRoom_30 sh x0 Xc K (lp (b_X5_loadsWithRoom_30 sh x0 Xc K) n) s h := hf
    unfold b_X5_loadsWithRoom_30 at hf
    refine v_iload_n (pc := 30) X 1 dX5_loadsWithRoom_30 rfl rfl ?_
    refine v_aload_n (pc := 31) X 0 dX5_loadsWithRoom_31 rfl rfl ?_
    obtain ⟨t13, hf⟩ := hf
    obtain ⟨q14, e_q14, hf⟩ := hf
    refine ge_5_0 (pc := 32) X (fun w h => inM w (inG5 w h)) k10 t13 e_q14 dX5_loadsWithRoom_32 ?_
    obtain ⟨t15, hf⟩ := hf
    obtain ⟨v16, e_v16, hf⟩ := hf
    refine ge_2_8 (pc := 35) X (fun w h => inM w (inG2 w h)) k181 t15 e_v16 dX5_loadsWithRoom_35 ?_
    refine v_icmp_ge (pc := 38) X 96 dX5_loadsWithRoom_38 (by decide) (fun c => ?_) (fun c => ?_)
    · replace hf := if_t c hf
      refine v_sub [0] rfl ?_
      exact hx h hf
    · replace hf := if_f c hf
      refine v_iload_n (pc := 41) X 1 dX5_loadsWithRoom_41 rfl rfl ?_
      refine v_bipush (pc := 42) X (v := (12 : Int32)) dX5_loadsWithRoom_42 (by decide) ?_
      refine v_irem (pc := 44) X dX5_loadsWithRoom_44 (by decide) ?_
      refine v_istore_n (pc := 45) X (i := 3) (lv' := [(3, .int (s - s / (12 : Int32) * (12 : Int32))), (0, .ref x0), (2, .int s)]) dX5_loadsWithRoom_45 rfl (Nat.le_of_ble_eq_true rfl) rfl ?_
      refine v_aload_n (pc := 46) X 1 dX5_loadsWithRoom_46 rfl rfl ?_
      obtain ⟨q17, e_q17, hf⟩ := hf
      refine ge_5_1 (pc := 47) X (fun w h => inM w (inG5 w h)) k19 t13 e_q17 dX5_loadsWithRoom_47 ?_
      refine v_aload_n (pc := 50) X 1 dX5_loadsWithRoom_50 rfl rfl ?_
      obtain ⟨q18, e_q18, hf⟩ := hf
      refine ge_5_0 (pc := 51) X (fun w h => inM w (inG5 w h)) k10 t13 e_q18 dX5_loadsWithRoom_51 ?_
      obtain ⟨t19, hf⟩ := hf
      obtain ⟨q20, e_q20, hf⟩ := hf
      refine ge_2_9 (pc := 54) X (fun w h => inM w (inG2 w h)) k211 t19 e_q20 dX5_loadsWithRoom_54 ?_
      refine v_iload_n (pc := 57) X 0 dX5_loadsWithRoom_57 rfl rfl ?_
      obtain ⟨t21, hf⟩ := hf
      obtain ⟨b23, v22, e_v22, hf⟩ := hf
      refine v_iald (pc := 58) X t21 b23 e_v22 dX5_loadsWithRoom_58 ?_
      refine v_aload_n (pc := 59) X 1 dX5_loadsWithRoom_59 rfl rfl ?_
      obtain ⟨q24, e_q24, hf⟩ := hf
      refine ge_5_0 (pc := 60) X (fun w h => inM w (inG5 w h)) k10 t13 e_q24 dX5_loadsWithRoom_60 ?_
      obtain ⟨t25, hf⟩ := hf
      obtain ⟨q26, e_q26, hf⟩ := hf
      refine ge_2_10 (pc := 63) X (fun w h => inM w (inG2 w h)) k214 t25 e_q26 dX5_loadsWithRoom_63 ?_
      refine v_iload_n (pc := 66) X 0 dX5_loadsWithRoom_66 rfl rfl ?_
      obtain ⟨t27, hf⟩ := hf
      obtain ⟨b29, v28, e_v28, hf⟩ := hf
      refine v_iald (pc := 67) X t27 b29 e_v28 dX5_loadsWithRoom_67 ?_
      obtain ⟨t30, hf⟩ := hf
      refine v_callVI (pc := 68) X (As := [.int v22, .int v28]) (rest := []) (c_X2_begin l D cA L sh q17 v22 v28 h _ hf) (cwV 2 X.ht (gwV inM q_261 q_262 q_263 q_2 q_264) rfl rfl rfl (by decide +kernel) ⟨Nat.le_of_ble_eq_true rfl, Nat.le_of_ble_eq_true rfl⟩) rfl (by decide) t30 (ent_2 t30) rfl rfl (Nat.le_of_ble_eq_true rfl) ⟨Nat.zero_le _, Nat.zero_le _⟩ dX5_loadsWithRoom_68 (fun r31 h32 hf => ?_)
      refine v_istore (pc := 71) X (i := 4) (lv' := [(4, .int r31), (3, .int (s - s / (12 : Int32) * (12 : Int32))), (0, .ref x0), (2, .int s)]) dX5_loadsWithRoom_71 (Nat.le_of_ble_eq_true rfl) rfl ?_
      refine v_iload (pc := 73) X 0 dX5_loadsWithRoom_73 rfl ?_
      refine v_if_ge (pc := 75) X 80 dX5_loadsWithRoom_75 (by decide) (fun c => ?_) (fun c => ?_)
      · replace hf := if_t c hf
        refine v_aload_n (pc := 80) X 2 dX5_loadsWithRoom_80 rfl rfl ?_
        obtain ⟨q33, e_q33, hf⟩ := hf
        refine ge_5_1 (pc := 81) X (fun w h => inM w (inG5 w h)) k19 t13 e_q33 dX5_loadsWithRoom_81 ?_
        refine v_iload (pc := 84) X 0 dX5_loadsWithRoom_84 rfl ?_
        obtain ⟨t34, hf⟩ := hf
        refine v_callVI (pc := 86) X (As := [.int r31]) (rest := []) (c_X2_finish l D cA L sh q33 r31 h32 _ hf) (cwV 1 X.ht (gwV inM q_301 q_302 q_303 q_2 q_304) rfl rfl rfl (by decide +kernel) ⟨Nat.le_of_ble_eq_true rfl, Nat.le_of_ble_eq_true rfl⟩) rfl (by decide) t34 (ent_2 t34) rfl rfl (Nat.le_of_ble_eq_true rfl) ⟨Nat.zero_le _, Nat.zero_le _⟩ dX5_loadsWithRoom_86 (fun r35 h36 hf => ?_)
        refine v_pop (pc := 89) X dX5_loadsWithRoom_89 rfl ?_
        refine v_iinc (pc := 90) X 3 (v := s + (1 : Int32)) (lv' := [(2, .int (s + (1 : Int32))), (4, .int r31), (3, .int (s - s / (12 : Int32) * (12 : Int32))), (0, .ref x0)]) dX5_loadsWithRoom_90 rfl rfl (Nat.le_of_ble_eq_true rfl) rfl ?_
        refine v_goto (pc := 93) X 30 dX5_loadsWithRoom_93 (by decide) ?_
        refine v_sub [3, 0] rfl ?_
        exact ih (s + (1 : Int32)) h36 hf
      · replace hf := if_f c hf
        refine v_iconst (pc := 78) X (v := (-1 : Int32)) dX5_loadsWithRoom_78 (by decide) ?_
        exact v_iret (pc := 79) X hr hlk dX5_loadsWithRoom_79 hf

set_option maxHeartbeats 4000000 in
set_option maxRecDepth 100000 in
theorem c_X5_loadsWithRoom (l : Launch) (D : va_G) (cA : Nat → ClassId) (L : List Nat) (sh : Sh) (a0 : Nat) (p1 : Int32) (h : Hp) (K : Int32 → Hp → Prop) (hf : f_X5_loadsWithRoom sh a0 p1 h K) : Met l yX5_loadsWithRoom (wM yX5_loadsWithRoom cX5_loadsWithRoom 5 (some .int)) ({ frames := 4, cells := 0, slots := 0, locals := 99 } : Room) (PreM D cA L sh h [.ref a0, .int p1]) (QI D cA L sh K) 0 0 (fun q => q ∈ L) := by
  refine met_v (cc := cX5_loadsWithRoom) (nL := 5) (ret := (some .int)) [(0, .ref a0), (1, .int p1)] (by decide) rfl (Nat.le_of_ble_eq_true rfl) rfl ?_
  intro p e s0 m below meth c X hr hlk
  have k19 := X.ht _ (inM _ q_186)
  have k197 := X.ht _ (inM _ q_122)
  have k10 := X.ht _ (inM _ q_185)
  have k181 := X.ht _ (inM _ q_133)
  have k211 := X.ht _ (inM _ q_135)
  have k214 := X.ht _ (inM _ q_137)
  have kl206 := X.ht _ (inM _ q_423)
  have ks206 := X.ht _ (inM _ q_424)
  have ki206 := X.ht _ (inM _ q_8)
  have kc206 := X.ht _ (inM _ q_425)
  unfold f_X5_loadsWithRoom at hf
  refine v_aload_n (pc := 0) X 0 dX5_loadsWithRoom_0 rfl rfl ?_
  obtain ⟨t1, hf⟩ := hf
  obtain ⟨q2, e_q2, hf⟩ := hf
  refine ge_5_1 (pc := 1) X (fun w h => inM w (inG5 w h)) k19 t1 e_q2 dX5_loadsWithRoom_1 ?_
  obtain ⟨t3, hf⟩ := hf
  refine v_callVV (pc := 4) X (As := []) (rest := []) (c_X2_clear l D cA L sh q2 h _ hf) (cwV 0 X.ht (gwV inM q_152 q_153 q_154 q_2 q_155) rfl rfl rfl (by decide +kernel) ⟨Nat.le_of_ble_eq_true rfl, Nat.le_of_ble_eq_true rfl⟩) rfl (by decide) t3 (ent_2 t3) rfl rfl (Nat.le_of_ble_eq_true rfl) ⟨Nat.zero_le _, Nat.zero_le _⟩ dX5_loadsWithRoom_4 (fun h5 hf => ?_)
  refine v_aload_n (pc := 7) X 0 dX5_loadsWithRoom_7 rfl rfl ?_
  obtain ⟨q6, e_q6, hf⟩ := hf
  refine ge_5_1 (pc := 8) X (fun w h => inM w (inG5 w h)) k19 t1 e_q6 dX5_loadsWithRoom_8 ?_
  refine v_iload_n (pc := 11) X 1 dX5_loadsWithRoom_11 rfl rfl ?_
  obtain ⟨t7, hf⟩ := hf
  obtain ⟨h8, e_h8, hf⟩ := hf
  refine pu_2_2 (pc := 12) X (fun w h => inM w (inG2 w h)) k197 t7 e_h8 dX5_loadsWithRoom_12 ?_
  refine v_iconst (pc := 15) X (v := (0 : Int32)) dX5_loadsWithRoom_15 (by decide) ?_
  refine v_aload_n (pc := 16) X 0 dX5_loadsWithRoom_16 rfl rfl ?_
  obtain ⟨q9, e_q9, hf⟩ := hf
  refine ge_5_0 (pc := 17) X (fun w h => inM w (inG5 w h)) k10 t1 e_q9 dX5_loadsWithRoom_17 ?_
  obtain ⟨t10, hf⟩ := hf
  obtain ⟨v11, e_v11, hf⟩ := hf
  refine ge_2_8 (pc := 20) X (fun w h => inM w (inG2 w h)) k181 t10 e_v11 dX5_loadsWithRoom_20 ?_
  refine v_bipush (pc := 23) X (v := (12 : Int32)) dX5_loadsWithRoom_23 (by decide) ?_
  refine v_isub (pc := 25) X dX5_loadsWithRoom_25 ?_
  obtain ⟨v12, e_v12, hf⟩ := hf
  refine v_mmax (pc := 26) X kl206 ks206 ki206 kc206 (Nat.le_of_ble_eq_true rfl) (Nat.le_of_ble_eq_true rfl) (Nat.zero_le _) (Nat.zero_le _) dX5_loadsWithRoom_26 ?_
  rw [← e_v12]
  refine v_istore_n (pc := 29) X (i := 2) (lv' := [(2, .int v12), (0, .ref a0), (1, .int p1)]) dX5_loadsWithRoom_29 rfl (Nat.le_of_ble_eq_true rfl) rfl ?_
  obtain ⟨n, hf⟩ := hf
  refine v_sub [1, 0] rfl ?_
  refine w_X5_loadsWithRoom_30 X hr hlk a0 _ K (fun  h37 hf => ?_) n v12 h8 hf
  refine v_aload_n (pc := 96) X 0 dX5_loadsWithRoom_96 rfl rfl ?_
  obtain ⟨q38, e_q38, hf⟩ := hf
  refine ge_5_1 (pc := 97) X (fun w h => inM w (inG5 w h)) k19 t1 e_q38 dX5_loadsWithRoom_97 ?_
  obtain ⟨t39, hf⟩ := hf
  refine v_callVI (pc := 100) X (As := []) (rest := []) (c_X2_loadsOfAll l D cA L sh q38 h37 _ hf) (cwV 0 X.ht (gwV inM q_399 q_400 q_401 q_2 q_402) rfl rfl rfl (by decide +kernel) ⟨Nat.le_of_ble_eq_true rfl, Nat.le_of_ble_eq_true rfl⟩) rfl (by decide) t39 (ent_2 t39) rfl rfl (Nat.le_of_ble_eq_true rfl) ⟨Nat.zero_le _, Nat.zero_le _⟩ dX5_loadsWithRoom_100 (fun r40 h41 hf => ?_)
  exact v_iret (pc := 103) X hr hlk dX5_loadsWithRoom_103 hf
set_option maxHeartbeats 4000000 in
set_option maxRecDepth 100000 in
theorem w_X5_bestRoom_31 {p : Program} {l : Launch} {e : Env} {s0 : State} {m : MethodId} {args : Array Value} {below : List Frame} {meth : Method} {c : Code} {D : va_G} {cA : Nat → ClassId} {L : List Nat} {sh : Sh} (X : Cx p s0 m c args cX5_bestRoom 6 (wM yX5_bestRoom cX5_bestRoom 6 (some .int)) RX5 (fun q => q ∈ L) D cA L sh) (hr : meth.sig.returnType = (some .int)) (hlk : meth.locks = false) (x0 : Nat) (x1 : Int32) (Xc : Int32 → Int32 → Hp → Prop) (K : Int32 → Hp → Prop) (hx : ∀ (y2 : Int32) (y3 : Int32) (h1 : Hp), Xc y2 y3 h1 → V p l e (headSpec (wM yX5_bestRoom cX5_bestRoom 6 (some .int)) ({ frames := 5, cells := 0, slots := 0, locals := 123 } : Room)).room s0 m args below meth c (MQ below (QI D cA L sh K) args s0 0 0 (fun q => q ∈ L)) (fun q => q ∈ L) 0 0 D cA L sh 6 h1 73 [(1, .int x1), (2, .int y2), (3, .int y3)] []) : ∀ (n : Nat) (s : Int32 × Int32 × Int32) (h : Hp), lp (b_X5_bestRoom_31 sh x0 x1 Xc) n s h → V p l e (headSpec (wM yX5_bestRoom cX5_bestRoom 6 (some .int)) ({ frames := 5, cells := 0, slots := 0, locals := 123 } : Room)).room s0 m args below meth c (MQ below (QI D cA L sh K) args s0 0 0 (fun q => q ∈ L)) (fun q => q ∈ L) 0 0 D cA L sh 6 h 31 [(0, .ref x0), (1, .int x1), (2, .int s.1), (3, .int s.2.1), (4, .int s.2.2)] [] := by
  have k10 := X.ht _ (inM _ q_185)
  have k181 := X.ht _ (inM _ q_133)
  intro n
  induction n with
  | zero => intro s h hf; exact hf.elim
  | succ n ih =>
    intro s h hf
    replace hf : b_X5_bestRoom_31 sh x0 x1 Xc (lp (b_X5_bestRoom_31 sh x0 x1 Xc) n) s h := hf
    unfold b_X5_bestRoom_31 at hf
    refine v_iload (pc := 31) X 4 dX5_bestRoom_31 rfl ?_
    refine v_bipush (pc := 33) X (v := (8 : Int32)) dX5_bestRoom_33 (by decide) ?_
    refine v_icmp_gt (pc := 35) X 73 dX5_bestRoom_35 (by decide) (fun c => ?_) (fun c => ?_)
    · replace hf := if_t c hf
      refine v_sub [1, 2, 3] rfl ?_
      exact hx s.1 s.2.1 h hf
    · replace hf := if_f c hf
      refine v_aload_n (pc := 38) X 0 dX5_bestRoom_38 rfl rfl ?_
      refine v_iload (pc := 39) X 4 dX5_bestRoom_39 rfl ?_
      obtain ⟨t5, hf⟩ := hf
      refine v_callVI (pc := 41) X (As := [.int s.2.2]) (rest := []) (c_X5_loadsWithRoom l D cA L sh x0 s.2.2 h _ hf) (cwV 1 X.ht (gwV inM q_420 q_421 q_743 q_1 q_422) rfl rfl rfl (by decide +kernel) ⟨Nat.le_of_ble_eq_true rfl, Nat.le_of_ble_eq_true rfl⟩) rfl (by decide) t5 (ent_5 t5) rfl rfl (Nat.le_of_ble_eq_true rfl) ⟨Nat.zero_le _, Nat.zero_le _⟩ dX5_bestRoom_41 (fun r6 h7 hf => ?_)
      refine v_istore (pc := 44) X (i := 5) (lv' := [(5, .int r6), (0, .ref x0), (1, .int x1), (2, .int s.1), (3, .int s.2.1), (4, .int s.2.2)]) dX5_bestRoom_44 (Nat.le_of_ble_eq_true rfl) rfl ?_
      refine v_iload (pc := 46) X 0 dX5_bestRoom_46 rfl ?_
      refine v_if_lt (pc := 48) X 67 dX5_bestRoom_48 (by decide) (fun c => ?_) (fun c => ?_)
      · replace hf := if_t c hf
        refine v_iinc (pc := 67) X 5 (v := s.2.2 + (1 : Int32)) (lv' := [(4, .int (s.2.2 + (1 : Int32))), (5, .int r6), (0, .ref x0), (1, .int x1), (2, .int s.1), (3, .int s.2.1)]) dX5_bestRoom_67 rfl rfl (Nat.le_of_ble_eq_true rfl) rfl ?_
        refine v_goto (pc := 70) X 31 dX5_bestRoom_70 (by decide) ?_
        refine v_sub [2, 3, 4, 5, 0] rfl ?_
        exact ih (s.1, s.2.1, s.2.2 + (1 : Int32)) h7 hf
      · replace hf := if_f c hf
        refine v_iload_n (pc := 51) X 4 dX5_bestRoom_51 rfl rfl ?_
        refine v_if_lt (pc := 52) X 61 dX5_bestRoom_52 (by decide) (fun c => ?_) (fun c => ?_)
        · replace hf := if_t c hf
          refine v_iload (pc := 61) X 5 dX5_bestRoom_61 rfl ?_
          refine v_istore_n (pc := 63) X (i := 2) (lv' := [(2, .int s.2.2), (5, .int r6), (0, .ref x0), (1, .int x1), (3, .int s.2.1), (4, .int s.2.2)]) dX5_bestRoom_63 rfl (Nat.le_of_ble_eq_true rfl) rfl ?_
          refine v_iload (pc := 64) X 1 dX5_bestRoom_64 rfl ?_
          refine v_istore_n (pc := 66) X (i := 3) (lv' := [(3, .int r6), (2, .int s.2.2), (5, .int r6), (0, .ref x0), (1, .int x1), (4, .int s.2.2)]) dX5_bestRoom_66 rfl (Nat.le_of_ble_eq_true rfl) rfl ?_
          refine v_iinc (pc := 67) X 5 (v := s.2.2 + (1 : Int32)) (lv' := [(4, .int (s.2.2 + (1 : Int32))), (3, .int r6), (2, .int s.2.2), (5, .int r6), (0, .ref x0), (1, .int x1)]) dX5_bestRoom_67 rfl rfl (Nat.le_of_ble_eq_true rfl) rfl ?_
          refine v_goto (pc := 70) X 31 dX5_bestRoom_70 (by decide) ?_
          refine v_sub [4, 5, 2, 1, 0] rfl ?_
          exact ih (s.2.2, r6, s.2.2 + (1 : Int32)) h7 hf
        · replace hf := if_f c hf
          refine v_iload (pc := 55) X 0 dX5_bestRoom_55 rfl ?_
          refine v_iload_n (pc := 57) X 4 dX5_bestRoom_57 rfl rfl ?_
          refine v_icmp_ge (pc := 58) X 67 dX5_bestRoom_58 (by decide) (fun c => ?_) (fun c => ?_)
          · replace hf := if_t c hf
            refine v_iinc (pc := 67) X 5 (v := s.2.2 + (1 : Int32)) (lv' := [(4, .int (s.2.2 + (1 : Int32))), (5, .int r6), (0, .ref x0), (1, .int x1), (2, .int s.1), (3, .int s.2.1)]) dX5_bestRoom_67 rfl rfl (Nat.le_of_ble_eq_true rfl) rfl ?_
            refine v_goto (pc := 70) X 31 dX5_bestRoom_70 (by decide) ?_
            refine v_sub [2, 3, 4, 5, 0] rfl ?_
            exact ih (s.1, s.2.1, s.2.2 + (1 : Int32)) h7 hf
          · replace hf := if_f c hf
            refine v_iload (pc := 61) X 5 dX5_bestRoom_61 rfl ?_
            refine v_istore_n (pc := 63) X (i := 2) (lv' := [(2, .int s.2.2), (5, .int r6), (0, .ref x0), (1, .int x1), (3, .int s.2.1), (4, .int s.2.2)]) dX5_bestRoom_63 rfl (Nat.le_of_ble_eq_true rfl) rfl ?_
            refine v_iload (pc := 64) X 1 dX5_bestRoom_64 rfl ?_
            refine v_istore_n (pc := 66) X (i := 3) (lv' := [(3, .int r6), (2, .int s.2.2), (5, .int r6), (0, .ref x0), (1, .int x1), (4, .int s.2.2)]) dX5_bestRoom_66 rfl (Nat.le_of_ble_eq_true rfl) rfl ?_
            refine v_iinc (pc := 67) X 5 (v := s.2.2 + (1 : Int32)) (lv' := [(4, .int (s.2.2 + (1 : Int32))), (3, .int r6), (2, .int s.2.2), (5, .int r6), (0, .ref x0), (1, .int x1)]) dX5_bestRoom_67 rfl rfl (Nat.le_of_ble_eq_true rfl) rfl ?_
            refine v_goto (pc := 70) X 31 dX5_bestRoom_70 (by decide) ?_
            refine v_sub [4, 5, 2, 1, 0] rfl ?_
            exact ih (s.2.2, r6, s.2.2 + (1 : Int32)) h7 hf

set_option maxHeartbeats 4000000 in
set_option maxRecDepth 100000 in
theorem c_X5_bestRoom (l : Launch) (D : va_G) (cA : Nat → ClassId) (L : List Nat) (sh : Sh) (a0 : Nat) (p1 : Int32) (h : Hp) (K : Int32 → Hp → Prop) (hf : f_X5_bestRoom sh a0 p1 h K) : Met l yX5_bestRoom (wM yX5_bestRoom cX5_bestRoom 6 (some .int)) ({ frames := 5, cells := 0, slots := 0, locals := 123 } : Room) (PreM D cA L sh h [.ref a0, .int p1]) (QI D cA L sh K) 0 0 (fun q => q ∈ L) := by
  refine met_v (cc := cX5_bestRoom) (nL := 6) (ret := (some .int)) [(0, .ref a0), (1, .int p1)] (by decide) rfl (Nat.le_of_ble_eq_true rfl) rfl ?_
  intro p e s0 m below meth c X hr hlk
  have k10 := X.ht _ (inM _ q_185)
  have k181 := X.ht _ (inM _ q_133)
  unfold f_X5_bestRoom at hf
  refine v_iload_n (pc := 0) X 1 dX5_bestRoom_0 rfl rfl ?_
  refine v_if_lt (pc := 1) X 9 dX5_bestRoom_1 (by decide) (fun c => ?_) (fun c => ?_)
  · replace hf := if_t c hf
    refine v_iconst (pc := 9) X (v := (-1 : Int32)) dX5_bestRoom_9 (by decide) ?_
    exact v_iret (pc := 10) X hr hlk dX5_bestRoom_10 hf
  · replace hf := if_f c hf
    refine v_iload_n (pc := 4) X 1 dX5_bestRoom_4 rfl rfl ?_
    refine v_iconst (pc := 5) X (v := (1 : Int32)) dX5_bestRoom_5 (by decide) ?_
    refine v_icmp_le (pc := 6) X 11 dX5_bestRoom_6 (by decide) (fun c => ?_) (fun c => ?_)
    · replace hf := if_t c hf
      refine v_aload_n (pc := 11) X 0 dX5_bestRoom_11 rfl rfl ?_
      obtain ⟨t1, hf⟩ := hf
      obtain ⟨q2, e_q2, hf⟩ := hf
      refine ge_5_0 (pc := 12) X (fun w h => inM w (inG5 w h)) k10 t1 e_q2 dX5_bestRoom_12 ?_
      obtain ⟨t3, hf⟩ := hf
      obtain ⟨v4, e_v4, hf⟩ := hf
      refine ge_2_8 (pc := 15) X (fun w h => inM w (inG2 w h)) k181 t3 e_v4 dX5_bestRoom_15 ?_
      refine v_if_ne (pc := 18) X 24 dX5_bestRoom_18 (by decide) (fun c => ?_) (fun c => ?_)
      · replace hf := if_f c hf
        refine v_iconst (pc := 24) X (v := (-1 : Int32)) dX5_bestRoom_24 (by decide) ?_
        refine v_istore_n (pc := 25) X (i := 2) (lv' := [(2, .int (-1 : Int32)), (0, .ref a0), (1, .int p1)]) dX5_bestRoom_25 rfl (Nat.le_of_ble_eq_true rfl) rfl ?_
        refine v_iconst (pc := 26) X (v := (-1 : Int32)) dX5_bestRoom_26 (by decide) ?_
        refine v_istore_n (pc := 27) X (i := 3) (lv' := [(3, .int (-1 : Int32)), (2, .int (-1 : Int32)), (0, .ref a0), (1, .int p1)]) dX5_bestRoom_27 rfl (Nat.le_of_ble_eq_true rfl) rfl ?_
        refine v_iconst (pc := 28) X (v := (1 : Int32)) dX5_bestRoom_28 (by decide) ?_
        refine v_istore (pc := 29) X (i := 4) (lv' := [(4, .int (1 : Int32)), (3, .int (-1 : Int32)), (2, .int (-1 : Int32)), (0, .ref a0), (1, .int p1)]) dX5_bestRoom_29 (Nat.le_of_ble_eq_true rfl) rfl ?_
        obtain ⟨n, hf⟩ := hf
        refine v_sub [3, 4, 2, 1, 0] rfl ?_
        refine w_X5_bestRoom_31 X hr hlk a0 p1 _ K (fun y8 y9 h10 hf => ?_) n ((-1 : Int32), (-1 : Int32), (1 : Int32)) h hf
        refine v_iload_n (pc := 73) X 0 dX5_bestRoom_73 rfl rfl ?_
        refine v_if_ne (pc := 74) X 81 dX5_bestRoom_74 (by decide) (fun c => ?_) (fun c => ?_)
        · replace hf := if_f c hf
          refine v_iload_n (pc := 81) X 2 dX5_bestRoom_81 rfl rfl ?_
          exact v_iret (pc := 82) X hr hlk dX5_bestRoom_82 hf
        · replace hf := if_t c hf
          refine v_iload_n (pc := 77) X 1 dX5_bestRoom_77 rfl rfl ?_
          refine v_goto (pc := 78) X 82 dX5_bestRoom_78 (by decide) ?_
          exact v_iret (pc := 82) X hr hlk dX5_bestRoom_82 hf
      · replace hf := if_t c hf
        refine v_bipush (pc := 21) X (v := (-4 : Int32)) dX5_bestRoom_21 (by decide) ?_
        exact v_iret (pc := 23) X hr hlk dX5_bestRoom_23 hf
    · replace hf := if_f c hf
      refine v_iconst (pc := 9) X (v := (-1 : Int32)) dX5_bestRoom_9 (by decide) ?_
      exact v_iret (pc := 10) X hr hlk dX5_bestRoom_10 hf
set_option maxHeartbeats 4000000 in
set_option maxRecDepth 100000 in
theorem c_X5_clearText (l : Launch) (D : va_G) (cA : Nat → ClassId) (L : List Nat) (sh : Sh) (a0 : Nat) (h : Hp) (K : Int32 → Hp → Prop) (hf : f_X5_clearText sh a0 h K) : Met l yX5_clearText (wM yX5_clearText cX5_clearText 2 (some .int)) ({ frames := 0, cells := 0, slots := 0, locals := 0 } : Room) (PreM D cA L sh h [.ref a0]) (QI D cA L sh K) 0 0 (fun q => q ∈ L) := by
  refine met_v (cc := cX5_clearText) (nL := 2) (ret := (some .int)) [(0, .ref a0)] (by decide) rfl (Nat.le_of_ble_eq_true rfl) rfl ?_
  intro p e s0 m below meth c X hr hlk
  have k40 := X.ht _ (inM _ q_191)
  have k185 := X.ht _ (inM _ q_170)
  unfold f_X5_clearText at hf
  refine v_aload_n (pc := 0) X 0 dX5_clearText_0 rfl rfl ?_
  obtain ⟨t1, hf⟩ := hf
  obtain ⟨q2, e_q2, hf⟩ := hf
  refine ge_5_6 (pc := 1) X (fun w h => inM w (inG5 w h)) k40 t1 e_q2 dX5_clearText_1 ?_
  obtain ⟨t3, hf⟩ := hf
  obtain ⟨v4, e_v4, hf⟩ := hf
  refine ge_3_1 (pc := 4) X (fun w h => inM w (inG3 w h)) k185 t3 e_v4 dX5_clearText_4 ?_
  refine v_istore_n (pc := 7) X (i := 1) (lv' := [(1, .int v4), (0, .ref a0)]) dX5_clearText_7 rfl (Nat.le_of_ble_eq_true rfl) rfl ?_
  refine v_aload_n (pc := 8) X 1 dX5_clearText_8 rfl rfl ?_
  obtain ⟨q5, e_q5, hf⟩ := hf
  refine ge_5_6 (pc := 9) X (fun w h => inM w (inG5 w h)) k40 t1 e_q5 dX5_clearText_9 ?_
  refine v_iconst (pc := 12) X (v := (0 : Int32)) dX5_clearText_12 (by decide) ?_
  obtain ⟨t6, hf⟩ := hf
  obtain ⟨h7, e_h7, hf⟩ := hf
  refine pu_3_1 (pc := 13) X (fun w h => inM w (inG3 w h)) k185 t6 e_h7 dX5_clearText_13 ?_
  refine v_iload_n (pc := 16) X 0 dX5_clearText_16 rfl rfl ?_
  exact v_iret (pc := 17) X hr hlk dX5_clearText_17 hf
set_option maxHeartbeats 4000000 in
set_option maxRecDepth 100000 in
theorem c_X5_count (l : Launch) (D : va_G) (cA : Nat → ClassId) (L : List Nat) (sh : Sh) (a0 : Nat) (p1 : Int32) (h : Hp) (K : Int32 → Hp → Prop) (hf : f_X5_count sh a0 p1 h K) : Met l yX5_count (wM yX5_count cX5_count 2 (some .int)) ({ frames := 4, cells := 0, slots := 0, locals := 90 } : Room) (PreM D cA L sh h [.ref a0, .int p1]) (QI D cA L sh K) 0 0 (fun q => q ∈ L) := by
  refine met_v (cc := cX5_count) (nL := 2) (ret := (some .int)) [(0, .ref a0), (1, .int p1)] (by decide) rfl (Nat.le_of_ble_eq_true rfl) rfl ?_
  intro p e s0 m below meth c X hr hlk
  have k10 := X.ht _ (inM _ q_185)
  have k178 := X.ht _ (inM _ q_118)
  have k172 := X.ht _ (inM _ q_128)
  have k181 := X.ht _ (inM _ q_133)
  have k33 := X.ht _ (inM _ q_190)
  have k40 := X.ht _ (inM _ q_191)
  have k185 := X.ht _ (inM _ q_170)
  have k25 := X.ht _ (inM _ q_188)
  have k194 := X.ht _ (inM _ q_120)
  have k197 := X.ht _ (inM _ q_122)
  unfold f_X5_count at hf
  refine v_iload_n (pc := 0) X 1 dX5_count_0 rfl rfl ?_
  by_cases c0 : p1 = (0 : Int32)
  · replace hf := if_t c0 hf
    refine v_tableIn (pc := 1) X (off := 103) 104 dX5_count_1 (by rw [c0]; decide) (by rw [c0]; decide) (by rw [c0]; decide) (by decide) ?_
    refine v_aload_n (pc := 104) X 0 dX5_count_104 rfl rfl ?_
    obtain ⟨t1, hf⟩ := hf
    obtain ⟨q2, e_q2, hf⟩ := hf
    refine ge_5_0 (pc := 105) X (fun w h => inM w (inG5 w h)) k10 t1 e_q2 dX5_count_105 ?_
    obtain ⟨t3, hf⟩ := hf
    obtain ⟨v4, e_v4, hf⟩ := hf
    refine ge_2_0 (pc := 108) X (fun w h => inM w (inG2 w h)) k178 t3 e_v4 dX5_count_108 ?_
    exact v_iret (pc := 111) X hr hlk dX5_count_111 hf
  replace hf := if_f c0 hf
  by_cases c1 : p1 = (1 : Int32)
  · replace hf := if_t c1 hf
    refine v_tableIn (pc := 1) X (off := 111) 112 dX5_count_1 (by rw [c1]; decide) (by rw [c1]; decide) (by rw [c1]; decide) (by decide) ?_
    refine v_aload_n (pc := 112) X 0 dX5_count_112 rfl rfl ?_
    obtain ⟨t5, hf⟩ := hf
    obtain ⟨q6, e_q6, hf⟩ := hf
    refine ge_5_0 (pc := 113) X (fun w h => inM w (inG5 w h)) k10 t5 e_q6 dX5_count_113 ?_
    obtain ⟨t7, hf⟩ := hf
    obtain ⟨v8, e_v8, hf⟩ := hf
    refine ge_2_5 (pc := 116) X (fun w h => inM w (inG2 w h)) k172 t7 e_v8 dX5_count_116 ?_
    exact v_iret (pc := 119) X hr hlk dX5_count_119 hf
  replace hf := if_f c1 hf
  by_cases c2 : p1 = (2 : Int32)
  · replace hf := if_t c2 hf
    refine v_tableIn (pc := 1) X (off := 119) 120 dX5_count_1 (by rw [c2]; decide) (by rw [c2]; decide) (by rw [c2]; decide) (by decide) ?_
    refine v_aload_n (pc := 120) X 0 dX5_count_120 rfl rfl ?_
    obtain ⟨t9, hf⟩ := hf
    obtain ⟨q10, e_q10, hf⟩ := hf
    refine ge_5_0 (pc := 121) X (fun w h => inM w (inG5 w h)) k10 t9 e_q10 dX5_count_121 ?_
    obtain ⟨t11, hf⟩ := hf
    obtain ⟨v12, e_v12, hf⟩ := hf
    refine ge_2_8 (pc := 124) X (fun w h => inM w (inG2 w h)) k181 t11 e_v12 dX5_count_124 ?_
    exact v_iret (pc := 127) X hr hlk dX5_count_127 hf
  replace hf := if_f c2 hf
  by_cases c3 : p1 = (3 : Int32)
  · replace hf := if_t c3 hf
    refine v_tableIn (pc := 1) X (off := 127) 128 dX5_count_1 (by rw [c3]; decide) (by rw [c3]; decide) (by rw [c3]; decide) (by decide) ?_
    refine v_aload_n (pc := 128) X 0 dX5_count_128 rfl rfl ?_
    obtain ⟨t13, hf⟩ := hf
    obtain ⟨q14, e_q14, hf⟩ := hf
    refine ge_5_0 (pc := 129) X (fun w h => inM w (inG5 w h)) k10 t13 e_q14 dX5_count_129 ?_
    obtain ⟨t15, hf⟩ := hf
    refine v_callVI (pc := 132) X (As := []) (rest := []) (c_X2_statementsAtWork l D cA L sh q14 h _ hf) (cwV 0 X.ht (gwV inM q_390 q_391 q_392 q_2 q_393) rfl rfl rfl (by decide +kernel) ⟨Nat.le_of_ble_eq_true rfl, Nat.le_of_ble_eq_true rfl⟩) rfl (by decide) t15 (ent_2 t15) rfl rfl (Nat.le_of_ble_eq_true rfl) ⟨Nat.zero_le _, Nat.zero_le _⟩ dX5_count_132 (fun r16 h17 hf => ?_)
    exact v_iret (pc := 135) X hr hlk dX5_count_135 hf
  replace hf := if_f c3 hf
  by_cases c4 : p1 = (4 : Int32)
  · replace hf := if_t c4 hf
    refine v_tableIn (pc := 1) X (off := 135) 136 dX5_count_1 (by rw [c4]; decide) (by rw [c4]; decide) (by rw [c4]; decide) (by decide) ?_
    refine v_aload_n (pc := 136) X 0 dX5_count_136 rfl rfl ?_
    obtain ⟨t18, hf⟩ := hf
    obtain ⟨v19, e_v19, hf⟩ := hf
    refine ge_5_5 (pc := 137) X (fun w h => inM w (inG5 w h)) k33 t18 e_v19 dX5_count_137 ?_
    exact v_iret (pc := 140) X hr hlk dX5_count_140 hf
  replace hf := if_f c4 hf
  by_cases c5 : p1 = (5 : Int32)
  · replace hf := if_t c5 hf
    refine v_tableIn (pc := 1) X (off := 140) 141 dX5_count_1 (by rw [c5]; decide) (by rw [c5]; decide) (by rw [c5]; decide) (by decide) ?_
    refine v_aload_n (pc := 141) X 0 dX5_count_141 rfl rfl ?_
    obtain ⟨t20, hf⟩ := hf
    obtain ⟨q21, e_q21, hf⟩ := hf
    refine ge_5_6 (pc := 142) X (fun w h => inM w (inG5 w h)) k40 t20 e_q21 dX5_count_142 ?_
    obtain ⟨t22, hf⟩ := hf
    obtain ⟨v23, e_v23, hf⟩ := hf
    refine ge_3_1 (pc := 145) X (fun w h => inM w (inG3 w h)) k185 t22 e_v23 dX5_count_145 ?_
    exact v_iret (pc := 148) X hr hlk dX5_count_148 hf
  replace hf := if_f c5 hf
  by_cases c6 : p1 = (6 : Int32)
  · replace hf := if_t c6 hf
    refine v_tableIn (pc := 1) X (off := 148) 149 dX5_count_1 (by rw [c6]; decide) (by rw [c6]; decide) (by rw [c6]; decide) (by decide) ?_
    refine v_aload_n (pc := 149) X 0 dX5_count_149 rfl rfl ?_
    obtain ⟨t24, hf⟩ := hf
    obtain ⟨v25, e_v25, hf⟩ := hf
    refine ge_5_3 (pc := 150) X (fun w h => inM w (inG5 w h)) k25 t24 e_v25 dX5_count_150 ?_
    refine v_if_eq (pc := 153) X 160 dX5_count_153 (by decide) (fun c => ?_) (fun c => ?_)
    · replace hf := if_t c hf
      refine v_iconst (pc := 160) X (v := (0 : Int32)) dX5_count_160 (by decide) ?_
      exact v_iret (pc := 161) X hr hlk dX5_count_161 hf
    · replace hf := if_f c hf
      refine v_iconst (pc := 156) X (v := (1 : Int32)) dX5_count_156 (by decide) ?_
      refine v_goto (pc := 157) X 161 dX5_count_157 (by decide) ?_
      exact v_iret (pc := 161) X hr hlk dX5_count_161 hf
  replace hf := if_f c6 hf
  by_cases c7 : p1 = (7 : Int32)
  · replace hf := if_t c7 hf
    refine v_tableIn (pc := 1) X (off := 161) 162 dX5_count_1 (by rw [c7]; decide) (by rw [c7]; decide) (by rw [c7]; decide) (by decide) ?_
    refine v_aload_n (pc := 162) X 0 dX5_count_162 rfl rfl ?_
    obtain ⟨t26, hf⟩ := hf
    obtain ⟨q27, e_q27, hf⟩ := hf
    refine ge_5_0 (pc := 163) X (fun w h => inM w (inG5 w h)) k10 t26 e_q27 dX5_count_163 ?_
    obtain ⟨t28, hf⟩ := hf
    refine v_callVI (pc := 166) X (As := []) (rest := []) (c_X2_tablesThatCanChange l D cA L sh q27 h _ hf) (cwV 0 X.ht (gwV inM q_395 q_396 q_397 q_2 q_398) rfl rfl rfl (by decide +kernel) ⟨Nat.le_of_ble_eq_true rfl, Nat.le_of_ble_eq_true rfl⟩) rfl (by decide) t28 (ent_2 t28) rfl rfl (Nat.le_of_ble_eq_true rfl) ⟨Nat.zero_le _, Nat.zero_le _⟩ dX5_count_166 (fun r29 h30 hf => ?_)
    exact v_iret (pc := 169) X hr hlk dX5_count_169 hf
  replace hf := if_f c7 hf
  by_cases c8 : p1 = (8 : Int32)
  · replace hf := if_t c8 hf
    refine v_tableIn (pc := 1) X (off := 169) 170 dX5_count_1 (by rw [c8]; decide) (by rw [c8]; decide) (by rw [c8]; decide) (by decide) ?_
    refine v_aload_n (pc := 170) X 0 dX5_count_170 rfl rfl ?_
    obtain ⟨t31, hf⟩ := hf
    obtain ⟨q32, e_q32, hf⟩ := hf
    refine ge_5_0 (pc := 171) X (fun w h => inM w (inG5 w h)) k10 t31 e_q32 dX5_count_171 ?_
    obtain ⟨t33, hf⟩ := hf
    refine v_callVI (pc := 174) X (As := []) (rest := []) (c_X2_loadsOfAll l D cA L sh q32 h _ hf) (cwV 0 X.ht (gwV inM q_399 q_400 q_401 q_2 q_402) rfl rfl rfl (by decide +kernel) ⟨Nat.le_of_ble_eq_true rfl, Nat.le_of_ble_eq_true rfl⟩) rfl (by decide) t33 (ent_2 t33) rfl rfl (Nat.le_of_ble_eq_true rfl) ⟨Nat.zero_le _, Nat.zero_le _⟩ dX5_count_174 (fun r34 h35 hf => ?_)
    exact v_iret (pc := 177) X hr hlk dX5_count_177 hf
  replace hf := if_f c8 hf
  by_cases c9 : p1 = (9 : Int32)
  · replace hf := if_t c9 hf
    refine v_tableIn (pc := 1) X (off := 193) 194 dX5_count_1 (by rw [c9]; decide) (by rw [c9]; decide) (by rw [c9]; decide) (by decide) ?_
    refine v_iconst (pc := 194) X (v := (-1 : Int32)) dX5_count_194 (by decide) ?_
    exact v_iret (pc := 195) X hr hlk dX5_count_195 hf
  replace hf := if_f c9 hf
  by_cases c10 : p1 = (10 : Int32)
  · replace hf := if_t c10 hf
    refine v_tableIn (pc := 1) X (off := 193) 194 dX5_count_1 (by rw [c10]; decide) (by rw [c10]; decide) (by rw [c10]; decide) (by decide) ?_
    refine v_iconst (pc := 194) X (v := (-1 : Int32)) dX5_count_194 (by decide) ?_
    exact v_iret (pc := 195) X hr hlk dX5_count_195 hf
  replace hf := if_f c10 hf
  by_cases c11 : p1 = (11 : Int32)
  · replace hf := if_t c11 hf
    refine v_tableIn (pc := 1) X (off := 193) 194 dX5_count_1 (by rw [c11]; decide) (by rw [c11]; decide) (by rw [c11]; decide) (by decide) ?_
    refine v_iconst (pc := 194) X (v := (-1 : Int32)) dX5_count_194 (by decide) ?_
    exact v_iret (pc := 195) X hr hlk dX5_count_195 hf
  replace hf := if_f c11 hf
  by_cases c12 : p1 = (12 : Int32)
  · replace hf := if_t c12 hf
    refine v_tableIn (pc := 1) X (off := 193) 194 dX5_count_1 (by rw [c12]; decide) (by rw [c12]; decide) (by rw [c12]; decide) (by decide) ?_
    refine v_iconst (pc := 194) X (v := (-1 : Int32)) dX5_count_194 (by decide) ?_
    exact v_iret (pc := 195) X hr hlk dX5_count_195 hf
  replace hf := if_f c12 hf
  by_cases c13 : p1 = (13 : Int32)
  · replace hf := if_t c13 hf
    refine v_tableIn (pc := 1) X (off := 193) 194 dX5_count_1 (by rw [c13]; decide) (by rw [c13]; decide) (by rw [c13]; decide) (by decide) ?_
    refine v_iconst (pc := 194) X (v := (-1 : Int32)) dX5_count_194 (by decide) ?_
    exact v_iret (pc := 195) X hr hlk dX5_count_195 hf
  replace hf := if_f c13 hf
  by_cases c14 : p1 = (14 : Int32)
  · replace hf := if_t c14 hf
    refine v_tableIn (pc := 1) X (off := 193) 194 dX5_count_1 (by rw [c14]; decide) (by rw [c14]; decide) (by rw [c14]; decide) (by decide) ?_
    refine v_iconst (pc := 194) X (v := (-1 : Int32)) dX5_count_194 (by decide) ?_
    exact v_iret (pc := 195) X hr hlk dX5_count_195 hf
  replace hf := if_f c14 hf
  by_cases c15 : p1 = (15 : Int32)
  · replace hf := if_t c15 hf
    refine v_tableIn (pc := 1) X (off := 193) 194 dX5_count_1 (by rw [c15]; decide) (by rw [c15]; decide) (by rw [c15]; decide) (by decide) ?_
    refine v_iconst (pc := 194) X (v := (-1 : Int32)) dX5_count_194 (by decide) ?_
    exact v_iret (pc := 195) X hr hlk dX5_count_195 hf
  replace hf := if_f c15 hf
  by_cases c16 : p1 = (16 : Int32)
  · replace hf := if_t c16 hf
    refine v_tableIn (pc := 1) X (off := 193) 194 dX5_count_1 (by rw [c16]; decide) (by rw [c16]; decide) (by rw [c16]; decide) (by decide) ?_
    refine v_iconst (pc := 194) X (v := (-1 : Int32)) dX5_count_194 (by decide) ?_
    exact v_iret (pc := 195) X hr hlk dX5_count_195 hf
  replace hf := if_f c16 hf
  by_cases c17 : p1 = (17 : Int32)
  · replace hf := if_t c17 hf
    refine v_tableIn (pc := 1) X (off := 193) 194 dX5_count_1 (by rw [c17]; decide) (by rw [c17]; decide) (by rw [c17]; decide) (by decide) ?_
    refine v_iconst (pc := 194) X (v := (-1 : Int32)) dX5_count_194 (by decide) ?_
    exact v_iret (pc := 195) X hr hlk dX5_count_195 hf
  replace hf := if_f c17 hf
  by_cases c18 : p1 = (18 : Int32)
  · replace hf := if_t c18 hf
    refine v_tableIn (pc := 1) X (off := 193) 194 dX5_count_1 (by rw [c18]; decide) (by rw [c18]; decide) (by rw [c18]; decide) (by decide) ?_
    refine v_iconst (pc := 194) X (v := (-1 : Int32)) dX5_count_194 (by decide) ?_
    exact v_iret (pc := 195) X hr hlk dX5_count_195 hf
  replace hf := if_f c18 hf
  by_cases c19 : p1 = (19 : Int32)
  · replace hf := if_t c19 hf
    refine v_tableIn (pc := 1) X (off := 193) 194 dX5_count_1 (by rw [c19]; decide) (by rw [c19]; decide) (by rw [c19]; decide) (by decide) ?_
    refine v_iconst (pc := 194) X (v := (-1 : Int32)) dX5_count_194 (by decide) ?_
    exact v_iret (pc := 195) X hr hlk dX5_count_195 hf
  replace hf := if_f c19 hf
  by_cases c20 : p1 = (20 : Int32)
  · replace hf := if_t c20 hf
    refine v_tableIn (pc := 1) X (off := 177) 178 dX5_count_1 (by rw [c20]; decide) (by rw [c20]; decide) (by rw [c20]; decide) (by decide) ?_
    refine v_aload_n (pc := 178) X 0 dX5_count_178 rfl rfl ?_
    obtain ⟨t36, hf⟩ := hf
    obtain ⟨q37, e_q37, hf⟩ := hf
    refine ge_5_0 (pc := 179) X (fun w h => inM w (inG5 w h)) k10 t36 e_q37 dX5_count_179 ?_
    obtain ⟨t38, hf⟩ := hf
    obtain ⟨v39, e_v39, hf⟩ := hf
    refine ge_2_1 (pc := 182) X (fun w h => inM w (inG2 w h)) k194 t38 e_v39 dX5_count_182 ?_
    exact v_iret (pc := 185) X hr hlk dX5_count_185 hf
  replace hf := if_f c20 hf
  by_cases c21 : p1 = (21 : Int32)
  · replace hf := if_t c21 hf
    refine v_tableIn (pc := 1) X (off := 185) 186 dX5_count_1 (by rw [c21]; decide) (by rw [c21]; decide) (by rw [c21]; decide) (by decide) ?_
    refine v_aload_n (pc := 186) X 0 dX5_count_186 rfl rfl ?_
    obtain ⟨t40, hf⟩ := hf
    obtain ⟨q41, e_q41, hf⟩ := hf
    refine ge_5_0 (pc := 187) X (fun w h => inM w (inG5 w h)) k10 t40 e_q41 dX5_count_187 ?_
    obtain ⟨t42, hf⟩ := hf
    obtain ⟨v43, e_v43, hf⟩ := hf
    refine ge_2_2 (pc := 190) X (fun w h => inM w (inG2 w h)) k197 t42 e_v43 dX5_count_190 ?_
    exact v_iret (pc := 193) X hr hlk dX5_count_193 hf
  replace hf := if_f c21 hf
  refine v_tableOut (pc := 1) X 194 dX5_count_1 (tab_out_0_21 c0 c1 c2 c3 c4 c5 c6 c7 c8 c9 c10 c11 c12 c13 c14 c15 c16 c17 c18 c19 c20 c21) (by decide) ?_
  refine v_iconst (pc := 194) X (v := (-1 : Int32)) dX5_count_194 (by decide) ?_
  exact v_iret (pc := 195) X hr hlk dX5_count_195 hf
set_option maxHeartbeats 4000000 in
set_option maxRecDepth 100000 in
theorem c_X5_noteFault (l : Launch) (D : va_G) (cA : Nat → ClassId) (L : List Nat) (sh : Sh) (a0 : Nat) (p1 : Int32) (p2 : Int32) (p3 : Int32) (h : Hp) (K : Hp → Prop) (hf : f_X5_noteFault sh a0 p1 p2 p3 h K) : Met l yX5_noteFault (wM yX5_noteFault cX5_noteFault 4 none) ({ frames := 0, cells := 0, slots := 0, locals := 0 } : Room) (PreM D cA L sh h [.ref a0, .int p1, .int p2, .int p3]) (QV D cA L sh K) 0 0 (fun q => q ∈ L) := by
  refine met_v (cc := cX5_noteFault) (nL := 4) (ret := none) [(0, .ref a0), (1, .int p1), (2, .int p2), (3, .int p3)] (by decide) rfl (Nat.le_of_ble_eq_true rfl) rfl ?_
  intro p e s0 m below meth c X hr hlk
  have k44 := X.ht _ (inM _ q_192)
  have k47 := X.ht _ (inM _ q_193)
  have k50 := X.ht _ (inM _ q_194)
  unfold f_X5_noteFault at hf
  refine v_aload_n (pc := 0) X 0 dX5_noteFault_0 rfl rfl ?_
  refine v_iload_n (pc := 1) X 1 dX5_noteFault_1 rfl rfl ?_
  obtain ⟨t1, hf⟩ := hf
  obtain ⟨h2, e_h2, hf⟩ := hf
  refine pu_5_7 (pc := 2) X (fun w h => inM w (inG5 w h)) k44 t1 e_h2 dX5_noteFault_2 ?_
  refine v_aload_n (pc := 5) X 0 dX5_noteFault_5 rfl rfl ?_
  refine v_iload_n (pc := 6) X 2 dX5_noteFault_6 rfl rfl ?_
  obtain ⟨h3, e_h3, hf⟩ := hf
  refine pu_5_8 (pc := 7) X (fun w h => inM w (inG5 w h)) k47 t1 e_h3 dX5_noteFault_7 ?_
  refine v_aload_n (pc := 10) X 0 dX5_noteFault_10 rfl rfl ?_
  refine v_iload_n (pc := 11) X 3 dX5_noteFault_11 rfl rfl ?_
  obtain ⟨h4, e_h4, hf⟩ := hf
  refine pu_5_9 (pc := 12) X (fun w h => inM w (inG5 w h)) k50 t1 e_h4 dX5_noteFault_12 ?_
  exact v_vret (pc := 15) X hr hlk dX5_noteFault_15 hf
set_option maxHeartbeats 4000000 in
set_option maxRecDepth 100000 in
theorem w_X5_doCommands_20 {p : Program} {l : Launch} {e : Env} {s0 : State} {m : MethodId} {args : Array Value} {below : List Frame} {meth : Method} {c : Code} {D : va_G} {cA : Nat → ClassId} {L : List Nat} {sh : Sh} (X : Cx p s0 m c args cX5_doCommands 4 (wM yX5_doCommands cX5_doCommands 4 (some .int)) RX5 (fun q => q ∈ L) D cA L sh) (hr : meth.sig.returnType = (some .int)) (hlk : meth.locks = false) (x0 : Nat) (Xc : Hp → Prop) (K : Int32 → Hp → Prop) (hx : ∀  (h1 : Hp), Xc  h1 → V p l e (headSpec (wM yX5_doCommands cX5_doCommands 4 (some .int)) ({ frames := 5, cells := 0, slots := 0, locals := 122 } : Room)).room s0 m args below meth c (MQ below (QI D cA L sh K) args s0 0 0 (fun q => q ∈ L)) (fun q => q ∈ L) 0 0 D cA L sh 4 h1 115 [] []) : ∀ (n : Nat) (s : Int32 × Int32) (h : Hp), lp (b_X5_doCommands_20 sh x0 Xc K) n s h → V p l e (headSpec (wM yX5_doCommands cX5_doCommands 4 (some .int)) ({ frames := 5, cells := 0, slots := 0, locals := 122 } : Room)).room s0 m args below meth c (MQ below (QI D cA L sh K) args s0 0 0 (fun q => q ∈ L)) (fun q => q ∈ L) 0 0 D cA L sh 4 h 20 [(0, .ref x0), (1, .int s.1), (2, .int s.2)] [] := by
  have k19 := X.ht _ (inM _ q_186)
  have k10 := X.ht _ (inM _ q_185)
  have k47 := X.ht _ (inM _ q_193)
  have k40 := X.ht _ (inM _ q_191)
  have k185 := X.ht _ (inM _ q_170)
  have k233 := X.ht _ (inM _ q_172)
  have k236 := X.ht _ (inM _ q_174)
  have k239 := X.ht _ (inM _ q_176)
  have k246 := X.ht _ (inM _ q_178)
  intro n
  induction n with
  | zero => intro s h hf; exact hf.elim
  | succ n ih =>
    intro s h hf
    replace hf : b_X5_doCommands_20 sh x0 Xc K (lp (b_X5_doCommands_20 sh x0 Xc K) n) s h := hf
    unfold b_X5_doCommands_20 at hf
    refine v_iload_n (pc := 20) X 2 dX5_doCommands_20 rfl rfl ?_
    refine v_bipush (pc := 21) X (v := (60 : Int32)) dX5_doCommands_21 (by decide) ?_
    refine v_icmp_ge (pc := 23) X 115 dX5_doCommands_23 (by decide) (fun c => ?_) (fun c => ?_)
    · replace hf := if_t c hf
      refine v_sub [] rfl ?_
      exact hx h hf
    · replace hf := if_f c hf
      refine v_iload_n (pc := 26) X 1 dX5_doCommands_26 rfl rfl ?_
      refine v_aload_n (pc := 27) X 0 dX5_doCommands_27 rfl rfl ?_
      obtain ⟨t8, hf⟩ := hf
      obtain ⟨q9, e_q9, hf⟩ := hf
      refine ge_5_6 (pc := 28) X (fun w h => inM w (inG5 w h)) k40 t8 e_q9 dX5_doCommands_28 ?_
      obtain ⟨t10, hf⟩ := hf
      obtain ⟨v11, e_v11, hf⟩ := hf
      refine ge_3_1 (pc := 31) X (fun w h => inM w (inG3 w h)) k185 t10 e_v11 dX5_doCommands_31 ?_
      refine v_icmp_lt (pc := 34) X 39 dX5_doCommands_34 (by decide) (fun c => ?_) (fun c => ?_)
      · replace hf := if_t c hf
        refine v_aload_n (pc := 39) X 0 dX5_doCommands_39 rfl rfl ?_
        obtain ⟨q12, e_q12, hf⟩ := hf
        refine ge_5_6 (pc := 40) X (fun w h => inM w (inG5 w h)) k40 t8 e_q12 dX5_doCommands_40 ?_
        refine v_iload_n (pc := 43) X 1 dX5_doCommands_43 rfl rfl ?_
        obtain ⟨t13, hf⟩ := hf
        refine v_callVI (pc := 44) X (As := [.int s.1]) (rest := []) (c_X3_readCommand l D cA L sh q12 s.1 h _ hf) (cwV 1 X.ht (gwV inM q_453 q_454 q_455 q_6 q_456) rfl rfl rfl (by decide +kernel) ⟨Nat.le_of_ble_eq_true rfl, Nat.le_of_ble_eq_true rfl⟩) rfl (by decide) t13 (ent_3 t13) rfl rfl (Nat.le_of_ble_eq_true rfl) ⟨Nat.zero_le _, Nat.zero_le _⟩ dX5_doCommands_44 (fun r14 h15 hf => ?_)
        refine v_if_ne (pc := 47) X 59 dX5_doCommands_47 (by decide) (fun c => ?_) (fun c => ?_)
        · replace hf := if_f c hf
          refine v_aload_n (pc := 59) X 0 dX5_doCommands_59 rfl rfl ?_
          obtain ⟨q16, e_q16, hf⟩ := hf
          refine ge_5_1 (pc := 60) X (fun w h => inM w (inG5 w h)) k19 t8 e_q16 dX5_doCommands_60 ?_
          refine v_aload_n (pc := 63) X 0 dX5_doCommands_63 rfl rfl ?_
          obtain ⟨q17, e_q17, hf⟩ := hf
          refine ge_5_6 (pc := 64) X (fun w h => inM w (inG5 w h)) k40 t8 e_q17 dX5_doCommands_64 ?_
          obtain ⟨t18, hf⟩ := hf
          obtain ⟨v19, e_v19, hf⟩ := hf
          refine ge_3_2 (pc := 67) X (fun w h => inM w (inG3 w h)) k233 t18 e_v19 dX5_doCommands_67 ?_
          refine v_aload_n (pc := 70) X 0 dX5_doCommands_70 rfl rfl ?_
          obtain ⟨q20, e_q20, hf⟩ := hf
          refine ge_5_6 (pc := 71) X (fun w h => inM w (inG5 w h)) k40 t8 e_q20 dX5_doCommands_71 ?_
          obtain ⟨t21, hf⟩ := hf
          obtain ⟨v22, e_v22, hf⟩ := hf
          refine ge_3_3 (pc := 74) X (fun w h => inM w (inG3 w h)) k236 t21 e_v22 dX5_doCommands_74 ?_
          refine v_aload_n (pc := 77) X 0 dX5_doCommands_77 rfl rfl ?_
          obtain ⟨q23, e_q23, hf⟩ := hf
          refine ge_5_6 (pc := 78) X (fun w h => inM w (inG5 w h)) k40 t8 e_q23 dX5_doCommands_78 ?_
          obtain ⟨t24, hf⟩ := hf
          obtain ⟨v25, e_v25, hf⟩ := hf
          refine ge_3_4 (pc := 81) X (fun w h => inM w (inG3 w h)) k239 t24 e_v25 dX5_doCommands_81 ?_
          obtain ⟨t26, hf⟩ := hf
          refine v_callVI (pc := 84) X (As := [.int v19, .int v22, .int v25]) (rest := []) (c_X2_obey l D cA L sh q16 v19 v22 v25 h15 _ hf) (cwV 3 X.ht (gwV inM q_467 q_468 q_469 q_2 q_470) rfl rfl rfl (by decide +kernel) ⟨Nat.le_of_ble_eq_true rfl, Nat.le_of_ble_eq_true rfl⟩) rfl (by decide) t26 (ent_2 t26) rfl rfl (Nat.le_of_ble_eq_true rfl) ⟨Nat.zero_le _, Nat.zero_le _⟩ dX5_doCommands_84 (fun r27 h28 hf => ?_)
          refine v_istore_n (pc := 87) X (i := 3) (lv' := [(3, .int r27), (0, .ref x0), (1, .int s.1), (2, .int s.2)]) dX5_doCommands_87 rfl (Nat.le_of_ble_eq_true rfl) rfl ?_
          refine v_iload_n (pc := 88) X 0 dX5_doCommands_88 rfl rfl ?_
          refine v_if_ge (pc := 89) X 101 dX5_doCommands_89 (by decide) (fun c => ?_) (fun c => ?_)
          · replace hf := if_t c hf
            refine v_aload_n (pc := 101) X 1 dX5_doCommands_101 rfl rfl ?_
            obtain ⟨q29, e_q29, hf⟩ := hf
            refine ge_5_6 (pc := 102) X (fun w h => inM w (inG5 w h)) k40 t8 e_q29 dX5_doCommands_102 ?_
            obtain ⟨t30, hf⟩ := hf
            obtain ⟨v31, e_v31, hf⟩ := hf
            refine ge_3_5 (pc := 105) X (fun w h => inM w (inG3 w h)) k246 t30 e_v31 dX5_doCommands_105 ?_
            refine v_istore_n (pc := 108) X (i := 1) (lv' := [(1, .int v31), (3, .int r27), (0, .ref x0), (2, .int s.2)]) dX5_doCommands_108 rfl (Nat.le_of_ble_eq_true rfl) rfl ?_
            refine v_iinc (pc := 109) X 3 (v := s.2 + (1 : Int32)) (lv' := [(2, .int (s.2 + (1 : Int32))), (1, .int v31), (3, .int r27), (0, .ref x0)]) dX5_doCommands_109 rfl rfl (Nat.le_of_ble_eq_true rfl) rfl ?_
            refine v_goto (pc := 112) X 20 dX5_doCommands_112 (by decide) ?_
            refine v_sub [3, 1, 0] rfl ?_
            exact ih (v31, s.2 + (1 : Int32)) h28 hf
          · replace hf := if_f c hf
            refine v_aload_n (pc := 92) X 1 dX5_doCommands_92 rfl rfl ?_
            refine v_iload_n (pc := 93) X 2 dX5_doCommands_93 rfl rfl ?_
            refine v_iconst (pc := 94) X (v := (2 : Int32)) dX5_doCommands_94 (by decide) ?_
            refine v_iload_n (pc := 95) X 0 dX5_doCommands_95 rfl rfl ?_
            refine v_callVV (pc := 96) X (As := [.int s.1, .int (2 : Int32), .int r27]) (rest := []) (c_X5_noteFault l D cA L sh x0 s.1 (2 : Int32) r27 h28 _ hf) (cwV 3 X.ht (gwV inM q_464 q_465 q_747 q_1 q_466) rfl rfl rfl (by decide +kernel) ⟨Nat.le_of_ble_eq_true rfl, Nat.le_of_ble_eq_true rfl⟩) rfl (by decide) t8 (ent_5 t8) rfl rfl (Nat.le_of_ble_eq_true rfl) ⟨Nat.zero_le _, Nat.zero_le _⟩ dX5_doCommands_96 (fun h33 hf => ?_)
            refine v_iload_n (pc := 99) X 3 dX5_doCommands_99 rfl rfl ?_
            exact v_iret (pc := 100) X hr hlk dX5_doCommands_100 hf
        · replace hf := if_t c hf
          refine v_aload_n (pc := 50) X 0 dX5_doCommands_50 rfl rfl ?_
          refine v_iload_n (pc := 51) X 1 dX5_doCommands_51 rfl rfl ?_
          refine v_iconst (pc := 52) X (v := (1 : Int32)) dX5_doCommands_52 (by decide) ?_
          refine v_iconst (pc := 53) X (v := (0 : Int32)) dX5_doCommands_53 (by decide) ?_
          refine v_callVV (pc := 54) X (As := [.int s.1, .int (1 : Int32), .int (0 : Int32)]) (rest := []) (c_X5_noteFault l D cA L sh x0 s.1 (1 : Int32) (0 : Int32) h15 _ hf) (cwV 3 X.ht (gwV inM q_464 q_465 q_747 q_1 q_466) rfl rfl rfl (by decide +kernel) ⟨Nat.le_of_ble_eq_true rfl, Nat.le_of_ble_eq_true rfl⟩) rfl (by decide) t8 (ent_5 t8) rfl rfl (Nat.le_of_ble_eq_true rfl) ⟨Nat.zero_le _, Nat.zero_le _⟩ dX5_doCommands_54 (fun h35 hf => ?_)
          refine v_iload_n (pc := 57) X 2 dX5_doCommands_57 rfl rfl ?_
          exact v_iret (pc := 58) X hr hlk dX5_doCommands_58 hf
      · replace hf := if_f c hf
        refine v_iload_n (pc := 37) X 2 dX5_doCommands_37 rfl rfl ?_
        exact v_iret (pc := 38) X hr hlk dX5_doCommands_38 hf

set_option maxHeartbeats 4000000 in
set_option maxRecDepth 100000 in
theorem c_X5_doCommands (l : Launch) (D : va_G) (cA : Nat → ClassId) (L : List Nat) (sh : Sh) (a0 : Nat) (h : Hp) (K : Int32 → Hp → Prop) (hf : f_X5_doCommands sh a0 h K) : Met l yX5_doCommands (wM yX5_doCommands cX5_doCommands 4 (some .int)) ({ frames := 5, cells := 0, slots := 0, locals := 122 } : Room) (PreM D cA L sh h [.ref a0]) (QI D cA L sh K) 0 0 (fun q => q ∈ L) := by
  refine met_v (cc := cX5_doCommands) (nL := 4) (ret := (some .int)) [(0, .ref a0)] (by decide) rfl (Nat.le_of_ble_eq_true rfl) rfl ?_
  intro p e s0 m below meth c X hr hlk
  have k19 := X.ht _ (inM _ q_186)
  have k10 := X.ht _ (inM _ q_185)
  have k47 := X.ht _ (inM _ q_193)
  have k40 := X.ht _ (inM _ q_191)
  have k185 := X.ht _ (inM _ q_170)
  have k233 := X.ht _ (inM _ q_172)
  have k236 := X.ht _ (inM _ q_174)
  have k239 := X.ht _ (inM _ q_176)
  have k246 := X.ht _ (inM _ q_178)
  unfold f_X5_doCommands at hf
  refine v_aload_n (pc := 0) X 0 dX5_doCommands_0 rfl rfl ?_
  obtain ⟨t1, hf⟩ := hf
  obtain ⟨q2, e_q2, hf⟩ := hf
  refine ge_5_1 (pc := 1) X (fun w h => inM w (inG5 w h)) k19 t1 e_q2 dX5_doCommands_1 ?_
  refine v_aload_n (pc := 4) X 0 dX5_doCommands_4 rfl rfl ?_
  obtain ⟨q3, e_q3, hf⟩ := hf
  refine ge_5_0 (pc := 5) X (fun w h => inM w (inG5 w h)) k10 t1 e_q3 dX5_doCommands_5 ?_
  obtain ⟨t4, hf⟩ := hf
  refine v_callVV (pc := 8) X (As := [.ref q3]) (rest := []) (c_X2_copyFrom l D cA L sh q2 q3 h _ hf) (cwV 1 X.ht (gwV inM q_209 q_210 q_211 q_2 q_212) rfl rfl rfl (by decide +kernel) ⟨Nat.le_of_ble_eq_true rfl, Nat.le_of_ble_eq_true rfl⟩) rfl (by decide) t4 (ent_2 t4) rfl rfl (Nat.le_of_ble_eq_true rfl) ⟨Nat.zero_le _, Nat.zero_le _⟩ dX5_doCommands_8 (fun h6 hf => ?_)
  refine v_aload_n (pc := 11) X 0 dX5_doCommands_11 rfl rfl ?_
  refine v_iconst (pc := 12) X (v := (0 : Int32)) dX5_doCommands_12 (by decide) ?_
  obtain ⟨h7, e_h7, hf⟩ := hf
  refine pu_5_8 (pc := 13) X (fun w h => inM w (inG5 w h)) k47 t1 e_h7 dX5_doCommands_13 ?_
  refine v_iconst (pc := 16) X (v := (0 : Int32)) dX5_doCommands_16 (by decide) ?_
  refine v_istore_n (pc := 17) X (i := 1) (lv' := [(1, .int (0 : Int32)), (0, .ref a0)]) dX5_doCommands_17 rfl (Nat.le_of_ble_eq_true rfl) rfl ?_
  refine v_iconst (pc := 18) X (v := (0 : Int32)) dX5_doCommands_18 (by decide) ?_
  refine v_istore_n (pc := 19) X (i := 2) (lv' := [(2, .int (0 : Int32)), (1, .int (0 : Int32)), (0, .ref a0)]) dX5_doCommands_19 rfl (Nat.le_of_ble_eq_true rfl) rfl ?_
  obtain ⟨n, hf⟩ := hf
  refine v_sub [2, 1, 0] rfl ?_
  refine w_X5_doCommands_20 X hr hlk a0 _ K (fun  h36 hf => ?_) n ((0 : Int32), (0 : Int32)) h7 hf
  refine v_bipush (pc := 115) X (v := (60 : Int32)) dX5_doCommands_115 (by decide) ?_
  exact v_iret (pc := 117) X hr hlk dX5_doCommands_117 hf
set_option maxHeartbeats 4000000 in
set_option maxRecDepth 100000 in
theorem c_X5_end (l : Launch) (D : va_G) (cA : Nat → ClassId) (L : List Nat) (sh : Sh) (a0 : Nat) (p1 : Int32) (h : Hp) (K : Int32 → Hp → Prop) (hf : f_X5_end sh a0 p1 h K) : Met l yX5_end (wM yX5_end cX5_end 2 (some .int)) ({ frames := 4, cells := 0, slots := 0, locals := 94 } : Room) (PreM D cA L sh h [.ref a0, .int p1]) (QI D cA L sh K) 0 0 (fun q => q ∈ L) := by
  refine met_v (cc := cX5_end) (nL := 2) (ret := (some .int)) [(0, .ref a0), (1, .int p1)] (by decide) rfl (Nat.le_of_ble_eq_true rfl) rfl ?_
  intro p e s0 m below meth c X hr hlk
  have k19 := X.ht _ (inM _ q_186)
  have k10 := X.ht _ (inM _ q_185)
  unfold f_X5_end at hf
  refine v_aload_n (pc := 0) X 0 dX5_end_0 rfl rfl ?_
  obtain ⟨t1, hf⟩ := hf
  obtain ⟨q2, e_q2, hf⟩ := hf
  refine ge_5_1 (pc := 1) X (fun w h => inM w (inG5 w h)) k19 t1 e_q2 dX5_end_1 ?_
  refine v_aload_n (pc := 4) X 0 dX5_end_4 rfl rfl ?_
  obtain ⟨q3, e_q3, hf⟩ := hf
  refine ge_5_0 (pc := 5) X (fun w h => inM w (inG5 w h)) k10 t1 e_q3 dX5_end_5 ?_
  obtain ⟨t4, hf⟩ := hf
  refine v_callVV (pc := 8) X (As := [.ref q3]) (rest := []) (c_X2_copyFrom l D cA L sh q2 q3 h _ hf) (cwV 1 X.ht (gwV inM q_209 q_210 q_211 q_2 q_212) rfl rfl rfl (by decide +kernel) ⟨Nat.le_of_ble_eq_true rfl, Nat.le_of_ble_eq_true rfl⟩) rfl (by decide) t4 (ent_2 t4) rfl rfl (Nat.le_of_ble_eq_true rfl) ⟨Nat.zero_le _, Nat.zero_le _⟩ dX5_end_8 (fun h6 hf => ?_)
  refine v_aload_n (pc := 11) X 0 dX5_end_11 rfl rfl ?_
  refine v_aload_n (pc := 12) X 0 dX5_end_12 rfl rfl ?_
  obtain ⟨q7, e_q7, hf⟩ := hf
  refine ge_5_1 (pc := 13) X (fun w h => inM w (inG5 w h)) k19 t1 e_q7 dX5_end_13 ?_
  refine v_iload_n (pc := 16) X 1 dX5_end_16 rfl rfl ?_
  obtain ⟨t8, hf⟩ := hf
  refine v_callVI (pc := 17) X (As := [.int p1]) (rest := [.ref a0]) (c_X2_finish l D cA L sh q7 p1 h6 _ hf) (cwV 1 X.ht (gwV inM q_301 q_302 q_303 q_2 q_304) rfl rfl rfl (by decide +kernel) ⟨Nat.le_of_ble_eq_true rfl, Nat.le_of_ble_eq_true rfl⟩) rfl (by decide) t8 (ent_2 t8) rfl rfl (Nat.le_of_ble_eq_true rfl) ⟨Nat.zero_le _, Nat.zero_le _⟩ dX5_end_17 (fun r9 h10 hf => ?_)
  refine v_callVI (pc := 20) X (As := [.int r9]) (rest := []) (c_X5_settle l D cA L sh a0 r9 h10 _ hf) (cwV 1 X.ht (gwV inM q_251 q_252 q_738 q_1 q_253) rfl rfl rfl (by decide +kernel) ⟨Nat.le_of_ble_eq_true rfl, Nat.le_of_ble_eq_true rfl⟩) rfl (by decide) t1 (ent_5 t1) rfl rfl (Nat.le_of_ble_eq_true rfl) ⟨Nat.zero_le _, Nat.zero_le _⟩ dX5_end_20 (fun r11 h12 hf => ?_)
  exact v_iret (pc := 23) X hr hlk dX5_end_23 hf
set_option maxHeartbeats 4000000 in
set_option maxRecDepth 100000 in
theorem c_X5_entry (l : Launch) (D : va_G) (cA : Nat → ClassId) (L : List Nat) (sh : Sh) (a0 : Nat) (p1 : Int32) (p2 : Int32) (p3 : Int32) (h : Hp) (K : Int32 → Hp → Prop) (hf : f_X5_entry sh a0 p1 p2 p3 h K) : Met l yX5_entry (wM yX5_entry cX5_entry 6 (some .int)) ({ frames := 0, cells := 0, slots := 0, locals := 0 } : Room) (PreM D cA L sh h [.ref a0, .int p1, .int p2, .int p3]) (QI D cA L sh K) 0 0 (fun q => q ∈ L) := by
  refine met_v (cc := cX5_entry) (nL := 6) (ret := (some .int)) [(0, .ref a0), (1, .int p1), (2, .int p2), (3, .int p3)] (by decide) rfl (Nat.le_of_ble_eq_true rfl) rfl ?_
  intro p e s0 m below meth c X hr hlk
  have k10 := X.ht _ (inM _ q_185)
  have k94 := X.ht _ (inM _ q_139)
  have k107 := X.ht _ (inM _ q_104)
  have k131 := X.ht _ (inM _ q_106)
  have k135 := X.ht _ (inM _ q_40)
  have k140 := X.ht _ (inM _ q_44)
  have k142 := X.ht _ (inM _ q_47)
  have k144 := X.ht _ (inM _ q_50)
  have k147 := X.ht _ (inM _ q_53)
  have k150 := X.ht _ (inM _ q_56)
  unfold f_X5_entry at hf
  refine v_iload_n (pc := 0) X 1 dX5_entry_0 rfl rfl ?_
  refine v_if_lt (pc := 1) X 22 dX5_entry_1 (by decide) (fun c => ?_) (fun c => ?_)
  · replace hf := if_t c hf
    refine v_iconst (pc := 22) X (v := (-1 : Int32)) dX5_entry_22 (by decide) ?_
    exact v_iret (pc := 23) X hr hlk dX5_entry_23 hf
  · replace hf := if_f c hf
    refine v_iload_n (pc := 4) X 1 dX5_entry_4 rfl rfl ?_
    refine v_iconst (pc := 5) X (v := (4 : Int32)) dX5_entry_5 (by decide) ?_
    refine v_icmp_ge (pc := 6) X 22 dX5_entry_6 (by decide) (fun c => ?_) (fun c => ?_)
    · replace hf := if_t c hf
      refine v_iconst (pc := 22) X (v := (-1 : Int32)) dX5_entry_22 (by decide) ?_
      exact v_iret (pc := 23) X hr hlk dX5_entry_23 hf
    · replace hf := if_f c hf
      refine v_iload_n (pc := 9) X 2 dX5_entry_9 rfl rfl ?_
      refine v_if_lt (pc := 10) X 22 dX5_entry_10 (by decide) (fun c => ?_) (fun c => ?_)
      · replace hf := if_t c hf
        refine v_iconst (pc := 22) X (v := (-1 : Int32)) dX5_entry_22 (by decide) ?_
        exact v_iret (pc := 23) X hr hlk dX5_entry_23 hf
      · replace hf := if_f c hf
        refine v_iload_n (pc := 13) X 3 dX5_entry_13 rfl rfl ?_
        refine v_if_lt (pc := 14) X 22 dX5_entry_14 (by decide) (fun c => ?_) (fun c => ?_)
        · replace hf := if_t c hf
          refine v_iconst (pc := 22) X (v := (-1 : Int32)) dX5_entry_22 (by decide) ?_
          exact v_iret (pc := 23) X hr hlk dX5_entry_23 hf
        · replace hf := if_f c hf
          refine v_iload_n (pc := 17) X 3 dX5_entry_17 rfl rfl ?_
          refine v_iconst (pc := 18) X (v := (5 : Int32)) dX5_entry_18 (by decide) ?_
          refine v_icmp_le (pc := 19) X 24 dX5_entry_19 (by decide) (fun c => ?_) (fun c => ?_)
          · replace hf := if_t c hf
            refine v_aload_n (pc := 24) X 0 dX5_entry_24 rfl rfl ?_
            obtain ⟨t1, hf⟩ := hf
            obtain ⟨q2, e_q2, hf⟩ := hf
            refine ge_5_0 (pc := 25) X (fun w h => inM w (inG5 w h)) k10 t1 e_q2 dX5_entry_25 ?_
            obtain ⟨t3, hf⟩ := hf
            obtain ⟨q4, e_q4, hf⟩ := hf
            refine ge_2_11 (pc := 28) X (fun w h => inM w (inG2 w h)) k94 t3 e_q4 dX5_entry_28 ?_
            refine v_iload_n (pc := 31) X 1 dX5_entry_31 rfl rfl ?_
            obtain ⟨t5, hf⟩ := hf
            obtain ⟨b7, q6, e_q6, hf⟩ := hf
            refine v_aald_9 (pc := 32) X t5 b7 e_q6 dX5_entry_32 ?_
            refine v_astore (pc := 33) X (i := 4) (lv' := [(4, .ref q6), (0, .ref a0), (1, .int p1), (2, .int p2), (3, .int p3)]) dX5_entry_33 (Nat.le_of_ble_eq_true rfl) rfl ?_
            refine v_iload_n (pc := 35) X 3 dX5_entry_35 rfl rfl ?_
            refine v_aload (pc := 36) X 0 dX5_entry_36 rfl ?_
            obtain ⟨t8, hf⟩ := hf
            obtain ⟨v9, e_v9, hf⟩ := hf
            refine ge_1_6 (pc := 38) X (fun w h => inM w (inG1 w h)) k107 t8 e_v9 dX5_entry_38 ?_
            refine v_icmp_lt (pc := 41) X 47 dX5_entry_41 (by decide) (fun c => ?_) (fun c => ?_)
            · replace hf := if_t c hf
              refine v_aload (pc := 47) X 0 dX5_entry_47 rfl ?_
              obtain ⟨q10, e_q10, hf⟩ := hf
              refine ge_1_7 (pc := 49) X (fun w h => inM w (inG1 w h)) k131 t8 e_q10 dX5_entry_49 ?_
              refine v_iload_n (pc := 52) X 3 dX5_entry_52 rfl rfl ?_
              obtain ⟨t11, hf⟩ := hf
              obtain ⟨b13, q12, e_q12, hf⟩ := hf
              refine v_aald_8 (pc := 53) X t11 b13 e_q12 dX5_entry_53 ?_
              refine v_astore (pc := 54) X (i := 5) (lv' := [(5, .ref q12), (4, .ref q6), (0, .ref a0), (1, .int p1), (2, .int p2), (3, .int p3)]) dX5_entry_54 (Nat.le_of_ble_eq_true rfl) rfl ?_
              refine v_iload_n (pc := 56) X 5 dX5_entry_56 rfl rfl ?_
              by_cases c0 : p3 = (0 : Int32)
              · replace hf := if_t c0 hf
                refine v_tableIn (pc := 57) X (off := 35) 92 dX5_entry_57 (by rw [c0]; decide) (by rw [c0]; decide) (by rw [c0]; decide) (by decide) ?_
                refine v_aload (pc := 92) X 0 dX5_entry_92 rfl ?_
                obtain ⟨t14, hf⟩ := hf
                obtain ⟨v15, e_v15, hf⟩ := hf
                refine ge_0_0 (pc := 94) X (fun w h => inM w (inG0 w h)) k135 t14 e_v15 dX5_entry_94 ?_
                exact v_iret (pc := 97) X hr hlk dX5_entry_97 hf
              replace hf := if_f c0 hf
              by_cases c1 : p3 = (1 : Int32)
              · replace hf := if_t c1 hf
                refine v_tableIn (pc := 57) X (off := 41) 98 dX5_entry_57 (by rw [c1]; decide) (by rw [c1]; decide) (by rw [c1]; decide) (by decide) ?_
                refine v_aload (pc := 98) X 0 dX5_entry_98 rfl ?_
                obtain ⟨t16, hf⟩ := hf
                obtain ⟨v17, e_v17, hf⟩ := hf
                refine ge_0_1 (pc := 100) X (fun w h => inM w (inG0 w h)) k140 t16 e_v17 dX5_entry_100 ?_
                exact v_iret (pc := 103) X hr hlk dX5_entry_103 hf
              replace hf := if_f c1 hf
              by_cases c2 : p3 = (2 : Int32)
              · replace hf := if_t c2 hf
                refine v_tableIn (pc := 57) X (off := 47) 104 dX5_entry_57 (by rw [c2]; decide) (by rw [c2]; decide) (by rw [c2]; decide) (by decide) ?_
                refine v_aload (pc := 104) X 0 dX5_entry_104 rfl ?_
                obtain ⟨t18, hf⟩ := hf
                obtain ⟨v19, e_v19, hf⟩ := hf
                refine ge_0_2 (pc := 106) X (fun w h => inM w (inG0 w h)) k142 t18 e_v19 dX5_entry_106 ?_
                exact v_iret (pc := 109) X hr hlk dX5_entry_109 hf
              replace hf := if_f c2 hf
              by_cases c3 : p3 = (3 : Int32)
              · replace hf := if_t c3 hf
                refine v_tableIn (pc := 57) X (off := 53) 110 dX5_entry_57 (by rw [c3]; decide) (by rw [c3]; decide) (by rw [c3]; decide) (by decide) ?_
                refine v_aload (pc := 110) X 0 dX5_entry_110 rfl ?_
                obtain ⟨t20, hf⟩ := hf
                obtain ⟨v21, e_v21, hf⟩ := hf
                refine ge_0_3 (pc := 112) X (fun w h => inM w (inG0 w h)) k144 t20 e_v21 dX5_entry_112 ?_
                exact v_iret (pc := 115) X hr hlk dX5_entry_115 hf
              replace hf := if_f c3 hf
              by_cases c4 : p3 = (4 : Int32)
              · replace hf := if_t c4 hf
                refine v_tableIn (pc := 57) X (off := 59) 116 dX5_entry_57 (by rw [c4]; decide) (by rw [c4]; decide) (by rw [c4]; decide) (by decide) ?_
                refine v_aload (pc := 116) X 0 dX5_entry_116 rfl ?_
                obtain ⟨t22, hf⟩ := hf
                obtain ⟨v23, e_v23, hf⟩ := hf
                refine ge_0_4 (pc := 118) X (fun w h => inM w (inG0 w h)) k147 t22 e_v23 dX5_entry_118 ?_
                exact v_iret (pc := 121) X hr hlk dX5_entry_121 hf
              replace hf := if_f c4 hf
              refine v_tableOut (pc := 57) X 122 dX5_entry_57 (tab_out_0_4 c0 c1 c2 c3 c4) (by decide) ?_
              refine v_aload (pc := 122) X 0 dX5_entry_122 rfl ?_
              obtain ⟨t24, hf⟩ := hf
              obtain ⟨v25, e_v25, hf⟩ := hf
              refine ge_0_5 (pc := 124) X (fun w h => inM w (inG0 w h)) k150 t24 e_v25 dX5_entry_124 ?_
              refine v_if_eq (pc := 127) X 134 dX5_entry_127 (by decide) (fun c => ?_) (fun c => ?_)
              · replace hf := if_t c hf
                refine v_iconst (pc := 134) X (v := (0 : Int32)) dX5_entry_134 (by decide) ?_
                exact v_iret (pc := 135) X hr hlk dX5_entry_135 hf
              · replace hf := if_f c hf
                refine v_iconst (pc := 130) X (v := (1 : Int32)) dX5_entry_130 (by decide) ?_
                refine v_goto (pc := 131) X 135 dX5_entry_131 (by decide) ?_
                exact v_iret (pc := 135) X hr hlk dX5_entry_135 hf
            · replace hf := if_f c hf
              refine v_bipush (pc := 44) X (v := (-4 : Int32)) dX5_entry_44 (by decide) ?_
              exact v_iret (pc := 46) X hr hlk dX5_entry_46 hf
          · replace hf := if_f c hf
            refine v_iconst (pc := 22) X (v := (-1 : Int32)) dX5_entry_22 (by decide) ?_
            exact v_iret (pc := 23) X hr hlk dX5_entry_23 hf
set_option maxHeartbeats 4000000 in
set_option maxRecDepth 100000 in
theorem c_X5_fault (l : Launch) (D : va_G) (cA : Nat → ClassId) (L : List Nat) (sh : Sh) (a0 : Nat) (p1 : Int32) (h : Hp) (K : Int32 → Hp → Prop) (hf : f_X5_fault sh a0 p1 h K) : Met l yX5_fault (wM yX5_fault cX5_fault 2 (some .int)) ({ frames := 6, cells := 0, slots := 0, locals := 145 } : Room) (PreM D cA L sh h [.ref a0, .int p1]) (QI D cA L sh K) 0 0 (fun q => q ∈ L) := by
  refine met_v (cc := cX5_fault) (nL := 2) (ret := (some .int)) [(0, .ref a0), (1, .int p1)] (by decide) rfl (Nat.le_of_ble_eq_true rfl) rfl ?_
  intro p e s0 m below meth c X hr hlk
  have k47 := X.ht _ (inM _ q_193)
  have k44 := X.ht _ (inM _ q_192)
  have k50 := X.ht _ (inM _ q_194)
  unfold f_X5_fault at hf
  refine v_iload_n (pc := 0) X 1 dX5_fault_0 rfl rfl ?_
  refine v_if_lt (pc := 1) X 9 dX5_fault_1 (by decide) (fun c => ?_) (fun c => ?_)
  · replace hf := if_t c hf
    refine v_iconst (pc := 9) X (v := (-1 : Int32)) dX5_fault_9 (by decide) ?_
    exact v_iret (pc := 10) X hr hlk dX5_fault_10 hf
  · replace hf := if_f c hf
    refine v_iload_n (pc := 4) X 1 dX5_fault_4 rfl rfl ?_
    refine v_iconst (pc := 5) X (v := (2 : Int32)) dX5_fault_5 (by decide) ?_
    refine v_icmp_le (pc := 6) X 11 dX5_fault_6 (by decide) (fun c => ?_) (fun c => ?_)
    · replace hf := if_t c hf
      refine v_aload_n (pc := 11) X 0 dX5_fault_11 rfl rfl ?_
      obtain ⟨t1, hf⟩ := hf
      refine v_callVI (pc := 12) X (As := []) (rest := []) (c_X5_doCommands l D cA L sh a0 h _ hf) (cwV 0 X.ht (gwV inM q_450 q_451 q_744 q_1 q_452) rfl rfl rfl (by decide +kernel) ⟨Nat.le_of_ble_eq_true rfl, Nat.le_of_ble_eq_true rfl⟩) rfl (by decide) t1 (ent_5 t1) rfl rfl (Nat.le_of_ble_eq_true rfl) ⟨Nat.zero_le _, Nat.zero_le _⟩ dX5_fault_12 (fun r2 h3 hf => ?_)
      refine v_pop (pc := 15) X dX5_fault_15 rfl ?_
      refine v_aload_n (pc := 16) X 0 dX5_fault_16 rfl rfl ?_
      obtain ⟨v4, e_v4, hf⟩ := hf
      refine ge_5_8 (pc := 17) X (fun w h => inM w (inG5 w h)) k47 t1 e_v4 dX5_fault_17 ?_
      refine v_if_ne (pc := 20) X 26 dX5_fault_20 (by decide) (fun c => ?_) (fun c => ?_)
      · replace hf := if_f c hf
        refine v_iload_n (pc := 26) X 1 dX5_fault_26 rfl rfl ?_
        by_cases c0 : p1 = (0 : Int32)
        · replace hf := if_t c0 hf
          refine v_lookup (pc := 27) X (off := 25) 52 dX5_fault_27 (by decide) (by rw [c0]; decide) (by decide) ?_
          refine v_aload_n (pc := 52) X 0 dX5_fault_52 rfl rfl ?_
          obtain ⟨v5, e_v5, hf⟩ := hf
          refine ge_5_7 (pc := 53) X (fun w h => inM w (inG5 w h)) k44 t1 e_v5 dX5_fault_53 ?_
          exact v_iret (pc := 56) X hr hlk dX5_fault_56 hf
        replace hf := if_f c0 hf
        by_cases c1 : p1 = (1 : Int32)
        · replace hf := if_t c1 hf
          refine v_lookup (pc := 27) X (off := 30) 57 dX5_fault_27 (by decide) (by rw [c1]; decide) (by decide) ?_
          refine v_aload_n (pc := 57) X 0 dX5_fault_57 rfl rfl ?_
          obtain ⟨v6, e_v6, hf⟩ := hf
          refine ge_5_8 (pc := 58) X (fun w h => inM w (inG5 w h)) k47 t1 e_v6 dX5_fault_58 ?_
          exact v_iret (pc := 61) X hr hlk dX5_fault_61 hf
        replace hf := if_f c1 hf
        refine v_lookup (pc := 27) X (off := 35) 62 dX5_fault_27 (by decide) (by show Op.lookupswitch.offset [(0, 25), (1, 30)] _ _ = _; rw [lv_osw c0 (by decide), lv_osw c1 (by decide)]; rfl) (by decide) ?_
        refine v_aload_n (pc := 62) X 0 dX5_fault_62 rfl rfl ?_
        obtain ⟨v7, e_v7, hf⟩ := hf
        refine ge_5_8 (pc := 63) X (fun w h => inM w (inG5 w h)) k47 t1 e_v7 dX5_fault_63 ?_
        refine v_iconst (pc := 66) X (v := (2 : Int32)) dX5_fault_66 (by decide) ?_
        refine v_icmp_ne (pc := 67) X 77 dX5_fault_67 (by decide) (fun c => ?_) (fun c => ?_)
        · replace hf := if_f c hf
          refine v_bipush (pc := 77) X (v := (-4 : Int32)) dX5_fault_77 (by decide) ?_
          exact v_iret (pc := 79) X hr hlk dX5_fault_79 hf
        · replace hf := if_t c hf
          refine v_aload_n (pc := 70) X 0 dX5_fault_70 rfl rfl ?_
          obtain ⟨v8, e_v8, hf⟩ := hf
          refine ge_5_9 (pc := 71) X (fun w h => inM w (inG5 w h)) k50 t1 e_v8 dX5_fault_71 ?_
          refine v_goto (pc := 74) X 79 dX5_fault_74 (by decide) ?_
          exact v_iret (pc := 79) X hr hlk dX5_fault_79 hf
      · replace hf := if_t c hf
        refine v_bipush (pc := 23) X (v := (-4 : Int32)) dX5_fault_23 (by decide) ?_
        exact v_iret (pc := 25) X hr hlk dX5_fault_25 hf
    · replace hf := if_f c hf
      refine v_iconst (pc := 9) X (v := (-1 : Int32)) dX5_fault_9 (by decide) ?_
      exact v_iret (pc := 10) X hr hlk dX5_fault_10 hf
set_option maxHeartbeats 4000000 in
set_option maxRecDepth 100000 in
theorem w_X5_inTheWay_17 {p : Program} {l : Launch} {e : Env} {s0 : State} {m : MethodId} {args : Array Value} {below : List Frame} {meth : Method} {c : Code} {D : va_G} {cA : Nat → ClassId} {L : List Nat} {sh : Sh} (X : Cx p s0 m c args cX5_inTheWay 5 (wM yX5_inTheWay cX5_inTheWay 5 (some .int)) RX5 (fun q => q ∈ L) D cA L sh) (hr : meth.sig.returnType = (some .int)) (hlk : meth.locks = false) (x0 : Nat) (x1 : Int32) (Xc : Int32 → Hp → Prop) (K : Int32 → Hp → Prop) (hx : ∀ (y2 : Int32) (h1 : Hp), Xc y2 h1 → V p l e (headSpec (wM yX5_inTheWay cX5_inTheWay 5 (some .int)) ({ frames := 2, cells := 0, slots := 0, locals := 47 } : Room)).room s0 m args below meth c (MQ below (QI D cA L sh K) args s0 0 0 (fun q => q ∈ L)) (fun q => q ∈ L) 0 0 D cA L sh 5 h1 70 [(2, .int y2)] []) : ∀ (n : Nat) (s : Int32 × Int32) (h : Hp), lp (b_X5_inTheWay_17 sh x0 x1 Xc) n s h → V p l e (headSpec (wM yX5_inTheWay cX5_inTheWay 5 (some .int)) ({ frames := 2, cells := 0, slots := 0, locals := 47 } : Room)).room s0 m args below meth c (MQ below (QI D cA L sh K) args s0 0 0 (fun q => q ∈ L)) (fun q => q ∈ L) 0 0 D cA L sh 5 h 17 [(0, .ref x0), (1, .int x1), (2, .int s.1), (3, .int s.2)] [] := by
  have k10 := X.ht _ (inM _ q_185)
  have k94 := X.ht _ (inM _ q_139)
  have k77 := X.ht _ (inM _ q_124)
  intro n
  induction n with
  | zero => intro s h hf; exact hf.elim
  | succ n ih =>
    intro s h hf
    replace hf : b_X5_inTheWay_17 sh x0 x1 Xc (lp (b_X5_inTheWay_17 sh x0 x1 Xc) n) s h := hf
    unfold b_X5_inTheWay_17 at hf
    refine v_iload_n (pc := 17) X 3 dX5_inTheWay_17 rfl rfl ?_
    refine v_iconst (pc := 18) X (v := (4 : Int32)) dX5_inTheWay_18 (by decide) ?_
    refine v_icmp_ge (pc := 19) X 70 dX5_inTheWay_19 (by decide) (fun c => ?_) (fun c => ?_)
    · replace hf := if_t c hf
      refine v_sub [2] rfl ?_
      exact hx s.1 h hf
    · replace hf := if_f c hf
      refine v_aload_n (pc := 22) X 0 dX5_inTheWay_22 rfl rfl ?_
      obtain ⟨t1, hf⟩ := hf
      obtain ⟨q2, e_q2, hf⟩ := hf
      refine ge_5_0 (pc := 23) X (fun w h => inM w (inG5 w h)) k10 t1 e_q2 dX5_inTheWay_23 ?_
      obtain ⟨t3, hf⟩ := hf
      obtain ⟨q4, e_q4, hf⟩ := hf
      refine ge_2_11 (pc := 26) X (fun w h => inM w (inG2 w h)) k94 t3 e_q4 dX5_inTheWay_26 ?_
      refine v_iload_n (pc := 29) X 3 dX5_inTheWay_29 rfl rfl ?_
      obtain ⟨t5, hf⟩ := hf
      obtain ⟨b7, q6, e_q6, hf⟩ := hf
      refine v_aald_9 (pc := 30) X t5 b7 e_q6 dX5_inTheWay_30 ?_
      refine v_iload_n (pc := 31) X 1 dX5_inTheWay_31 rfl rfl ?_
      refine v_aload_n (pc := 32) X 0 dX5_inTheWay_32 rfl rfl ?_
      obtain ⟨q8, e_q8, hf⟩ := hf
      refine ge_5_0 (pc := 33) X (fun w h => inM w (inG5 w h)) k10 t1 e_q8 dX5_inTheWay_33 ?_
      obtain ⟨t9, hf⟩ := hf
      obtain ⟨q10, e_q10, hf⟩ := hf
      refine ge_2_3 (pc := 36) X (fun w h => inM w (inG2 w h)) k77 t9 e_q10 dX5_inTheWay_36 ?_
      refine v_iload_n (pc := 39) X 1 dX5_inTheWay_39 rfl rfl ?_
      obtain ⟨t11, hf⟩ := hf
      obtain ⟨b13, v12, e_v12, hf⟩ := hf
      refine v_iald (pc := 40) X t11 b13 e_v12 dX5_inTheWay_40 ?_
      obtain ⟨t14, hf⟩ := hf
      refine v_callVI (pc := 41) X (As := [.int x1, .int v12]) (rest := []) (c_X1_lowestBehind l D cA L sh q6 x1 v12 h _ hf) (cwV 2 X.ht (gwV inM q_411 q_412 q_413 q_3 q_414) rfl rfl rfl (by decide +kernel) ⟨Nat.le_of_ble_eq_true rfl, Nat.le_of_ble_eq_true rfl⟩) rfl (by decide) t14 (ent_1 t14) rfl rfl (Nat.le_of_ble_eq_true rfl) ⟨Nat.zero_le _, Nat.zero_le _⟩ dX5_inTheWay_41 (fun r15 h16 hf => ?_)
      refine v_istore (pc := 44) X (i := 4) (lv' := [(4, .int r15), (0, .ref x0), (1, .int x1), (2, .int s.1), (3, .int s.2)]) dX5_inTheWay_44 (Nat.le_of_ble_eq_true rfl) rfl ?_
      refine v_iload (pc := 46) X 0 dX5_inTheWay_46 rfl ?_
      refine v_if_lt (pc := 48) X 64 dX5_inTheWay_48 (by decide) (fun c => ?_) (fun c => ?_)
      · replace hf := if_t c hf
        refine v_iinc (pc := 64) X 4 (v := s.2 + (1 : Int32)) (lv' := [(3, .int (s.2 + (1 : Int32))), (4, .int r15), (0, .ref x0), (1, .int x1), (2, .int s.1)]) dX5_inTheWay_64 rfl rfl (Nat.le_of_ble_eq_true rfl) rfl ?_
        refine v_goto (pc := 67) X 17 dX5_inTheWay_67 (by decide) ?_
        refine v_sub [2, 3, 4, 0] rfl ?_
        exact ih (s.1, s.2 + (1 : Int32)) h16 hf
      · replace hf := if_f c hf
        refine v_iload_n (pc := 51) X 3 dX5_inTheWay_51 rfl rfl ?_
        refine v_if_lt (pc := 52) X 61 dX5_inTheWay_52 (by decide) (fun c => ?_) (fun c => ?_)
        · replace hf := if_t c hf
          refine v_iload (pc := 61) X 0 dX5_inTheWay_61 rfl ?_
          refine v_istore_n (pc := 63) X (i := 2) (lv' := [(2, .int r15), (4, .int r15), (0, .ref x0), (1, .int x1), (3, .int s.2)]) dX5_inTheWay_63 rfl (Nat.le_of_ble_eq_true rfl) rfl ?_
          refine v_iinc (pc := 64) X 4 (v := s.2 + (1 : Int32)) (lv' := [(3, .int (s.2 + (1 : Int32))), (2, .int r15), (4, .int r15), (0, .ref x0), (1, .int x1)]) dX5_inTheWay_64 rfl rfl (Nat.le_of_ble_eq_true rfl) rfl ?_
          refine v_goto (pc := 67) X 17 dX5_inTheWay_67 (by decide) ?_
          refine v_sub [3, 4, 1, 0] rfl ?_
          exact ih (r15, s.2 + (1 : Int32)) h16 hf
        · replace hf := if_f c hf
          refine v_iload (pc := 55) X 0 dX5_inTheWay_55 rfl ?_
          refine v_iload_n (pc := 57) X 3 dX5_inTheWay_57 rfl rfl ?_
          refine v_icmp_ge (pc := 58) X 64 dX5_inTheWay_58 (by decide) (fun c => ?_) (fun c => ?_)
          · replace hf := if_t c hf
            refine v_iinc (pc := 64) X 4 (v := s.2 + (1 : Int32)) (lv' := [(3, .int (s.2 + (1 : Int32))), (4, .int r15), (0, .ref x0), (1, .int x1), (2, .int s.1)]) dX5_inTheWay_64 rfl rfl (Nat.le_of_ble_eq_true rfl) rfl ?_
            refine v_goto (pc := 67) X 17 dX5_inTheWay_67 (by decide) ?_
            refine v_sub [2, 3, 4, 0] rfl ?_
            exact ih (s.1, s.2 + (1 : Int32)) h16 hf
          · replace hf := if_f c hf
            refine v_iload (pc := 61) X 0 dX5_inTheWay_61 rfl ?_
            refine v_istore_n (pc := 63) X (i := 2) (lv' := [(2, .int r15), (4, .int r15), (0, .ref x0), (1, .int x1), (3, .int s.2)]) dX5_inTheWay_63 rfl (Nat.le_of_ble_eq_true rfl) rfl ?_
            refine v_iinc (pc := 64) X 4 (v := s.2 + (1 : Int32)) (lv' := [(3, .int (s.2 + (1 : Int32))), (2, .int r15), (4, .int r15), (0, .ref x0), (1, .int x1)]) dX5_inTheWay_64 rfl rfl (Nat.le_of_ble_eq_true rfl) rfl ?_
            refine v_goto (pc := 67) X 17 dX5_inTheWay_67 (by decide) ?_
            refine v_sub [3, 4, 1, 0] rfl ?_
            exact ih (r15, s.2 + (1 : Int32)) h16 hf

set_option maxHeartbeats 4000000 in
set_option maxRecDepth 100000 in
theorem c_X5_inTheWay (l : Launch) (D : va_G) (cA : Nat → ClassId) (L : List Nat) (sh : Sh) (a0 : Nat) (p1 : Int32) (h : Hp) (K : Int32 → Hp → Prop) (hf : f_X5_inTheWay sh a0 p1 h K) : Met l yX5_inTheWay (wM yX5_inTheWay cX5_inTheWay 5 (some .int)) ({ frames := 2, cells := 0, slots := 0, locals := 47 } : Room) (PreM D cA L sh h [.ref a0, .int p1]) (QI D cA L sh K) 0 0 (fun q => q ∈ L) := by
  refine met_v (cc := cX5_inTheWay) (nL := 5) (ret := (some .int)) [(0, .ref a0), (1, .int p1)] (by decide) rfl (Nat.le_of_ble_eq_true rfl) rfl ?_
  intro p e s0 m below meth c X hr hlk
  have k10 := X.ht _ (inM _ q_185)
  have k94 := X.ht _ (inM _ q_139)
  have k77 := X.ht _ (inM _ q_124)
  unfold f_X5_inTheWay at hf
  refine v_iload_n (pc := 0) X 1 dX5_inTheWay_0 rfl rfl ?_
  refine v_if_lt (pc := 1) X 10 dX5_inTheWay_1 (by decide) (fun c => ?_) (fun c => ?_)
  · replace hf := if_t c hf
    refine v_iconst (pc := 10) X (v := (-1 : Int32)) dX5_inTheWay_10 (by decide) ?_
    exact v_iret (pc := 11) X hr hlk dX5_inTheWay_11 hf
  · replace hf := if_f c hf
    refine v_iload_n (pc := 4) X 1 dX5_inTheWay_4 rfl rfl ?_
    refine v_bipush (pc := 5) X (v := (6 : Int32)) dX5_inTheWay_5 (by decide) ?_
    refine v_icmp_lt (pc := 7) X 12 dX5_inTheWay_7 (by decide) (fun c => ?_) (fun c => ?_)
    · replace hf := if_t c hf
      refine v_bipush (pc := 12) X (v := (-4 : Int32)) dX5_inTheWay_12 (by decide) ?_
      refine v_istore_n (pc := 14) X (i := 2) (lv' := [(2, .int (-4 : Int32)), (0, .ref a0), (1, .int p1)]) dX5_inTheWay_14 rfl (Nat.le_of_ble_eq_true rfl) rfl ?_
      refine v_iconst (pc := 15) X (v := (0 : Int32)) dX5_inTheWay_15 (by decide) ?_
      refine v_istore_n (pc := 16) X (i := 3) (lv' := [(3, .int (0 : Int32)), (2, .int (-4 : Int32)), (0, .ref a0), (1, .int p1)]) dX5_inTheWay_16 rfl (Nat.le_of_ble_eq_true rfl) rfl ?_
      obtain ⟨n, hf⟩ := hf
      refine v_sub [2, 3, 1, 0] rfl ?_
      refine w_X5_inTheWay_17 X hr hlk a0 p1 _ K (fun y17 h18 hf => ?_) n ((-4 : Int32), (0 : Int32)) h hf
      refine v_iload_n (pc := 70) X 0 dX5_inTheWay_70 rfl rfl ?_
      exact v_iret (pc := 71) X hr hlk dX5_inTheWay_71 hf
    · replace hf := if_f c hf
      refine v_iconst (pc := 10) X (v := (-1 : Int32)) dX5_inTheWay_10 (by decide) ?_
      exact v_iret (pc := 11) X hr hlk dX5_inTheWay_11 hf
set_option maxHeartbeats 4000000 in
set_option maxRecDepth 100000 in
theorem c_X5_keep (l : Launch) (D : va_G) (cA : Nat → ClassId) (L : List Nat) (sh : Sh) (a0 : Nat) (h : Hp) (K : Int32 → Hp → Prop) (hf : f_X5_keep sh a0 h K) : Met l yX5_keep (wM yX5_keep cX5_keep 1 (some .int)) ({ frames := 3, cells := 0, slots := 0, locals := 66 } : Room) (PreM D cA L sh h [.ref a0]) (QI D cA L sh K) 0 0 (fun q => q ∈ L) := by
  refine met_v (cc := cX5_keep) (nL := 1) (ret := (some .int)) [(0, .ref a0)] (by decide) rfl (Nat.le_of_ble_eq_true rfl) rfl ?_
  intro p e s0 m below meth c X hr hlk
  have k22 := X.ht _ (inM _ q_187)
  have k10 := X.ht _ (inM _ q_185)
  have k25 := X.ht _ (inM _ q_188)
  have k178 := X.ht _ (inM _ q_118)
  unfold f_X5_keep at hf
  refine v_aload_n (pc := 0) X 0 dX5_keep_0 rfl rfl ?_
  obtain ⟨t1, hf⟩ := hf
  obtain ⟨q2, e_q2, hf⟩ := hf
  refine ge_5_2 (pc := 1) X (fun w h => inM w (inG5 w h)) k22 t1 e_q2 dX5_keep_1 ?_
  refine v_aload_n (pc := 4) X 0 dX5_keep_4 rfl rfl ?_
  obtain ⟨q3, e_q3, hf⟩ := hf
  refine ge_5_0 (pc := 5) X (fun w h => inM w (inG5 w h)) k10 t1 e_q3 dX5_keep_5 ?_
  obtain ⟨t4, hf⟩ := hf
  refine v_callVV (pc := 8) X (As := [.ref q3]) (rest := []) (c_X2_copyFrom l D cA L sh q2 q3 h _ hf) (cwV 1 X.ht (gwV inM q_209 q_210 q_211 q_2 q_212) rfl rfl rfl (by decide +kernel) ⟨Nat.le_of_ble_eq_true rfl, Nat.le_of_ble_eq_true rfl⟩) rfl (by decide) t4 (ent_2 t4) rfl rfl (Nat.le_of_ble_eq_true rfl) ⟨Nat.zero_le _, Nat.zero_le _⟩ dX5_keep_8 (fun h6 hf => ?_)
  refine v_aload_n (pc := 11) X 0 dX5_keep_11 rfl rfl ?_
  refine v_iconst (pc := 12) X (v := (1 : Int32)) dX5_keep_12 (by decide) ?_
  obtain ⟨h7, e_h7, hf⟩ := hf
  refine pu_5_3 (pc := 13) X (fun w h => inM w (inG5 w h)) k25 t1 (by decide) e_h7 dX5_keep_13 ?_
  refine v_aload_n (pc := 16) X 0 dX5_keep_16 rfl rfl ?_
  obtain ⟨q8, e_q8, hf⟩ := hf
  refine ge_5_2 (pc := 17) X (fun w h => inM w (inG5 w h)) k22 t1 e_q8 dX5_keep_17 ?_
  obtain ⟨t9, hf⟩ := hf
  obtain ⟨v10, e_v10, hf⟩ := hf
  refine ge_2_0 (pc := 20) X (fun w h => inM w (inG2 w h)) k178 t9 e_v10 dX5_keep_20 ?_
  exact v_iret (pc := 23) X hr hlk dX5_keep_23 hf
set_option maxHeartbeats 4000000 in
set_option maxRecDepth 100000 in
theorem c_X5_notice (l : Launch) (D : va_G) (cA : Nat → ClassId) (L : List Nat) (sh : Sh) (a0 : Nat) (p1 : Int32) (h : Hp) (K : Int32 → Hp → Prop) (hf : f_X5_notice sh a0 p1 h K) : Met l yX5_notice (wM yX5_notice cX5_notice 2 (some .int)) ({ frames := 0, cells := 0, slots := 0, locals := 0 } : Room) (PreM D cA L sh h [.ref a0, .int p1]) (QI D cA L sh K) 0 0 (fun q => q ∈ L) := by
  refine met_v (cc := cX5_notice) (nL := 2) (ret := (some .int)) [(0, .ref a0), (1, .int p1)] (by decide) rfl (Nat.le_of_ble_eq_true rfl) rfl ?_
  intro p e s0 m below meth c X hr hlk
  have k10 := X.ht _ (inM _ q_185)
  have k172 := X.ht _ (inM _ q_128)
  have k175 := X.ht _ (inM _ q_130)
  unfold f_X5_notice at hf
  refine v_iload_n (pc := 0) X 1 dX5_notice_0 rfl rfl ?_
  refine v_if_ge (pc := 1) X 6 dX5_notice_1 (by decide) (fun c => ?_) (fun c => ?_)
  · replace hf := if_t c hf
    refine v_iload_n (pc := 6) X 1 dX5_notice_6 rfl rfl ?_
    refine v_aload_n (pc := 7) X 0 dX5_notice_7 rfl rfl ?_
    obtain ⟨t1, hf⟩ := hf
    obtain ⟨q2, e_q2, hf⟩ := hf
    refine ge_5_0 (pc := 8) X (fun w h => inM w (inG5 w h)) k10 t1 e_q2 dX5_notice_8 ?_
    obtain ⟨t3, hf⟩ := hf
    obtain ⟨v4, e_v4, hf⟩ := hf
    refine ge_2_5 (pc := 11) X (fun w h => inM w (inG2 w h)) k172 t3 e_v4 dX5_notice_11 ?_
    refine v_icmp_ge (pc := 14) X 29 dX5_notice_14 (by decide) (fun c => ?_) (fun c => ?_)
    · replace hf := if_t c hf
      refine v_bipush (pc := 29) X (v := (-4 : Int32)) dX5_notice_29 (by decide) ?_
      exact v_iret (pc := 31) X hr hlk dX5_notice_31 hf
    · replace hf := if_f c hf
      refine v_aload_n (pc := 17) X 0 dX5_notice_17 rfl rfl ?_
      obtain ⟨q5, e_q5, hf⟩ := hf
      refine ge_5_0 (pc := 18) X (fun w h => inM w (inG5 w h)) k10 t1 e_q5 dX5_notice_18 ?_
      obtain ⟨t6, hf⟩ := hf
      obtain ⟨q7, e_q7, hf⟩ := hf
      refine ge_2_6 (pc := 21) X (fun w h => inM w (inG2 w h)) k175 t6 e_q7 dX5_notice_21 ?_
      refine v_iload_n (pc := 24) X 1 dX5_notice_24 rfl rfl ?_
      obtain ⟨t8, hf⟩ := hf
      obtain ⟨b10, v9, e_v9, hf⟩ := hf
      refine v_iald (pc := 25) X t8 b10 e_v9 dX5_notice_25 ?_
      refine v_goto (pc := 26) X 31 dX5_notice_26 (by decide) ?_
      exact v_iret (pc := 31) X hr hlk dX5_notice_31 hf
  · replace hf := if_f c hf
    refine v_iconst (pc := 4) X (v := (-1 : Int32)) dX5_notice_4 (by decide) ?_
    exact v_iret (pc := 5) X hr hlk dX5_notice_5 hf
set_option maxHeartbeats 4000000 in
set_option maxRecDepth 100000 in
theorem c_X5_play (l : Launch) (D : va_G) (cA : Nat → ClassId) (L : List Nat) (sh : Sh) (a0 : Nat) (h : Hp) (K : Int32 → Hp → Prop) (hf : f_X5_play sh a0 h K) : Met l yX5_play (wM yX5_play cX5_play 2 (some .int)) ({ frames := 6, cells := 0, slots := 0, locals := 145 } : Room) (PreM D cA L sh h [.ref a0]) (QI D cA L sh K) 0 0 (fun q => q ∈ L) := by
  refine met_v (cc := cX5_play) (nL := 2) (ret := (some .int)) [(0, .ref a0)] (by decide) rfl (Nat.le_of_ble_eq_true rfl) rfl ?_
  intro p e s0 m below meth c X hr hlk
  have k47 := X.ht _ (inM _ q_193)
  unfold f_X5_play at hf
  refine v_aload_n (pc := 0) X 0 dX5_play_0 rfl rfl ?_
  obtain ⟨t1, hf⟩ := hf
  refine v_callVI (pc := 1) X (As := []) (rest := []) (c_X5_doCommands l D cA L sh a0 h _ hf) (cwV 0 X.ht (gwV inM q_450 q_451 q_744 q_1 q_452) rfl rfl rfl (by decide +kernel) ⟨Nat.le_of_ble_eq_true rfl, Nat.le_of_ble_eq_true rfl⟩) rfl (by decide) t1 (ent_5 t1) rfl rfl (Nat.le_of_ble_eq_true rfl) ⟨Nat.zero_le _, Nat.zero_le _⟩ dX5_play_1 (fun r2 h3 hf => ?_)
  refine v_istore_n (pc := 4) X (i := 1) (lv' := [(1, .int r2), (0, .ref a0)]) dX5_play_4 rfl (Nat.le_of_ble_eq_true rfl) rfl ?_
  refine v_aload_n (pc := 5) X 1 dX5_play_5 rfl rfl ?_
  refine v_aload_n (pc := 6) X 1 dX5_play_6 rfl rfl ?_
  obtain ⟨v4, e_v4, hf⟩ := hf
  refine ge_5_8 (pc := 7) X (fun w h => inM w (inG5 w h)) k47 t1 e_v4 dX5_play_7 ?_
  refine v_if_ne (pc := 10) X 17 dX5_play_10 (by decide) (fun c => ?_) (fun c => ?_)
  · replace hf := if_f c hf
    refine v_bipush (pc := 17) X (v := (-2 : Int32)) dX5_play_17 (by decide) ?_
    refine v_callVI (pc := 19) X (As := [.int (-2 : Int32)]) (rest := []) (c_X5_settle l D cA L sh a0 (-2 : Int32) h3 _ hf) (cwV 1 X.ht (gwV inM q_251 q_252 q_738 q_1 q_253) rfl rfl rfl (by decide +kernel) ⟨Nat.le_of_ble_eq_true rfl, Nat.le_of_ble_eq_true rfl⟩) rfl (by decide) t1 (ent_5 t1) rfl rfl (Nat.le_of_ble_eq_true rfl) ⟨Nat.zero_le _, Nat.zero_le _⟩ dX5_play_19 (fun r5 h6 hf => ?_)
    exact v_iret (pc := 22) X hr hlk dX5_play_22 hf
  · replace hf := if_t c hf
    refine v_iload_n (pc := 13) X 0 dX5_play_13 rfl rfl ?_
    refine v_goto (pc := 14) X 19 dX5_play_14 (by decide) ?_
    refine v_callVI (pc := 19) X (As := [.int r2]) (rest := []) (c_X5_settle l D cA L sh a0 r2 h3 _ hf) (cwV 1 X.ht (gwV inM q_251 q_252 q_738 q_1 q_253) rfl rfl rfl (by decide +kernel) ⟨Nat.le_of_ble_eq_true rfl, Nat.le_of_ble_eq_true rfl⟩) rfl (by decide) t1 (ent_5 t1) rfl rfl (Nat.le_of_ble_eq_true rfl) ⟨Nat.zero_le _, Nat.zero_le _⟩ dX5_play_19 (fun r7 h8 hf => ?_)
    exact v_iret (pc := 22) X hr hlk dX5_play_22 hf
set_option maxHeartbeats 4000000 in
set_option maxRecDepth 100000 in
theorem c_X5_restore (l : Launch) (D : va_G) (cA : Nat → ClassId) (L : List Nat) (sh : Sh) (a0 : Nat) (h : Hp) (K : Int32 → Hp → Prop) (hf : f_X5_restore sh a0 h K) : Met l yX5_restore (wM yX5_restore cX5_restore 1 (some .int)) ({ frames := 3, cells := 0, slots := 0, locals := 66 } : Room) (PreM D cA L sh h [.ref a0]) (QI D cA L sh K) 0 0 (fun q => q ∈ L) := by
  refine met_v (cc := cX5_restore) (nL := 1) (ret := (some .int)) [(0, .ref a0)] (by decide) rfl (Nat.le_of_ble_eq_true rfl) rfl ?_
  intro p e s0 m below meth c X hr hlk
  have k25 := X.ht _ (inM _ q_188)
  have k19 := X.ht _ (inM _ q_186)
  have k22 := X.ht _ (inM _ q_187)
  have k178 := X.ht _ (inM _ q_118)
  unfold f_X5_restore at hf
  refine v_aload_n (pc := 0) X 0 dX5_restore_0 rfl rfl ?_
  obtain ⟨t1, hf⟩ := hf
  obtain ⟨v2, e_v2, hf⟩ := hf
  refine ge_5_3 (pc := 1) X (fun w h => inM w (inG5 w h)) k25 t1 e_v2 dX5_restore_1 ?_
  refine v_if_ne (pc := 4) X 10 dX5_restore_4 (by decide) (fun c => ?_) (fun c => ?_)
  · replace hf := if_f c hf
    refine v_aload_n (pc := 10) X 0 dX5_restore_10 rfl rfl ?_
    obtain ⟨q3, e_q3, hf⟩ := hf
    refine ge_5_1 (pc := 11) X (fun w h => inM w (inG5 w h)) k19 t1 e_q3 dX5_restore_11 ?_
    refine v_aload_n (pc := 14) X 0 dX5_restore_14 rfl rfl ?_
    obtain ⟨q4, e_q4, hf⟩ := hf
    refine ge_5_2 (pc := 15) X (fun w h => inM w (inG5 w h)) k22 t1 e_q4 dX5_restore_15 ?_
    obtain ⟨t5, hf⟩ := hf
    refine v_callVV (pc := 18) X (As := [.ref q4]) (rest := []) (c_X2_copyFrom l D cA L sh q3 q4 h _ hf) (cwV 1 X.ht (gwV inM q_209 q_210 q_211 q_2 q_212) rfl rfl rfl (by decide +kernel) ⟨Nat.le_of_ble_eq_true rfl, Nat.le_of_ble_eq_true rfl⟩) rfl (by decide) t5 (ent_2 t5) rfl rfl (Nat.le_of_ble_eq_true rfl) ⟨Nat.zero_le _, Nat.zero_le _⟩ dX5_restore_18 (fun h7 hf => ?_)
    refine v_aload_n (pc := 21) X 0 dX5_restore_21 rfl rfl ?_
    refine v_aload_n (pc := 22) X 0 dX5_restore_22 rfl rfl ?_
    obtain ⟨q8, e_q8, hf⟩ := hf
    refine ge_5_1 (pc := 23) X (fun w h => inM w (inG5 w h)) k19 t1 e_q8 dX5_restore_23 ?_
    obtain ⟨t9, hf⟩ := hf
    obtain ⟨v10, e_v10, hf⟩ := hf
    refine ge_2_0 (pc := 26) X (fun w h => inM w (inG2 w h)) k178 t9 e_v10 dX5_restore_26 ?_
    refine v_callVI (pc := 29) X (As := [.int v10]) (rest := []) (c_X5_settle l D cA L sh a0 v10 h7 _ hf) (cwV 1 X.ht (gwV inM q_251 q_252 q_738 q_1 q_253) rfl rfl rfl (by decide +kernel) ⟨Nat.le_of_ble_eq_true rfl, Nat.le_of_ble_eq_true rfl⟩) rfl (by decide) t1 (ent_5 t1) rfl rfl (Nat.le_of_ble_eq_true rfl) ⟨Nat.zero_le _, Nat.zero_le _⟩ dX5_restore_29 (fun r11 h12 hf => ?_)
    exact v_iret (pc := 32) X hr hlk dX5_restore_32 hf
  · replace hf := if_t c hf
    refine v_bipush (pc := 7) X (v := (-2 : Int32)) dX5_restore_7 (by decide) ?_
    exact v_iret (pc := 9) X hr hlk dX5_restore_9 hf
set_option maxHeartbeats 4000000 in
set_option maxRecDepth 100000 in
theorem c_X5_sessionOf (l : Launch) (D : va_G) (cA : Nat → ClassId) (L : List Nat) (sh : Sh) (a0 : Nat) (p1 : Int32) (p2 : Int32) (h : Hp) (K : Int32 → Hp → Prop) (hf : f_X5_sessionOf sh a0 p1 p2 h K) : Met l yX5_sessionOf (wM yX5_sessionOf cX5_sessionOf 4 (some .int)) ({ frames := 1, cells := 0, slots := 0, locals := 22 } : Room) (PreM D cA L sh h [.ref a0, .int p1, .int p2]) (QI D cA L sh K) 0 0 (fun q => q ∈ L) := by
  refine met_v (cc := cX5_sessionOf) (nL := 4) (ret := (some .int)) [(0, .ref a0), (1, .int p1), (2, .int p2)] (by decide) rfl (Nat.le_of_ble_eq_true rfl) rfl ?_
  intro p e s0 m below meth c X hr hlk
  have k10 := X.ht _ (inM _ q_185)
  have k94 := X.ht _ (inM _ q_139)
  have k98 := X.ht _ (inM _ q_89)
  have k107 := X.ht _ (inM _ q_104)
  have k116 := X.ht _ (inM _ q_91)
  have k119 := X.ht _ (inM _ q_93)
  have k122 := X.ht _ (inM _ q_96)
  have k125 := X.ht _ (inM _ q_99)
  have k128 := X.ht _ (inM _ q_101)
  unfold f_X5_sessionOf at hf
  refine v_iload_n (pc := 0) X 1 dX5_sessionOf_0 rfl rfl ?_
  refine v_if_lt (pc := 1) X 9 dX5_sessionOf_1 (by decide) (fun c => ?_) (fun c => ?_)
  · replace hf := if_t c hf
    refine v_iconst (pc := 9) X (v := (-1 : Int32)) dX5_sessionOf_9 (by decide) ?_
    exact v_iret (pc := 10) X hr hlk dX5_sessionOf_10 hf
  · replace hf := if_f c hf
    refine v_iload_n (pc := 4) X 1 dX5_sessionOf_4 rfl rfl ?_
    refine v_iconst (pc := 5) X (v := (4 : Int32)) dX5_sessionOf_5 (by decide) ?_
    refine v_icmp_lt (pc := 6) X 11 dX5_sessionOf_6 (by decide) (fun c => ?_) (fun c => ?_)
    · replace hf := if_t c hf
      refine v_aload_n (pc := 11) X 0 dX5_sessionOf_11 rfl rfl ?_
      obtain ⟨t1, hf⟩ := hf
      obtain ⟨q2, e_q2, hf⟩ := hf
      refine ge_5_0 (pc := 12) X (fun w h => inM w (inG5 w h)) k10 t1 e_q2 dX5_sessionOf_12 ?_
      obtain ⟨t3, hf⟩ := hf
      obtain ⟨q4, e_q4, hf⟩ := hf
      refine ge_2_11 (pc := 15) X (fun w h => inM w (inG2 w h)) k94 t3 e_q4 dX5_sessionOf_15 ?_
      refine v_iload_n (pc := 18) X 1 dX5_sessionOf_18 rfl rfl ?_
      obtain ⟨t5, hf⟩ := hf
      obtain ⟨b7, q6, e_q6, hf⟩ := hf
      refine v_aald_9 (pc := 19) X t5 b7 e_q6 dX5_sessionOf_19 ?_
      refine v_astore_n (pc := 20) X (i := 3) (lv' := [(3, .ref q6), (0, .ref a0), (1, .int p1), (2, .int p2)]) dX5_sessionOf_20 rfl (Nat.le_of_ble_eq_true rfl) rfl ?_
      refine v_iload_n (pc := 21) X 3 dX5_sessionOf_21 rfl rfl ?_
      by_cases c0 : p2 = (0 : Int32)
      · replace hf := if_t c0 hf
        refine v_tableIn (pc := 22) X (off := 54) 76 dX5_sessionOf_22 (by rw [c0]; decide) (by rw [c0]; decide) (by rw [c0]; decide) (by decide) ?_
        refine v_aload_n (pc := 76) X 0 dX5_sessionOf_76 rfl rfl ?_
        obtain ⟨t8, hf⟩ := hf
        obtain ⟨v9, e_v9, hf⟩ := hf
        refine ge_1_0 (pc := 77) X (fun w h => inM w (inG1 w h)) k98 t8 e_v9 dX5_sessionOf_77 ?_
        exact v_iret (pc := 80) X hr hlk dX5_sessionOf_80 hf
      replace hf := if_f c0 hf
      by_cases c1 : p2 = (1 : Int32)
      · replace hf := if_t c1 hf
        refine v_tableIn (pc := 22) X (off := 59) 81 dX5_sessionOf_22 (by rw [c1]; decide) (by rw [c1]; decide) (by rw [c1]; decide) (by decide) ?_
        refine v_aload_n (pc := 81) X 1 dX5_sessionOf_81 rfl rfl ?_
        obtain ⟨q10, e_q10, hf⟩ := hf
        refine ge_5_0 (pc := 82) X (fun w h => inM w (inG5 w h)) k10 t1 e_q10 dX5_sessionOf_82 ?_
        obtain ⟨t11, hf⟩ := hf
        refine v_callVI (pc := 85) X (As := []) (rest := []) (c_X2_noticesOnTheirWay l D cA L sh q10 h _ hf) (cwV 0 X.ht (gwV inM q_353 q_354 q_355 q_2 q_356) rfl rfl rfl (by decide +kernel) ⟨Nat.le_of_ble_eq_true rfl, Nat.le_of_ble_eq_true rfl⟩) rfl (by decide) t11 (ent_2 t11) rfl rfl (Nat.le_of_ble_eq_true rfl) ⟨Nat.zero_le _, Nat.zero_le _⟩ dX5_sessionOf_85 (fun r12 h13 hf => ?_)
        exact v_iret (pc := 88) X hr hlk dX5_sessionOf_88 hf
      replace hf := if_f c1 hf
      by_cases c2 : p2 = (2 : Int32)
      · replace hf := if_t c2 hf
        refine v_tableIn (pc := 22) X (off := 67) 89 dX5_sessionOf_22 (by rw [c2]; decide) (by rw [c2]; decide) (by rw [c2]; decide) (by decide) ?_
        refine v_aload_n (pc := 89) X 0 dX5_sessionOf_89 rfl rfl ?_
        obtain ⟨t14, hf⟩ := hf
        obtain ⟨v15, e_v15, hf⟩ := hf
        refine ge_1_6 (pc := 90) X (fun w h => inM w (inG1 w h)) k107 t14 e_v15 dX5_sessionOf_90 ?_
        exact v_iret (pc := 93) X hr hlk dX5_sessionOf_93 hf
      replace hf := if_f c2 hf
      by_cases c3 : p2 = (3 : Int32)
      · replace hf := if_t c3 hf
        refine v_tableIn (pc := 22) X (off := 72) 94 dX5_sessionOf_22 (by rw [c3]; decide) (by rw [c3]; decide) (by rw [c3]; decide) (by decide) ?_
        refine v_aload_n (pc := 94) X 0 dX5_sessionOf_94 rfl rfl ?_
        obtain ⟨t16, hf⟩ := hf
        refine v_callVI (pc := 95) X (As := []) (rest := []) (c_X1_staleInHand l D cA L sh q6 h _ hf) (cwV 0 X.ht (gwV inM q_357 q_358 q_359 q_3 q_360) rfl rfl rfl (by decide +kernel) ⟨Nat.le_of_ble_eq_true rfl, Nat.le_of_ble_eq_true rfl⟩) rfl (by decide) t16 (ent_1 t16) rfl rfl (Nat.le_of_ble_eq_true rfl) ⟨Nat.zero_le _, Nat.zero_le _⟩ dX5_sessionOf_95 (fun r17 h18 hf => ?_)
        exact v_iret (pc := 98) X hr hlk dX5_sessionOf_98 hf
      replace hf := if_f c3 hf
      by_cases c4 : p2 = (4 : Int32)
      · replace hf := if_t c4 hf
        refine v_tableIn (pc := 22) X (off := 77) 99 dX5_sessionOf_22 (by rw [c4]; decide) (by rw [c4]; decide) (by rw [c4]; decide) (by decide) ?_
        refine v_aload_n (pc := 99) X 0 dX5_sessionOf_99 rfl rfl ?_
        obtain ⟨t19, hf⟩ := hf
        refine v_callVI (pc := 100) X (As := []) (rest := []) (c_X1_statementsAtWork l D cA L sh q6 h _ hf) (cwV 0 X.ht (gwV inM q_361 q_362 q_363 q_3 q_364) rfl rfl rfl (by decide +kernel) ⟨Nat.le_of_ble_eq_true rfl, Nat.le_of_ble_eq_true rfl⟩) rfl (by decide) t19 (ent_1 t19) rfl rfl (Nat.le_of_ble_eq_true rfl) ⟨Nat.zero_le _, Nat.zero_le _⟩ dX5_sessionOf_100 (fun r20 h21 hf => ?_)
        exact v_iret (pc := 103) X hr hlk dX5_sessionOf_103 hf
      replace hf := if_f c4 hf
      by_cases c5 : p2 = (5 : Int32)
      · replace hf := if_t c5 hf
        refine v_tableIn (pc := 22) X (off := 82) 104 dX5_sessionOf_22 (by rw [c5]; decide) (by rw [c5]; decide) (by rw [c5]; decide) (by decide) ?_
        refine v_aload_n (pc := 104) X 0 dX5_sessionOf_104 rfl rfl ?_
        obtain ⟨t22, hf⟩ := hf
        obtain ⟨v23, e_v23, hf⟩ := hf
        refine ge_1_1 (pc := 105) X (fun w h => inM w (inG1 w h)) k116 t22 e_v23 dX5_sessionOf_105 ?_
        exact v_iret (pc := 108) X hr hlk dX5_sessionOf_108 hf
      replace hf := if_f c5 hf
      by_cases c6 : p2 = (6 : Int32)
      · replace hf := if_t c6 hf
        refine v_tableIn (pc := 22) X (off := 87) 109 dX5_sessionOf_22 (by rw [c6]; decide) (by rw [c6]; decide) (by rw [c6]; decide) (by decide) ?_
        refine v_aload_n (pc := 109) X 0 dX5_sessionOf_109 rfl rfl ?_
        obtain ⟨t24, hf⟩ := hf
        obtain ⟨v25, e_v25, hf⟩ := hf
        refine ge_1_2 (pc := 110) X (fun w h => inM w (inG1 w h)) k119 t24 e_v25 dX5_sessionOf_110 ?_
        exact v_iret (pc := 113) X hr hlk dX5_sessionOf_113 hf
      replace hf := if_f c6 hf
      by_cases c7 : p2 = (7 : Int32)
      · replace hf := if_t c7 hf
        refine v_tableIn (pc := 22) X (off := 92) 114 dX5_sessionOf_22 (by rw [c7]; decide) (by rw [c7]; decide) (by rw [c7]; decide) (by decide) ?_
        refine v_aload_n (pc := 114) X 0 dX5_sessionOf_114 rfl rfl ?_
        obtain ⟨t26, hf⟩ := hf
        obtain ⟨v27, e_v27, hf⟩ := hf
        refine ge_1_3 (pc := 115) X (fun w h => inM w (inG1 w h)) k122 t26 e_v27 dX5_sessionOf_115 ?_
        exact v_iret (pc := 118) X hr hlk dX5_sessionOf_118 hf
      replace hf := if_f c7 hf
      by_cases c8 : p2 = (8 : Int32)
      · replace hf := if_t c8 hf
        refine v_tableIn (pc := 22) X (off := 97) 119 dX5_sessionOf_22 (by rw [c8]; decide) (by rw [c8]; decide) (by rw [c8]; decide) (by decide) ?_
        refine v_aload_n (pc := 119) X 0 dX5_sessionOf_119 rfl rfl ?_
        obtain ⟨t28, hf⟩ := hf
        obtain ⟨v29, e_v29, hf⟩ := hf
        refine ge_1_4 (pc := 120) X (fun w h => inM w (inG1 w h)) k125 t28 e_v29 dX5_sessionOf_120 ?_
        exact v_iret (pc := 123) X hr hlk dX5_sessionOf_123 hf
      replace hf := if_f c8 hf
      by_cases c9 : p2 = (9 : Int32)
      · replace hf := if_t c9 hf
        refine v_tableIn (pc := 22) X (off := 102) 124 dX5_sessionOf_22 (by rw [c9]; decide) (by rw [c9]; decide) (by rw [c9]; decide) (by decide) ?_
        refine v_aload_n (pc := 124) X 0 dX5_sessionOf_124 rfl rfl ?_
        obtain ⟨t30, hf⟩ := hf
        obtain ⟨v31, e_v31, hf⟩ := hf
        refine ge_1_5 (pc := 125) X (fun w h => inM w (inG1 w h)) k128 t30 e_v31 dX5_sessionOf_125 ?_
        exact v_iret (pc := 128) X hr hlk dX5_sessionOf_128 hf
      replace hf := if_f c9 hf
      refine v_tableOut (pc := 22) X 129 dX5_sessionOf_22 (tab_out_0_9 c0 c1 c2 c3 c4 c5 c6 c7 c8 c9) (by decide) ?_
      refine v_iconst (pc := 129) X (v := (-1 : Int32)) dX5_sessionOf_129 (by decide) ?_
      exact v_iret (pc := 130) X hr hlk dX5_sessionOf_130 hf
    · replace hf := if_f c hf
      refine v_iconst (pc := 9) X (v := (-1 : Int32)) dX5_sessionOf_9 (by decide) ?_
      exact v_iret (pc := 10) X hr hlk dX5_sessionOf_10 hf
set_option maxHeartbeats 4000000 in
set_option maxRecDepth 100000 in
theorem c_X5_set (l : Launch) (D : va_G) (cA : Nat → ClassId) (L : List Nat) (sh : Sh) (a0 : Nat) (p1 : Int32) (p2 : Int32) (h : Hp) (K : Int32 → Hp → Prop) (hf : f_X5_set sh a0 p1 p2 h K) : Met l yX5_set (wM yX5_set cX5_set 3 (some .int)) ({ frames := 3, cells := 0, slots := 0, locals := 70 } : Room) (PreM D cA L sh h [.ref a0, .int p1, .int p2]) (QI D cA L sh K) 0 0 (fun q => q ∈ L) := by
  refine met_v (cc := cX5_set) (nL := 3) (ret := (some .int)) [(0, .ref a0), (1, .int p1), (2, .int p2)] (by decide) rfl (Nat.le_of_ble_eq_true rfl) rfl ?_
  intro p e s0 m below meth c X hr hlk
  have k19 := X.ht _ (inM _ q_186)
  have k10 := X.ht _ (inM _ q_185)
  unfold f_X5_set at hf
  refine v_aload_n (pc := 0) X 0 dX5_set_0 rfl rfl ?_
  obtain ⟨t1, hf⟩ := hf
  obtain ⟨q2, e_q2, hf⟩ := hf
  refine ge_5_1 (pc := 1) X (fun w h => inM w (inG5 w h)) k19 t1 e_q2 dX5_set_1 ?_
  refine v_aload_n (pc := 4) X 0 dX5_set_4 rfl rfl ?_
  obtain ⟨q3, e_q3, hf⟩ := hf
  refine ge_5_0 (pc := 5) X (fun w h => inM w (inG5 w h)) k10 t1 e_q3 dX5_set_5 ?_
  obtain ⟨t4, hf⟩ := hf
  refine v_callVV (pc := 8) X (As := [.ref q3]) (rest := []) (c_X2_copyFrom l D cA L sh q2 q3 h _ hf) (cwV 1 X.ht (gwV inM q_209 q_210 q_211 q_2 q_212) rfl rfl rfl (by decide +kernel) ⟨Nat.le_of_ble_eq_true rfl, Nat.le_of_ble_eq_true rfl⟩) rfl (by decide) t4 (ent_2 t4) rfl rfl (Nat.le_of_ble_eq_true rfl) ⟨Nat.zero_le _, Nat.zero_le _⟩ dX5_set_8 (fun h6 hf => ?_)
  refine v_aload_n (pc := 11) X 0 dX5_set_11 rfl rfl ?_
  refine v_aload_n (pc := 12) X 0 dX5_set_12 rfl rfl ?_
  obtain ⟨q7, e_q7, hf⟩ := hf
  refine ge_5_1 (pc := 13) X (fun w h => inM w (inG5 w h)) k19 t1 e_q7 dX5_set_13 ?_
  refine v_iload_n (pc := 16) X 1 dX5_set_16 rfl rfl ?_
  refine v_iload_n (pc := 17) X 2 dX5_set_17 rfl rfl ?_
  obtain ⟨t8, hf⟩ := hf
  refine v_callVI (pc := 18) X (As := [.int p1, .int p2]) (rest := [.ref a0]) (c_X2_adjust l D cA L sh q7 p1 p2 h6 _ hf) (cwV 2 X.ht (gwV inM q_333 q_334 q_335 q_2 q_336) rfl rfl rfl (by decide +kernel) ⟨Nat.le_of_ble_eq_true rfl, Nat.le_of_ble_eq_true rfl⟩) rfl (by decide) t8 (ent_2 t8) rfl rfl (Nat.le_of_ble_eq_true rfl) ⟨Nat.zero_le _, Nat.zero_le _⟩ dX5_set_18 (fun r9 h10 hf => ?_)
  refine v_callVI (pc := 21) X (As := [.int r9]) (rest := []) (c_X5_settle l D cA L sh a0 r9 h10 _ hf) (cwV 1 X.ht (gwV inM q_251 q_252 q_738 q_1 q_253) rfl rfl rfl (by decide +kernel) ⟨Nat.le_of_ble_eq_true rfl, Nat.le_of_ble_eq_true rfl⟩) rfl (by decide) t1 (ent_5 t1) rfl rfl (Nat.le_of_ble_eq_true rfl) ⟨Nat.zero_le _, Nat.zero_le _⟩ dX5_set_21 (fun r11 h12 hf => ?_)
  exact v_iret (pc := 24) X hr hlk dX5_set_24 hf
set_option maxHeartbeats 4000000 in
set_option maxRecDepth 100000 in
theorem c_X5_start (l : Launch) (D : va_G) (cA : Nat → ClassId) (L : List Nat) (sh : Sh) (a0 : Nat) (p1 : Int32) (p2 : Int32) (h : Hp) (K : Int32 → Hp → Prop) (hf : f_X5_start sh a0 p1 p2 h K) : Met l yX5_start (wM yX5_start cX5_start 3 (some .int)) ({ frames := 4, cells := 0, slots := 0, locals := 99 } : Room) (PreM D cA L sh h [.ref a0, .int p1, .int p2]) (QI D cA L sh K) 0 0 (fun q => q ∈ L) := by
  refine met_v (cc := cX5_start) (nL := 3) (ret := (some .int)) [(0, .ref a0), (1, .int p1), (2, .int p2)] (by decide) rfl (Nat.le_of_ble_eq_true rfl) rfl ?_
  intro p e s0 m below meth c X hr hlk
  have k19 := X.ht _ (inM _ q_186)
  have k10 := X.ht _ (inM _ q_185)
  unfold f_X5_start at hf
  refine v_aload_n (pc := 0) X 0 dX5_start_0 rfl rfl ?_
  obtain ⟨t1, hf⟩ := hf
  obtain ⟨q2, e_q2, hf⟩ := hf
  refine ge_5_1 (pc := 1) X (fun w h => inM w (inG5 w h)) k19 t1 e_q2 dX5_start_1 ?_
  refine v_aload_n (pc := 4) X 0 dX5_start_4 rfl rfl ?_
  obtain ⟨q3, e_q3, hf⟩ := hf
  refine ge_5_0 (pc := 5) X (fun w h => inM w (inG5 w h)) k10 t1 e_q3 dX5_start_5 ?_
  obtain ⟨t4, hf⟩ := hf
  refine v_callVV (pc := 8) X (As := [.ref q3]) (rest := []) (c_X2_copyFrom l D cA L sh q2 q3 h _ hf) (cwV 1 X.ht (gwV inM q_209 q_210 q_211 q_2 q_212) rfl rfl rfl (by decide +kernel) ⟨Nat.le_of_ble_eq_true rfl, Nat.le_of_ble_eq_true rfl⟩) rfl (by decide) t4 (ent_2 t4) rfl rfl (Nat.le_of_ble_eq_true rfl) ⟨Nat.zero_le _, Nat.zero_le _⟩ dX5_start_8 (fun h6 hf => ?_)
  refine v_aload_n (pc := 11) X 0 dX5_start_11 rfl rfl ?_
  refine v_aload_n (pc := 12) X 0 dX5_start_12 rfl rfl ?_
  obtain ⟨q7, e_q7, hf⟩ := hf
  refine ge_5_1 (pc := 13) X (fun w h => inM w (inG5 w h)) k19 t1 e_q7 dX5_start_13 ?_
  refine v_iload_n (pc := 16) X 1 dX5_start_16 rfl rfl ?_
  refine v_iload_n (pc := 17) X 2 dX5_start_17 rfl rfl ?_
  obtain ⟨t8, hf⟩ := hf
  refine v_callVI (pc := 18) X (As := [.int p1, .int p2]) (rest := [.ref a0]) (c_X2_begin l D cA L sh q7 p1 p2 h6 _ hf) (cwV 2 X.ht (gwV inM q_261 q_262 q_263 q_2 q_264) rfl rfl rfl (by decide +kernel) ⟨Nat.le_of_ble_eq_true rfl, Nat.le_of_ble_eq_true rfl⟩) rfl (by decide) t8 (ent_2 t8) rfl rfl (Nat.le_of_ble_eq_true rfl) ⟨Nat.zero_le _, Nat.zero_le _⟩ dX5_start_18 (fun r9 h10 hf => ?_)
  refine v_callVI (pc := 21) X (As := [.int r9]) (rest := []) (c_X5_settle l D cA L sh a0 r9 h10 _ hf) (cwV 1 X.ht (gwV inM q_251 q_252 q_738 q_1 q_253) rfl rfl rfl (by decide +kernel) ⟨Nat.le_of_ble_eq_true rfl, Nat.le_of_ble_eq_true rfl⟩) rfl (by decide) t1 (ent_5 t1) rfl rfl (Nat.le_of_ble_eq_true rfl) ⟨Nat.zero_le _, Nat.zero_le _⟩ dX5_start_21 (fun r11 h12 hf => ?_)
  exact v_iret (pc := 24) X hr hlk dX5_start_24 hf
set_option maxHeartbeats 4000000 in
set_option maxRecDepth 100000 in
theorem c_X5_statement (l : Launch) (D : va_G) (cA : Nat → ClassId) (L : List Nat) (sh : Sh) (a0 : Nat) (p1 : Int32) (p2 : Int32) (h : Hp) (K : Int32 → Hp → Prop) (hf : f_X5_statement sh a0 p1 p2 h K) : Met l yX5_statement (wM yX5_statement cX5_statement 5 (some .int)) ({ frames := 3, cells := 0, slots := 0, locals := 65 } : Room) (PreM D cA L sh h [.ref a0, .int p1, .int p2]) (QI D cA L sh K) 0 0 (fun q => q ∈ L) := by
  refine met_v (cc := cX5_statement) (nL := 5) (ret := (some .int)) [(0, .ref a0), (1, .int p1), (2, .int p2)] (by decide) rfl (Nat.le_of_ble_eq_true rfl) rfl ?_
  intro p e s0 m below meth c X hr hlk
  have k10 := X.ht _ (inM _ q_185)
  have k94 := X.ht _ (inM _ q_139)
  have k160 := X.ht _ (inM _ q_76)
  have k165 := X.ht _ (inM _ q_80)
  have k77 := X.ht _ (inM _ q_124)
  unfold f_X5_statement at hf
  refine v_iload_n (pc := 0) X 1 dX5_statement_0 rfl rfl ?_
  refine v_if_lt (pc := 1) X 13 dX5_statement_1 (by decide) (fun c => ?_) (fun c => ?_)
  · replace hf := if_t c hf
    refine v_iconst (pc := 13) X (v := (-1 : Int32)) dX5_statement_13 (by decide) ?_
    exact v_iret (pc := 14) X hr hlk dX5_statement_14 hf
  · replace hf := if_f c hf
    refine v_iload_n (pc := 4) X 2 dX5_statement_4 rfl rfl ?_
    refine v_if_lt (pc := 5) X 13 dX5_statement_5 (by decide) (fun c => ?_) (fun c => ?_)
    · replace hf := if_t c hf
      refine v_iconst (pc := 13) X (v := (-1 : Int32)) dX5_statement_13 (by decide) ?_
      exact v_iret (pc := 14) X hr hlk dX5_statement_14 hf
    · replace hf := if_f c hf
      refine v_iload_n (pc := 8) X 2 dX5_statement_8 rfl rfl ?_
      refine v_iconst (pc := 9) X (v := (3 : Int32)) dX5_statement_9 (by decide) ?_
      refine v_icmp_le (pc := 10) X 15 dX5_statement_10 (by decide) (fun c => ?_) (fun c => ?_)
      · replace hf := if_t c hf
        refine v_aload_n (pc := 15) X 0 dX5_statement_15 rfl rfl ?_
        obtain ⟨t1, hf⟩ := hf
        obtain ⟨q2, e_q2, hf⟩ := hf
        refine ge_5_0 (pc := 16) X (fun w h => inM w (inG5 w h)) k10 t1 e_q2 dX5_statement_16 ?_
        refine v_iload_n (pc := 19) X 1 dX5_statement_19 rfl rfl ?_
        obtain ⟨t3, hf⟩ := hf
        refine v_callVI (pc := 20) X (As := [.int p1]) (rest := []) (c_X2_sessionWith l D cA L sh q2 p1 h _ hf) (cwV 1 X.ht (gwV inM q_373 q_374 q_375 q_2 q_376) rfl rfl rfl (by decide +kernel) ⟨Nat.le_of_ble_eq_true rfl, Nat.le_of_ble_eq_true rfl⟩) rfl (by decide) t3 (ent_2 t3) rfl rfl (Nat.le_of_ble_eq_true rfl) ⟨Nat.zero_le _, Nat.zero_le _⟩ dX5_statement_20 (fun r4 h5 hf => ?_)
        refine v_istore_n (pc := 23) X (i := 3) (lv' := [(3, .int r4), (0, .ref a0), (1, .int p1), (2, .int p2)]) dX5_statement_23 rfl (Nat.le_of_ble_eq_true rfl) rfl ?_
        refine v_iload_n (pc := 24) X 0 dX5_statement_24 rfl rfl ?_
        refine v_if_lt (pc := 25) X 33 dX5_statement_25 (by decide) (fun c => ?_) (fun c => ?_)
        · replace hf := if_t c hf
          refine v_bipush (pc := 33) X (v := (-4 : Int32)) dX5_statement_33 (by decide) ?_
          exact v_iret (pc := 35) X hr hlk dX5_statement_35 hf
        · replace hf := if_f c hf
          refine v_iload_n (pc := 28) X 0 dX5_statement_28 rfl rfl ?_
          refine v_iconst (pc := 29) X (v := (4 : Int32)) dX5_statement_29 (by decide) ?_
          refine v_icmp_lt (pc := 30) X 36 dX5_statement_30 (by decide) (fun c => ?_) (fun c => ?_)
          · replace hf := if_t c hf
            refine v_aload_n (pc := 36) X 1 dX5_statement_36 rfl rfl ?_
            obtain ⟨q6, e_q6, hf⟩ := hf
            refine ge_5_0 (pc := 37) X (fun w h => inM w (inG5 w h)) k10 t1 e_q6 dX5_statement_37 ?_
            obtain ⟨t7, hf⟩ := hf
            obtain ⟨q8, e_q8, hf⟩ := hf
            refine ge_2_11 (pc := 40) X (fun w h => inM w (inG2 w h)) k94 t7 e_q8 dX5_statement_40 ?_
            refine v_iload_n (pc := 43) X 0 dX5_statement_43 rfl rfl ?_
            obtain ⟨t9, hf⟩ := hf
            obtain ⟨b11, q10, e_q10, hf⟩ := hf
            refine v_aald_9 (pc := 44) X t9 b11 e_q10 dX5_statement_44 ?_
            refine v_iload_n (pc := 45) X 2 dX5_statement_45 rfl rfl ?_
            obtain ⟨t12, hf⟩ := hf
            refine v_callVN (pc := 46) X (As := [.int p1]) (rest := []) (c_X1_workOf l D cA L sh q10 p1 h5 _ hf) (cwV 1 X.ht (gwV inM q_377 q_306 q_307 q_3 q_308) rfl rfl rfl (by decide +kernel) ⟨Nat.le_of_ble_eq_true rfl, Nat.le_of_ble_eq_true rfl⟩) rfl (by decide) t12 (ent_1 t12) rfl rfl (Nat.le_of_ble_eq_true rfl) ⟨Nat.zero_le _, Nat.zero_le _⟩ dX5_statement_46 (fun r13 h14 hf => ?_)
            rcases r13 with _ | q15
            · replace hf := hf.1 rfl
              refine v_astoreN (pc := 49) X (i := 4) (lv' := [(4, .null), (3, .int r4), (0, .ref a0), (1, .int p1), (2, .int p2)]) dX5_statement_49 (Nat.le_of_ble_eq_true rfl) rfl ?_
              refine v_aloadN (pc := 51) X 0 dX5_statement_51 rfl ?_
              refine v_ifnonnullN (pc := 53) X dX5_statement_53 ?_
              refine v_bipush (pc := 56) X (v := (-4 : Int32)) dX5_statement_56 (by decide) ?_
              exact v_iret (pc := 58) X hr hlk dX5_statement_58 hf
            · replace hf := hf.2 q15 rfl
              refine v_astore (pc := 49) X (i := 4) (lv' := [(4, .ref q15), (3, .int r4), (0, .ref a0), (1, .int p1), (2, .int p2)]) dX5_statement_49 (Nat.le_of_ble_eq_true rfl) rfl ?_
              refine v_aload (pc := 51) X 0 dX5_statement_51 rfl ?_
              refine v_ifnonnull (pc := 53) X 59 dX5_statement_53 (by decide) ?_
              refine v_iload_n (pc := 59) X 4 dX5_statement_59 rfl rfl ?_
              by_cases c0 : p2 = (0 : Int32)
              · replace hf := if_t c0 hf
                refine v_tableIn (pc := 60) X (off := 28) 88 dX5_statement_60 (by rw [c0]; decide) (by rw [c0]; decide) (by rw [c0]; decide) (by decide) ?_
                refine v_iload_n (pc := 88) X 1 dX5_statement_88 rfl rfl ?_
                exact v_iret (pc := 89) X hr hlk dX5_statement_89 hf
              replace hf := if_f c0 hf
              by_cases c1 : p2 = (1 : Int32)
              · replace hf := if_t c1 hf
                refine v_tableIn (pc := 60) X (off := 30) 90 dX5_statement_60 (by rw [c1]; decide) (by rw [c1]; decide) (by rw [c1]; decide) (by decide) ?_
                refine v_aload (pc := 90) X 0 dX5_statement_90 rfl ?_
                obtain ⟨t16, hf⟩ := hf
                obtain ⟨v17, e_v17, hf⟩ := hf
                refine ge_4_1 (pc := 92) X (fun w h => inM w (inG4 w h)) k160 t16 e_v17 dX5_statement_92 ?_
                exact v_iret (pc := 95) X hr hlk dX5_statement_95 hf
              replace hf := if_f c1 hf
              by_cases c2 : p2 = (2 : Int32)
              · replace hf := if_t c2 hf
                refine v_tableIn (pc := 60) X (off := 36) 96 dX5_statement_60 (by rw [c2]; decide) (by rw [c2]; decide) (by rw [c2]; decide) (by decide) ?_
                refine v_aload (pc := 96) X 0 dX5_statement_96 rfl ?_
                obtain ⟨t18, hf⟩ := hf
                obtain ⟨v19, e_v19, hf⟩ := hf
                refine ge_4_2 (pc := 98) X (fun w h => inM w (inG4 w h)) k165 t18 e_v19 dX5_statement_98 ?_
                exact v_iret (pc := 101) X hr hlk dX5_statement_101 hf
              replace hf := if_f c2 hf
              refine v_tableOut (pc := 60) X 102 dX5_statement_60 (tab_out_0_2 c0 c1 c2) (by decide) ?_
              refine v_aload (pc := 102) X 0 dX5_statement_102 rfl ?_
              refine v_aload_n (pc := 104) X 2 dX5_statement_104 rfl rfl ?_
              obtain ⟨q20, e_q20, hf⟩ := hf
              refine ge_5_0 (pc := 105) X (fun w h => inM w (inG5 w h)) k10 t1 e_q20 dX5_statement_105 ?_
              obtain ⟨t21, hf⟩ := hf
              obtain ⟨q22, e_q22, hf⟩ := hf
              refine ge_2_3 (pc := 108) X (fun w h => inM w (inG2 w h)) k77 t21 e_q22 dX5_statement_108 ?_
              obtain ⟨t23, hf⟩ := hf
              refine v_callVI (pc := 111) X (As := [.ref q22]) (rest := []) (c_X4_outrunBy l D cA L sh q15 q22 h14 _ hf) (cwV 1 X.ht (gwV inM q_378 q_379 q_380 q_5 q_381) rfl rfl rfl (by decide +kernel) ⟨Nat.le_of_ble_eq_true rfl, Nat.le_of_ble_eq_true rfl⟩) rfl (by decide) t23 (ent_4 t23) rfl rfl (Nat.le_of_ble_eq_true rfl) ⟨Nat.zero_le _, Nat.zero_le _⟩ dX5_statement_111 (fun r24 h25 hf => ?_)
              exact v_iret (pc := 114) X hr hlk dX5_statement_114 hf
          · replace hf := if_f c hf
            refine v_bipush (pc := 33) X (v := (-4 : Int32)) dX5_statement_33 (by decide) ?_
            exact v_iret (pc := 35) X hr hlk dX5_statement_35 hf
      · replace hf := if_f c hf
        refine v_iconst (pc := 13) X (v := (-1 : Int32)) dX5_statement_13 (by decide) ?_
        exact v_iret (pc := 14) X hr hlk dX5_statement_14 hf
set_option maxHeartbeats 4000000 in
set_option maxRecDepth 100000 in
theorem c_X5_tableOf (l : Launch) (D : va_G) (cA : Nat → ClassId) (L : List Nat) (sh : Sh) (a0 : Nat) (p1 : Int32) (p2 : Int32) (h : Hp) (K : Int32 → Hp → Prop) (hf : f_X5_tableOf sh a0 p1 p2 h K) : Met l yX5_tableOf (wM yX5_tableOf cX5_tableOf 3 (some .int)) ({ frames := 3, cells := 0, slots := 0, locals := 68 } : Room) (PreM D cA L sh h [.ref a0, .int p1, .int p2]) (QI D cA L sh K) 0 0 (fun q => q ∈ L) := by
  refine met_v (cc := cX5_tableOf) (nL := 3) (ret := (some .int)) [(0, .ref a0), (1, .int p1), (2, .int p2)] (by decide) rfl (Nat.le_of_ble_eq_true rfl) rfl ?_
  intro p e s0 m below meth c X hr hlk
  have k10 := X.ht _ (inM _ q_185)
  have k77 := X.ht _ (inM _ q_124)
  have k81 := X.ht _ (inM _ q_126)
  unfold f_X5_tableOf at hf
  refine v_iload_n (pc := 0) X 1 dX5_tableOf_0 rfl rfl ?_
  refine v_if_lt (pc := 1) X 10 dX5_tableOf_1 (by decide) (fun c => ?_) (fun c => ?_)
  · replace hf := if_t c hf
    refine v_iconst (pc := 10) X (v := (-1 : Int32)) dX5_tableOf_10 (by decide) ?_
    exact v_iret (pc := 11) X hr hlk dX5_tableOf_11 hf
  · replace hf := if_f c hf
    refine v_iload_n (pc := 4) X 1 dX5_tableOf_4 rfl rfl ?_
    refine v_bipush (pc := 5) X (v := (6 : Int32)) dX5_tableOf_5 (by decide) ?_
    refine v_icmp_lt (pc := 7) X 12 dX5_tableOf_7 (by decide) (fun c => ?_) (fun c => ?_)
    · replace hf := if_t c hf
      refine v_iload_n (pc := 12) X 2 dX5_tableOf_12 rfl rfl ?_
      by_cases c0 : p2 = (0 : Int32)
      · replace hf := if_t c0 hf
        refine v_tableIn (pc := 13) X (off := 35) 48 dX5_tableOf_13 (by rw [c0]; decide) (by rw [c0]; decide) (by rw [c0]; decide) (by decide) ?_
        refine v_aload_n (pc := 48) X 0 dX5_tableOf_48 rfl rfl ?_
        obtain ⟨t1, hf⟩ := hf
        obtain ⟨q2, e_q2, hf⟩ := hf
        refine ge_5_0 (pc := 49) X (fun w h => inM w (inG5 w h)) k10 t1 e_q2 dX5_tableOf_49 ?_
        obtain ⟨t3, hf⟩ := hf
        obtain ⟨q4, e_q4, hf⟩ := hf
        refine ge_2_3 (pc := 52) X (fun w h => inM w (inG2 w h)) k77 t3 e_q4 dX5_tableOf_52 ?_
        refine v_iload_n (pc := 55) X 1 dX5_tableOf_55 rfl rfl ?_
        obtain ⟨t5, hf⟩ := hf
        obtain ⟨b7, v6, e_v6, hf⟩ := hf
        refine v_iald (pc := 56) X t5 b7 e_v6 dX5_tableOf_56 ?_
        exact v_iret (pc := 57) X hr hlk dX5_tableOf_57 hf
      replace hf := if_f c0 hf
      by_cases c1 : p2 = (1 : Int32)
      · replace hf := if_t c1 hf
        refine v_tableIn (pc := 13) X (off := 45) 58 dX5_tableOf_13 (by rw [c1]; decide) (by rw [c1]; decide) (by rw [c1]; decide) (by decide) ?_
        refine v_aload_n (pc := 58) X 0 dX5_tableOf_58 rfl rfl ?_
        obtain ⟨t8, hf⟩ := hf
        obtain ⟨q9, e_q9, hf⟩ := hf
        refine ge_5_0 (pc := 59) X (fun w h => inM w (inG5 w h)) k10 t8 e_q9 dX5_tableOf_59 ?_
        obtain ⟨t10, hf⟩ := hf
        obtain ⟨q11, e_q11, hf⟩ := hf
        refine ge_2_4 (pc := 62) X (fun w h => inM w (inG2 w h)) k81 t10 e_q11 dX5_tableOf_62 ?_
        refine v_iload_n (pc := 65) X 1 dX5_tableOf_65 rfl rfl ?_
        obtain ⟨t12, hf⟩ := hf
        obtain ⟨b14, v13, e_v13, hf⟩ := hf
        refine v_iald (pc := 66) X t12 b14 e_v13 dX5_tableOf_66 ?_
        exact v_iret (pc := 67) X hr hlk dX5_tableOf_67 hf
      replace hf := if_f c1 hf
      by_cases c2 : p2 = (2 : Int32)
      · replace hf := if_t c2 hf
        refine v_tableIn (pc := 13) X (off := 55) 68 dX5_tableOf_13 (by rw [c2]; decide) (by rw [c2]; decide) (by rw [c2]; decide) (by decide) ?_
        refine v_aload_n (pc := 68) X 0 dX5_tableOf_68 rfl rfl ?_
        obtain ⟨t15, hf⟩ := hf
        obtain ⟨q16, e_q16, hf⟩ := hf
        refine ge_5_0 (pc := 69) X (fun w h => inM w (inG5 w h)) k10 t15 e_q16 dX5_tableOf_69 ?_
        refine v_iload_n (pc := 72) X 1 dX5_tableOf_72 rfl rfl ?_
        obtain ⟨t17, hf⟩ := hf
        refine v_callVI (pc := 73) X (As := [.int p1]) (rest := []) (c_X2_leastVersionAtWork l D cA L sh q16 p1 h _ hf) (cwV 1 X.ht (gwV inM q_342 q_234 q_235 q_2 q_236) rfl rfl rfl (by decide +kernel) ⟨Nat.le_of_ble_eq_true rfl, Nat.le_of_ble_eq_true rfl⟩) rfl (by decide) t17 (ent_2 t17) rfl rfl (Nat.le_of_ble_eq_true rfl) ⟨Nat.zero_le _, Nat.zero_le _⟩ dX5_tableOf_73 (fun r18 h19 hf => ?_)
        exact v_iret (pc := 76) X hr hlk dX5_tableOf_76 hf
      replace hf := if_f c2 hf
      by_cases c3 : p2 = (3 : Int32)
      · replace hf := if_t c3 hf
        refine v_tableIn (pc := 13) X (off := 64) 77 dX5_tableOf_13 (by rw [c3]; decide) (by rw [c3]; decide) (by rw [c3]; decide) (by decide) ?_
        refine v_aload_n (pc := 77) X 0 dX5_tableOf_77 rfl rfl ?_
        obtain ⟨t20, hf⟩ := hf
        obtain ⟨q21, e_q21, hf⟩ := hf
        refine ge_5_0 (pc := 78) X (fun w h => inM w (inG5 w h)) k10 t20 e_q21 dX5_tableOf_78 ?_
        refine v_iload_n (pc := 81) X 1 dX5_tableOf_81 rfl rfl ?_
        obtain ⟨t22, hf⟩ := hf
        refine v_callVI (pc := 82) X (As := [.int p1]) (rest := []) (c_X2_handsWith l D cA L sh q21 p1 h _ hf) (cwV 1 X.ht (gwV inM q_343 q_344 q_345 q_2 q_346) rfl rfl rfl (by decide +kernel) ⟨Nat.le_of_ble_eq_true rfl, Nat.le_of_ble_eq_true rfl⟩) rfl (by decide) t22 (ent_2 t22) rfl rfl (Nat.le_of_ble_eq_true rfl) ⟨Nat.zero_le _, Nat.zero_le _⟩ dX5_tableOf_82 (fun r23 h24 hf => ?_)
        exact v_iret (pc := 85) X hr hlk dX5_tableOf_85 hf
      replace hf := if_f c3 hf
      by_cases c4 : p2 = (4 : Int32)
      · replace hf := if_t c4 hf
        refine v_tableIn (pc := 13) X (off := 73) 86 dX5_tableOf_13 (by rw [c4]; decide) (by rw [c4]; decide) (by rw [c4]; decide) (by decide) ?_
        refine v_aload_n (pc := 86) X 0 dX5_tableOf_86 rfl rfl ?_
        obtain ⟨t25, hf⟩ := hf
        obtain ⟨q26, e_q26, hf⟩ := hf
        refine ge_5_0 (pc := 87) X (fun w h => inM w (inG5 w h)) k10 t25 e_q26 dX5_tableOf_87 ?_
        refine v_iload_n (pc := 90) X 1 dX5_tableOf_90 rfl rfl ?_
        obtain ⟨t27, hf⟩ := hf
        refine v_callVI (pc := 91) X (As := [.int p1]) (rest := []) (c_X2_canChange l D cA L sh q26 p1 h _ hf) (cwV 1 X.ht (gwV inM q_348 q_230 q_231 q_2 q_232) rfl rfl rfl (by decide +kernel) ⟨Nat.le_of_ble_eq_true rfl, Nat.le_of_ble_eq_true rfl⟩) rfl (by decide) t27 (ent_2 t27) rfl rfl (Nat.le_of_ble_eq_true rfl) ⟨Nat.zero_le _, Nat.zero_le _⟩ dX5_tableOf_91 (fun r28 h29 hf => ?_)
        refine v_if_eq (pc := 94) X 101 dX5_tableOf_94 (by decide) (fun c => ?_) (fun c => ?_)
        · replace hf := if_t c hf
          refine v_iconst (pc := 101) X (v := (0 : Int32)) dX5_tableOf_101 (by decide) ?_
          exact v_iret (pc := 102) X hr hlk dX5_tableOf_102 hf
        · replace hf := if_f c hf
          refine v_iconst (pc := 97) X (v := (1 : Int32)) dX5_tableOf_97 (by decide) ?_
          refine v_goto (pc := 98) X 102 dX5_tableOf_98 (by decide) ?_
          exact v_iret (pc := 102) X hr hlk dX5_tableOf_102 hf
      replace hf := if_f c4 hf
      refine v_tableOut (pc := 13) X 103 dX5_tableOf_13 (tab_out_0_4 c0 c1 c2 c3 c4) (by decide) ?_
      refine v_iconst (pc := 103) X (v := (-1 : Int32)) dX5_tableOf_103 (by decide) ?_
      exact v_iret (pc := 104) X hr hlk dX5_tableOf_104 hf
    · replace hf := if_f c hf
      refine v_iconst (pc := 10) X (v := (-1 : Int32)) dX5_tableOf_10 (by decide) ?_
      exact v_iret (pc := 11) X hr hlk dX5_tableOf_11 hf
set_option maxHeartbeats 4000000 in
set_option maxRecDepth 100000 in
theorem c_X5_tick (l : Launch) (D : va_G) (cA : Nat → ClassId) (L : List Nat) (sh : Sh) (a0 : Nat) (p1 : Int32) (h : Hp) (K : Int32 → Hp → Prop) (hf : f_X5_tick sh a0 p1 h K) : Met l yX5_tick (wM yX5_tick cX5_tick 2 (some .int)) ({ frames := 4, cells := 0, slots := 0, locals := 95 } : Room) (PreM D cA L sh h [.ref a0, .int p1]) (QI D cA L sh K) 0 0 (fun q => q ∈ L) := by
  refine met_v (cc := cX5_tick) (nL := 2) (ret := (some .int)) [(0, .ref a0), (1, .int p1)] (by decide) rfl (Nat.le_of_ble_eq_true rfl) rfl ?_
  intro p e s0 m below meth c X hr hlk
  have k19 := X.ht _ (inM _ q_186)
  have k10 := X.ht _ (inM _ q_185)
  unfold f_X5_tick at hf
  refine v_aload_n (pc := 0) X 0 dX5_tick_0 rfl rfl ?_
  obtain ⟨t1, hf⟩ := hf
  obtain ⟨q2, e_q2, hf⟩ := hf
  refine ge_5_1 (pc := 1) X (fun w h => inM w (inG5 w h)) k19 t1 e_q2 dX5_tick_1 ?_
  refine v_aload_n (pc := 4) X 0 dX5_tick_4 rfl rfl ?_
  obtain ⟨q3, e_q3, hf⟩ := hf
  refine ge_5_0 (pc := 5) X (fun w h => inM w (inG5 w h)) k10 t1 e_q3 dX5_tick_5 ?_
  obtain ⟨t4, hf⟩ := hf
  refine v_callVV (pc := 8) X (As := [.ref q3]) (rest := []) (c_X2_copyFrom l D cA L sh q2 q3 h _ hf) (cwV 1 X.ht (gwV inM q_209 q_210 q_211 q_2 q_212) rfl rfl rfl (by decide +kernel) ⟨Nat.le_of_ble_eq_true rfl, Nat.le_of_ble_eq_true rfl⟩) rfl (by decide) t4 (ent_2 t4) rfl rfl (Nat.le_of_ble_eq_true rfl) ⟨Nat.zero_le _, Nat.zero_le _⟩ dX5_tick_8 (fun h6 hf => ?_)
  refine v_aload_n (pc := 11) X 0 dX5_tick_11 rfl rfl ?_
  refine v_aload_n (pc := 12) X 0 dX5_tick_12 rfl rfl ?_
  obtain ⟨q7, e_q7, hf⟩ := hf
  refine ge_5_1 (pc := 13) X (fun w h => inM w (inG5 w h)) k19 t1 e_q7 dX5_tick_13 ?_
  refine v_iload_n (pc := 16) X 1 dX5_tick_16 rfl rfl ?_
  obtain ⟨t8, hf⟩ := hf
  refine v_callVI (pc := 17) X (As := [.int p1]) (rest := [.ref a0]) (c_X2_pass l D cA L sh q7 p1 h6 _ hf) (cwV 1 X.ht (gwV inM q_322 q_323 q_324 q_2 q_325) rfl rfl rfl (by decide +kernel) ⟨Nat.le_of_ble_eq_true rfl, Nat.le_of_ble_eq_true rfl⟩) rfl (by decide) t8 (ent_2 t8) rfl rfl (Nat.le_of_ble_eq_true rfl) ⟨Nat.zero_le _, Nat.zero_le _⟩ dX5_tick_17 (fun r9 h10 hf => ?_)
  refine v_callVI (pc := 20) X (As := [.int r9]) (rest := []) (c_X5_settle l D cA L sh a0 r9 h10 _ hf) (cwV 1 X.ht (gwV inM q_251 q_252 q_738 q_1 q_253) rfl rfl rfl (by decide +kernel) ⟨Nat.le_of_ble_eq_true rfl, Nat.le_of_ble_eq_true rfl⟩) rfl (by decide) t1 (ent_5 t1) rfl rfl (Nat.le_of_ble_eq_true rfl) ⟨Nat.zero_le _, Nat.zero_le _⟩ dX5_tick_20 (fun r11 h12 hf => ?_)
  exact v_iret (pc := 23) X hr hlk dX5_tick_23 hf
set_option maxHeartbeats 4000000 in
set_option maxRecDepth 100000 in
theorem c_X5_type (l : Launch) (D : va_G) (cA : Nat → ClassId) (L : List Nat) (sh : Sh) (a0 : Nat) (p1 : Int32) (h : Hp) (K : Int32 → Hp → Prop) (hf : f_X5_type sh a0 p1 h K) : Met l yX5_type (wM yX5_type cX5_type 2 (some .int)) ({ frames := 0, cells := 0, slots := 0, locals := 0 } : Room) (PreM D cA L sh h [.ref a0, .int p1]) (QI D cA L sh K) 0 0 (fun q => q ∈ L) := by
  refine met_v (cc := cX5_type) (nL := 2) (ret := (some .int)) [(0, .ref a0), (1, .int p1)] (by decide) rfl (Nat.le_of_ble_eq_true rfl) rfl ?_
  intro p e s0 m below meth c X hr hlk
  have k40 := X.ht _ (inM _ q_191)
  have k185 := X.ht _ (inM _ q_170)
  have k220 := X.ht _ (inM _ q_168)
  unfold f_X5_type at hf
  refine v_iload_n (pc := 0) X 1 dX5_type_0 rfl rfl ?_
  refine v_bipush (pc := 1) X (v := (32 : Int32)) dX5_type_1 (by decide) ?_
  refine v_icmp_lt (pc := 3) X 12 dX5_type_3 (by decide) (fun c => ?_) (fun c => ?_)
  · replace hf := if_t c hf
    refine v_iconst (pc := 12) X (v := (-1 : Int32)) dX5_type_12 (by decide) ?_
    exact v_iret (pc := 13) X hr hlk dX5_type_13 hf
  · replace hf := if_f c hf
    refine v_iload_n (pc := 6) X 1 dX5_type_6 rfl rfl ?_
    refine v_bipush (pc := 7) X (v := (126 : Int32)) dX5_type_7 (by decide) ?_
    refine v_icmp_le (pc := 9) X 14 dX5_type_9 (by decide) (fun c => ?_) (fun c => ?_)
    · replace hf := if_t c hf
      refine v_aload_n (pc := 14) X 0 dX5_type_14 rfl rfl ?_
      obtain ⟨t1, hf⟩ := hf
      obtain ⟨q2, e_q2, hf⟩ := hf
      refine ge_5_6 (pc := 15) X (fun w h => inM w (inG5 w h)) k40 t1 e_q2 dX5_type_15 ?_
      obtain ⟨t3, hf⟩ := hf
      obtain ⟨v4, e_v4, hf⟩ := hf
      refine ge_3_1 (pc := 18) X (fun w h => inM w (inG3 w h)) k185 t3 e_v4 dX5_type_18 ?_
      refine v_bipush (pc := 21) X (v := (60 : Int32)) dX5_type_21 (by decide) ?_
      refine v_icmp_lt (pc := 23) X 29 dX5_type_23 (by decide) (fun c => ?_) (fun c => ?_)
      · replace hf := if_t c hf
        refine v_aload_n (pc := 29) X 0 dX5_type_29 rfl rfl ?_
        obtain ⟨q5, e_q5, hf⟩ := hf
        refine ge_5_6 (pc := 30) X (fun w h => inM w (inG5 w h)) k40 t1 e_q5 dX5_type_30 ?_
        obtain ⟨t6, hf⟩ := hf
        obtain ⟨q7, e_q7, hf⟩ := hf
        refine ge_3_0 (pc := 33) X (fun w h => inM w (inG3 w h)) k220 t6 e_q7 dX5_type_33 ?_
        refine v_aload_n (pc := 36) X 0 dX5_type_36 rfl rfl ?_
        obtain ⟨q8, e_q8, hf⟩ := hf
        refine ge_5_6 (pc := 37) X (fun w h => inM w (inG5 w h)) k40 t1 e_q8 dX5_type_37 ?_
        obtain ⟨t9, hf⟩ := hf
        obtain ⟨v10, e_v10, hf⟩ := hf
        refine ge_3_1 (pc := 40) X (fun w h => inM w (inG3 w h)) k185 t9 e_v10 dX5_type_40 ?_
        refine v_iload_n (pc := 43) X 1 dX5_type_43 rfl rfl ?_
        obtain ⟨t11, hf⟩ := hf
        obtain ⟨b13, h12, e_h12, hf⟩ := hf
        refine v_iast (pc := 44) X t11 b13 e_h12 dX5_type_44 ?_
        refine v_aload_n (pc := 45) X 0 dX5_type_45 rfl rfl ?_
        obtain ⟨q14, e_q14, hf⟩ := hf
        refine ge_5_6 (pc := 46) X (fun w h => inM w (inG5 w h)) k40 t1 e_q14 dX5_type_46 ?_
        refine v_dup (pc := 49) X dX5_type_49 rfl ?_
        obtain ⟨t15, hf⟩ := hf
        obtain ⟨v16, e_v16, hf⟩ := hf
        refine ge_3_1 (pc := 50) X (fun w h => inM w (inG3 w h)) k185 t15 e_v16 dX5_type_50 ?_
        refine v_iconst (pc := 53) X (v := (1 : Int32)) dX5_type_53 (by decide) ?_
        refine v_iadd (pc := 54) X dX5_type_54 ?_
        obtain ⟨h17, e_h17, hf⟩ := hf
        refine pu_3_1 (pc := 55) X (fun w h => inM w (inG3 w h)) k185 t15 e_h17 dX5_type_55 ?_
        refine v_aload_n (pc := 58) X 0 dX5_type_58 rfl rfl ?_
        obtain ⟨q18, e_q18, hf⟩ := hf
        refine ge_5_6 (pc := 59) X (fun w h => inM w (inG5 w h)) k40 t1 e_q18 dX5_type_59 ?_
        obtain ⟨t19, hf⟩ := hf
        obtain ⟨v20, e_v20, hf⟩ := hf
        refine ge_3_1 (pc := 62) X (fun w h => inM w (inG3 w h)) k185 t19 e_v20 dX5_type_62 ?_
        exact v_iret (pc := 65) X hr hlk dX5_type_65 hf
      · replace hf := if_f c hf
        refine v_bipush (pc := 26) X (v := (-3 : Int32)) dX5_type_26 (by decide) ?_
        exact v_iret (pc := 28) X hr hlk dX5_type_28 hf
    · replace hf := if_f c hf
      refine v_iconst (pc := 12) X (v := (-1 : Int32)) dX5_type_12 (by decide) ?_
      exact v_iret (pc := 13) X hr hlk dX5_type_13 hf
set_option maxHeartbeats 4000000 in
set_option maxRecDepth 100000 in
theorem c_X5_undo (l : Launch) (D : va_G) (cA : Nat → ClassId) (L : List Nat) (sh : Sh) (a0 : Nat) (h : Hp) (K : Int32 → Hp → Prop) (hf : f_X5_undo sh a0 h K) : Met l yX5_undo (wM yX5_undo cX5_undo 2 (some .int)) ({ frames := 0, cells := 0, slots := 0, locals := 0 } : Room) (PreM D cA L sh h [.ref a0]) (QI D cA L sh K) 0 0 (fun q => q ∈ L) := by
  refine met_v (cc := cX5_undo) (nL := 2) (ret := (some .int)) [(0, .ref a0)] (by decide) rfl (Nat.le_of_ble_eq_true rfl) rfl ?_
  intro p e s0 m below meth c X hr hlk
  have k33 := X.ht _ (inM _ q_190)
  have k29 := X.ht _ (inM _ q_189)
  have k10 := X.ht _ (inM _ q_185)
  unfold f_X5_undo at hf
  refine v_aload_n (pc := 0) X 0 dX5_undo_0 rfl rfl ?_
  obtain ⟨t1, hf⟩ := hf
  obtain ⟨v2, e_v2, hf⟩ := hf
  refine ge_5_5 (pc := 1) X (fun w h => inM w (inG5 w h)) k33 t1 e_v2 dX5_undo_1 ?_
  refine v_if_gt (pc := 4) X 10 dX5_undo_4 (by decide) (fun c => ?_) (fun c => ?_)
  · replace hf := if_t c hf
    refine v_aload_n (pc := 10) X 0 dX5_undo_10 rfl rfl ?_
    refine v_dup (pc := 11) X dX5_undo_11 rfl ?_
    obtain ⟨v3, e_v3, hf⟩ := hf
    refine ge_5_5 (pc := 12) X (fun w h => inM w (inG5 w h)) k33 t1 e_v3 dX5_undo_12 ?_
    refine v_iconst (pc := 15) X (v := (1 : Int32)) dX5_undo_15 (by decide) ?_
    refine v_isub (pc := 16) X dX5_undo_16 ?_
    obtain ⟨h4, e_h4, hf⟩ := hf
    refine pu_5_5 (pc := 17) X (fun w h => inM w (inG5 w h)) k33 t1 e_h4 dX5_undo_17 ?_
    refine v_aload_n (pc := 20) X 0 dX5_undo_20 rfl rfl ?_
    obtain ⟨q5, e_q5, hf⟩ := hf
    refine ge_5_4 (pc := 21) X (fun w h => inM w (inG5 w h)) k29 t1 e_q5 dX5_undo_21 ?_
    refine v_aload_n (pc := 24) X 0 dX5_undo_24 rfl rfl ?_
    obtain ⟨v6, e_v6, hf⟩ := hf
    refine ge_5_5 (pc := 25) X (fun w h => inM w (inG5 w h)) k33 t1 e_v6 dX5_undo_25 ?_
    obtain ⟨t7, hf⟩ := hf
    obtain ⟨b9, q8, e_q8, hf⟩ := hf
    refine v_aald_10 (pc := 28) X t7 b9 e_q8 dX5_undo_28 ?_
    refine v_astore_n (pc := 29) X (i := 1) (lv' := [(1, .ref q8), (0, .ref a0)]) dX5_undo_29 rfl (Nat.le_of_ble_eq_true rfl) rfl ?_
    refine v_aload_n (pc := 30) X 1 dX5_undo_30 rfl rfl ?_
    obtain ⟨q10, e_q10, hf⟩ := hf
    refine ge_5_4 (pc := 31) X (fun w h => inM w (inG5 w h)) k29 t1 e_q10 dX5_undo_31 ?_
    refine v_aload_n (pc := 34) X 1 dX5_undo_34 rfl rfl ?_
    obtain ⟨v11, e_v11, hf⟩ := hf
    refine ge_5_5 (pc := 35) X (fun w h => inM w (inG5 w h)) k33 t1 e_v11 dX5_undo_35 ?_
    refine v_aload_n (pc := 38) X 1 dX5_undo_38 rfl rfl ?_
    obtain ⟨q12, e_q12, hf⟩ := hf
    refine ge_5_0 (pc := 39) X (fun w h => inM w (inG5 w h)) k10 t1 e_q12 dX5_undo_39 ?_
    obtain ⟨t13, hf⟩ := hf
    obtain ⟨t14, hf⟩ := hf
    obtain ⟨b16, h15, e_h15, hf⟩ := hf
    refine v_aast_10 (pc := 42) X t13 t14 b16 e_h15 dX5_undo_42 ?_
    refine v_aload_n (pc := 43) X 1 dX5_undo_43 rfl rfl ?_
    refine v_aload_n (pc := 44) X 0 dX5_undo_44 rfl rfl ?_
    obtain ⟨h17, e_h17, hf⟩ := hf
    refine pu_5_0 (pc := 45) X (fun w h => inM w (inG5 w h)) k10 t1 e_h17 dX5_undo_45 ?_
    refine v_aload_n (pc := 48) X 1 dX5_undo_48 rfl rfl ?_
    obtain ⟨v18, e_v18, hf⟩ := hf
    refine ge_5_5 (pc := 49) X (fun w h => inM w (inG5 w h)) k33 t1 e_v18 dX5_undo_49 ?_
    exact v_iret (pc := 52) X hr hlk dX5_undo_52 hf
  · replace hf := if_f c hf
    refine v_bipush (pc := 7) X (v := (-2 : Int32)) dX5_undo_7 (by decide) ?_
    exact v_iret (pc := 9) X hr hlk dX5_undo_9 hf
set_option maxHeartbeats 4000000 in
set_option maxRecDepth 100000 in
theorem c_X5_would (l : Launch) (D : va_G) (cA : Nat → ClassId) (L : List Nat) (sh : Sh) (a0 : Nat) (p1 : Int32) (p2 : Int32) (p3 : Int32) (h : Hp) (K : Int32 → Hp → Prop) (hf : f_X5_would sh a0 p1 p2 p3 h K) : Met l yX5_would (wM yX5_would cX5_would 7 (some .int)) ({ frames := 4, cells := 0, slots := 0, locals := 99 } : Room) (PreM D cA L sh h [.ref a0, .int p1, .int p2, .int p3]) (QI D cA L sh K) 0 0 (fun q => q ∈ L) := by
  refine met_v (cc := cX5_would) (nL := 7) (ret := (some .int)) [(0, .ref a0), (1, .int p1), (2, .int p2), (3, .int p3)] (by decide) rfl (Nat.le_of_ble_eq_true rfl) rfl ?_
  intro p e s0 m below meth c X hr hlk
  have k19 := X.ht _ (inM _ q_186)
  have k10 := X.ht _ (inM _ q_185)
  have k94 := X.ht _ (inM _ q_139)
  have k116 := X.ht _ (inM _ q_91)
  have k119 := X.ht _ (inM _ q_93)
  have k122 := X.ht _ (inM _ q_96)
  have k98 := X.ht _ (inM _ q_89)
  unfold f_X5_would at hf
  refine v_iload_n (pc := 0) X 1 dX5_would_0 rfl rfl ?_
  refine v_if_lt (pc := 1) X 18 dX5_would_1 (by decide) (fun c => ?_) (fun c => ?_)
  · replace hf := if_t c hf
    refine v_iconst (pc := 18) X (v := (-1 : Int32)) dX5_would_18 (by decide) ?_
    exact v_iret (pc := 19) X hr hlk dX5_would_19 hf
  · replace hf := if_f c hf
    refine v_iload_n (pc := 4) X 1 dX5_would_4 rfl rfl ?_
    refine v_iconst (pc := 5) X (v := (4 : Int32)) dX5_would_5 (by decide) ?_
    refine v_icmp_ge (pc := 6) X 18 dX5_would_6 (by decide) (fun c => ?_) (fun c => ?_)
    · replace hf := if_t c hf
      refine v_iconst (pc := 18) X (v := (-1 : Int32)) dX5_would_18 (by decide) ?_
      exact v_iret (pc := 19) X hr hlk dX5_would_19 hf
    · replace hf := if_f c hf
      refine v_iload_n (pc := 9) X 3 dX5_would_9 rfl rfl ?_
      refine v_if_lt (pc := 10) X 18 dX5_would_10 (by decide) (fun c => ?_) (fun c => ?_)
      · replace hf := if_t c hf
        refine v_iconst (pc := 18) X (v := (-1 : Int32)) dX5_would_18 (by decide) ?_
        exact v_iret (pc := 19) X hr hlk dX5_would_19 hf
      · replace hf := if_f c hf
        refine v_iload_n (pc := 13) X 3 dX5_would_13 rfl rfl ?_
        refine v_iconst (pc := 14) X (v := (3 : Int32)) dX5_would_14 (by decide) ?_
        refine v_icmp_le (pc := 15) X 20 dX5_would_15 (by decide) (fun c => ?_) (fun c => ?_)
        · replace hf := if_t c hf
          refine v_aload_n (pc := 20) X 0 dX5_would_20 rfl rfl ?_
          obtain ⟨t1, hf⟩ := hf
          obtain ⟨q2, e_q2, hf⟩ := hf
          refine ge_5_1 (pc := 21) X (fun w h => inM w (inG5 w h)) k19 t1 e_q2 dX5_would_21 ?_
          refine v_aload_n (pc := 24) X 0 dX5_would_24 rfl rfl ?_
          obtain ⟨q3, e_q3, hf⟩ := hf
          refine ge_5_0 (pc := 25) X (fun w h => inM w (inG5 w h)) k10 t1 e_q3 dX5_would_25 ?_
          obtain ⟨t4, hf⟩ := hf
          refine v_callVV (pc := 28) X (As := [.ref q3]) (rest := []) (c_X2_copyFrom l D cA L sh q2 q3 h _ hf) (cwV 1 X.ht (gwV inM q_209 q_210 q_211 q_2 q_212) rfl rfl rfl (by decide +kernel) ⟨Nat.le_of_ble_eq_true rfl, Nat.le_of_ble_eq_true rfl⟩) rfl (by decide) t4 (ent_2 t4) rfl rfl (Nat.le_of_ble_eq_true rfl) ⟨Nat.zero_le _, Nat.zero_le _⟩ dX5_would_28 (fun h6 hf => ?_)
          refine v_aload_n (pc := 31) X 0 dX5_would_31 rfl rfl ?_
          obtain ⟨q7, e_q7, hf⟩ := hf
          refine ge_5_1 (pc := 32) X (fun w h => inM w (inG5 w h)) k19 t1 e_q7 dX5_would_32 ?_
          refine v_iload_n (pc := 35) X 1 dX5_would_35 rfl rfl ?_
          refine v_iload_n (pc := 36) X 2 dX5_would_36 rfl rfl ?_
          obtain ⟨t8, hf⟩ := hf
          refine v_callVI (pc := 37) X (As := [.int p1, .int p2]) (rest := []) (c_X2_begin l D cA L sh q7 p1 p2 h6 _ hf) (cwV 2 X.ht (gwV inM q_261 q_262 q_263 q_2 q_264) rfl rfl rfl (by decide +kernel) ⟨Nat.le_of_ble_eq_true rfl, Nat.le_of_ble_eq_true rfl⟩) rfl (by decide) t8 (ent_2 t8) rfl rfl (Nat.le_of_ble_eq_true rfl) ⟨Nat.zero_le _, Nat.zero_le _⟩ dX5_would_37 (fun r9 h10 hf => ?_)
          refine v_istore (pc := 40) X (i := 4) (lv' := [(4, .int r9), (0, .ref a0), (1, .int p1), (2, .int p2), (3, .int p3)]) dX5_would_40 (Nat.le_of_ble_eq_true rfl) rfl ?_
          refine v_iload (pc := 42) X 0 dX5_would_42 rfl ?_
          refine v_if_ge (pc := 44) X 50 dX5_would_44 (by decide) (fun c => ?_) (fun c => ?_)
          · replace hf := if_t c hf
            refine v_aload_n (pc := 50) X 1 dX5_would_50 rfl rfl ?_
            obtain ⟨q11, e_q11, hf⟩ := hf
            refine ge_5_0 (pc := 51) X (fun w h => inM w (inG5 w h)) k10 t1 e_q11 dX5_would_51 ?_
            obtain ⟨t12, hf⟩ := hf
            obtain ⟨q13, e_q13, hf⟩ := hf
            refine ge_2_11 (pc := 54) X (fun w h => inM w (inG2 w h)) k94 t12 e_q13 dX5_would_54 ?_
            refine v_iload_n (pc := 57) X 2 dX5_would_57 rfl rfl ?_
            obtain ⟨t14, hf⟩ := hf
            obtain ⟨b16, q15, e_q15, hf⟩ := hf
            refine v_aald_9 (pc := 58) X t14 b16 e_q15 dX5_would_58 ?_
            refine v_astore (pc := 59) X (i := 5) (lv' := [(5, .ref q15), (4, .int r9), (0, .ref a0), (1, .int p1), (2, .int p2), (3, .int p3)]) dX5_would_59 (Nat.le_of_ble_eq_true rfl) rfl ?_
            refine v_aload_n (pc := 61) X 2 dX5_would_61 rfl rfl ?_
            obtain ⟨q17, e_q17, hf⟩ := hf
            refine ge_5_1 (pc := 62) X (fun w h => inM w (inG5 w h)) k19 t1 e_q17 dX5_would_62 ?_
            obtain ⟨t18, hf⟩ := hf
            obtain ⟨q19, e_q19, hf⟩ := hf
            refine ge_2_11 (pc := 65) X (fun w h => inM w (inG2 w h)) k94 t18 e_q19 dX5_would_65 ?_
            refine v_iload_n (pc := 68) X 3 dX5_would_68 rfl rfl ?_
            obtain ⟨t20, hf⟩ := hf
            obtain ⟨b22, q21, e_q21, hf⟩ := hf
            refine v_aald_9 (pc := 69) X t20 b22 e_q21 dX5_would_69 ?_
            refine v_astore (pc := 70) X (i := 6) (lv' := [(6, .ref q21), (5, .ref q15), (4, .int r9), (0, .ref a0), (1, .int p1), (2, .int p2), (3, .int p3)]) dX5_would_70 (Nat.le_of_ble_eq_true rfl) rfl ?_
            refine v_iload_n (pc := 72) X 6 dX5_would_72 rfl rfl ?_
            by_cases c0 : p3 = (0 : Int32)
            · replace hf := if_t c0 hf
              refine v_tableIn (pc := 73) X (off := 27) 100 dX5_would_73 (by rw [c0]; decide) (by rw [c0]; decide) (by rw [c0]; decide) (by decide) ?_
              refine v_aload (pc := 100) X 0 dX5_would_100 rfl ?_
              obtain ⟨t23, hf⟩ := hf
              obtain ⟨v24, e_v24, hf⟩ := hf
              refine ge_1_1 (pc := 102) X (fun w h => inM w (inG1 w h)) k116 t23 e_v24 dX5_would_102 ?_
              refine v_aload (pc := 105) X 1 dX5_would_105 rfl ?_
              obtain ⟨t25, hf⟩ := hf
              obtain ⟨v26, e_v26, hf⟩ := hf
              refine ge_1_1 (pc := 107) X (fun w h => inM w (inG1 w h)) k116 t25 e_v26 dX5_would_107 ?_
              refine v_isub (pc := 110) X dX5_would_110 ?_
              exact v_iret (pc := 111) X hr hlk dX5_would_111 hf
            replace hf := if_f c0 hf
            by_cases c1 : p3 = (1 : Int32)
            · replace hf := if_t c1 hf
              refine v_tableIn (pc := 73) X (off := 39) 112 dX5_would_73 (by rw [c1]; decide) (by rw [c1]; decide) (by rw [c1]; decide) (by decide) ?_
              refine v_aload (pc := 112) X 0 dX5_would_112 rfl ?_
              obtain ⟨t27, hf⟩ := hf
              obtain ⟨v28, e_v28, hf⟩ := hf
              refine ge_1_2 (pc := 114) X (fun w h => inM w (inG1 w h)) k119 t27 e_v28 dX5_would_114 ?_
              refine v_aload (pc := 117) X 1 dX5_would_117 rfl ?_
              obtain ⟨t29, hf⟩ := hf
              obtain ⟨v30, e_v30, hf⟩ := hf
              refine ge_1_2 (pc := 119) X (fun w h => inM w (inG1 w h)) k119 t29 e_v30 dX5_would_119 ?_
              refine v_isub (pc := 122) X dX5_would_122 ?_
              exact v_iret (pc := 123) X hr hlk dX5_would_123 hf
            replace hf := if_f c1 hf
            by_cases c2 : p3 = (2 : Int32)
            · replace hf := if_t c2 hf
              refine v_tableIn (pc := 73) X (off := 51) 124 dX5_would_73 (by rw [c2]; decide) (by rw [c2]; decide) (by rw [c2]; decide) (by decide) ?_
              refine v_aload (pc := 124) X 0 dX5_would_124 rfl ?_
              obtain ⟨t31, hf⟩ := hf
              obtain ⟨v32, e_v32, hf⟩ := hf
              refine ge_1_3 (pc := 126) X (fun w h => inM w (inG1 w h)) k122 t31 e_v32 dX5_would_126 ?_
              refine v_aload (pc := 129) X 1 dX5_would_129 rfl ?_
              obtain ⟨t33, hf⟩ := hf
              obtain ⟨v34, e_v34, hf⟩ := hf
              refine ge_1_3 (pc := 131) X (fun w h => inM w (inG1 w h)) k122 t33 e_v34 dX5_would_131 ?_
              refine v_isub (pc := 134) X dX5_would_134 ?_
              exact v_iret (pc := 135) X hr hlk dX5_would_135 hf
            replace hf := if_f c2 hf
            refine v_tableOut (pc := 73) X 136 dX5_would_73 (tab_out_0_2 c0 c1 c2) (by decide) ?_
            refine v_aload (pc := 136) X 0 dX5_would_136 rfl ?_
            obtain ⟨t35, hf⟩ := hf
            obtain ⟨v36, e_v36, hf⟩ := hf
            refine ge_1_0 (pc := 138) X (fun w h => inM w (inG1 w h)) k98 t35 e_v36 dX5_would_138 ?_
            refine v_aload (pc := 141) X 1 dX5_would_141 rfl ?_
            obtain ⟨t37, hf⟩ := hf
            obtain ⟨v38, e_v38, hf⟩ := hf
            refine ge_1_0 (pc := 143) X (fun w h => inM w (inG1 w h)) k98 t37 e_v38 dX5_would_143 ?_
            refine v_isub (pc := 146) X dX5_would_146 ?_
            exact v_iret (pc := 147) X hr hlk dX5_would_147 hf
          · replace hf := if_f c hf
            refine v_iload (pc := 47) X 0 dX5_would_47 rfl ?_
            exact v_iret (pc := 49) X hr hlk dX5_would_49 hf
        · replace hf := if_f c hf
          refine v_iconst (pc := 18) X (v := (-1 : Int32)) dX5_would_18 (by decide) ?_
          exact v_iret (pc := 19) X hr hlk dX5_would_19 hf
set_option maxHeartbeats 4000000 in
set_option maxRecDepth 100000 in
theorem c_X6_of (l : Launch) (D : va_G) (cA : Nat → ClassId) (L : List Nat) (sh : Sh) (p0 : Int32) (p1 : Int32) (h : Hp) (K : Int32 → Hp → Prop) (hf : f_X6_of sh p0 p1 h K) : Met l yX6_of (wM yX6_of cX6_of 2 (some .int)) ({ frames := 0, cells := 0, slots := 0, locals := 0 } : Room) (PreM D cA L sh h [.int p0, .int p1]) (QI D cA L sh K) 0 0 (fun q => q ∈ L) := by
  refine met_v (cc := cX6_of) (nL := 2) (ret := (some .int)) [(0, .int p0), (1, .int p1)] (by decide) rfl (Nat.le_of_ble_eq_true rfl) rfl ?_
  intro p e s0 m below meth c X hr hlk
  unfold f_X6_of at hf
  refine v_sipush (pc := 0) X (v := (217 : Int32)) dX6_of_0 (by decide) ?_
  refine v_bipush (pc := 3) X (v := (55 : Int32)) dX6_of_3 (by decide) ?_
  refine v_iload_n (pc := 5) X 0 dX6_of_5 rfl rfl ?_
  refine v_imul (pc := 6) X dX6_of_6 ?_
  refine v_iadd (pc := 7) X dX6_of_7 ?_
  refine v_iload_n (pc := 8) X 1 dX6_of_8 rfl rfl ?_
  refine v_iadd (pc := 9) X dX6_of_9 ?_
  exact v_iret (pc := 10) X hr hlk dX6_of_10 hf
set_option maxHeartbeats 4000000 in
set_option maxRecDepth 100000 in
theorem w_X6_allLoads_4 {p : Program} {l : Launch} {e : Env} {s0 : State} {m : MethodId} {args : Array Value} {below : List Frame} {meth : Method} {c : Code} {D : va_G} {cA : Nat → ClassId} {L : List Nat} {sh : Sh} (X : Cx p s0 m c args cX6_allLoads 3 (wM yX6_allLoads cX6_allLoads 3 (some .int)) RX6 (fun q => q ∈ L) D cA L sh) (hr : meth.sig.returnType = (some .int)) (hlk : meth.locks = false) (x0 : Nat) (Xc : Int32 → Hp → Prop) (K : Int32 → Hp → Prop) (hx : ∀ (y1 : Int32) (h1 : Hp), Xc y1 h1 → V p l e (headSpec (wM yX6_allLoads cX6_allLoads 3 (some .int)) ({ frames := 1, cells := 0, slots := 0, locals := 21 } : Room)).room s0 m args below meth c (MQ below (QI D cA L sh K) args s0 0 0 (fun q => q ∈ L)) (fun q => q ∈ L) 0 0 D cA L sh 3 h1 28 [(1, .int y1)] []) : ∀ (n : Nat) (s : Int32 × Int32) (h : Hp), lp (b_X6_allLoads_4 sh x0 Xc) n s h → V p l e (headSpec (wM yX6_allLoads cX6_allLoads 3 (some .int)) ({ frames := 1, cells := 0, slots := 0, locals := 21 } : Room)).room s0 m args below meth c (MQ below (QI D cA L sh K) args s0 0 0 (fun q => q ∈ L)) (fun q => q ∈ L) 0 0 D cA L sh 3 h 4 [(0, .ref x0), (1, .int s.1), (2, .int s.2)] [] := by
  have k7 := X.ht _ (inM _ q_485)
  intro n
  induction n with
  | zero => intro s h hf; exact hf.elim
  | succ n ih =>
    intro s h hf
    replace hf : b_X6_allLoads_4 sh x0 Xc (lp (b_X6_allLoads_4 sh x0 Xc) n) s h := hf
    unfold b_X6_allLoads_4 at hf
    refine v_iload_n (pc := 4) X 2 dX6_allLoads_4 rfl rfl ?_
    refine v_iconst (pc := 5) X (v := (4 : Int32)) dX6_allLoads_5 (by decide) ?_
    refine v_icmp_ge (pc := 6) X 28 dX6_allLoads_6 (by decide) (fun c => ?_) (fun c => ?_)
    · replace hf := if_t c hf
      refine v_sub [1] rfl ?_
      exact hx s.1 h hf
    · replace hf := if_f c hf
      refine v_iload_n (pc := 9) X 1 dX6_allLoads_9 rfl rfl ?_
      refine v_aload_n (pc := 10) X 0 dX6_allLoads_10 rfl rfl ?_
      obtain ⟨t1, hf⟩ := hf
      obtain ⟨q2, e_q2, hf⟩ := hf
      refine ge_6_0 (pc := 11) X (fun w h => inM w (inG6 w h)) k7 t1 e_q2 dX6_allLoads_11 ?_
      refine v_iload_n (pc := 14) X 2 dX6_allLoads_14 rfl rfl ?_
      refine v_iconst (pc := 15) X (v := (2 : Int32)) dX6_allLoads_15 (by decide) ?_
      refine v_callSI (pc := 16) X (As := [.int s.2, .int (2 : Int32)]) (rest := [.ref q2, .int s.1]) (c_X6_of l D cA L sh s.2 (2 : Int32) h _ hf) (va_cwS 2 X.ht (gwS inM q_551 q_552 q_7 q_553) rfl rfl rfl (by decide +kernel) ⟨Nat.le_of_ble_eq_true rfl, Nat.le_of_ble_eq_true rfl⟩) rfl rfl (Nat.le_of_ble_eq_true rfl) ⟨Nat.zero_le _, Nat.zero_le _⟩ dX6_allLoads_16 (fun r3 h4 hf => ?_)
      obtain ⟨t5, hf⟩ := hf
      obtain ⟨b7, v6, e_v6, hf⟩ := hf
      refine v_iald (pc := 19) X t5 b7 e_v6 dX6_allLoads_19 ?_
      refine v_iadd (pc := 20) X dX6_allLoads_20 ?_
      refine v_istore_n (pc := 21) X (i := 1) (lv' := [(1, .int (s.1 + v6)), (0, .ref x0), (2, .int s.2)]) dX6_allLoads_21 rfl (Nat.le_of_ble_eq_true rfl) rfl ?_
      refine v_iinc (pc := 22) X 2 (v := s.2 + (1 : Int32)) (lv' := [(2, .int (s.2 + (1 : Int32))), (1, .int (s.1 + v6)), (0, .ref x0)]) dX6_allLoads_22 rfl rfl (Nat.le_of_ble_eq_true rfl) rfl ?_
      refine v_goto (pc := 25) X 4 dX6_allLoads_25 (by decide) ?_
      refine v_sub [2, 1, 0] rfl ?_
      exact ih (s.1 + v6, s.2 + (1 : Int32)) h4 hf

set_option maxHeartbeats 4000000 in
set_option maxRecDepth 100000 in
theorem c_X6_allLoads (l : Launch) (D : va_G) (cA : Nat → ClassId) (L : List Nat) (sh : Sh) (a0 : Nat) (h : Hp) (K : Int32 → Hp → Prop) (hf : f_X6_allLoads sh a0 h K) : Met l yX6_allLoads (wM yX6_allLoads cX6_allLoads 3 (some .int)) ({ frames := 1, cells := 0, slots := 0, locals := 21 } : Room) (PreM D cA L sh h [.ref a0]) (QI D cA L sh K) 0 0 (fun q => q ∈ L) := by
  refine met_v (cc := cX6_allLoads) (nL := 3) (ret := (some .int)) [(0, .ref a0)] (by decide) rfl (Nat.le_of_ble_eq_true rfl) rfl ?_
  intro p e s0 m below meth c X hr hlk
  have k7 := X.ht _ (inM _ q_485)
  unfold f_X6_allLoads at hf
  refine v_iconst (pc := 0) X (v := (0 : Int32)) dX6_allLoads_0 (by decide) ?_
  refine v_istore_n (pc := 1) X (i := 1) (lv' := [(1, .int (0 : Int32)), (0, .ref a0)]) dX6_allLoads_1 rfl (Nat.le_of_ble_eq_true rfl) rfl ?_
  refine v_iconst (pc := 2) X (v := (0 : Int32)) dX6_allLoads_2 (by decide) ?_
  refine v_istore_n (pc := 3) X (i := 2) (lv' := [(2, .int (0 : Int32)), (1, .int (0 : Int32)), (0, .ref a0)]) dX6_allLoads_3 rfl (Nat.le_of_ble_eq_true rfl) rfl ?_
  obtain ⟨n, hf⟩ := hf
  refine v_sub [2, 1, 0] rfl ?_
  refine w_X6_allLoads_4 X hr hlk a0 _ K (fun y8 h9 hf => ?_) n ((0 : Int32), (0 : Int32)) h hf
  refine v_iload_n (pc := 28) X 0 dX6_allLoads_28 rfl rfl ?_
  exact v_iret (pc := 29) X hr hlk dX6_allLoads_29 hf
set_option maxHeartbeats 4000000 in
set_option maxRecDepth 100000 in
theorem c_X6_in (l : Launch) (D : va_G) (cA : Nat → ClassId) (L : List Nat) (sh : Sh) (p0 : Int32) (p1 : Int32) (p2 : Int32) (h : Hp) (K : Int32 → Hp → Prop) (hf : f_X6_in sh p0 p1 p2 h K) : Met l yX6_in (wM yX6_in cX6_in 3 (some .boolean)) ({ frames := 0, cells := 0, slots := 0, locals := 0 } : Room) (PreM D cA L sh h [.int p0, .int p1, .int p2]) (QI D cA L sh K) 0 0 (fun q => q ∈ L) := by
  refine met_v (cc := cX6_in) (nL := 3) (ret := (some .boolean)) [(0, .int p0), (1, .int p1), (2, .int p2)] (by decide) rfl (Nat.le_of_ble_eq_true rfl) rfl ?_
  intro p e s0 m below meth c X hr hlk
  unfold f_X6_in at hf
  refine v_iload_n (pc := 0) X 0 dX6_in_0 rfl rfl ?_
  refine v_iload_n (pc := 1) X 1 dX6_in_1 rfl rfl ?_
  refine v_icmp_lt (pc := 2) X 14 dX6_in_2 (by decide) (fun c => ?_) (fun c => ?_)
  · replace hf := if_t c hf
    refine v_iconst (pc := 14) X (v := (0 : Int32)) dX6_in_14 (by decide) ?_
    exact v_zret (pc := 15) X hr hlk dX6_in_15 (by decide) hf
  · replace hf := if_f c hf
    refine v_iload_n (pc := 5) X 0 dX6_in_5 rfl rfl ?_
    refine v_iload_n (pc := 6) X 2 dX6_in_6 rfl rfl ?_
    refine v_icmp_gt (pc := 7) X 14 dX6_in_7 (by decide) (fun c => ?_) (fun c => ?_)
    · replace hf := if_t c hf
      refine v_iconst (pc := 14) X (v := (0 : Int32)) dX6_in_14 (by decide) ?_
      exact v_zret (pc := 15) X hr hlk dX6_in_15 (by decide) hf
    · replace hf := if_f c hf
      refine v_iconst (pc := 10) X (v := (1 : Int32)) dX6_in_10 (by decide) ?_
      refine v_goto (pc := 11) X 15 dX6_in_11 (by decide) ?_
      exact v_zret (pc := 15) X hr hlk dX6_in_15 (by decide) hf
set_option maxHeartbeats 4000000 in
set_option maxRecDepth 100000 in
theorem c_X6_isTable (l : Launch) (D : va_G) (cA : Nat → ClassId) (L : List Nat) (sh : Sh) (p0 : Int32) (h : Hp) (K : Int32 → Hp → Prop) (hf : f_X6_isTable sh p0 h K) : Met l yX6_isTable (wM yX6_isTable cX6_isTable 1 (some .boolean)) ({ frames := 1, cells := 0, slots := 0, locals := 22 } : Room) (PreM D cA L sh h [.int p0]) (QI D cA L sh K) 0 0 (fun q => q ∈ L) := by
  refine met_v (cc := cX6_isTable) (nL := 1) (ret := (some .boolean)) [(0, .int p0)] (by decide) rfl (Nat.le_of_ble_eq_true rfl) rfl ?_
  intro p e s0 m below meth c X hr hlk
  unfold f_X6_isTable at hf
  refine v_iload_n (pc := 0) X 0 dX6_isTable_0 rfl rfl ?_
  refine v_iconst (pc := 1) X (v := (0 : Int32)) dX6_isTable_1 (by decide) ?_
  refine v_iconst (pc := 2) X (v := (5 : Int32)) dX6_isTable_2 (by decide) ?_
  refine v_callSI (pc := 3) X (As := [.int p0, .int (0 : Int32), .int (5 : Int32)]) (rest := []) (c_X6_in l D cA L sh p0 (0 : Int32) (5 : Int32) h _ hf) (va_cwS 3 X.ht (gwS inM q_533 q_534 q_7 q_535) rfl rfl rfl (by decide +kernel) ⟨Nat.le_of_ble_eq_true rfl, Nat.le_of_ble_eq_true rfl⟩) rfl rfl (Nat.le_of_ble_eq_true rfl) ⟨Nat.zero_le _, Nat.zero_le _⟩ dX6_isTable_3 (fun r1 h2 hf => ?_)
  obtain ⟨z3, hf⟩ := hf
  exact v_zret (pc := 6) X hr hlk dX6_isTable_6 z3 hf
set_option maxHeartbeats 4000000 in
set_option maxRecDepth 100000 in
theorem c_X6_ofOpen (l : Launch) (D : va_G) (cA : Nat → ClassId) (L : List Nat) (sh : Sh) (p0 : Int32) (p1 : Int32) (h : Hp) (K : Int32 → Hp → Prop) (hf : f_X6_ofOpen sh p0 p1 h K) : Met l yX6_ofOpen (wM yX6_ofOpen cX6_ofOpen 2 (some .int)) ({ frames := 0, cells := 0, slots := 0, locals := 0 } : Room) (PreM D cA L sh h [.int p0, .int p1]) (QI D cA L sh K) 0 0 (fun q => q ∈ L) := by
  refine met_v (cc := cX6_ofOpen) (nL := 2) (ret := (some .int)) [(0, .int p0), (1, .int p1)] (by decide) rfl (Nat.le_of_ble_eq_true rfl) rfl ?_
  intro p e s0 m below meth c X hr hlk
  unfold f_X6_ofOpen at hf
  refine v_sipush (pc := 0) X (v := (438 : Int32)) dX6_ofOpen_0 (by decide) ?_
  refine v_bipush (pc := 3) X (v := (10 : Int32)) dX6_ofOpen_3 (by decide) ?_
  refine v_iload_n (pc := 5) X 0 dX6_ofOpen_5 rfl rfl ?_
  refine v_imul (pc := 6) X dX6_ofOpen_6 ?_
  refine v_iadd (pc := 7) X dX6_ofOpen_7 ?_
  refine v_iload_n (pc := 8) X 1 dX6_ofOpen_8 rfl rfl ?_
  refine v_iadd (pc := 9) X dX6_ofOpen_9 ?_
  exact v_iret (pc := 10) X hr hlk dX6_ofOpen_10 hf

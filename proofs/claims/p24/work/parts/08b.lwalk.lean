def f_L_low (sh : Sh) (p0 : Int32) (p1 : Int32) (h : Hp) (K : Int32 → Hp → Prop) : Prop :=
  nz p1 <|
  K ((p0 &&& (2147483647 : Int32)) - (p0 &&& (2147483647 : Int32)) / p1 * p1) h

set_option maxHeartbeats 8000000 in
set_option maxRecDepth 100000 in
theorem bw_L_low {p : Program} {l : Launch} {e : Env} {s0 : State} {m : MethodId} {args : Array Value} {below : List Frame} {meth : Method} {c : Code} {D : va_G} {cA : Nat → ClassId} {L : List Nat} {sh : Sh} (X : Cx p s0 m c args cL_low 2 (wM yL_low cL_low 2 (some .int)) RL (fun q => q ∈ L) D cA L sh) (hr : meth.sig.returnType = (some .int)) (hlk : meth.locks = false) (p0 : Int32) (p1 : Int32) (K : Int32 → Hp → Prop) (h : Hp) (hf : f_L_low sh p0 p1 h K) : V p l e (headSpec (wM yL_low cL_low 2 (some .int)) ({ frames := 0, cells := 0, slots := 0, locals := 0 } : Room)).room s0 m args below meth c (MQ below (QI D cA L sh K) args s0 0 0 (fun q => q ∈ L)) (fun q => q ∈ L) 0 0 D cA L sh 2 h 0 [(0, .int p0), (1, .int p1)] [] := by
  unfold f_L_low at hf
  refine v_iload_n (pc := 0) X 0 dL_low_0 rfl rfl ?_
  refine v_ldc (pc := 1) X (v := (2147483647 : Int32)) (X.ht _ (inM _ q_312)) dL_low_1 ?_
  refine v_iand (pc := 3) X dL_low_3 ?_
  refine v_iload_n (pc := 4) X 1 dL_low_4 rfl rfl ?_
  obtain ⟨z1, hf⟩ := hf
  refine v_irem (pc := 5) X dL_low_5 z1 ?_
  exact v_iret (pc := 6) X hr hlk dL_low_6 hf

theorem c_L_low (l : Launch) (D : va_G) (cA : Nat → ClassId) (L : List Nat) (sh : Sh) (p0 : Int32) (p1 : Int32) (h : Hp) (K : Int32 → Hp → Prop) (hf : f_L_low sh p0 p1 h K) : Met l yL_low (wM yL_low cL_low 2 (some .int)) ({ frames := 0, cells := 0, slots := 0, locals := 0 } : Room) (PreM D cA L sh h [.int p0, .int p1]) (QI D cA L sh K) 0 0 (fun q => q ∈ L) := by
  refine met_v (cc := cL_low) (nL := 2) (ret := (some .int)) [(0, .int p0), (1, .int p1)] (by decide) rfl (Nat.le_of_ble_eq_true rfl) rfl ?_
  intro p e s0 m below meth c X hr hlk
  exact bw_L_low X hr hlk p0 p1 K h hf

def f_L_cell (xs : Nat → Int32) (Ls : Nat) (p1 : Int32) (h : Hp) (K : Int32 → Hp → Prop) : Prop :=
  dj (fun v1 h2 =>
    K v1 h2)
    (fun J3 =>
    if (Int32.ofNat Ls) ≤ p1 then
      J3 (((7919 : Int32) * (p1 + (3 : Int32))) * (p1 + (11 : Int32))) h
    else
      lS xs Ls p1 fun v4 =>
      J3 v4 h)

theorem bw_L_cell {p : Program} {l : Launch} {e : Env} {s0 : State} {m : MethodId} {args : Array Value} {below : List Frame} {meth : Method} {c : Code} {D : va_G} {cA : Nat → ClassId} {L : List Nat} {sh : Sh} (X : Cx p s0 m c args cL_cell 2 (wM yL_cell cL_cell 2 (some .int)) RL (fun q => q ∈ L) D cA L sh) (hr : meth.sig.returnType = (some .int)) (hlk : meth.locks = false) {b Ls : Nat} {xs : Nat → Int32} (hX : va_X b Ls xs s0 s0.heap) (hbl : b < s0.heap.size) (hbA : ¬ (fun q => q ∈ L) b) (p1 : Int32) (K : Int32 → Hp → Prop) (h : Hp) (hf : f_L_cell xs Ls p1 h K) : V p l e (headSpec (wM yL_cell cL_cell 2 (some .int)) ({ frames := 0, cells := 0, slots := 0, locals := 0 } : Room)).room s0 m args below meth c (MQ below (QI D cA L sh K) args s0 0 0 (fun q => q ∈ L)) (fun q => q ∈ L) 0 0 D cA L sh 2 h 0 [(0, .ref b), (1, .int p1)] [] := by
  unfold f_L_cell at hf
  refine v_iload_n (pc := 0) X 1 dL_cell_0 rfl rfl ?_
  refine v_aload_n (pc := 1) X 0 dL_cell_1 rfl rfl ?_
  refine v_slen (pc := 2) X hX hbl hbA dL_cell_2 ?_
  refine dj_e hf (Vat := fun v1 h2 => V p l e (headSpec (wM yL_cell cL_cell 2 (some .int)) ({ frames := 0, cells := 0, slots := 0, locals := 0 } : Room)).room s0 m args below meth c (MQ below (QI D cA L sh K) args s0 0 0 (fun q => q ∈ L)) (fun q => q ∈ L) 0 0 D cA L sh 2 h2 24 [(0, .ref b), (1, .int p1)] [.int v1]) (fun v1 h2 hf => ?_) (fun J3 hJ3 hf => ?_)
  · exact v_iret (pc := 24) X hr hlk dL_cell_24 hf
  · refine v_icmp_ge (pc := 3) X 12 dL_cell_3 (by decide) (fun cq => ?_) (fun cq => ?_)
    · replace hf := if_t cq hf
      refine v_sipush (pc := 12) X (v := (7919 : Int32)) dL_cell_12 (by decide) ?_
      refine v_iload_n (pc := 15) X 1 dL_cell_15 rfl rfl ?_
      refine v_iconst (pc := 16) X (v := (3 : Int32)) dL_cell_16 (by decide) ?_
      refine v_iadd (pc := 17) X dL_cell_17 ?_
      refine v_imul (pc := 18) X dL_cell_18 ?_
      refine v_iload_n (pc := 19) X 1 dL_cell_19 rfl rfl ?_
      refine v_bipush (pc := 20) X (v := (11 : Int32)) dL_cell_20 (by decide) ?_
      refine v_iadd (pc := 22) X dL_cell_22 ?_
      refine v_imul (pc := 23) X dL_cell_23 ?_
      exact hJ3 (((7919 : Int32) * (p1 + (3 : Int32))) * (p1 + (11 : Int32))) h hf
    · replace hf := if_f cq hf
      refine v_aload_n (pc := 6) X 0 dL_cell_6 rfl rfl ?_
      refine v_iload_n (pc := 7) X 1 dL_cell_7 rfl rfl ?_
      obtain ⟨b5, v4, e_v4, hf⟩ := hf
      refine v_sld (pc := 8) X hX hbl hbA b5 e_v4 dL_cell_8 ?_
      refine v_goto (pc := 9) X 24 dL_cell_9 (by decide) ?_
      exact hJ3 v4 h hf

theorem c_L_cell (l : Launch) (D : va_G) (cA : Nat → ClassId) (L : List Nat) (sh : Sh) (b Ls : Nat) (xs : Nat → Int32) (p1 : Int32) (h : Hp) (K : Int32 → Hp → Prop) (hf : f_L_cell xs Ls p1 h K) : Met l yL_cell (wM yL_cell cL_cell 2 (some .int)) ({ frames := 0, cells := 0, slots := 0, locals := 0 } : Room) (PreX D cA L sh h b Ls xs p1) (QI D cA L sh K) 0 0 (fun q => q ∈ L) := by
  refine met_x (cc := cL_cell) (nL := 2) (ret := (some .int)) [(0, .ref b), (1, .int p1)] (by decide) rfl (Nat.le_of_ble_eq_true rfl) rfl ?_
  intro p e s0 m below meth c X hr hlk hX hbl hbA
  exact bw_L_cell X hr hlk hX hbl hbA p1 K h hf

def f_L_open (sh : Sh) (p0 : Nat) (p1 : Int32) (h : Hp) (K : Int32 → Hp → Prop) : Prop :=
  ty sh p0 5 <|
  f_X5_count sh p0 (2 : Int32) h fun r1 h2 =>
  dj (fun v4 h5 =>
    f_L_low sh p1 ((r1 - v4) + (1 : Int32)) h5 fun r7 h8 =>
    K (v4 + r7) h8)
    (fun J6 =>
    if (10 : Int32) ≤ r1 then
      J6 (r1 - (10 : Int32)) h2
    else
      J6 (0 : Int32) h2)

set_option maxHeartbeats 8000000 in
set_option maxRecDepth 100000 in
theorem bw_L_open {p : Program} {l : Launch} {e : Env} {s0 : State} {m : MethodId} {args : Array Value} {below : List Frame} {meth : Method} {c : Code} {D : va_G} {cA : Nat → ClassId} {L : List Nat} {sh : Sh} (X : Cx p s0 m c args cL_open 4 (wM yL_open cL_open 4 (some .int)) RL (fun q => q ∈ L) D cA L sh) (hr : meth.sig.returnType = (some .int)) (hlk : meth.locks = false) (p0 : Nat) (p1 : Int32) (K : Int32 → Hp → Prop) (h : Hp) (hf : f_L_open sh p0 p1 h K) : V p l e (headSpec (wM yL_open cL_open 4 (some .int)) ({ frames := 5, cells := 0, slots := 0, locals := 111 } : Room)).room s0 m args below meth c (MQ below (QI D cA L sh K) args s0 0 0 (fun q => q ∈ L)) (fun q => q ∈ L) 0 0 D cA L sh 4 h 0 [(0, .ref p0), (1, .int p1)] [] := by
  unfold f_L_open at hf
  refine v_aload_n (pc := 0) X 0 dL_open_0 rfl rfl ?_
  refine v_iconst (pc := 1) X (v := (2 : Int32)) dL_open_1 (by decide) ?_
  obtain ⟨t3, hf⟩ := hf
  refine v_callVI (pc := 2) X (As := [.int (2 : Int32)]) (rest := []) (c_X5_count l D cA L sh p0 (2 : Int32) h _ hf) (cwV 1 X.ht (gwV inM q_218 q_219 q_220 q_1 q_221) rfl rfl rfl (by decide +kernel) ⟨Nat.le_of_ble_eq_true rfl, Nat.le_of_ble_eq_true rfl⟩) rfl (by decide) t3 (ent_5 t3) rfl rfl (Nat.le_of_ble_eq_true rfl) ⟨Nat.le_of_ble_eq_true rfl, Nat.le_of_ble_eq_true rfl⟩ dL_open_2 (fun r1 h2 hf => ?_)
  refine v_istore_n (pc := 5) X (i := 2) (lv' := [(2, .int r1), (0, .ref p0), (1, .int p1)]) dL_open_5 rfl (Nat.le_of_ble_eq_true rfl) rfl ?_
  refine v_iload_n (pc := 6) X 0 dL_open_6 rfl rfl ?_
  refine v_bipush (pc := 7) X (v := (10 : Int32)) dL_open_7 (by decide) ?_
  refine dj_e hf (Vat := fun v4 h5 => V p l e (headSpec (wM yL_open cL_open 4 (some .int)) ({ frames := 5, cells := 0, slots := 0, locals := 111 } : Room)).room s0 m args below meth c (MQ below (QI D cA L sh K) args s0 0 0 (fun q => q ∈ L)) (fun q => q ∈ L) 0 0 D cA L sh 4 h5 20 [(2, .int r1), (0, .ref p0), (1, .int p1)] [.int v4]) (fun v4 h5 hf => ?_) (fun J6 hJ6 hf => ?_)
  · refine v_istore_n (pc := 20) X (i := 3) (lv' := [(3, .int v4), (2, .int r1), (0, .ref p0), (1, .int p1)]) dL_open_20 rfl (Nat.le_of_ble_eq_true rfl) rfl ?_
    refine v_iload_n (pc := 21) X 0 dL_open_21 rfl rfl ?_
    refine v_iload_n (pc := 22) X 3 dL_open_22 rfl rfl ?_
    refine v_iload_n (pc := 23) X 1 dL_open_23 rfl rfl ?_
    refine v_iload_n (pc := 24) X 0 dL_open_24 rfl rfl ?_
    refine v_isub (pc := 25) X dL_open_25 ?_
    refine v_iconst (pc := 26) X (v := (1 : Int32)) dL_open_26 (by decide) ?_
    refine v_iadd (pc := 27) X dL_open_27 ?_
    refine v_callSI (pc := 28) X (As := [.int p1, .int ((r1 - v4) + (1 : Int32))]) (rest := [.int v4]) (c_L_low l D cA L sh p1 ((r1 - v4) + (1 : Int32)) h5 _ hf) (va_cwS 2 X.ht (gwS inM q_309 q_310 q_0 q_311) rfl rfl rfl (by decide +kernel) ⟨Nat.le_of_ble_eq_true rfl, Nat.le_of_ble_eq_true rfl⟩) rfl rfl (Nat.le_of_ble_eq_true rfl) ⟨Nat.le_of_ble_eq_true rfl, Nat.le_of_ble_eq_true rfl⟩ dL_open_28 (fun r7 h8 hf => ?_)
    refine v_iadd (pc := 31) X dL_open_31 ?_
    exact v_iret (pc := 32) X hr hlk dL_open_32 hf
  · refine v_icmp_ge (pc := 9) X 16 dL_open_9 (by decide) (fun cq => ?_) (fun cq => ?_)
    · replace hf := if_t cq hf
      refine v_iload_n (pc := 16) X 0 dL_open_16 rfl rfl ?_
      refine v_bipush (pc := 17) X (v := (10 : Int32)) dL_open_17 (by decide) ?_
      refine v_isub (pc := 19) X dL_open_19 ?_
      exact hJ6 (r1 - (10 : Int32)) h2 hf
    · replace hf := if_f cq hf
      refine v_iconst (pc := 12) X (v := (0 : Int32)) dL_open_12 (by decide) ?_
      refine v_goto (pc := 13) X 20 dL_open_13 (by decide) ?_
      exact hJ6 (0 : Int32) h2 hf

theorem c_L_open (l : Launch) (D : va_G) (cA : Nat → ClassId) (L : List Nat) (sh : Sh) (p0 : Nat) (p1 : Int32) (h : Hp) (K : Int32 → Hp → Prop) (hf : f_L_open sh p0 p1 h K) : Met l yL_open (wM yL_open cL_open 4 (some .int)) ({ frames := 5, cells := 0, slots := 0, locals := 111 } : Room) (PreM D cA L sh h [.ref p0, .int p1]) (QI D cA L sh K) 0 0 (fun q => q ∈ L) := by
  refine met_v (cc := cL_open) (nL := 4) (ret := (some .int)) [(0, .ref p0), (1, .int p1)] (by decide) rfl (Nat.le_of_ble_eq_true rfl) rfl ?_
  intro p e s0 m below meth c X hr hlk
  exact bw_L_open X hr hlk p0 p1 K h hf

def b_L_ones_4 (sh : Sh) (x0 : Int32) (Xc : Int32 → Hp → Prop) (rec : Int32 × Int32 → Hp → Prop) (s : Int32 × Int32) (h : Hp) : Prop :=
  if (6 : Int32) ≤ s.2 then
    Xc s.1 h
  else
    rec (s.1 + ((x0 >>> (s.2 &&& 31)) &&& (1 : Int32)), s.2 + (1 : Int32)) h

def f_L_ones (sh : Sh) (p0 : Int32) (h : Hp) (K : Int32 → Hp → Prop) : Prop :=
  lo (b_L_ones_4 sh p0
    (fun y1 h2 =>
      K y1 h2)) ((0 : Int32), (0 : Int32)) h

set_option maxHeartbeats 8000000 in
set_option maxRecDepth 100000 in
theorem w_L_ones_4 {p : Program} {l : Launch} {e : Env} {s0 : State} {m : MethodId} {args : Array Value} {below : List Frame} {meth : Method} {c : Code} {D : va_G} {cA : Nat → ClassId} {L : List Nat} {sh : Sh} (X : Cx p s0 m c args cL_ones 3 (wM yL_ones cL_ones 3 (some .int)) RL (fun q => q ∈ L) D cA L sh) (hr : meth.sig.returnType = (some .int)) (hlk : meth.locks = false) (x0 : Int32) (Xc : Int32 → Hp → Prop) (K : Int32 → Hp → Prop) (hx : ∀ (y1 : Int32) (h1 : Hp), Xc y1 h1 → V p l e (headSpec (wM yL_ones cL_ones 3 (some .int)) ({ frames := 0, cells := 0, slots := 0, locals := 0 } : Room)).room s0 m args below meth c (MQ below (QI D cA L sh K) args s0 0 0 (fun q => q ∈ L)) (fun q => q ∈ L) 0 0 D cA L sh 3 h1 24 [(1, .int y1)] []) : ∀ (n : Nat) (s : Int32 × Int32) (h : Hp), lp (b_L_ones_4 sh x0 Xc) n s h → V p l e (headSpec (wM yL_ones cL_ones 3 (some .int)) ({ frames := 0, cells := 0, slots := 0, locals := 0 } : Room)).room s0 m args below meth c (MQ below (QI D cA L sh K) args s0 0 0 (fun q => q ∈ L)) (fun q => q ∈ L) 0 0 D cA L sh 3 h 4 [(0, .int x0), (1, .int s.1), (2, .int s.2)] [] := by
  intro n
  induction n with
  | zero => intro s h hf; exact hf.elim
  | succ n ih =>
    intro s h hf
    replace hf : b_L_ones_4 sh x0 Xc (lp (b_L_ones_4 sh x0 Xc) n) s h := hf
    unfold b_L_ones_4 at hf
    refine v_iload_n (pc := 4) X 2 dL_ones_4 rfl rfl ?_
    refine v_bipush (pc := 5) X (v := (6 : Int32)) dL_ones_5 (by decide) ?_
    refine v_icmp_ge (pc := 7) X 24 dL_ones_7 (by decide) (fun cq => ?_) (fun cq => ?_)
    · replace hf := if_t cq hf
      refine v_sub [1] rfl ?_
      exact hx s.1 h hf
    · replace hf := if_f cq hf
      refine v_iload_n (pc := 10) X 1 dL_ones_10 rfl rfl ?_
      refine v_iload_n (pc := 11) X 0 dL_ones_11 rfl rfl ?_
      refine v_iload_n (pc := 12) X 2 dL_ones_12 rfl rfl ?_
      refine v_ishr (pc := 13) X dL_ones_13 ?_
      refine v_iconst (pc := 14) X (v := (1 : Int32)) dL_ones_14 (by decide) ?_
      refine v_iand (pc := 15) X dL_ones_15 ?_
      refine v_iadd (pc := 16) X dL_ones_16 ?_
      refine v_istore_n (pc := 17) X (i := 1) (lv' := [(1, .int (s.1 + ((x0 >>> (s.2 &&& 31)) &&& (1 : Int32)))), (0, .int x0), (2, .int s.2)]) dL_ones_17 rfl (Nat.le_of_ble_eq_true rfl) rfl ?_
      refine v_iinc (pc := 18) X 2 (v := s.2 + (1 : Int32)) (lv' := [(2, .int (s.2 + (1 : Int32))), (1, .int (s.1 + ((x0 >>> (s.2 &&& 31)) &&& (1 : Int32)))), (0, .int x0)]) dL_ones_18 rfl rfl (Nat.le_of_ble_eq_true rfl) rfl ?_
      refine v_goto (pc := 21) X 4 dL_ones_21 (by decide) ?_
      refine v_sub [2, 1, 0] rfl ?_
      exact ih (s.1 + ((x0 >>> (s.2 &&& 31)) &&& (1 : Int32)), s.2 + (1 : Int32)) h hf

set_option maxHeartbeats 8000000 in
set_option maxRecDepth 100000 in
theorem bw_L_ones {p : Program} {l : Launch} {e : Env} {s0 : State} {m : MethodId} {args : Array Value} {below : List Frame} {meth : Method} {c : Code} {D : va_G} {cA : Nat → ClassId} {L : List Nat} {sh : Sh} (X : Cx p s0 m c args cL_ones 3 (wM yL_ones cL_ones 3 (some .int)) RL (fun q => q ∈ L) D cA L sh) (hr : meth.sig.returnType = (some .int)) (hlk : meth.locks = false) (p0 : Int32) (K : Int32 → Hp → Prop) (h : Hp) (hf : f_L_ones sh p0 h K) : V p l e (headSpec (wM yL_ones cL_ones 3 (some .int)) ({ frames := 0, cells := 0, slots := 0, locals := 0 } : Room)).room s0 m args below meth c (MQ below (QI D cA L sh K) args s0 0 0 (fun q => q ∈ L)) (fun q => q ∈ L) 0 0 D cA L sh 3 h 0 [(0, .int p0)] [] := by
  unfold f_L_ones at hf
  refine v_iconst (pc := 0) X (v := (0 : Int32)) dL_ones_0 (by decide) ?_
  refine v_istore_n (pc := 1) X (i := 1) (lv' := [(1, .int (0 : Int32)), (0, .int p0)]) dL_ones_1 rfl (Nat.le_of_ble_eq_true rfl) rfl ?_
  refine v_iconst (pc := 2) X (v := (0 : Int32)) dL_ones_2 (by decide) ?_
  refine v_istore_n (pc := 3) X (i := 2) (lv' := [(2, .int (0 : Int32)), (1, .int (0 : Int32)), (0, .int p0)]) dL_ones_3 rfl (Nat.le_of_ble_eq_true rfl) rfl ?_
  obtain ⟨n, hf⟩ := hf
  refine v_sub [2, 1, 0] rfl ?_
  refine w_L_ones_4 X hr hlk p0 _ K (fun y1 h2 hf => ?_) n ((0 : Int32), (0 : Int32)) h hf
  refine v_iload_n (pc := 24) X 0 dL_ones_24 rfl rfl ?_
  exact v_iret (pc := 25) X hr hlk dL_ones_25 hf

theorem c_L_ones (l : Launch) (D : va_G) (cA : Nat → ClassId) (L : List Nat) (sh : Sh) (p0 : Int32) (h : Hp) (K : Int32 → Hp → Prop) (hf : f_L_ones sh p0 h K) : Met l yL_ones (wM yL_ones cL_ones 3 (some .int)) ({ frames := 0, cells := 0, slots := 0, locals := 0 } : Room) (PreM D cA L sh h [.int p0]) (QI D cA L sh K) 0 0 (fun q => q ∈ L) := by
  refine met_v (cc := cL_ones) (nL := 3) (ret := (some .int)) [(0, .int p0)] (by decide) rfl (Nat.le_of_ble_eq_true rfl) rfl ?_
  intro p e s0 m below meth c X hr hlk
  exact bw_L_ones X hr hlk p0 K h hf

def f_L_does (sh : Sh) (p0 : Nat) (p1 : Int32) (h : Hp) (K : Int32 → Hp → Prop) : Prop :=
  if (p1 &&& (15 : Int32)) = (0 : Int32) then
    f_L_low sh (p1 >>> ((4 : Int32) &&& 31)) (6 : Int32) h fun r1 h2 =>
    f_L_low sh (p1 >>> ((7 : Int32) &&& 31)) (3 : Int32) h2 fun r3 h4 =>
    ty sh p0 5 <|
    f_X5_alter sh p0 r1 r3 h4 fun r5 h6 =>
    K r5 h6
  else
  if (p1 &&& (15 : Int32)) = (1 : Int32) then
    f_L_low sh (p1 >>> ((4 : Int32) &&& 31)) (6 : Int32) h fun r8 h9 =>
    f_L_low sh (p1 >>> ((7 : Int32) &&& 31)) (3 : Int32) h9 fun r10 h11 =>
    ty sh p0 5 <|
    f_X5_alter sh p0 r8 r10 h11 fun r12 h13 =>
    K r12 h13
  else
  if (p1 &&& (15 : Int32)) = (2 : Int32) then
    f_L_low sh (p1 >>> ((4 : Int32) &&& 31)) (6 : Int32) h fun r15 h16 =>
    f_L_low sh (p1 >>> ((7 : Int32) &&& 31)) (3 : Int32) h16 fun r17 h18 =>
    ty sh p0 5 <|
    f_X5_alter sh p0 r15 r17 h18 fun r19 h20 =>
    K r19 h20
  else
  if (p1 &&& (15 : Int32)) = (3 : Int32) then
    dj (fun v22 h23 =>
      ty sh p0 5 <|
      f_X5_set sh p0 ((p1 >>> ((4 : Int32) &&& 31)) &&& (1 : Int32)) v22 h23 fun r27 h28 =>
      K r27 h28)
      (fun J24 =>
      if ((p1 >>> ((4 : Int32) &&& 31)) &&& (1 : Int32)) = 0 then
        f_L_low sh (p1 >>> ((5 : Int32) &&& 31)) (6 : Int32) h fun r25 h26 =>
        J24 r25 h26
      else
        J24 ((1 : Int32) + ((p1 >>> ((5 : Int32) &&& 31)) &&& (7 : Int32))) h)
  else
  if (p1 &&& (15 : Int32)) = (4 : Int32) then
    f_L_low sh (p1 >>> ((4 : Int32) &&& 31)) (4 : Int32) h fun r30 h31 =>
    ty sh p0 5 <|
    f_X5_tick sh p0 ((1 : Int32) + r30) h31 fun r32 h33 =>
    K r32 h33
  else
  if (p1 &&& (15 : Int32)) = (5 : Int32) then
    f_L_low sh (p1 >>> ((4 : Int32) &&& 31)) (4 : Int32) h fun r35 h36 =>
    ty sh p0 5 <|
    f_X5_tick sh p0 ((1 : Int32) + r35) h36 fun r37 h38 =>
    K r37 h38
  else
  if (p1 &&& (15 : Int32)) = (6 : Int32) then
    f_L_open sh p0 (p1 >>> ((4 : Int32) &&& 31)) h fun r40 h41 =>
    ty sh p0 5 <|
    f_X5_end sh p0 r40 h41 fun r42 h43 =>
    K r42 h43
  else
  if (p1 &&& (15 : Int32)) = (7 : Int32) then
    f_L_open sh p0 (p1 >>> ((4 : Int32) &&& 31)) h fun r45 h46 =>
    ty sh p0 5 <|
    f_X5_end sh p0 r45 h46 fun r47 h48 =>
    K r47 h48
  else
  if (p1 &&& (15 : Int32)) = (8 : Int32) then
    f_L_open sh p0 (p1 >>> ((4 : Int32) &&& 31)) h fun r50 h51 =>
    ty sh p0 5 <|
    f_X5_end sh p0 r50 h51 fun r52 h53 =>
    K r52 h53
  else
  if (p1 &&& (15 : Int32)) = (9 : Int32) then
    f_L_open sh p0 (p1 >>> ((4 : Int32) &&& 31)) h fun r55 h56 =>
    ty sh p0 5 <|
    f_X5_end sh p0 r55 h56 fun r57 h58 =>
    K r57 h58
  else
  f_L_low sh (p1 >>> ((4 : Int32) &&& 31)) (4 : Int32) h fun r60 h61 =>
  ty sh p0 5 <|
  f_X5_start sh p0 r60 ((1 : Int32) + ((((p1 >>> ((6 : Int32) &&& 31)) &&& (63 : Int32)) &&& (p1 >>> ((9 : Int32) &&& 31))) - (((p1 >>> ((6 : Int32) &&& 31)) &&& (63 : Int32)) &&& (p1 >>> ((9 : Int32) &&& 31))) / (63 : Int32) * (63 : Int32))) h61 fun r62 h63 =>
  K r62 h63

set_option maxHeartbeats 8000000 in
set_option maxRecDepth 100000 in
theorem bw_L_does {p : Program} {l : Launch} {e : Env} {s0 : State} {m : MethodId} {args : Array Value} {below : List Frame} {meth : Method} {c : Code} {D : va_G} {cA : Nat → ClassId} {L : List Nat} {sh : Sh} (X : Cx p s0 m c args cL_does 2 (wM yL_does cL_does 2 (some .int)) RL (fun q => q ∈ L) D cA L sh) (hr : meth.sig.returnType = (some .int)) (hlk : meth.locks = false) (p0 : Nat) (p1 : Int32) (K : Int32 → Hp → Prop) (h : Hp) (hf : f_L_does sh p0 p1 h K) : V p l e (headSpec (wM yL_does cL_does 2 (some .int)) ({ frames := 6, cells := 0, slots := 0, locals := 134 } : Room)).room s0 m args below meth c (MQ below (QI D cA L sh K) args s0 0 0 (fun q => q ∈ L)) (fun q => q ∈ L) 0 0 D cA L sh 2 h 0 [(0, .ref p0), (1, .int p1)] [] := by
  unfold f_L_does at hf
  refine v_iload_n (pc := 0) X 1 dL_does_0 rfl rfl ?_
  refine v_bipush (pc := 1) X (v := (15 : Int32)) dL_does_1 (by decide) ?_
  refine v_iand (pc := 3) X dL_does_3 ?_
  by_cases c0 : (p1 &&& (15 : Int32)) = (0 : Int32)
  · replace hf := if_t c0 hf
    refine v_tableIn (pc := 4) X (off := 56) 60 dL_does_4 (by rw [c0]; decide) (by rw [c0]; decide) (by rw [c0]; decide) (by decide) ?_
    refine v_aload_n (pc := 60) X 0 dL_does_60 rfl rfl ?_
    refine v_iload_n (pc := 61) X 1 dL_does_61 rfl rfl ?_
    refine v_iconst (pc := 62) X (v := (4 : Int32)) dL_does_62 (by decide) ?_
    refine v_ishr (pc := 63) X dL_does_63 ?_
    refine v_bipush (pc := 64) X (v := (6 : Int32)) dL_does_64 (by decide) ?_
    refine v_callSI (pc := 66) X (As := [.int (p1 >>> ((4 : Int32) &&& 31)), .int (6 : Int32)]) (rest := [.ref p0]) (c_L_low l D cA L sh (p1 >>> ((4 : Int32) &&& 31)) (6 : Int32) h _ hf) (va_cwS 2 X.ht (gwS inM q_309 q_310 q_0 q_311) rfl rfl rfl (by decide +kernel) ⟨Nat.le_of_ble_eq_true rfl, Nat.le_of_ble_eq_true rfl⟩) rfl rfl (Nat.le_of_ble_eq_true rfl) ⟨Nat.le_of_ble_eq_true rfl, Nat.le_of_ble_eq_true rfl⟩ dL_does_66 (fun r1 h2 hf => ?_)
    refine v_iload_n (pc := 69) X 1 dL_does_69 rfl rfl ?_
    refine v_bipush (pc := 70) X (v := (7 : Int32)) dL_does_70 (by decide) ?_
    refine v_ishr (pc := 72) X dL_does_72 ?_
    refine v_iconst (pc := 73) X (v := (3 : Int32)) dL_does_73 (by decide) ?_
    refine v_callSI (pc := 74) X (As := [.int (p1 >>> ((7 : Int32) &&& 31)), .int (3 : Int32)]) (rest := [.int r1, .ref p0]) (c_L_low l D cA L sh (p1 >>> ((7 : Int32) &&& 31)) (3 : Int32) h2 _ hf) (va_cwS 2 X.ht (gwS inM q_309 q_310 q_0 q_311) rfl rfl rfl (by decide +kernel) ⟨Nat.le_of_ble_eq_true rfl, Nat.le_of_ble_eq_true rfl⟩) rfl rfl (Nat.le_of_ble_eq_true rfl) ⟨Nat.le_of_ble_eq_true rfl, Nat.le_of_ble_eq_true rfl⟩ dL_does_74 (fun r3 h4 hf => ?_)
    obtain ⟨t7, hf⟩ := hf
    refine v_callVI (pc := 77) X (As := [.int r1, .int r3]) (rest := []) (c_X5_alter l D cA L sh p0 r1 r3 h4 _ hf) (cwV 2 X.ht (gwV inM q_316 q_317 q_318 q_1 q_319) rfl rfl rfl (by decide +kernel) ⟨Nat.le_of_ble_eq_true rfl, Nat.le_of_ble_eq_true rfl⟩) rfl (by decide) t7 (ent_5 t7) rfl rfl (Nat.le_of_ble_eq_true rfl) ⟨Nat.le_of_ble_eq_true rfl, Nat.le_of_ble_eq_true rfl⟩ dL_does_77 (fun r5 h6 hf => ?_)
    exact v_iret (pc := 80) X hr hlk dL_does_80 hf
  replace hf := if_f c0 hf
  by_cases c1 : (p1 &&& (15 : Int32)) = (1 : Int32)
  · replace hf := if_t c1 hf
    refine v_tableIn (pc := 4) X (off := 56) 60 dL_does_4 (by rw [c1]; decide) (by rw [c1]; decide) (by rw [c1]; decide) (by decide) ?_
    refine v_aload_n (pc := 60) X 0 dL_does_60 rfl rfl ?_
    refine v_iload_n (pc := 61) X 1 dL_does_61 rfl rfl ?_
    refine v_iconst (pc := 62) X (v := (4 : Int32)) dL_does_62 (by decide) ?_
    refine v_ishr (pc := 63) X dL_does_63 ?_
    refine v_bipush (pc := 64) X (v := (6 : Int32)) dL_does_64 (by decide) ?_
    refine v_callSI (pc := 66) X (As := [.int (p1 >>> ((4 : Int32) &&& 31)), .int (6 : Int32)]) (rest := [.ref p0]) (c_L_low l D cA L sh (p1 >>> ((4 : Int32) &&& 31)) (6 : Int32) h _ hf) (va_cwS 2 X.ht (gwS inM q_309 q_310 q_0 q_311) rfl rfl rfl (by decide +kernel) ⟨Nat.le_of_ble_eq_true rfl, Nat.le_of_ble_eq_true rfl⟩) rfl rfl (Nat.le_of_ble_eq_true rfl) ⟨Nat.le_of_ble_eq_true rfl, Nat.le_of_ble_eq_true rfl⟩ dL_does_66 (fun r8 h9 hf => ?_)
    refine v_iload_n (pc := 69) X 1 dL_does_69 rfl rfl ?_
    refine v_bipush (pc := 70) X (v := (7 : Int32)) dL_does_70 (by decide) ?_
    refine v_ishr (pc := 72) X dL_does_72 ?_
    refine v_iconst (pc := 73) X (v := (3 : Int32)) dL_does_73 (by decide) ?_
    refine v_callSI (pc := 74) X (As := [.int (p1 >>> ((7 : Int32) &&& 31)), .int (3 : Int32)]) (rest := [.int r8, .ref p0]) (c_L_low l D cA L sh (p1 >>> ((7 : Int32) &&& 31)) (3 : Int32) h9 _ hf) (va_cwS 2 X.ht (gwS inM q_309 q_310 q_0 q_311) rfl rfl rfl (by decide +kernel) ⟨Nat.le_of_ble_eq_true rfl, Nat.le_of_ble_eq_true rfl⟩) rfl rfl (Nat.le_of_ble_eq_true rfl) ⟨Nat.le_of_ble_eq_true rfl, Nat.le_of_ble_eq_true rfl⟩ dL_does_74 (fun r10 h11 hf => ?_)
    obtain ⟨t14, hf⟩ := hf
    refine v_callVI (pc := 77) X (As := [.int r8, .int r10]) (rest := []) (c_X5_alter l D cA L sh p0 r8 r10 h11 _ hf) (cwV 2 X.ht (gwV inM q_316 q_317 q_318 q_1 q_319) rfl rfl rfl (by decide +kernel) ⟨Nat.le_of_ble_eq_true rfl, Nat.le_of_ble_eq_true rfl⟩) rfl (by decide) t14 (ent_5 t14) rfl rfl (Nat.le_of_ble_eq_true rfl) ⟨Nat.le_of_ble_eq_true rfl, Nat.le_of_ble_eq_true rfl⟩ dL_does_77 (fun r12 h13 hf => ?_)
    exact v_iret (pc := 80) X hr hlk dL_does_80 hf
  replace hf := if_f c1 hf
  by_cases c2 : (p1 &&& (15 : Int32)) = (2 : Int32)
  · replace hf := if_t c2 hf
    refine v_tableIn (pc := 4) X (off := 56) 60 dL_does_4 (by rw [c2]; decide) (by rw [c2]; decide) (by rw [c2]; decide) (by decide) ?_
    refine v_aload_n (pc := 60) X 0 dL_does_60 rfl rfl ?_
    refine v_iload_n (pc := 61) X 1 dL_does_61 rfl rfl ?_
    refine v_iconst (pc := 62) X (v := (4 : Int32)) dL_does_62 (by decide) ?_
    refine v_ishr (pc := 63) X dL_does_63 ?_
    refine v_bipush (pc := 64) X (v := (6 : Int32)) dL_does_64 (by decide) ?_
    refine v_callSI (pc := 66) X (As := [.int (p1 >>> ((4 : Int32) &&& 31)), .int (6 : Int32)]) (rest := [.ref p0]) (c_L_low l D cA L sh (p1 >>> ((4 : Int32) &&& 31)) (6 : Int32) h _ hf) (va_cwS 2 X.ht (gwS inM q_309 q_310 q_0 q_311) rfl rfl rfl (by decide +kernel) ⟨Nat.le_of_ble_eq_true rfl, Nat.le_of_ble_eq_true rfl⟩) rfl rfl (Nat.le_of_ble_eq_true rfl) ⟨Nat.le_of_ble_eq_true rfl, Nat.le_of_ble_eq_true rfl⟩ dL_does_66 (fun r15 h16 hf => ?_)
    refine v_iload_n (pc := 69) X 1 dL_does_69 rfl rfl ?_
    refine v_bipush (pc := 70) X (v := (7 : Int32)) dL_does_70 (by decide) ?_
    refine v_ishr (pc := 72) X dL_does_72 ?_
    refine v_iconst (pc := 73) X (v := (3 : Int32)) dL_does_73 (by decide) ?_
    refine v_callSI (pc := 74) X (As := [.int (p1 >>> ((7 : Int32) &&& 31)), .int (3 : Int32)]) (rest := [.int r15, .ref p0]) (c_L_low l D cA L sh (p1 >>> ((7 : Int32) &&& 31)) (3 : Int32) h16 _ hf) (va_cwS 2 X.ht (gwS inM q_309 q_310 q_0 q_311) rfl rfl rfl (by decide +kernel) ⟨Nat.le_of_ble_eq_true rfl, Nat.le_of_ble_eq_true rfl⟩) rfl rfl (Nat.le_of_ble_eq_true rfl) ⟨Nat.le_of_ble_eq_true rfl, Nat.le_of_ble_eq_true rfl⟩ dL_does_74 (fun r17 h18 hf => ?_)
    obtain ⟨t21, hf⟩ := hf
    refine v_callVI (pc := 77) X (As := [.int r15, .int r17]) (rest := []) (c_X5_alter l D cA L sh p0 r15 r17 h18 _ hf) (cwV 2 X.ht (gwV inM q_316 q_317 q_318 q_1 q_319) rfl rfl rfl (by decide +kernel) ⟨Nat.le_of_ble_eq_true rfl, Nat.le_of_ble_eq_true rfl⟩) rfl (by decide) t21 (ent_5 t21) rfl rfl (Nat.le_of_ble_eq_true rfl) ⟨Nat.le_of_ble_eq_true rfl, Nat.le_of_ble_eq_true rfl⟩ dL_does_77 (fun r19 h20 hf => ?_)
    exact v_iret (pc := 80) X hr hlk dL_does_80 hf
  replace hf := if_f c2 hf
  by_cases c3 : (p1 &&& (15 : Int32)) = (3 : Int32)
  · replace hf := if_t c3 hf
    refine v_tableIn (pc := 4) X (off := 77) 81 dL_does_4 (by rw [c3]; decide) (by rw [c3]; decide) (by rw [c3]; decide) (by decide) ?_
    refine v_aload_n (pc := 81) X 0 dL_does_81 rfl rfl ?_
    refine v_iload_n (pc := 82) X 1 dL_does_82 rfl rfl ?_
    refine v_iconst (pc := 83) X (v := (4 : Int32)) dL_does_83 (by decide) ?_
    refine v_ishr (pc := 84) X dL_does_84 ?_
    refine v_iconst (pc := 85) X (v := (1 : Int32)) dL_does_85 (by decide) ?_
    refine v_iand (pc := 86) X dL_does_86 ?_
    refine v_iload_n (pc := 87) X 1 dL_does_87 rfl rfl ?_
    refine v_iconst (pc := 88) X (v := (4 : Int32)) dL_does_88 (by decide) ?_
    refine v_ishr (pc := 89) X dL_does_89 ?_
    refine v_iconst (pc := 90) X (v := (1 : Int32)) dL_does_90 (by decide) ?_
    refine v_iand (pc := 91) X dL_does_91 ?_
    refine dj_e hf (Vat := fun v22 h23 => V p l e (headSpec (wM yL_does cL_does 2 (some .int)) ({ frames := 6, cells := 0, slots := 0, locals := 134 } : Room)).room s0 m args below meth c (MQ below (QI D cA L sh K) args s0 0 0 (fun q => q ∈ L)) (fun q => q ∈ L) 0 0 D cA L sh 2 h23 114 [(0, .ref p0), (1, .int p1)] [.int v22, .int ((p1 >>> ((4 : Int32) &&& 31)) &&& (1 : Int32)), .ref p0]) (fun v22 h23 hf => ?_) (fun J24 hJ24 hf => ?_)
    · obtain ⟨t29, hf⟩ := hf
      refine v_callVI (pc := 114) X (As := [.int ((p1 >>> ((4 : Int32) &&& 31)) &&& (1 : Int32)), .int v22]) (rest := []) (c_X5_set l D cA L sh p0 ((p1 >>> ((4 : Int32) &&& 31)) &&& (1 : Int32)) v22 h23 _ hf) (cwV 2 X.ht (gwV inM q_349 q_350 q_351 q_1 q_352) rfl rfl rfl (by decide +kernel) ⟨Nat.le_of_ble_eq_true rfl, Nat.le_of_ble_eq_true rfl⟩) rfl (by decide) t29 (ent_5 t29) rfl rfl (Nat.le_of_ble_eq_true rfl) ⟨Nat.le_of_ble_eq_true rfl, Nat.le_of_ble_eq_true rfl⟩ dL_does_114 (fun r27 h28 hf => ?_)
      exact v_iret (pc := 117) X hr hlk dL_does_117 hf
    · refine v_if_ne (pc := 92) X 106 dL_does_92 (by decide) (fun cq => ?_) (fun cq => ?_)
      · replace hf := if_f cq hf
        refine v_iconst (pc := 106) X (v := (1 : Int32)) dL_does_106 (by decide) ?_
        refine v_iload_n (pc := 107) X 1 dL_does_107 rfl rfl ?_
        refine v_iconst (pc := 108) X (v := (5 : Int32)) dL_does_108 (by decide) ?_
        refine v_ishr (pc := 109) X dL_does_109 ?_
        refine v_bipush (pc := 110) X (v := (7 : Int32)) dL_does_110 (by decide) ?_
        refine v_iand (pc := 112) X dL_does_112 ?_
        refine v_iadd (pc := 113) X dL_does_113 ?_
        exact hJ24 ((1 : Int32) + ((p1 >>> ((5 : Int32) &&& 31)) &&& (7 : Int32))) h hf
      · replace hf := if_t cq hf
        refine v_iload_n (pc := 95) X 1 dL_does_95 rfl rfl ?_
        refine v_iconst (pc := 96) X (v := (5 : Int32)) dL_does_96 (by decide) ?_
        refine v_ishr (pc := 97) X dL_does_97 ?_
        refine v_bipush (pc := 98) X (v := (6 : Int32)) dL_does_98 (by decide) ?_
        refine v_callSI (pc := 100) X (As := [.int (p1 >>> ((5 : Int32) &&& 31)), .int (6 : Int32)]) (rest := [.int ((p1 >>> ((4 : Int32) &&& 31)) &&& (1 : Int32)), .ref p0]) (c_L_low l D cA L sh (p1 >>> ((5 : Int32) &&& 31)) (6 : Int32) h _ hf) (va_cwS 2 X.ht (gwS inM q_309 q_310 q_0 q_311) rfl rfl rfl (by decide +kernel) ⟨Nat.le_of_ble_eq_true rfl, Nat.le_of_ble_eq_true rfl⟩) rfl rfl (Nat.le_of_ble_eq_true rfl) ⟨Nat.le_of_ble_eq_true rfl, Nat.le_of_ble_eq_true rfl⟩ dL_does_100 (fun r25 h26 hf => ?_)
        refine v_goto (pc := 103) X 114 dL_does_103 (by decide) ?_
        exact hJ24 r25 h26 hf
  replace hf := if_f c3 hf
  by_cases c4 : (p1 &&& (15 : Int32)) = (4 : Int32)
  · replace hf := if_t c4 hf
    refine v_tableIn (pc := 4) X (off := 114) 118 dL_does_4 (by rw [c4]; decide) (by rw [c4]; decide) (by rw [c4]; decide) (by decide) ?_
    refine v_aload_n (pc := 118) X 0 dL_does_118 rfl rfl ?_
    refine v_iconst (pc := 119) X (v := (1 : Int32)) dL_does_119 (by decide) ?_
    refine v_iload_n (pc := 120) X 1 dL_does_120 rfl rfl ?_
    refine v_iconst (pc := 121) X (v := (4 : Int32)) dL_does_121 (by decide) ?_
    refine v_ishr (pc := 122) X dL_does_122 ?_
    refine v_iconst (pc := 123) X (v := (4 : Int32)) dL_does_123 (by decide) ?_
    refine v_callSI (pc := 124) X (As := [.int (p1 >>> ((4 : Int32) &&& 31)), .int (4 : Int32)]) (rest := [.int (1 : Int32), .ref p0]) (c_L_low l D cA L sh (p1 >>> ((4 : Int32) &&& 31)) (4 : Int32) h _ hf) (va_cwS 2 X.ht (gwS inM q_309 q_310 q_0 q_311) rfl rfl rfl (by decide +kernel) ⟨Nat.le_of_ble_eq_true rfl, Nat.le_of_ble_eq_true rfl⟩) rfl rfl (Nat.le_of_ble_eq_true rfl) ⟨Nat.le_of_ble_eq_true rfl, Nat.le_of_ble_eq_true rfl⟩ dL_does_124 (fun r30 h31 hf => ?_)
    refine v_iadd (pc := 127) X dL_does_127 ?_
    obtain ⟨t34, hf⟩ := hf
    refine v_callVI (pc := 128) X (As := [.int ((1 : Int32) + r30)]) (rest := []) (c_X5_tick l D cA L sh p0 ((1 : Int32) + r30) h31 _ hf) (cwV 1 X.ht (gwV inM q_358 q_359 q_360 q_1 q_361) rfl rfl rfl (by decide +kernel) ⟨Nat.le_of_ble_eq_true rfl, Nat.le_of_ble_eq_true rfl⟩) rfl (by decide) t34 (ent_5 t34) rfl rfl (Nat.le_of_ble_eq_true rfl) ⟨Nat.le_of_ble_eq_true rfl, Nat.le_of_ble_eq_true rfl⟩ dL_does_128 (fun r32 h33 hf => ?_)
    exact v_iret (pc := 131) X hr hlk dL_does_131 hf
  replace hf := if_f c4 hf
  by_cases c5 : (p1 &&& (15 : Int32)) = (5 : Int32)
  · replace hf := if_t c5 hf
    refine v_tableIn (pc := 4) X (off := 114) 118 dL_does_4 (by rw [c5]; decide) (by rw [c5]; decide) (by rw [c5]; decide) (by decide) ?_
    refine v_aload_n (pc := 118) X 0 dL_does_118 rfl rfl ?_
    refine v_iconst (pc := 119) X (v := (1 : Int32)) dL_does_119 (by decide) ?_
    refine v_iload_n (pc := 120) X 1 dL_does_120 rfl rfl ?_
    refine v_iconst (pc := 121) X (v := (4 : Int32)) dL_does_121 (by decide) ?_
    refine v_ishr (pc := 122) X dL_does_122 ?_
    refine v_iconst (pc := 123) X (v := (4 : Int32)) dL_does_123 (by decide) ?_
    refine v_callSI (pc := 124) X (As := [.int (p1 >>> ((4 : Int32) &&& 31)), .int (4 : Int32)]) (rest := [.int (1 : Int32), .ref p0]) (c_L_low l D cA L sh (p1 >>> ((4 : Int32) &&& 31)) (4 : Int32) h _ hf) (va_cwS 2 X.ht (gwS inM q_309 q_310 q_0 q_311) rfl rfl rfl (by decide +kernel) ⟨Nat.le_of_ble_eq_true rfl, Nat.le_of_ble_eq_true rfl⟩) rfl rfl (Nat.le_of_ble_eq_true rfl) ⟨Nat.le_of_ble_eq_true rfl, Nat.le_of_ble_eq_true rfl⟩ dL_does_124 (fun r35 h36 hf => ?_)
    refine v_iadd (pc := 127) X dL_does_127 ?_
    obtain ⟨t39, hf⟩ := hf
    refine v_callVI (pc := 128) X (As := [.int ((1 : Int32) + r35)]) (rest := []) (c_X5_tick l D cA L sh p0 ((1 : Int32) + r35) h36 _ hf) (cwV 1 X.ht (gwV inM q_358 q_359 q_360 q_1 q_361) rfl rfl rfl (by decide +kernel) ⟨Nat.le_of_ble_eq_true rfl, Nat.le_of_ble_eq_true rfl⟩) rfl (by decide) t39 (ent_5 t39) rfl rfl (Nat.le_of_ble_eq_true rfl) ⟨Nat.le_of_ble_eq_true rfl, Nat.le_of_ble_eq_true rfl⟩ dL_does_128 (fun r37 h38 hf => ?_)
    exact v_iret (pc := 131) X hr hlk dL_does_131 hf
  replace hf := if_f c5 hf
  by_cases c6 : (p1 &&& (15 : Int32)) = (6 : Int32)
  · replace hf := if_t c6 hf
    refine v_tableIn (pc := 4) X (off := 128) 132 dL_does_4 (by rw [c6]; decide) (by rw [c6]; decide) (by rw [c6]; decide) (by decide) ?_
    refine v_aload_n (pc := 132) X 0 dL_does_132 rfl rfl ?_
    refine v_aload_n (pc := 133) X 0 dL_does_133 rfl rfl ?_
    refine v_iload_n (pc := 134) X 1 dL_does_134 rfl rfl ?_
    refine v_iconst (pc := 135) X (v := (4 : Int32)) dL_does_135 (by decide) ?_
    refine v_ishr (pc := 136) X dL_does_136 ?_
    refine v_callSI (pc := 137) X (As := [.ref p0, .int (p1 >>> ((4 : Int32) &&& 31))]) (rest := [.ref p0]) (c_L_open l D cA L sh p0 (p1 >>> ((4 : Int32) &&& 31)) h _ hf) (va_cwS 2 X.ht (gwS inM q_369 q_370 q_0 q_371) rfl rfl rfl (by decide +kernel) ⟨Nat.le_of_ble_eq_true rfl, Nat.le_of_ble_eq_true rfl⟩) rfl rfl (Nat.le_of_ble_eq_true rfl) ⟨Nat.le_of_ble_eq_true rfl, Nat.le_of_ble_eq_true rfl⟩ dL_does_137 (fun r40 h41 hf => ?_)
    obtain ⟨t44, hf⟩ := hf
    refine v_callVI (pc := 140) X (As := [.int r40]) (rest := []) (c_X5_end l D cA L sh p0 r40 h41 _ hf) (cwV 1 X.ht (gwV inM q_372 q_373 q_374 q_1 q_375) rfl rfl rfl (by decide +kernel) ⟨Nat.le_of_ble_eq_true rfl, Nat.le_of_ble_eq_true rfl⟩) rfl (by decide) t44 (ent_5 t44) rfl rfl (Nat.le_of_ble_eq_true rfl) ⟨Nat.le_of_ble_eq_true rfl, Nat.le_of_ble_eq_true rfl⟩ dL_does_140 (fun r42 h43 hf => ?_)
    exact v_iret (pc := 143) X hr hlk dL_does_143 hf
  replace hf := if_f c6 hf
  by_cases c7 : (p1 &&& (15 : Int32)) = (7 : Int32)
  · replace hf := if_t c7 hf
    refine v_tableIn (pc := 4) X (off := 128) 132 dL_does_4 (by rw [c7]; decide) (by rw [c7]; decide) (by rw [c7]; decide) (by decide) ?_
    refine v_aload_n (pc := 132) X 0 dL_does_132 rfl rfl ?_
    refine v_aload_n (pc := 133) X 0 dL_does_133 rfl rfl ?_
    refine v_iload_n (pc := 134) X 1 dL_does_134 rfl rfl ?_
    refine v_iconst (pc := 135) X (v := (4 : Int32)) dL_does_135 (by decide) ?_
    refine v_ishr (pc := 136) X dL_does_136 ?_
    refine v_callSI (pc := 137) X (As := [.ref p0, .int (p1 >>> ((4 : Int32) &&& 31))]) (rest := [.ref p0]) (c_L_open l D cA L sh p0 (p1 >>> ((4 : Int32) &&& 31)) h _ hf) (va_cwS 2 X.ht (gwS inM q_369 q_370 q_0 q_371) rfl rfl rfl (by decide +kernel) ⟨Nat.le_of_ble_eq_true rfl, Nat.le_of_ble_eq_true rfl⟩) rfl rfl (Nat.le_of_ble_eq_true rfl) ⟨Nat.le_of_ble_eq_true rfl, Nat.le_of_ble_eq_true rfl⟩ dL_does_137 (fun r45 h46 hf => ?_)
    obtain ⟨t49, hf⟩ := hf
    refine v_callVI (pc := 140) X (As := [.int r45]) (rest := []) (c_X5_end l D cA L sh p0 r45 h46 _ hf) (cwV 1 X.ht (gwV inM q_372 q_373 q_374 q_1 q_375) rfl rfl rfl (by decide +kernel) ⟨Nat.le_of_ble_eq_true rfl, Nat.le_of_ble_eq_true rfl⟩) rfl (by decide) t49 (ent_5 t49) rfl rfl (Nat.le_of_ble_eq_true rfl) ⟨Nat.le_of_ble_eq_true rfl, Nat.le_of_ble_eq_true rfl⟩ dL_does_140 (fun r47 h48 hf => ?_)
    exact v_iret (pc := 143) X hr hlk dL_does_143 hf
  replace hf := if_f c7 hf
  by_cases c8 : (p1 &&& (15 : Int32)) = (8 : Int32)
  · replace hf := if_t c8 hf
    refine v_tableIn (pc := 4) X (off := 128) 132 dL_does_4 (by rw [c8]; decide) (by rw [c8]; decide) (by rw [c8]; decide) (by decide) ?_
    refine v_aload_n (pc := 132) X 0 dL_does_132 rfl rfl ?_
    refine v_aload_n (pc := 133) X 0 dL_does_133 rfl rfl ?_
    refine v_iload_n (pc := 134) X 1 dL_does_134 rfl rfl ?_
    refine v_iconst (pc := 135) X (v := (4 : Int32)) dL_does_135 (by decide) ?_
    refine v_ishr (pc := 136) X dL_does_136 ?_
    refine v_callSI (pc := 137) X (As := [.ref p0, .int (p1 >>> ((4 : Int32) &&& 31))]) (rest := [.ref p0]) (c_L_open l D cA L sh p0 (p1 >>> ((4 : Int32) &&& 31)) h _ hf) (va_cwS 2 X.ht (gwS inM q_369 q_370 q_0 q_371) rfl rfl rfl (by decide +kernel) ⟨Nat.le_of_ble_eq_true rfl, Nat.le_of_ble_eq_true rfl⟩) rfl rfl (Nat.le_of_ble_eq_true rfl) ⟨Nat.le_of_ble_eq_true rfl, Nat.le_of_ble_eq_true rfl⟩ dL_does_137 (fun r50 h51 hf => ?_)
    obtain ⟨t54, hf⟩ := hf
    refine v_callVI (pc := 140) X (As := [.int r50]) (rest := []) (c_X5_end l D cA L sh p0 r50 h51 _ hf) (cwV 1 X.ht (gwV inM q_372 q_373 q_374 q_1 q_375) rfl rfl rfl (by decide +kernel) ⟨Nat.le_of_ble_eq_true rfl, Nat.le_of_ble_eq_true rfl⟩) rfl (by decide) t54 (ent_5 t54) rfl rfl (Nat.le_of_ble_eq_true rfl) ⟨Nat.le_of_ble_eq_true rfl, Nat.le_of_ble_eq_true rfl⟩ dL_does_140 (fun r52 h53 hf => ?_)
    exact v_iret (pc := 143) X hr hlk dL_does_143 hf
  replace hf := if_f c8 hf
  by_cases c9 : (p1 &&& (15 : Int32)) = (9 : Int32)
  · replace hf := if_t c9 hf
    refine v_tableIn (pc := 4) X (off := 128) 132 dL_does_4 (by rw [c9]; decide) (by rw [c9]; decide) (by rw [c9]; decide) (by decide) ?_
    refine v_aload_n (pc := 132) X 0 dL_does_132 rfl rfl ?_
    refine v_aload_n (pc := 133) X 0 dL_does_133 rfl rfl ?_
    refine v_iload_n (pc := 134) X 1 dL_does_134 rfl rfl ?_
    refine v_iconst (pc := 135) X (v := (4 : Int32)) dL_does_135 (by decide) ?_
    refine v_ishr (pc := 136) X dL_does_136 ?_
    refine v_callSI (pc := 137) X (As := [.ref p0, .int (p1 >>> ((4 : Int32) &&& 31))]) (rest := [.ref p0]) (c_L_open l D cA L sh p0 (p1 >>> ((4 : Int32) &&& 31)) h _ hf) (va_cwS 2 X.ht (gwS inM q_369 q_370 q_0 q_371) rfl rfl rfl (by decide +kernel) ⟨Nat.le_of_ble_eq_true rfl, Nat.le_of_ble_eq_true rfl⟩) rfl rfl (Nat.le_of_ble_eq_true rfl) ⟨Nat.le_of_ble_eq_true rfl, Nat.le_of_ble_eq_true rfl⟩ dL_does_137 (fun r55 h56 hf => ?_)
    obtain ⟨t59, hf⟩ := hf
    refine v_callVI (pc := 140) X (As := [.int r55]) (rest := []) (c_X5_end l D cA L sh p0 r55 h56 _ hf) (cwV 1 X.ht (gwV inM q_372 q_373 q_374 q_1 q_375) rfl rfl rfl (by decide +kernel) ⟨Nat.le_of_ble_eq_true rfl, Nat.le_of_ble_eq_true rfl⟩) rfl (by decide) t59 (ent_5 t59) rfl rfl (Nat.le_of_ble_eq_true rfl) ⟨Nat.le_of_ble_eq_true rfl, Nat.le_of_ble_eq_true rfl⟩ dL_does_140 (fun r57 h58 hf => ?_)
    exact v_iret (pc := 143) X hr hlk dL_does_143 hf
  replace hf := if_f c9 hf
  refine v_tableOut (pc := 4) X 144 dL_does_4 (tab_out_0_9 c0 c1 c2 c3 c4 c5 c6 c7 c8 c9) (by decide) ?_
  refine v_aload_n (pc := 144) X 0 dL_does_144 rfl rfl ?_
  refine v_iload_n (pc := 145) X 1 dL_does_145 rfl rfl ?_
  refine v_iconst (pc := 146) X (v := (4 : Int32)) dL_does_146 (by decide) ?_
  refine v_ishr (pc := 147) X dL_does_147 ?_
  refine v_iconst (pc := 148) X (v := (4 : Int32)) dL_does_148 (by decide) ?_
  refine v_callSI (pc := 149) X (As := [.int (p1 >>> ((4 : Int32) &&& 31)), .int (4 : Int32)]) (rest := [.ref p0]) (c_L_low l D cA L sh (p1 >>> ((4 : Int32) &&& 31)) (4 : Int32) h _ hf) (va_cwS 2 X.ht (gwS inM q_309 q_310 q_0 q_311) rfl rfl rfl (by decide +kernel) ⟨Nat.le_of_ble_eq_true rfl, Nat.le_of_ble_eq_true rfl⟩) rfl rfl (Nat.le_of_ble_eq_true rfl) ⟨Nat.le_of_ble_eq_true rfl, Nat.le_of_ble_eq_true rfl⟩ dL_does_149 (fun r60 h61 hf => ?_)
  refine v_iconst (pc := 152) X (v := (1 : Int32)) dL_does_152 (by decide) ?_
  refine v_iload_n (pc := 153) X 1 dL_does_153 rfl rfl ?_
  refine v_bipush (pc := 154) X (v := (6 : Int32)) dL_does_154 (by decide) ?_
  refine v_ishr (pc := 156) X dL_does_156 ?_
  refine v_bipush (pc := 157) X (v := (63 : Int32)) dL_does_157 (by decide) ?_
  refine v_iand (pc := 159) X dL_does_159 ?_
  refine v_iload_n (pc := 160) X 1 dL_does_160 rfl rfl ?_
  refine v_bipush (pc := 161) X (v := (9 : Int32)) dL_does_161 (by decide) ?_
  refine v_ishr (pc := 163) X dL_does_163 ?_
  refine v_iand (pc := 164) X dL_does_164 ?_
  refine v_bipush (pc := 165) X (v := (63 : Int32)) dL_does_165 (by decide) ?_
  refine v_irem (pc := 167) X dL_does_167 (by decide) ?_
  refine v_iadd (pc := 168) X dL_does_168 ?_
  obtain ⟨t64, hf⟩ := hf
  refine v_callVI (pc := 169) X (As := [.int r60, .int ((1 : Int32) + ((((p1 >>> ((6 : Int32) &&& 31)) &&& (63 : Int32)) &&& (p1 >>> ((9 : Int32) &&& 31))) - (((p1 >>> ((6 : Int32) &&& 31)) &&& (63 : Int32)) &&& (p1 >>> ((9 : Int32) &&& 31))) / (63 : Int32) * (63 : Int32)))]) (rest := []) (c_X5_start l D cA L sh p0 r60 ((1 : Int32) + ((((p1 >>> ((6 : Int32) &&& 31)) &&& (63 : Int32)) &&& (p1 >>> ((9 : Int32) &&& 31))) - (((p1 >>> ((6 : Int32) &&& 31)) &&& (63 : Int32)) &&& (p1 >>> ((9 : Int32) &&& 31))) / (63 : Int32) * (63 : Int32))) h61 _ hf) (cwV 2 X.ht (gwV inM q_376 q_377 q_378 q_1 q_379) rfl rfl rfl (by decide +kernel) ⟨Nat.le_of_ble_eq_true rfl, Nat.le_of_ble_eq_true rfl⟩) rfl (by decide) t64 (ent_5 t64) rfl rfl (Nat.le_of_ble_eq_true rfl) ⟨Nat.le_of_ble_eq_true rfl, Nat.le_of_ble_eq_true rfl⟩ dL_does_169 (fun r62 h63 hf => ?_)
  exact v_iret (pc := 172) X hr hlk dL_does_172 hf

theorem c_L_does (l : Launch) (D : va_G) (cA : Nat → ClassId) (L : List Nat) (sh : Sh) (p0 : Nat) (p1 : Int32) (h : Hp) (K : Int32 → Hp → Prop) (hf : f_L_does sh p0 p1 h K) : Met l yL_does (wM yL_does cL_does 2 (some .int)) ({ frames := 6, cells := 0, slots := 0, locals := 134 } : Room) (PreM D cA L sh h [.ref p0, .int p1]) (QI D cA L sh K) 0 0 (fun q => q ∈ L) := by
  refine met_v (cc := cL_does) (nL := 2) (ret := (some .int)) [(0, .ref p0), (1, .int p1)] (by decide) rfl (Nat.le_of_ble_eq_true rfl) rfl ?_
  intro p e s0 m below meth c X hr hlk
  exact bw_L_does X hr hlk p0 p1 K h hf


/-! printed by mklw.py: the law -/
def fin_law (x1 : Nat) (L : List Nat) (sh : Sh) (h : Hp) : Prop :=
  ty sh x1 5 <|
  f_X5_count sh x1 (2 : Int32) h fun r1 h2 =>
  dj (fun v4 h5 =>
    v4 = 1)
    (fun J6 =>
    if r1 = 0 then
      J6 (1 : Int32) h2
    else
      f_X5_bestRoom sh x1 (0 : Int32) h2 fun r7 h8 =>
      if r7 < (1 : Int32) then
        J6 (0 : Int32) h8
      else
        f_X5_bestRoom sh x1 (0 : Int32) h8 fun r9 h10 =>
        if (8 : Int32) < r9 then
          J6 (0 : Int32) h10
        else
          f_X5_bestRoom sh x1 (1 : Int32) h10 fun r11 h12 =>
          if r11 < (1 : Int32) then
            J6 (0 : Int32) h12
          else
            J6 (1 : Int32) h12)

def b_law (x1 : Nat) (xs : Nat → Int32) (Ls : Nat) (rec : Int32 → List Nat → Sh → Hp → Prop) (i : Int32) (L : List Nat) (sh : Sh) (h : Hp) : Prop :=
  if (56 : Int32) ≤ i then
    fin_law x1 L sh h
  else
    f_L_cell xs Ls i h fun r13 h14 =>
    f_L_low sh (r13 >>> ((4 : Int32) &&& 31)) (6 : Int32) h14 fun r15 h16 =>
    ty sh x1 5 <|
    f_X5_tableOf sh x1 r15 (0 : Int32) h16 fun r17 h18 =>
    f_X5_tableOf sh x1 r15 (1 : Int32) h18 fun r20 h21 =>
    f_X5_tableOf sh x1 r15 (4 : Int32) h21 fun r22 h23 =>
    dj (fun v24 h25 =>
      f_L_does sh x1 r13 h25 fun r27 h28 =>
      dj (fun v29 h30 =>
        dj (fun v32 h33 =>
          dj (fun v39 h40 =>
            if v39 = 0 then
              False
            else
              f_L_areHandsSo L sh x1 h40 fun r44 L46 s47 h45 =>
              if r44 = 0 then
                False
              else
                if (i - i / (3 : Int32) * (3 : Int32)) = (1 : Int32) then
                  f_L_low s47 (r13 >>> ((7 : Int32) &&& 31)) (63 : Int32) h45 fun r49 h50 =>
                  f_L_isStartSo s47 x1 ((r13 >>> ((5 : Int32) &&& 31)) &&& (3 : Int32)) ((1 : Int32) + r49) h50 fun r51 h52 =>
                  if r51 = 0 then
                    False
                  else
                    rec (i + (1 : Int32)) L46 s47 h52
                else
                  rec (i + (1 : Int32)) L46 s47 h45)
            (fun J41 =>
            if v32 = 0 then
              J41 (0 : Int32) h33
            else
              if v29 = 0 then
                J41 (1 : Int32) h33
              else
                if r27 = (-2 : Int32) then
                  if v24 = 0 then
                    J41 (1 : Int32) h33
                  else
                    f_L_low sh (r13 >>> ((7 : Int32) &&& 31)) (3 : Int32) h33 fun r42 h43 =>
                    if r20 = ((1 : Int32) <<< (r42 &&& 31)) then
                      J41 (1 : Int32) h43
                    else
                      J41 (0 : Int32) h43
                else
                  J41 (1 : Int32) h33))
          (fun J34 =>
          if r27 < (-3 : Int32) then
            J34 (0 : Int32) h30
          else
            if v29 = 0 then
              J34 (1 : Int32) h30
            else
              if r27 < 0 then
                J34 (1 : Int32) h30
              else
                if v24 = 0 then
                  J34 (0 : Int32) h30
                else
                  if r27 = (r17 + (1 : Int32)) then
                    f_X5_tableOf sh x1 r15 (1 : Int32) h30 fun r35 h36 =>
                    f_L_low sh (r13 >>> ((7 : Int32) &&& 31)) (3 : Int32) h36 fun r37 h38 =>
                    if r35 = (r20 ^^^ ((1 : Int32) <<< (r37 &&& 31))) then
                      J34 (1 : Int32) h38
                    else
                      J34 (0 : Int32) h38
                  else
                    J34 (0 : Int32) h30))
        (fun J31 =>
        if (3 : Int32) ≤ (r13 &&& (15 : Int32)) then
          J31 (0 : Int32) h28
        else
          J31 (1 : Int32) h28))
      (fun J26 =>
      if r22 = (1 : Int32) then
        J26 (1 : Int32) h23
      else
        J26 (0 : Int32) h23)

/-- so many rounds of the law -/
def lpw (x1 : Nat) (xs : Nat → Int32) (Ls : Nat) : Nat → Int32 → List Nat → Sh → Hp → Prop
  | 0 => fun _ _ _ _ => False
  | n + 1 => b_law x1 xs Ls (lpw x1 xs Ls n)

set_option maxHeartbeats 16000000 in
set_option maxRecDepth 100000 in
theorem w_fin {p : Program} {l : Launch} {e : Env} {s : State} {m : MethodId} {below : List Frame} {meth : Method} {c : Code} {D : va_G} {cA : Nat → ClassId} {b ce sl : Nat} {L : List Nat} {sh : Sh} (X : Cx p s m c #[Value.ref b] code 11 lw_tbl RL (fun q => s.heap.size ≤ q) D cA L sh) (hr : meth.sig.returnType = ret) (hlk : meth.locks = false) (x1 : Nat) (h : Hp) (hce : ce ≤ 600000) (hsl : sl ≤ 7300000) (hf : fin_law x1 L sh h) : V p l e room_1 s m #[Value.ref b] below meth c (lw_Z below #[Value.ref b] s) (fun q => s.heap.size ≤ q) ce sl D cA L sh 11 h 245 [(0, .ref b), (1, .ref x1)] [] := by
  unfold fin_law at hf
  refine v_aload_n (pc := 245) X 1 dL_law_245 rfl rfl ?_
  refine v_iconst (pc := 246) X (v := (2 : Int32)) dL_law_246 (by decide) ?_
  obtain ⟨t3, hf⟩ := hf
  refine v_callVI (pc := 247) X (As := [.int (2 : Int32)]) (rest := []) (c_X5_count l D cA L sh x1 (2 : Int32) h _ hf) (cwV 1 X.ht (gwV lwG_in q_218 q_219 q_220 q_1 q_221) rfl rfl rfl (by decide +kernel) ⟨Nat.le_of_ble_eq_true rfl, Nat.le_of_ble_eq_true rfl⟩) rfl (by decide) t3 (ent_5 t3) rfl rfl (Nat.le_of_ble_eq_true rfl) ⟨by show ce ≤ 600074; omega, by show sl ≤ 7302025; omega⟩ dL_law_247 (fun r1 h2 hf => ?_)
  refine dj_e hf (Vat := fun v4 h5 => V p l e room_1 s m #[Value.ref b] below meth c (lw_Z below #[Value.ref b] s) (fun q => s.heap.size ≤ q) ce sl D cA L sh 11 h5 286 [(0, .ref b), (1, .ref x1)] [.int v4]) (fun v4 h5 hf => ?_) (fun J6 hJ6 hf => ?_)
  · subst hf
    exact v_lawret (pc := 286) X hr hlk (by omega) (by omega) dL_law_286
  · refine v_if_eq (pc := 250) X 281 dL_law_250 (by decide) (fun cq => ?_) (fun cq => ?_)
    · replace hf := if_t cq hf
      refine v_iconst (pc := 281) X (v := (1 : Int32)) dL_law_281 (by decide) ?_
      refine v_goto (pc := 282) X 286 dL_law_282 (by decide) ?_
      exact hJ6 (1 : Int32) h2 hf
    · replace hf := if_f cq hf
      refine v_aload_n (pc := 253) X 1 dL_law_253 rfl rfl ?_
      refine v_iconst (pc := 254) X (v := (0 : Int32)) dL_law_254 (by decide) ?_
      refine v_callVI (pc := 255) X (As := [.int (0 : Int32)]) (rest := []) (c_X5_bestRoom l D cA L sh x1 (0 : Int32) h2 _ hf) (cwV 1 X.ht (gwV lwG_in q_239 q_240 q_241 q_1 q_242) rfl rfl rfl (by decide +kernel) ⟨Nat.le_of_ble_eq_true rfl, Nat.le_of_ble_eq_true rfl⟩) rfl (by decide) t3 (ent_5 t3) rfl rfl (Nat.le_of_ble_eq_true rfl) ⟨by show ce ≤ 600074; omega, by show sl ≤ 7302025; omega⟩ dL_law_255 (fun r7 h8 hf => ?_)
      refine v_iconst (pc := 258) X (v := (1 : Int32)) dL_law_258 (by decide) ?_
      refine v_icmp_lt (pc := 259) X 285 dL_law_259 (by decide) (fun cq => ?_) (fun cq => ?_)
      · replace hf := if_t cq hf
        refine v_iconst (pc := 285) X (v := (0 : Int32)) dL_law_285 (by decide) ?_
        exact hJ6 (0 : Int32) h8 hf
      · replace hf := if_f cq hf
        refine v_aload_n (pc := 262) X 1 dL_law_262 rfl rfl ?_
        refine v_iconst (pc := 263) X (v := (0 : Int32)) dL_law_263 (by decide) ?_
        refine v_callVI (pc := 264) X (As := [.int (0 : Int32)]) (rest := []) (c_X5_bestRoom l D cA L sh x1 (0 : Int32) h8 _ hf) (cwV 1 X.ht (gwV lwG_in q_239 q_240 q_241 q_1 q_242) rfl rfl rfl (by decide +kernel) ⟨Nat.le_of_ble_eq_true rfl, Nat.le_of_ble_eq_true rfl⟩) rfl (by decide) t3 (ent_5 t3) rfl rfl (Nat.le_of_ble_eq_true rfl) ⟨by show ce ≤ 600074; omega, by show sl ≤ 7302025; omega⟩ dL_law_264 (fun r9 h10 hf => ?_)
        refine v_bipush (pc := 267) X (v := (8 : Int32)) dL_law_267 (by decide) ?_
        refine v_icmp_gt (pc := 269) X 285 dL_law_269 (by decide) (fun cq => ?_) (fun cq => ?_)
        · replace hf := if_t cq hf
          refine v_iconst (pc := 285) X (v := (0 : Int32)) dL_law_285 (by decide) ?_
          exact hJ6 (0 : Int32) h10 hf
        · replace hf := if_f cq hf
          refine v_aload_n (pc := 272) X 1 dL_law_272 rfl rfl ?_
          refine v_iconst (pc := 273) X (v := (1 : Int32)) dL_law_273 (by decide) ?_
          refine v_callVI (pc := 274) X (As := [.int (1 : Int32)]) (rest := []) (c_X5_bestRoom l D cA L sh x1 (1 : Int32) h10 _ hf) (cwV 1 X.ht (gwV lwG_in q_239 q_240 q_241 q_1 q_242) rfl rfl rfl (by decide +kernel) ⟨Nat.le_of_ble_eq_true rfl, Nat.le_of_ble_eq_true rfl⟩) rfl (by decide) t3 (ent_5 t3) rfl rfl (Nat.le_of_ble_eq_true rfl) ⟨by show ce ≤ 600074; omega, by show sl ≤ 7302025; omega⟩ dL_law_274 (fun r11 h12 hf => ?_)
          refine v_iconst (pc := 277) X (v := (1 : Int32)) dL_law_277 (by decide) ?_
          refine v_icmp_lt (pc := 278) X 285 dL_law_278 (by decide) (fun cq => ?_) (fun cq => ?_)
          · replace hf := if_t cq hf
            refine v_iconst (pc := 285) X (v := (0 : Int32)) dL_law_285 (by decide) ?_
            exact hJ6 (0 : Int32) h12 hf
          · replace hf := if_f cq hf
            refine v_iconst (pc := 281) X (v := (1 : Int32)) dL_law_281 (by decide) ?_
            refine v_goto (pc := 282) X 286 dL_law_282 (by decide) ?_
            exact hJ6 (1 : Int32) h12 hf

set_option maxHeartbeats 32000000 in
set_option maxRecDepth 100000 in
theorem w_law {p : Program} {l : Launch} {e : Env} {s : State} {m : MethodId} {below : List Frame} {meth : Method} {c : Code} {D : va_G} {cA : Nat → ClassId} {b Ls : Nat} {xs : Nat → Int32} (hr : meth.sig.returnType = ret) (hlk : meth.locks = false) (hX : va_X b Ls xs s s.heap) (hbl : b < s.heap.size) (x1 : Nat) : ∀ (n : Nat) (i : Int32) (L : List Nat) (sh : Sh) (h : Hp) (ce sl : Nat), ce + 2 * n ≤ 600000 → sl + 12 * n ≤ 7300000 → Cx p s m c #[Value.ref b] code 11 lw_tbl RL (fun q => s.heap.size ≤ q) D cA L sh → lpw x1 xs Ls n i L sh h → V p l e room_1 s m #[Value.ref b] below meth c (lw_Z below #[Value.ref b] s) (fun q => s.heap.size ≤ q) ce sl D cA L sh 11 h 10 [(0, .ref b), (1, .ref x1), (2, .int i)] [] := by
  have hbA : ¬ (fun q => s.heap.size ≤ q) b := Nat.not_le.mpr hbl
  intro n
  induction n with
  | zero => intro i L sh h ce sl _ _ _ hf; exact hf.elim
  | succ n ih =>
    intro i L sh h ce sl hce hsl X hf
    replace hf : b_law x1 xs Ls (lpw x1 xs Ls n) i L sh h := hf
    unfold b_law at hf
    refine v_iload_n (pc := 10) X 2 dL_law_10 rfl rfl ?_
    refine v_bipush (pc := 11) X (v := (56 : Int32)) dL_law_11 (by decide) ?_
    refine v_icmp_ge (pc := 13) X 245 dL_law_13 (by decide) (fun cq => ?_) (fun cq => ?_)
    · replace hf := if_t cq hf
      refine v_sub [0, 1] rfl ?_
      exact w_fin X hr hlk x1 h (by omega) (by omega) hf
    · replace hf := if_f cq hf
      refine v_aload_n (pc := 16) X 0 dL_law_16 rfl rfl ?_
      refine v_iload_n (pc := 17) X 2 dL_law_17 rfl rfl ?_
      refine v_callSX (pc := 18) X (rest := []) (c_L_cell l D cA L sh b Ls xs i h _ hf) (va_cwS 2 X.ht (gwS lwG_in q_306 q_307 q_0 q_308) rfl rfl rfl (by decide +kernel) ⟨Nat.le_of_ble_eq_true rfl, Nat.le_of_ble_eq_true rfl⟩) hX hbl hbA (Nat.le_of_ble_eq_true rfl) ⟨by show ce ≤ 600074; omega, by show sl ≤ 7302025; omega⟩ dL_law_18 (fun r13 h14 hf => ?_)
      refine v_istore_n (pc := 21) X (i := 3) (lv' := [(3, .int r13), (0, .ref b), (1, .ref x1), (2, .int i)]) dL_law_21 rfl (Nat.le_of_ble_eq_true rfl) rfl ?_
      refine v_iload_n (pc := 22) X 0 dL_law_22 rfl rfl ?_
      refine v_iconst (pc := 23) X (v := (4 : Int32)) dL_law_23 (by decide) ?_
      refine v_ishr (pc := 24) X dL_law_24 ?_
      refine v_bipush (pc := 25) X (v := (6 : Int32)) dL_law_25 (by decide) ?_
      refine v_callSI (pc := 27) X (As := [.int (r13 >>> ((4 : Int32) &&& 31)), .int (6 : Int32)]) (rest := []) (c_L_low l D cA L sh (r13 >>> ((4 : Int32) &&& 31)) (6 : Int32) h14 _ hf) (va_cwS 2 X.ht (gwS lwG_in q_309 q_310 q_0 q_311) rfl rfl rfl (by decide +kernel) ⟨Nat.le_of_ble_eq_true rfl, Nat.le_of_ble_eq_true rfl⟩) rfl rfl (Nat.le_of_ble_eq_true rfl) ⟨by show ce ≤ 600074; omega, by show sl ≤ 7302025; omega⟩ dL_law_27 (fun r15 h16 hf => ?_)
      refine v_istore (pc := 30) X (i := 4) (lv' := [(4, .int r15), (3, .int r13), (0, .ref b), (1, .ref x1), (2, .int i)]) dL_law_30 (Nat.le_of_ble_eq_true rfl) rfl ?_
      refine v_aload_n (pc := 32) X 3 dL_law_32 rfl rfl ?_
      refine v_iload (pc := 33) X 0 dL_law_33 rfl ?_
      refine v_iconst (pc := 35) X (v := (0 : Int32)) dL_law_35 (by decide) ?_
      obtain ⟨t19, hf⟩ := hf
      refine v_callVI (pc := 36) X (As := [.int r15, .int (0 : Int32)]) (rest := []) (c_X5_tableOf l D cA L sh x1 r15 (0 : Int32) h16 _ hf) (cwV 2 X.ht (gwV lwG_in q_193 q_194 q_195 q_1 q_196) rfl rfl rfl (by decide +kernel) ⟨Nat.le_of_ble_eq_true rfl, Nat.le_of_ble_eq_true rfl⟩) rfl (by decide) t19 (ent_5 t19) rfl rfl (Nat.le_of_ble_eq_true rfl) ⟨by show ce ≤ 600074; omega, by show sl ≤ 7302025; omega⟩ dL_law_36 (fun r17 h18 hf => ?_)
      refine v_istore (pc := 39) X (i := 5) (lv' := [(5, .int r17), (4, .int r15), (3, .int r13), (0, .ref b), (1, .ref x1), (2, .int i)]) dL_law_39 (Nat.le_of_ble_eq_true rfl) rfl ?_
      refine v_aload_n (pc := 41) X 4 dL_law_41 rfl rfl ?_
      refine v_iload (pc := 42) X 1 dL_law_42 rfl ?_
      refine v_iconst (pc := 44) X (v := (1 : Int32)) dL_law_44 (by decide) ?_
      refine v_callVI (pc := 45) X (As := [.int r15, .int (1 : Int32)]) (rest := []) (c_X5_tableOf l D cA L sh x1 r15 (1 : Int32) h18 _ hf) (cwV 2 X.ht (gwV lwG_in q_193 q_194 q_195 q_1 q_196) rfl rfl rfl (by decide +kernel) ⟨Nat.le_of_ble_eq_true rfl, Nat.le_of_ble_eq_true rfl⟩) rfl (by decide) t19 (ent_5 t19) rfl rfl (Nat.le_of_ble_eq_true rfl) ⟨by show ce ≤ 600074; omega, by show sl ≤ 7302025; omega⟩ dL_law_45 (fun r20 h21 hf => ?_)
      refine v_istore (pc := 48) X (i := 6) (lv' := [(6, .int r20), (5, .int r17), (4, .int r15), (3, .int r13), (0, .ref b), (1, .ref x1), (2, .int i)]) dL_law_48 (Nat.le_of_ble_eq_true rfl) rfl ?_
      refine v_aload_n (pc := 50) X 5 dL_law_50 rfl rfl ?_
      refine v_iload (pc := 51) X 2 dL_law_51 rfl ?_
      refine v_iconst (pc := 53) X (v := (4 : Int32)) dL_law_53 (by decide) ?_
      refine v_callVI (pc := 54) X (As := [.int r15, .int (4 : Int32)]) (rest := []) (c_X5_tableOf l D cA L sh x1 r15 (4 : Int32) h21 _ hf) (cwV 2 X.ht (gwV lwG_in q_193 q_194 q_195 q_1 q_196) rfl rfl rfl (by decide +kernel) ⟨Nat.le_of_ble_eq_true rfl, Nat.le_of_ble_eq_true rfl⟩) rfl (by decide) t19 (ent_5 t19) rfl rfl (Nat.le_of_ble_eq_true rfl) ⟨by show ce ≤ 600074; omega, by show sl ≤ 7302025; omega⟩ dL_law_54 (fun r22 h23 hf => ?_)
      refine v_iconst (pc := 57) X (v := (1 : Int32)) dL_law_57 (by decide) ?_
      refine dj_e hf (Vat := fun v24 h25 => V p l e room_1 s m #[Value.ref b] below meth c (lw_Z below #[Value.ref b] s) (fun q => s.heap.size ≤ q) ce sl D cA L sh 11 h25 66 [(6, .int r20), (5, .int r17), (4, .int r15), (3, .int r13), (0, .ref b), (1, .ref x1), (2, .int i)] [.int v24]) (fun v24 h25 hf => ?_) (fun J26 hJ26 hf => ?_)
      · refine v_istore (pc := 66) X (i := 7) (lv' := [(7, .int v24), (6, .int r20), (5, .int r17), (4, .int r15), (3, .int r13), (0, .ref b), (1, .ref x1), (2, .int i)]) dL_law_66 (Nat.le_of_ble_eq_true rfl) rfl ?_
        refine v_aload_n (pc := 68) X 6 dL_law_68 rfl rfl ?_
        refine v_iload_n (pc := 69) X 4 dL_law_69 rfl rfl ?_
        refine v_callSI (pc := 70) X (As := [.ref x1, .int r13]) (rest := []) (c_L_does l D cA L sh x1 r13 h25 _ hf) (va_cwS 2 X.ht (gwS lwG_in q_313 q_314 q_0 q_315) rfl rfl rfl (by decide +kernel) ⟨Nat.le_of_ble_eq_true rfl, Nat.le_of_ble_eq_true rfl⟩) rfl rfl (Nat.le_of_ble_eq_true rfl) ⟨by show ce ≤ 600074; omega, by show sl ≤ 7302025; omega⟩ dL_law_70 (fun r27 h28 hf => ?_)
        refine v_istore (pc := 73) X (i := 8) (lv' := [(8, .int r27), (7, .int v24), (6, .int r20), (5, .int r17), (4, .int r15), (3, .int r13), (0, .ref b), (1, .ref x1), (2, .int i)]) dL_law_73 (Nat.le_of_ble_eq_true rfl) rfl ?_
        refine v_iload_n (pc := 75) X 5 dL_law_75 rfl rfl ?_
        refine v_bipush (pc := 76) X (v := (15 : Int32)) dL_law_76 (by decide) ?_
        refine v_iand (pc := 78) X dL_law_78 ?_
        refine v_iconst (pc := 79) X (v := (3 : Int32)) dL_law_79 (by decide) ?_
        refine dj_e hf (Vat := fun v29 h30 => V p l e room_1 s m #[Value.ref b] below meth c (lw_Z below #[Value.ref b] s) (fun q => s.heap.size ≤ q) ce sl D cA L sh 11 h30 88 [(8, .int r27), (7, .int v24), (6, .int r20), (5, .int r17), (4, .int r15), (3, .int r13), (0, .ref b), (1, .ref x1), (2, .int i)] [.int v29]) (fun v29 h30 hf => ?_) (fun J31 hJ31 hf => ?_)
        · refine v_istore (pc := 88) X (i := 9) (lv' := [(9, .int v29), (8, .int r27), (7, .int v24), (6, .int r20), (5, .int r17), (4, .int r15), (3, .int r13), (0, .ref b), (1, .ref x1), (2, .int i)]) dL_law_88 (Nat.le_of_ble_eq_true rfl) rfl ?_
          refine v_iload (pc := 90) X 1 dL_law_90 rfl ?_
          refine v_bipush (pc := 92) X (v := (-3 : Int32)) dL_law_92 (by decide) ?_
          refine dj_e hf (Vat := fun v32 h33 => V p l e room_1 s m #[Value.ref b] below meth c (lw_Z below #[Value.ref b] s) (fun q => s.heap.size ≤ q) ce sl D cA L sh 11 h33 149 [(9, .int v29), (8, .int r27), (7, .int v24), (6, .int r20), (5, .int r17), (4, .int r15), (3, .int r13), (0, .ref b), (1, .ref x1), (2, .int i)] [.int v32]) (fun v32 h33 hf => ?_) (fun J34 hJ34 hf => ?_)
          · refine v_istore (pc := 149) X (i := 10) (lv' := [(10, .int v32), (9, .int v29), (8, .int r27), (7, .int v24), (6, .int r20), (5, .int r17), (4, .int r15), (3, .int r13), (0, .ref b), (1, .ref x1), (2, .int i)]) dL_law_149 (Nat.le_of_ble_eq_true rfl) rfl ?_
            refine v_iload (pc := 151) X 0 dL_law_151 rfl ?_
            refine dj_e hf (Vat := fun v39 h40 => V p l e room_1 s m #[Value.ref b] below meth c (lw_Z below #[Value.ref b] s) (fun q => s.heap.size ≤ q) ce sl D cA L sh 11 h40 193 [(10, .int v32), (9, .int v29), (8, .int r27), (7, .int v24), (6, .int r20), (5, .int r17), (4, .int r15), (3, .int r13), (0, .ref b), (1, .ref x1), (2, .int i)] [.int v39]) (fun v39 h40 hf => ?_) (fun J41 hJ41 hf => ?_)
            · refine v_istore (pc := 193) X (i := 10) (lv' := [(10, .int v39), (9, .int v29), (8, .int r27), (7, .int v24), (6, .int r20), (5, .int r17), (4, .int r15), (3, .int r13), (0, .ref b), (1, .ref x1), (2, .int i)]) dL_law_193 (Nat.le_of_ble_eq_true rfl) rfl ?_
              refine v_iload (pc := 195) X 0 dL_law_195 rfl ?_
              refine v_if_eq (pc := 197) X 237 dL_law_197 (by decide) (fun cq => ?_) (fun cq => ?_)
              · replace hf := if_t cq hf
                refine v_iconst (pc := 237) X (v := (0 : Int32)) dL_law_237 (by decide) ?_
                exact hf.elim
              · replace hf := if_f cq hf
                refine v_aload_n (pc := 200) X 9 dL_law_200 rfl rfl ?_
                refine v_callSA (pc := 201) X (As := [.ref x1]) (rest := []) (c_L_areHandsSo l D cA L sh x1 h40 _ hf) (va_cwS 1 X.ht (gwS lwG_in q_380 q_381 q_0 q_382) rfl rfl rfl (by decide +kernel) ⟨Nat.le_of_ble_eq_true rfl, Nat.le_of_ble_eq_true rfl⟩) (fun _ z => z) rfl rfl (Nat.le_of_ble_eq_true rfl) ⟨by show ce + 2 ≤ 600074; omega, by show sl + 12 ≤ 7302025; omega⟩ dL_law_201 (fun r44 L46 s47 h45 hf X48 => ?_)
                refine v_if_eq (pc := 204) X48 237 dL_law_204 (by decide) (fun cq => ?_) (fun cq => ?_)
                · replace hf := if_t cq hf
                  refine v_iconst (pc := 237) X48 (v := (0 : Int32)) dL_law_237 (by decide) ?_
                  exact hf.elim
                · replace hf := if_f cq hf
                  refine v_iload_n (pc := 207) X48 10 dL_law_207 rfl rfl ?_
                  refine v_iconst (pc := 208) X48 (v := (3 : Int32)) dL_law_208 (by decide) ?_
                  refine v_irem (pc := 209) X48 dL_law_209 (by decide) ?_
                  refine v_iconst (pc := 210) X48 (v := (1 : Int32)) dL_law_210 (by decide) ?_
                  refine v_icmp_ne (pc := 211) X48 239 dL_law_211 (by decide) (fun cq => ?_) (fun cq => ?_)
                  · replace hf := if_f cq hf
                    refine v_iinc (pc := 239) X48 10 (v := i + (1 : Int32)) (lv' := [(2, .int (i + (1 : Int32))), (10, .int v39), (9, .int v29), (8, .int r27), (7, .int v24), (6, .int r20), (5, .int r17), (4, .int r15), (3, .int r13), (0, .ref b), (1, .ref x1)]) dL_law_239 rfl rfl (Nat.le_of_ble_eq_true rfl) rfl ?_
                    refine v_goto (pc := 242) X48 10 dL_law_242 (by decide) ?_
                    refine v_sub [9, 10, 0] rfl ?_
                    exact ih (i + (1 : Int32)) L46 s47 h45 (ce + 2) (sl + 12) (by omega) (by omega) X48 hf
                  · replace hf := if_t cq hf
                    refine v_aload_n (pc := 214) X48 9 dL_law_214 rfl rfl ?_
                    refine v_iload_n (pc := 215) X48 7 dL_law_215 rfl rfl ?_
                    refine v_iconst (pc := 216) X48 (v := (5 : Int32)) dL_law_216 (by decide) ?_
                    refine v_ishr (pc := 217) X48 dL_law_217 ?_
                    refine v_iconst (pc := 218) X48 (v := (3 : Int32)) dL_law_218 (by decide) ?_
                    refine v_iand (pc := 219) X48 dL_law_219 ?_
                    refine v_iconst (pc := 220) X48 (v := (1 : Int32)) dL_law_220 (by decide) ?_
                    refine v_iload_n (pc := 221) X48 7 dL_law_221 rfl rfl ?_
                    refine v_bipush (pc := 222) X48 (v := (7 : Int32)) dL_law_222 (by decide) ?_
                    refine v_ishr (pc := 224) X48 dL_law_224 ?_
                    refine v_bipush (pc := 225) X48 (v := (63 : Int32)) dL_law_225 (by decide) ?_
                    refine v_callSI (pc := 227) X48 (As := [.int (r13 >>> ((7 : Int32) &&& 31)), .int (63 : Int32)]) (rest := [.int (1 : Int32), .int ((r13 >>> ((5 : Int32) &&& 31)) &&& (3 : Int32)), .ref x1]) (c_L_low l D cA L46 s47 (r13 >>> ((7 : Int32) &&& 31)) (63 : Int32) h45 _ hf) (va_cwS 2 X48.ht (gwS lwG_in q_309 q_310 q_0 q_311) rfl rfl rfl (by decide +kernel) ⟨Nat.le_of_ble_eq_true rfl, Nat.le_of_ble_eq_true rfl⟩) rfl rfl (Nat.le_of_ble_eq_true rfl) ⟨by show (ce + 2) ≤ 600074; omega, by show (sl + 12) ≤ 7302025; omega⟩ dL_law_227 (fun r49 h50 hf => ?_)
                    refine v_iadd (pc := 230) X48 dL_law_230 ?_
                    refine v_callSI (pc := 231) X48 (As := [.ref x1, .int ((r13 >>> ((5 : Int32) &&& 31)) &&& (3 : Int32)), .int ((1 : Int32) + r49)]) (rest := []) (c_L_isStartSo l D cA L46 s47 x1 ((r13 >>> ((5 : Int32) &&& 31)) &&& (3 : Int32)) ((1 : Int32) + r49) h50 _ hf) (va_cwS 3 X48.ht (gwS lwG_in q_422 q_423 q_0 q_424) rfl rfl rfl (by decide +kernel) ⟨Nat.le_of_ble_eq_true rfl, Nat.le_of_ble_eq_true rfl⟩) rfl rfl (Nat.le_of_ble_eq_true rfl) ⟨by show (ce + 2) ≤ 600074; omega, by show (sl + 12) ≤ 7302025; omega⟩ dL_law_231 (fun r51 h52 hf => ?_)
                    refine v_if_ne (pc := 234) X48 239 dL_law_234 (by decide) (fun cq => ?_) (fun cq => ?_)
                    · replace hf := if_f cq hf
                      refine v_iinc (pc := 239) X48 10 (v := i + (1 : Int32)) (lv' := [(2, .int (i + (1 : Int32))), (10, .int v39), (9, .int v29), (8, .int r27), (7, .int v24), (6, .int r20), (5, .int r17), (4, .int r15), (3, .int r13), (0, .ref b), (1, .ref x1)]) dL_law_239 rfl rfl (Nat.le_of_ble_eq_true rfl) rfl ?_
                      refine v_goto (pc := 242) X48 10 dL_law_242 (by decide) ?_
                      refine v_sub [9, 10, 0] rfl ?_
                      exact ih (i + (1 : Int32)) L46 s47 h52 (ce + 2) (sl + 12) (by omega) (by omega) X48 hf
                    · replace hf := if_t cq hf
                      refine v_iconst (pc := 237) X48 (v := (0 : Int32)) dL_law_237 (by decide) ?_
                      exact hf.elim
            · refine v_if_eq (pc := 153) X 192 dL_law_153 (by decide) (fun cq => ?_) (fun cq => ?_)
              · replace hf := if_t cq hf
                refine v_iconst (pc := 192) X (v := (0 : Int32)) dL_law_192 (by decide) ?_
                exact hJ41 (0 : Int32) h33 hf
              · replace hf := if_f cq hf
                refine v_iload (pc := 156) X 1 dL_law_156 rfl ?_
                refine v_if_eq (pc := 158) X 188 dL_law_158 (by decide) (fun cq => ?_) (fun cq => ?_)
                · replace hf := if_t cq hf
                  refine v_iconst (pc := 188) X (v := (1 : Int32)) dL_law_188 (by decide) ?_
                  refine v_goto (pc := 189) X 193 dL_law_189 (by decide) ?_
                  exact hJ41 (1 : Int32) h33 hf
                · replace hf := if_f cq hf
                  refine v_iload (pc := 161) X 2 dL_law_161 rfl ?_
                  refine v_bipush (pc := 163) X (v := (-2 : Int32)) dL_law_163 (by decide) ?_
                  refine v_icmp_ne (pc := 165) X 188 dL_law_165 (by decide) (fun cq => ?_) (fun cq => ?_)
                  · replace hf := if_f cq hf
                    refine v_iconst (pc := 188) X (v := (1 : Int32)) dL_law_188 (by decide) ?_
                    refine v_goto (pc := 189) X 193 dL_law_189 (by decide) ?_
                    exact hJ41 (1 : Int32) h33 hf
                  · replace hf := if_t cq hf
                    refine v_iload (pc := 168) X 3 dL_law_168 rfl ?_
                    refine v_if_eq (pc := 170) X 188 dL_law_170 (by decide) (fun cq => ?_) (fun cq => ?_)
                    · replace hf := if_t cq hf
                      refine v_iconst (pc := 188) X (v := (1 : Int32)) dL_law_188 (by decide) ?_
                      refine v_goto (pc := 189) X 193 dL_law_189 (by decide) ?_
                      exact hJ41 (1 : Int32) h33 hf
                    · replace hf := if_f cq hf
                      refine v_iload (pc := 173) X 4 dL_law_173 rfl ?_
                      refine v_iconst (pc := 175) X (v := (1 : Int32)) dL_law_175 (by decide) ?_
                      refine v_iload_n (pc := 176) X 7 dL_law_176 rfl rfl ?_
                      refine v_bipush (pc := 177) X (v := (7 : Int32)) dL_law_177 (by decide) ?_
                      refine v_ishr (pc := 179) X dL_law_179 ?_
                      refine v_iconst (pc := 180) X (v := (3 : Int32)) dL_law_180 (by decide) ?_
                      refine v_callSI (pc := 181) X (As := [.int (r13 >>> ((7 : Int32) &&& 31)), .int (3 : Int32)]) (rest := [.int (1 : Int32), .int r20]) (c_L_low l D cA L sh (r13 >>> ((7 : Int32) &&& 31)) (3 : Int32) h33 _ hf) (va_cwS 2 X.ht (gwS lwG_in q_309 q_310 q_0 q_311) rfl rfl rfl (by decide +kernel) ⟨Nat.le_of_ble_eq_true rfl, Nat.le_of_ble_eq_true rfl⟩) rfl rfl (Nat.le_of_ble_eq_true rfl) ⟨by show ce ≤ 600074; omega, by show sl ≤ 7302025; omega⟩ dL_law_181 (fun r42 h43 hf => ?_)
                      refine v_ishl (pc := 184) X dL_law_184 ?_
                      refine v_icmp_ne (pc := 185) X 192 dL_law_185 (by decide) (fun cq => ?_) (fun cq => ?_)
                      · replace hf := if_f cq hf
                        refine v_iconst (pc := 192) X (v := (0 : Int32)) dL_law_192 (by decide) ?_
                        exact hJ41 (0 : Int32) h43 hf
                      · replace hf := if_t cq hf
                        refine v_iconst (pc := 188) X (v := (1 : Int32)) dL_law_188 (by decide) ?_
                        refine v_goto (pc := 189) X 193 dL_law_189 (by decide) ?_
                        exact hJ41 (1 : Int32) h43 hf
          · refine v_icmp_lt (pc := 94) X 148 dL_law_94 (by decide) (fun cq => ?_) (fun cq => ?_)
            · replace hf := if_t cq hf
              refine v_iconst (pc := 148) X (v := (0 : Int32)) dL_law_148 (by decide) ?_
              exact hJ34 (0 : Int32) h30 hf
            · replace hf := if_f cq hf
              refine v_iload (pc := 97) X 0 dL_law_97 rfl ?_
              refine v_if_eq (pc := 99) X 144 dL_law_99 (by decide) (fun cq => ?_) (fun cq => ?_)
              · replace hf := if_t cq hf
                refine v_iconst (pc := 144) X (v := (1 : Int32)) dL_law_144 (by decide) ?_
                refine v_goto (pc := 145) X 149 dL_law_145 (by decide) ?_
                exact hJ34 (1 : Int32) h30 hf
              · replace hf := if_f cq hf
                refine v_iload (pc := 102) X 1 dL_law_102 rfl ?_
                refine v_if_lt (pc := 104) X 144 dL_law_104 (by decide) (fun cq => ?_) (fun cq => ?_)
                · replace hf := if_t cq hf
                  refine v_iconst (pc := 144) X (v := (1 : Int32)) dL_law_144 (by decide) ?_
                  refine v_goto (pc := 145) X 149 dL_law_145 (by decide) ?_
                  exact hJ34 (1 : Int32) h30 hf
                · replace hf := if_f cq hf
                  refine v_iload (pc := 107) X 2 dL_law_107 rfl ?_
                  refine v_if_eq (pc := 109) X 148 dL_law_109 (by decide) (fun cq => ?_) (fun cq => ?_)
                  · replace hf := if_t cq hf
                    refine v_iconst (pc := 148) X (v := (0 : Int32)) dL_law_148 (by decide) ?_
                    exact hJ34 (0 : Int32) h30 hf
                  · replace hf := if_f cq hf
                    refine v_iload (pc := 112) X 1 dL_law_112 rfl ?_
                    refine v_iload (pc := 114) X 4 dL_law_114 rfl ?_
                    refine v_iconst (pc := 116) X (v := (1 : Int32)) dL_law_116 (by decide) ?_
                    refine v_iadd (pc := 117) X dL_law_117 ?_
                    refine v_icmp_ne (pc := 118) X 148 dL_law_118 (by decide) (fun cq => ?_) (fun cq => ?_)
                    · replace hf := if_f cq hf
                      refine v_iconst (pc := 148) X (v := (0 : Int32)) dL_law_148 (by decide) ?_
                      exact hJ34 (0 : Int32) h30 hf
                    · replace hf := if_t cq hf
                      refine v_aload_n (pc := 121) X 8 dL_law_121 rfl rfl ?_
                      refine v_iload (pc := 122) X 5 dL_law_122 rfl ?_
                      refine v_iconst (pc := 124) X (v := (1 : Int32)) dL_law_124 (by decide) ?_
                      refine v_callVI (pc := 125) X (As := [.int r15, .int (1 : Int32)]) (rest := []) (c_X5_tableOf l D cA L sh x1 r15 (1 : Int32) h30 _ hf) (cwV 2 X.ht (gwV lwG_in q_193 q_194 q_195 q_1 q_196) rfl rfl rfl (by decide +kernel) ⟨Nat.le_of_ble_eq_true rfl, Nat.le_of_ble_eq_true rfl⟩) rfl (by decide) t19 (ent_5 t19) rfl rfl (Nat.le_of_ble_eq_true rfl) ⟨by show ce ≤ 600074; omega, by show sl ≤ 7302025; omega⟩ dL_law_125 (fun r35 h36 hf => ?_)
                      refine v_iload (pc := 128) X 3 dL_law_128 rfl ?_
                      refine v_iconst (pc := 130) X (v := (1 : Int32)) dL_law_130 (by decide) ?_
                      refine v_iload_n (pc := 131) X 6 dL_law_131 rfl rfl ?_
                      refine v_bipush (pc := 132) X (v := (7 : Int32)) dL_law_132 (by decide) ?_
                      refine v_ishr (pc := 134) X dL_law_134 ?_
                      refine v_iconst (pc := 135) X (v := (3 : Int32)) dL_law_135 (by decide) ?_
                      refine v_callSI (pc := 136) X (As := [.int (r13 >>> ((7 : Int32) &&& 31)), .int (3 : Int32)]) (rest := [.int (1 : Int32), .int r20, .int r35]) (c_L_low l D cA L sh (r13 >>> ((7 : Int32) &&& 31)) (3 : Int32) h36 _ hf) (va_cwS 2 X.ht (gwS lwG_in q_309 q_310 q_0 q_311) rfl rfl rfl (by decide +kernel) ⟨Nat.le_of_ble_eq_true rfl, Nat.le_of_ble_eq_true rfl⟩) rfl rfl (Nat.le_of_ble_eq_true rfl) ⟨by show ce ≤ 600074; omega, by show sl ≤ 7302025; omega⟩ dL_law_136 (fun r37 h38 hf => ?_)
                      refine v_ishl (pc := 139) X dL_law_139 ?_
                      refine v_ixor (pc := 140) X dL_law_140 ?_
                      refine v_icmp_ne (pc := 141) X 148 dL_law_141 (by decide) (fun cq => ?_) (fun cq => ?_)
                      · replace hf := if_f cq hf
                        refine v_iconst (pc := 148) X (v := (0 : Int32)) dL_law_148 (by decide) ?_
                        exact hJ34 (0 : Int32) h38 hf
                      · replace hf := if_t cq hf
                        refine v_iconst (pc := 144) X (v := (1 : Int32)) dL_law_144 (by decide) ?_
                        refine v_goto (pc := 145) X 149 dL_law_145 (by decide) ?_
                        exact hJ34 (1 : Int32) h38 hf
        · refine v_icmp_ge (pc := 80) X 87 dL_law_80 (by decide) (fun cq => ?_) (fun cq => ?_)
          · replace hf := if_t cq hf
            refine v_iconst (pc := 87) X (v := (0 : Int32)) dL_law_87 (by decide) ?_
            exact hJ31 (0 : Int32) h28 hf
          · replace hf := if_f cq hf
            refine v_iconst (pc := 83) X (v := (1 : Int32)) dL_law_83 (by decide) ?_
            refine v_goto (pc := 84) X 88 dL_law_84 (by decide) ?_
            exact hJ31 (1 : Int32) h28 hf
      · refine v_icmp_ne (pc := 58) X 65 dL_law_58 (by decide) (fun cq => ?_) (fun cq => ?_)
        · replace hf := if_f cq hf
          refine v_iconst (pc := 65) X (v := (0 : Int32)) dL_law_65 (by decide) ?_
          exact hJ26 (0 : Int32) h23 hf
        · replace hf := if_t cq hf
          refine v_iconst (pc := 61) X (v := (1 : Int32)) dL_law_61 (by decide) ?_
          refine v_goto (pc := 62) X 66 dL_law_62 (by decide) ?_
          exact hJ26 (1 : Int32) h23 hf

/-- the law: the constructor, then 56 rounds -/
def f_law (L : List Nat) (sh : Sh) (h : Hp) (xs : Nat → Int32) (Ls : Nat) : Prop :=
  nw L sh h 5 0 fun x1 L1 sh1 h1 =>
  f_X5_init L1 sh1 x1 h1 fun L2 sh2 h2 =>
  lpw x1 xs Ls 57 (0 : Int32) L2 sh2 h2
def sh0 : Sh := fun _ => (99, 0)
def h0 : Hp := (fun _ _ => 0, fun _ _ => none)
set_option maxHeartbeats 16000000 in
set_option maxRecDepth 100000 in
theorem v_law {p : Program} {l : Launch} {e : Env} {s : State} {m : MethodId} {below : List Frame} {meth : Method} {c : Code} {D : va_G} {cA : Nat → ClassId} {b Ls : Nat} {xs : Nat → Int32} (X : Cx p s m c #[Value.ref b] code 11 lw_tbl RL (fun q => s.heap.size ≤ q) D cA [] sh0) (hr : meth.sig.returnType = ret) (hlk : meth.locks = false) (hX : va_X b Ls xs s s.heap) (hbl : b < s.heap.size) (hf : f_law [] sh0 h0 xs Ls) : V p l e room_1 s m #[Value.ref b] below meth c (lw_Z below #[Value.ref b] s) (fun q => s.heap.size ≤ q) 0 0 D cA [] sh0 11 h0 0 [(0, .ref b)] [] := by
  unfold f_law at hf
  refine v_new_5 (pc := 0) X (fun w h => lwG_in w (inG5 w h)) (X.ht _ (lwG_in _ q_8)) (X.ht _ (lwG_in _ q_9)) (X.ht _ (lwG_in _ q_1)) (fun _ z => z) (Nat.le_of_ble_eq_true rfl) (Nat.le_of_ble_eq_true rfl) dL_law_0 (fun x1 nq X1 => ?_)
  replace hf := hf x1 _ _ _ nq rfl rfl rfl
  obtain ⟨h1, e_h1⟩ : ∃ z, z = hz h0 x1 := ⟨_, rfl⟩
  rw [← e_h1] at hf ⊢
  obtain ⟨L1, e_L1⟩ : ∃ z, z = ([] : List Nat) ++ [x1] := ⟨_, rfl⟩
  rw [← e_L1] at hf X1 ⊢
  obtain ⟨sh1, e_sh1⟩ : ∃ z, z = va_up sh0 x1 (5, 0) := ⟨_, rfl⟩
  rw [← e_sh1] at hf X1 ⊢
  refine v_dup (pc := 3) X1 dL_law_3 rfl ?_
  refine v_callI (pc := 4) X1 (rest := [.ref x1]) (c_X5_init l D cA L1 sh1 x1 h1 _ hf) (cwI 0 X1.ht (good_wM lwG_in q_12) rfl rfl rfl (X1.ht _ (lwG_in _ q_1)) (X1.ht _ (lwG_in _ q_10)) (X1.ht _ (lwG_in _ q_11)) rfl (by decide +kernel) ⟨Nat.le_of_ble_eq_true rfl, Nat.le_of_ble_eq_true rfl⟩) (fun _ z => z) rfl (Nat.le_of_ble_eq_true rfl) ⟨Nat.le_of_ble_eq_true rfl, Nat.le_of_ble_eq_true rfl⟩ dL_law_4 (fun L2 sh2 h2 hf X2 => ?_)
  refine v_astore_n (pc := 7) X2 (i := 1) (lv' := [(1, .ref x1), (0, .ref b)]) dL_law_7 rfl (Nat.le_of_ble_eq_true rfl) rfl ?_
  refine v_iconst (pc := 8) X2 (v := (0 : Int32)) dL_law_8 (by decide) ?_
  refine v_istore_n (pc := 9) X2 (i := 2) (lv' := [(2, .int (0 : Int32)), (1, .ref x1), (0, .ref b)]) dL_law_9 rfl (Nat.le_of_ble_eq_true rfl) rfl ?_
  refine v_sub [2, 1, 0] rfl ?_
  exact w_law hr hlk hX hbl x1 57 0 L2 sh2 h2 _ _ (Nat.le_of_ble_eq_true rfl) (Nat.le_of_ble_eq_true rfl) X2 hf

theorem arr_of {s : State} {args : Array Value} (h : (Cond.arrayClass .int).before args s = true) : ∃ cA : ClassId, ArrOfT s cA .int ∧ va_RA s cA .int := by
  obtain ⟨cA, kA, comp, h1, h2, h3⟩ := Cond.arrayClass_spec h
  exact ⟨cA, fun n z => ⟨fun k q => (by cases q), kA, h2, comp, h3⟩, h1⟩
theorem arr_ofq {s : State} {args : Array Value} {C : String} (h : (Cond.arrayOver (.object C)).before args s = true) : ∃ cA : ClassId, ArrOfT s cA (.object C) ∧ va_RA s cA (.object C) := by
  obtain ⟨comp, c, k, h1, h2, h3, h4, h5⟩ := Cond.arrayOver_spec h
  exact ⟨c, fun n z => ⟨fun k q => (by cases q), k, h3, comp, h4⟩, k, comp, h3, h4, h1, h5⟩
set_option maxHeartbeats 16000000 in
set_option maxRecDepth 100000 in
theorem whole_open {p : Program} {e : Env} {s : State} {m : MethodId} {below : List Frame} {meth : Method} {c : Code} (l : Launch) (hflags : l.flags = flags0) {b L : Nat} {xs : Nat → Int32} (hL : L ≤ 260) (C0 : lw_At p s m meth c b L xs) (hf : f_law [] sh0 h0 xs L) : W p l e room_1 s m #[Value.ref b] below meth c s.heap [] 0 0 (lw_Z below #[Value.ref b] s) (entryFrame m ([Value.ref b] : List Value).toArray 11) := by
  obtain ⟨hx, hb, hr, hml, hown, hts, hX, hbl, hlocks, hgv⟩ := C0
  obtain ⟨c0, s0, k0⟩ := u_known (C := RX0) (T := TX0) (N := 6) (n := 6) hts (fun w h => lwG_in w (inG0 w h)) (hts _ (lwG_in _ q_31))
  obtain ⟨c1, s1, k1⟩ := u_known (C := RX1) (T := TX1) (N := 9) (n := 9) hts (fun w h => lwG_in w (inG1 w h)) (hts _ (lwG_in _ q_24))
  obtain ⟨c2, s2, k2⟩ := u_known (C := RX2) (T := TX2) (N := 12) (n := 12) hts (fun w h => lwG_in w (inG2 w h)) (hts _ (lwG_in _ q_17))
  obtain ⟨c3, s3, k3⟩ := u_known (C := RX3) (T := TX3) (N := 6) (n := 6) hts (fun w h => lwG_in w (inG3 w h)) (hts _ (lwG_in _ q_160))
  obtain ⟨c4, s4, k4⟩ := u_known (C := RX4) (T := TX4) (N := 4) (n := 4) hts (fun w h => lwG_in w (inG4 w h)) (hts _ (lwG_in _ q_65))
  obtain ⟨c5, s5, k5⟩ := u_known (C := RX5) (T := TX5) (N := 10) (n := 10) hts (fun w h => lwG_in w (inG5 w h)) (hts _ (lwG_in _ q_9))
  obtain ⟨a7, r7⟩ := arr_of (hts _ (lwG_in _ q_62))
  obtain ⟨a8, r8⟩ := arr_ofq (hts _ q_30)
  obtain ⟨a9, r9⟩ := arr_ofq (hts _ q_23)
  obtain ⟨a10, r10⟩ := arr_ofq (hts _ q_158)
  obtain ⟨a11, r11⟩ := arr_ofq (hts _ q_64)
  have hK : KK (fun k => match k with | 0 => c0 | 1 => c1 | 2 => c2 | 3 => c3 | 4 => c4 | _ => c5, fun k => match k with | 0 => s0 | 1 => s1 | 2 => s2 | 3 => s3 | 4 => s4 | _ => s5) (fun k => match k with | 7 => a7 | 8 => a8 | 9 => a9 | 10 => a10 | _ => a11) s := by
    refine ⟨⟨fun k q hq => ?_, fun k q hq => ?_⟩, va_Nw.of rfl (hts _ q_32), va_Nw.of rfl (hts _ q_408), va_Nw.of rfl (hts _ q_267), va_Nw.of rfl (hts _ q_305), va_AO.of (hts _ q_30), va_AO.of (hts _ q_23), va_AO.of (hts _ q_158), va_AO.of (hts _ q_64)⟩
    · match k, hq with
      | 0, hq => cases hq; exact k0
      | 1, hq => cases hq; exact k1
      | 2, hq => cases hq; exact k2
      | 3, hq => cases hq; exact k3
      | 4, hq => cases hq; exact k4
      | 5, hq => cases hq; exact k5
      | k + 6, hq => simp [vwCl] at hq
    · match k, hq with
      | 0, hq => cases hq; exact r7
      | 1, hq => cases hq; exact r8
      | 2, hq => cases hq; exact r9
      | 3, hq => cases hq; exact r10
      | 4, hq => cases hq; exact r11
      | k + 5, hq => simp [tysL] at hq
  have X : Cx p s m c #[Value.ref b] code 11 lw_tbl RL (fun q => s.heap.size ≤ q) _ _ [] sh0 := ⟨⟨hx, hb, hml, hown, hts⟩, hK, List.nodup_nil, fun a ha => absurd ha List.not_mem_nil, fun a ha => absurd ha (by show ¬ (99 : Nat) < 50; decide)⟩
  have hl := lv_entry ([.ref b]) (n := 11) (Nat.le_of_ble_eq_true rfl)
  rw [lg_entry_eq]
  exact v_law X hr hlocks hX hbl hf _ _ _ hl (fun k q hq => by simp [va_pl] at hq) va_S.rf

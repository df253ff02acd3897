def b_L_isStartSo_299 (sh : Sh) (x0 : Nat) (x1 : Int32) (x2 : Int32) (x12 : Int32) (x13 : Int32) (Xc : Int32 → Hp → Prop) (rec : Int32 × Int32 → Hp → Prop) (s : Int32 × Int32) (h : Hp) : Prop :=
  ty sh x0 5 <|
  f_X5_sessionOf sh x0 x1 (2 : Int32) h fun r52 h53 =>
  if r52 ≤ s.2 then
    Xc s.1 h53
  else
    f_X5_entry sh x0 x1 s.2 (0 : Int32) h53 fun r55 h56 =>
    f_X5_entry sh x0 x1 s.2 (4 : Int32) h56 fun r57 h58 =>
    dj (fun v59 h60 =>
      rec (s.1 ||| v59, s.2 + (1 : Int32)) h60)
      (fun J61 =>
      if r57 = x12 then
        f_X5_entry sh x0 x1 s.2 (1 : Int32) h58 fun r62 h63 =>
        f_X5_tableOf sh x0 r55 (0 : Int32) h63 fun r64 h65 =>
        if r62 = r64 then
          f_X5_entry sh x0 x1 s.2 (2 : Int32) h65 fun r66 h67 =>
          f_X5_tableOf sh x0 r55 (1 : Int32) h67 fun r68 h69 =>
          if r66 = r68 then
            f_X5_entry sh x0 x1 s.2 (3 : Int32) h69 fun r70 h71 =>
            if r70 ≤ 0 then
              J61 (0 : Int32) h71
            else
              J61 ((1 : Int32) <<< (r55 &&& 31)) h71
          else
            J61 (0 : Int32) h69
        else
          J61 (0 : Int32) h65
      else
        J61 (0 : Int32) h58)

def f_L_isStartSo (sh : Sh) (p0 : Nat) (p1 : Int32) (p2 : Int32) (h : Hp) (K : Int32 → Hp → Prop) : Prop :=
  ty sh p0 5 <|
  f_X5_would sh p0 p1 p2 (0 : Int32) h fun r1 h2 =>
  f_X5_would sh p0 p1 p2 (1 : Int32) h2 fun r4 h5 =>
  f_X5_would sh p0 p1 p2 (2 : Int32) h5 fun r6 h7 =>
  f_X5_would sh p0 p1 p2 (3 : Int32) h7 fun r8 h9 =>
  f_X5_sessionOf sh p0 p1 (5 : Int32) h9 fun r10 h11 =>
  f_X5_sessionOf sh p0 p1 (6 : Int32) h11 fun r12 h13 =>
  f_X5_sessionOf sh p0 p1 (7 : Int32) h13 fun r14 h15 =>
  f_X5_sessionOf sh p0 p1 (0 : Int32) h15 fun r16 h17 =>
  f_X5_count sh p0 (2 : Int32) h17 fun r18 h19 =>
  f_X5_start sh p0 p1 p2 h19 fun r20 h21 =>
  if 0 ≤ r20 then
    dj (fun v22 h23 =>
      dj (fun v39 h40 =>
        lo (b_L_isStartSo_299 sh p0 p1 p2 r20 v39
          (fun y72 h73 =>
            f_X5_undo sh p0 h73 fun r74 h75 =>
            dj (fun v76 h77 =>
              bz v76 <|
              K v76 h77)
              (fun J78 =>
              if v39 = 0 then
                J78 (0 : Int32) h75
              else
                if y72 = p2 then
                  if r74 < 0 then
                    J78 (0 : Int32) h75
                  else
                    J78 (1 : Int32) h75
                else
                  J78 (0 : Int32) h75))) ((0 : Int32), (0 : Int32)) h40)
        (fun J41 =>
        if v22 = 0 then
          J41 (0 : Int32) h23
        else
          f_X5_statement sh p0 r20 (0 : Int32) h23 fun r42 h43 =>
          if r42 = p1 then
            f_X5_statement sh p0 r20 (1 : Int32) h43 fun r44 h45 =>
            if r44 = p2 then
              f_X5_statement sh p0 r20 (2 : Int32) h45 fun r46 h47 =>
              f_X5_count sh p0 (0 : Int32) h47 fun r48 h49 =>
              if r46 = r48 then
                f_X5_statement sh p0 r20 (3 : Int32) h49 fun r50 h51 =>
                if r50 = 0 then
                  J41 (1 : Int32) h51
                else
                  J41 (0 : Int32) h51
              else
                J41 (0 : Int32) h49
            else
              J41 (0 : Int32) h45
          else
            J41 (0 : Int32) h43))
      (fun J24 =>
      if r20 = r18 then
        f_L_ones sh p2 h21 fun r25 h26 =>
        if (r1 + r4) = r25 then
          f_X5_sessionOf sh p0 p1 (5 : Int32) h26 fun r27 h28 =>
          if (r27 - r10) = r1 then
            f_X5_sessionOf sh p0 p1 (6 : Int32) h28 fun r29 h30 =>
            if (r29 - r12) = r4 then
              f_X5_sessionOf sh p0 p1 (7 : Int32) h30 fun r31 h32 =>
              if (r31 - r14) = r6 then
                f_X5_sessionOf sh p0 p1 (0 : Int32) h32 fun r33 h34 =>
                f_X5_count sh p0 (1 : Int32) h34 fun r35 h36 =>
                if r33 = r35 then
                  f_X5_count sh p0 (1 : Int32) h36 fun r37 h38 =>
                  if (r37 - r16) = r8 then
                    J24 (1 : Int32) h38
                  else
                    J24 (0 : Int32) h38
                else
                  J24 (0 : Int32) h36
              else
                J24 (0 : Int32) h32
            else
              J24 (0 : Int32) h30
          else
            J24 (0 : Int32) h28
        else
          J24 (0 : Int32) h26
      else
        J24 (0 : Int32) h21)
  else
    dj (fun v80 h81 =>
      bz v80 <|
      K v80 h81)
      (fun J82 =>
      if r20 = (-3 : Int32) then
        if r1 = r20 then
          if r4 = r20 then
            if r6 = r20 then
              if r8 = r20 then
                f_X5_count sh p0 (2 : Int32) h21 fun r83 h84 =>
                if r83 = r18 then
                  J82 (1 : Int32) h84
                else
                  J82 (0 : Int32) h84
              else
                J82 (0 : Int32) h21
            else
              J82 (0 : Int32) h21
          else
            J82 (0 : Int32) h21
        else
          J82 (0 : Int32) h21
      else
        J82 (0 : Int32) h21)

set_option maxHeartbeats 8000000 in
set_option maxRecDepth 100000 in
theorem w_L_isStartSo_299 {p : Program} {l : Launch} {e : Env} {s0 : State} {m : MethodId} {args : Array Value} {below : List Frame} {meth : Method} {c : Code} {D : va_G} {cA : Nat → ClassId} {L : List Nat} {sh : Sh} (X : Cx p s0 m c args cL_isStartSo 17 (wM yL_isStartSo cL_isStartSo 17 (some .boolean)) RL (fun q => q ∈ L) D cA L sh) (hr : meth.sig.returnType = (some .boolean)) (hlk : meth.locks = false) (x0 : Nat) (x1 : Int32) (x2 : Int32) (x12 : Int32) (x13 : Int32) (Xc : Int32 → Hp → Prop) (K : Int32 → Hp → Prop) (hx : ∀ (y14 : Int32) (h1 : Hp), Xc y14 h1 → V p l e (headSpec (wM yL_isStartSo cL_isStartSo 17 (some .boolean)) ({ frames := 5, cells := 0, slots := 0, locals := 125 } : Room)).room s0 m args below meth c (MQ below (QI D cA L sh K) args s0 0 0 (fun q => q ∈ L)) (fun q => q ∈ L) 0 0 D cA L sh 17 h1 399 [(0, .ref x0), (2, .int x2), (13, .int x13), (14, .int y14)] []) : ∀ (n : Nat) (s : Int32 × Int32) (h : Hp), lp (b_L_isStartSo_299 sh x0 x1 x2 x12 x13 Xc) n s h → V p l e (headSpec (wM yL_isStartSo cL_isStartSo 17 (some .boolean)) ({ frames := 5, cells := 0, slots := 0, locals := 125 } : Room)).room s0 m args below meth c (MQ below (QI D cA L sh K) args s0 0 0 (fun q => q ∈ L)) (fun q => q ∈ L) 0 0 D cA L sh 17 h 299 [(0, .ref x0), (1, .int x1), (2, .int x2), (12, .int x12), (13, .int x13), (14, .int s.1), (15, .int s.2)] [] := by
  intro n
  induction n with
  | zero => intro s h hf; exact hf.elim
  | succ n ih =>
    intro s h hf
    replace hf : b_L_isStartSo_299 sh x0 x1 x2 x12 x13 Xc (lp (b_L_isStartSo_299 sh x0 x1 x2 x12 x13 Xc) n) s h := hf
    unfold b_L_isStartSo_299 at hf
    refine v_iload (pc := 299) X 6 dL_isStartSo_299 rfl ?_
    refine v_aload_n (pc := 301) X 0 dL_isStartSo_301 rfl rfl ?_
    refine v_iload_n (pc := 302) X 1 dL_isStartSo_302 rfl rfl ?_
    refine v_iconst (pc := 303) X (v := (2 : Int32)) dL_isStartSo_303 (by decide) ?_
    obtain ⟨t54, hf⟩ := hf
    refine v_callVI (pc := 304) X (As := [.int x1, .int (2 : Int32)]) (rest := [.int s.2]) (c_X5_sessionOf l D cA L sh x0 x1 (2 : Int32) h _ hf) (cwV 2 X.ht (gwV inM q_383 q_384 q_385 q_1 q_386) rfl rfl rfl (by decide +kernel) ⟨Nat.le_of_ble_eq_true rfl, Nat.le_of_ble_eq_true rfl⟩) rfl (by decide) t54 (ent_5 t54) rfl rfl (Nat.le_of_ble_eq_true rfl) ⟨Nat.le_of_ble_eq_true rfl, Nat.le_of_ble_eq_true rfl⟩ dL_isStartSo_304 (fun r52 h53 hf => ?_)
    refine v_icmp_ge (pc := 307) X 399 dL_isStartSo_307 (by decide) (fun cq => ?_) (fun cq => ?_)
    · replace hf := if_t cq hf
      refine v_sub [0, 2, 4, 5] rfl ?_
      exact hx s.1 h53 hf
    · replace hf := if_f cq hf
      refine v_aload_n (pc := 310) X 0 dL_isStartSo_310 rfl rfl ?_
      refine v_iload_n (pc := 311) X 1 dL_isStartSo_311 rfl rfl ?_
      refine v_iload (pc := 312) X 6 dL_isStartSo_312 rfl ?_
      refine v_iconst (pc := 314) X (v := (0 : Int32)) dL_isStartSo_314 (by decide) ?_
      refine v_callVI (pc := 315) X (As := [.int x1, .int s.2, .int (0 : Int32)]) (rest := []) (c_X5_entry l D cA L sh x0 x1 s.2 (0 : Int32) h53 _ hf) (cwV 3 X.ht (gwV inM q_396 q_397 q_398 q_1 q_399) rfl rfl rfl (by decide +kernel) ⟨Nat.le_of_ble_eq_true rfl, Nat.le_of_ble_eq_true rfl⟩) rfl (by decide) t54 (ent_5 t54) rfl rfl (Nat.le_of_ble_eq_true rfl) ⟨Nat.le_of_ble_eq_true rfl, Nat.le_of_ble_eq_true rfl⟩ dL_isStartSo_315 (fun r55 h56 hf => ?_)
      refine v_istore (pc := 318) X (i := 16) (lv' := [(16, .int r55), (0, .ref x0), (1, .int x1), (2, .int x2), (12, .int x12), (13, .int x13), (14, .int s.1), (15, .int s.2)]) dL_isStartSo_318 (Nat.le_of_ble_eq_true rfl) rfl ?_
      refine v_iload (pc := 320) X 6 dL_isStartSo_320 rfl ?_
      refine v_aload_n (pc := 322) X 1 dL_isStartSo_322 rfl rfl ?_
      refine v_iload_n (pc := 323) X 2 dL_isStartSo_323 rfl rfl ?_
      refine v_iload (pc := 324) X 7 dL_isStartSo_324 rfl ?_
      refine v_iconst (pc := 326) X (v := (4 : Int32)) dL_isStartSo_326 (by decide) ?_
      refine v_callVI (pc := 327) X (As := [.int x1, .int s.2, .int (4 : Int32)]) (rest := [.int s.1]) (c_X5_entry l D cA L sh x0 x1 s.2 (4 : Int32) h56 _ hf) (cwV 3 X.ht (gwV inM q_396 q_397 q_398 q_1 q_399) rfl rfl rfl (by decide +kernel) ⟨Nat.le_of_ble_eq_true rfl, Nat.le_of_ble_eq_true rfl⟩) rfl (by decide) t54 (ent_5 t54) rfl rfl (Nat.le_of_ble_eq_true rfl) ⟨Nat.le_of_ble_eq_true rfl, Nat.le_of_ble_eq_true rfl⟩ dL_isStartSo_327 (fun r57 h58 hf => ?_)
      refine v_iload (pc := 330) X 4 dL_isStartSo_330 rfl ?_
      refine dj_e hf (Vat := fun v59 h60 => V p l e (headSpec (wM yL_isStartSo cL_isStartSo 17 (some .boolean)) ({ frames := 5, cells := 0, slots := 0, locals := 125 } : Room)).room s0 m args below meth c (MQ below (QI D cA L sh K) args s0 0 0 (fun q => q ∈ L)) (fun q => q ∈ L) 0 0 D cA L sh 17 h60 390 [(16, .int r55), (0, .ref x0), (1, .int x1), (2, .int x2), (12, .int x12), (13, .int x13), (14, .int s.1), (15, .int s.2)] [.int v59, .int s.1]) (fun v59 h60 hf => ?_) (fun J61 hJ61 hf => ?_)
      · refine v_ior (pc := 390) X dL_isStartSo_390 ?_
        refine v_istore (pc := 391) X (i := 14) (lv' := [(14, .int (s.1 ||| v59)), (16, .int r55), (0, .ref x0), (1, .int x1), (2, .int x2), (12, .int x12), (13, .int x13), (15, .int s.2)]) dL_isStartSo_391 (Nat.le_of_ble_eq_true rfl) rfl ?_
        refine v_iinc (pc := 393) X 7 (v := s.2 + (1 : Int32)) (lv' := [(15, .int (s.2 + (1 : Int32))), (14, .int (s.1 ||| v59)), (16, .int r55), (0, .ref x0), (1, .int x1), (2, .int x2), (12, .int x12), (13, .int x13)]) dL_isStartSo_393 rfl rfl (Nat.le_of_ble_eq_true rfl) rfl ?_
        refine v_goto (pc := 396) X 299 dL_isStartSo_396 (by decide) ?_
        refine v_sub [3, 4, 5, 6, 7, 1, 0] rfl ?_
        exact ih (s.1 ||| v59, s.2 + (1 : Int32)) h60 hf
      · refine v_icmp_ne (pc := 332) X 389 dL_isStartSo_332 (by decide) (fun cq => ?_) (fun cq => ?_)
        · replace hf := if_f cq hf
          refine v_iconst (pc := 389) X (v := (0 : Int32)) dL_isStartSo_389 (by decide) ?_
          exact hJ61 (0 : Int32) h58 hf
        · replace hf := if_t cq hf
          refine v_aload_n (pc := 335) X 1 dL_isStartSo_335 rfl rfl ?_
          refine v_iload_n (pc := 336) X 2 dL_isStartSo_336 rfl rfl ?_
          refine v_iload (pc := 337) X 7 dL_isStartSo_337 rfl ?_
          refine v_iconst (pc := 339) X (v := (1 : Int32)) dL_isStartSo_339 (by decide) ?_
          refine v_callVI (pc := 340) X (As := [.int x1, .int s.2, .int (1 : Int32)]) (rest := [.int s.1]) (c_X5_entry l D cA L sh x0 x1 s.2 (1 : Int32) h58 _ hf) (cwV 3 X.ht (gwV inM q_396 q_397 q_398 q_1 q_399) rfl rfl rfl (by decide +kernel) ⟨Nat.le_of_ble_eq_true rfl, Nat.le_of_ble_eq_true rfl⟩) rfl (by decide) t54 (ent_5 t54) rfl rfl (Nat.le_of_ble_eq_true rfl) ⟨Nat.le_of_ble_eq_true rfl, Nat.le_of_ble_eq_true rfl⟩ dL_isStartSo_340 (fun r62 h63 hf => ?_)
          refine v_aload_n (pc := 343) X 1 dL_isStartSo_343 rfl rfl ?_
          refine v_iload (pc := 344) X 0 dL_isStartSo_344 rfl ?_
          refine v_iconst (pc := 346) X (v := (0 : Int32)) dL_isStartSo_346 (by decide) ?_
          refine v_callVI (pc := 347) X (As := [.int r55, .int (0 : Int32)]) (rest := [.int r62, .int s.1]) (c_X5_tableOf l D cA L sh x0 r55 (0 : Int32) h63 _ hf) (cwV 2 X.ht (gwV inM q_193 q_194 q_195 q_1 q_196) rfl rfl rfl (by decide +kernel) ⟨Nat.le_of_ble_eq_true rfl, Nat.le_of_ble_eq_true rfl⟩) rfl (by decide) t54 (ent_5 t54) rfl rfl (Nat.le_of_ble_eq_true rfl) ⟨Nat.le_of_ble_eq_true rfl, Nat.le_of_ble_eq_true rfl⟩ dL_isStartSo_347 (fun r64 h65 hf => ?_)
          refine v_icmp_ne (pc := 350) X 389 dL_isStartSo_350 (by decide) (fun cq => ?_) (fun cq => ?_)
          · replace hf := if_f cq hf
            refine v_iconst (pc := 389) X (v := (0 : Int32)) dL_isStartSo_389 (by decide) ?_
            exact hJ61 (0 : Int32) h65 hf
          · replace hf := if_t cq hf
            refine v_aload_n (pc := 353) X 1 dL_isStartSo_353 rfl rfl ?_
            refine v_iload_n (pc := 354) X 2 dL_isStartSo_354 rfl rfl ?_
            refine v_iload (pc := 355) X 7 dL_isStartSo_355 rfl ?_
            refine v_iconst (pc := 357) X (v := (2 : Int32)) dL_isStartSo_357 (by decide) ?_
            refine v_callVI (pc := 358) X (As := [.int x1, .int s.2, .int (2 : Int32)]) (rest := [.int s.1]) (c_X5_entry l D cA L sh x0 x1 s.2 (2 : Int32) h65 _ hf) (cwV 3 X.ht (gwV inM q_396 q_397 q_398 q_1 q_399) rfl rfl rfl (by decide +kernel) ⟨Nat.le_of_ble_eq_true rfl, Nat.le_of_ble_eq_true rfl⟩) rfl (by decide) t54 (ent_5 t54) rfl rfl (Nat.le_of_ble_eq_true rfl) ⟨Nat.le_of_ble_eq_true rfl, Nat.le_of_ble_eq_true rfl⟩ dL_isStartSo_358 (fun r66 h67 hf => ?_)
            refine v_aload_n (pc := 361) X 1 dL_isStartSo_361 rfl rfl ?_
            refine v_iload (pc := 362) X 0 dL_isStartSo_362 rfl ?_
            refine v_iconst (pc := 364) X (v := (1 : Int32)) dL_isStartSo_364 (by decide) ?_
            refine v_callVI (pc := 365) X (As := [.int r55, .int (1 : Int32)]) (rest := [.int r66, .int s.1]) (c_X5_tableOf l D cA L sh x0 r55 (1 : Int32) h67 _ hf) (cwV 2 X.ht (gwV inM q_193 q_194 q_195 q_1 q_196) rfl rfl rfl (by decide +kernel) ⟨Nat.le_of_ble_eq_true rfl, Nat.le_of_ble_eq_true rfl⟩) rfl (by decide) t54 (ent_5 t54) rfl rfl (Nat.le_of_ble_eq_true rfl) ⟨Nat.le_of_ble_eq_true rfl, Nat.le_of_ble_eq_true rfl⟩ dL_isStartSo_365 (fun r68 h69 hf => ?_)
            refine v_icmp_ne (pc := 368) X 389 dL_isStartSo_368 (by decide) (fun cq => ?_) (fun cq => ?_)
            · replace hf := if_f cq hf
              refine v_iconst (pc := 389) X (v := (0 : Int32)) dL_isStartSo_389 (by decide) ?_
              exact hJ61 (0 : Int32) h69 hf
            · replace hf := if_t cq hf
              refine v_aload_n (pc := 371) X 1 dL_isStartSo_371 rfl rfl ?_
              refine v_iload_n (pc := 372) X 2 dL_isStartSo_372 rfl rfl ?_
              refine v_iload (pc := 373) X 7 dL_isStartSo_373 rfl ?_
              refine v_iconst (pc := 375) X (v := (3 : Int32)) dL_isStartSo_375 (by decide) ?_
              refine v_callVI (pc := 376) X (As := [.int x1, .int s.2, .int (3 : Int32)]) (rest := [.int s.1]) (c_X5_entry l D cA L sh x0 x1 s.2 (3 : Int32) h69 _ hf) (cwV 3 X.ht (gwV inM q_396 q_397 q_398 q_1 q_399) rfl rfl rfl (by decide +kernel) ⟨Nat.le_of_ble_eq_true rfl, Nat.le_of_ble_eq_true rfl⟩) rfl (by decide) t54 (ent_5 t54) rfl rfl (Nat.le_of_ble_eq_true rfl) ⟨Nat.le_of_ble_eq_true rfl, Nat.le_of_ble_eq_true rfl⟩ dL_isStartSo_376 (fun r70 h71 hf => ?_)
              refine v_if_le (pc := 379) X 389 dL_isStartSo_379 (by decide) (fun cq => ?_) (fun cq => ?_)
              · replace hf := if_t cq hf
                refine v_iconst (pc := 389) X (v := (0 : Int32)) dL_isStartSo_389 (by decide) ?_
                exact hJ61 (0 : Int32) h71 hf
              · replace hf := if_f cq hf
                refine v_iconst (pc := 382) X (v := (1 : Int32)) dL_isStartSo_382 (by decide) ?_
                refine v_iload (pc := 383) X 0 dL_isStartSo_383 rfl ?_
                refine v_ishl (pc := 385) X dL_isStartSo_385 ?_
                refine v_goto (pc := 386) X 390 dL_isStartSo_386 (by decide) ?_
                exact hJ61 ((1 : Int32) <<< (r55 &&& 31)) h71 hf

set_option maxHeartbeats 8000000 in
set_option maxRecDepth 100000 in
theorem bw_L_isStartSo {p : Program} {l : Launch} {e : Env} {s0 : State} {m : MethodId} {args : Array Value} {below : List Frame} {meth : Method} {c : Code} {D : va_G} {cA : Nat → ClassId} {L : List Nat} {sh : Sh} (X : Cx p s0 m c args cL_isStartSo 17 (wM yL_isStartSo cL_isStartSo 17 (some .boolean)) RL (fun q => q ∈ L) D cA L sh) (hr : meth.sig.returnType = (some .boolean)) (hlk : meth.locks = false) (p0 : Nat) (p1 : Int32) (p2 : Int32) (K : Int32 → Hp → Prop) (h : Hp) (hf : f_L_isStartSo sh p0 p1 p2 h K) : V p l e (headSpec (wM yL_isStartSo cL_isStartSo 17 (some .boolean)) ({ frames := 5, cells := 0, slots := 0, locals := 125 } : Room)).room s0 m args below meth c (MQ below (QI D cA L sh K) args s0 0 0 (fun q => q ∈ L)) (fun q => q ∈ L) 0 0 D cA L sh 17 h 0 [(0, .ref p0), (1, .int p1), (2, .int p2)] [] := by
  unfold f_L_isStartSo at hf
  refine v_aload_n (pc := 0) X 0 dL_isStartSo_0 rfl rfl ?_
  refine v_iload_n (pc := 1) X 1 dL_isStartSo_1 rfl rfl ?_
  refine v_iload_n (pc := 2) X 2 dL_isStartSo_2 rfl rfl ?_
  refine v_iconst (pc := 3) X (v := (0 : Int32)) dL_isStartSo_3 (by decide) ?_
  obtain ⟨t3, hf⟩ := hf
  refine v_callVI (pc := 4) X (As := [.int p1, .int p2, .int (0 : Int32)]) (rest := []) (c_X5_would l D cA L sh p0 p1 p2 (0 : Int32) h _ hf) (cwV 3 X.ht (gwV inM q_425 q_426 q_427 q_1 q_428) rfl rfl rfl (by decide +kernel) ⟨Nat.le_of_ble_eq_true rfl, Nat.le_of_ble_eq_true rfl⟩) rfl (by decide) t3 (ent_5 t3) rfl rfl (Nat.le_of_ble_eq_true rfl) ⟨Nat.le_of_ble_eq_true rfl, Nat.le_of_ble_eq_true rfl⟩ dL_isStartSo_4 (fun r1 h2 hf => ?_)
  refine v_istore_n (pc := 7) X (i := 3) (lv' := [(3, .int r1), (0, .ref p0), (1, .int p1), (2, .int p2)]) dL_isStartSo_7 rfl (Nat.le_of_ble_eq_true rfl) rfl ?_
  refine v_aload_n (pc := 8) X 1 dL_isStartSo_8 rfl rfl ?_
  refine v_iload_n (pc := 9) X 2 dL_isStartSo_9 rfl rfl ?_
  refine v_iload_n (pc := 10) X 3 dL_isStartSo_10 rfl rfl ?_
  refine v_iconst (pc := 11) X (v := (1 : Int32)) dL_isStartSo_11 (by decide) ?_
  refine v_callVI (pc := 12) X (As := [.int p1, .int p2, .int (1 : Int32)]) (rest := []) (c_X5_would l D cA L sh p0 p1 p2 (1 : Int32) h2 _ hf) (cwV 3 X.ht (gwV inM q_425 q_426 q_427 q_1 q_428) rfl rfl rfl (by decide +kernel) ⟨Nat.le_of_ble_eq_true rfl, Nat.le_of_ble_eq_true rfl⟩) rfl (by decide) t3 (ent_5 t3) rfl rfl (Nat.le_of_ble_eq_true rfl) ⟨Nat.le_of_ble_eq_true rfl, Nat.le_of_ble_eq_true rfl⟩ dL_isStartSo_12 (fun r4 h5 hf => ?_)
  refine v_istore (pc := 15) X (i := 4) (lv' := [(4, .int r4), (3, .int r1), (0, .ref p0), (1, .int p1), (2, .int p2)]) dL_isStartSo_15 (Nat.le_of_ble_eq_true rfl) rfl ?_
  refine v_aload_n (pc := 17) X 2 dL_isStartSo_17 rfl rfl ?_
  refine v_iload_n (pc := 18) X 3 dL_isStartSo_18 rfl rfl ?_
  refine v_iload_n (pc := 19) X 4 dL_isStartSo_19 rfl rfl ?_
  refine v_iconst (pc := 20) X (v := (2 : Int32)) dL_isStartSo_20 (by decide) ?_
  refine v_callVI (pc := 21) X (As := [.int p1, .int p2, .int (2 : Int32)]) (rest := []) (c_X5_would l D cA L sh p0 p1 p2 (2 : Int32) h5 _ hf) (cwV 3 X.ht (gwV inM q_425 q_426 q_427 q_1 q_428) rfl rfl rfl (by decide +kernel) ⟨Nat.le_of_ble_eq_true rfl, Nat.le_of_ble_eq_true rfl⟩) rfl (by decide) t3 (ent_5 t3) rfl rfl (Nat.le_of_ble_eq_true rfl) ⟨Nat.le_of_ble_eq_true rfl, Nat.le_of_ble_eq_true rfl⟩ dL_isStartSo_21 (fun r6 h7 hf => ?_)
  refine v_istore (pc := 24) X (i := 5) (lv' := [(5, .int r6), (4, .int r4), (3, .int r1), (0, .ref p0), (1, .int p1), (2, .int p2)]) dL_isStartSo_24 (Nat.le_of_ble_eq_true rfl) rfl ?_
  refine v_aload_n (pc := 26) X 3 dL_isStartSo_26 rfl rfl ?_
  refine v_iload_n (pc := 27) X 4 dL_isStartSo_27 rfl rfl ?_
  refine v_iload_n (pc := 28) X 5 dL_isStartSo_28 rfl rfl ?_
  refine v_iconst (pc := 29) X (v := (3 : Int32)) dL_isStartSo_29 (by decide) ?_
  refine v_callVI (pc := 30) X (As := [.int p1, .int p2, .int (3 : Int32)]) (rest := []) (c_X5_would l D cA L sh p0 p1 p2 (3 : Int32) h7 _ hf) (cwV 3 X.ht (gwV inM q_425 q_426 q_427 q_1 q_428) rfl rfl rfl (by decide +kernel) ⟨Nat.le_of_ble_eq_true rfl, Nat.le_of_ble_eq_true rfl⟩) rfl (by decide) t3 (ent_5 t3) rfl rfl (Nat.le_of_ble_eq_true rfl) ⟨Nat.le_of_ble_eq_true rfl, Nat.le_of_ble_eq_true rfl⟩ dL_isStartSo_30 (fun r8 h9 hf => ?_)
  refine v_istore (pc := 33) X (i := 6) (lv' := [(6, .int r8), (5, .int r6), (4, .int r4), (3, .int r1), (0, .ref p0), (1, .int p1), (2, .int p2)]) dL_isStartSo_33 (Nat.le_of_ble_eq_true rfl) rfl ?_
  refine v_aload_n (pc := 35) X 4 dL_isStartSo_35 rfl rfl ?_
  refine v_iload_n (pc := 36) X 5 dL_isStartSo_36 rfl rfl ?_
  refine v_iconst (pc := 37) X (v := (5 : Int32)) dL_isStartSo_37 (by decide) ?_
  refine v_callVI (pc := 38) X (As := [.int p1, .int (5 : Int32)]) (rest := []) (c_X5_sessionOf l D cA L sh p0 p1 (5 : Int32) h9 _ hf) (cwV 2 X.ht (gwV inM q_383 q_384 q_385 q_1 q_386) rfl rfl rfl (by decide +kernel) ⟨Nat.le_of_ble_eq_true rfl, Nat.le_of_ble_eq_true rfl⟩) rfl (by decide) t3 (ent_5 t3) rfl rfl (Nat.le_of_ble_eq_true rfl) ⟨Nat.le_of_ble_eq_true rfl, Nat.le_of_ble_eq_true rfl⟩ dL_isStartSo_38 (fun r10 h11 hf => ?_)
  refine v_istore (pc := 41) X (i := 7) (lv' := [(7, .int r10), (6, .int r8), (5, .int r6), (4, .int r4), (3, .int r1), (0, .ref p0), (1, .int p1), (2, .int p2)]) dL_isStartSo_41 (Nat.le_of_ble_eq_true rfl) rfl ?_
  refine v_aload_n (pc := 43) X 5 dL_isStartSo_43 rfl rfl ?_
  refine v_iload_n (pc := 44) X 6 dL_isStartSo_44 rfl rfl ?_
  refine v_bipush (pc := 45) X (v := (6 : Int32)) dL_isStartSo_45 (by decide) ?_
  refine v_callVI (pc := 47) X (As := [.int p1, .int (6 : Int32)]) (rest := []) (c_X5_sessionOf l D cA L sh p0 p1 (6 : Int32) h11 _ hf) (cwV 2 X.ht (gwV inM q_383 q_384 q_385 q_1 q_386) rfl rfl rfl (by decide +kernel) ⟨Nat.le_of_ble_eq_true rfl, Nat.le_of_ble_eq_true rfl⟩) rfl (by decide) t3 (ent_5 t3) rfl rfl (Nat.le_of_ble_eq_true rfl) ⟨Nat.le_of_ble_eq_true rfl, Nat.le_of_ble_eq_true rfl⟩ dL_isStartSo_47 (fun r12 h13 hf => ?_)
  refine v_istore (pc := 50) X (i := 8) (lv' := [(8, .int r12), (7, .int r10), (6, .int r8), (5, .int r6), (4, .int r4), (3, .int r1), (0, .ref p0), (1, .int p1), (2, .int p2)]) dL_isStartSo_50 (Nat.le_of_ble_eq_true rfl) rfl ?_
  refine v_aload_n (pc := 52) X 6 dL_isStartSo_52 rfl rfl ?_
  refine v_iload_n (pc := 53) X 7 dL_isStartSo_53 rfl rfl ?_
  refine v_bipush (pc := 54) X (v := (7 : Int32)) dL_isStartSo_54 (by decide) ?_
  refine v_callVI (pc := 56) X (As := [.int p1, .int (7 : Int32)]) (rest := []) (c_X5_sessionOf l D cA L sh p0 p1 (7 : Int32) h13 _ hf) (cwV 2 X.ht (gwV inM q_383 q_384 q_385 q_1 q_386) rfl rfl rfl (by decide +kernel) ⟨Nat.le_of_ble_eq_true rfl, Nat.le_of_ble_eq_true rfl⟩) rfl (by decide) t3 (ent_5 t3) rfl rfl (Nat.le_of_ble_eq_true rfl) ⟨Nat.le_of_ble_eq_true rfl, Nat.le_of_ble_eq_true rfl⟩ dL_isStartSo_56 (fun r14 h15 hf => ?_)
  refine v_istore (pc := 59) X (i := 9) (lv' := [(9, .int r14), (8, .int r12), (7, .int r10), (6, .int r8), (5, .int r6), (4, .int r4), (3, .int r1), (0, .ref p0), (1, .int p1), (2, .int p2)]) dL_isStartSo_59 (Nat.le_of_ble_eq_true rfl) rfl ?_
  refine v_aload_n (pc := 61) X 7 dL_isStartSo_61 rfl rfl ?_
  refine v_iload_n (pc := 62) X 8 dL_isStartSo_62 rfl rfl ?_
  refine v_iconst (pc := 63) X (v := (0 : Int32)) dL_isStartSo_63 (by decide) ?_
  refine v_callVI (pc := 64) X (As := [.int p1, .int (0 : Int32)]) (rest := []) (c_X5_sessionOf l D cA L sh p0 p1 (0 : Int32) h15 _ hf) (cwV 2 X.ht (gwV inM q_383 q_384 q_385 q_1 q_386) rfl rfl rfl (by decide +kernel) ⟨Nat.le_of_ble_eq_true rfl, Nat.le_of_ble_eq_true rfl⟩) rfl (by decide) t3 (ent_5 t3) rfl rfl (Nat.le_of_ble_eq_true rfl) ⟨Nat.le_of_ble_eq_true rfl, Nat.le_of_ble_eq_true rfl⟩ dL_isStartSo_64 (fun r16 h17 hf => ?_)
  refine v_istore (pc := 67) X (i := 10) (lv' := [(10, .int r16), (9, .int r14), (8, .int r12), (7, .int r10), (6, .int r8), (5, .int r6), (4, .int r4), (3, .int r1), (0, .ref p0), (1, .int p1), (2, .int p2)]) dL_isStartSo_67 (Nat.le_of_ble_eq_true rfl) rfl ?_
  refine v_aload_n (pc := 69) X 8 dL_isStartSo_69 rfl rfl ?_
  refine v_iconst (pc := 70) X (v := (2 : Int32)) dL_isStartSo_70 (by decide) ?_
  refine v_callVI (pc := 71) X (As := [.int (2 : Int32)]) (rest := []) (c_X5_count l D cA L sh p0 (2 : Int32) h17 _ hf) (cwV 1 X.ht (gwV inM q_218 q_219 q_220 q_1 q_221) rfl rfl rfl (by decide +kernel) ⟨Nat.le_of_ble_eq_true rfl, Nat.le_of_ble_eq_true rfl⟩) rfl (by decide) t3 (ent_5 t3) rfl rfl (Nat.le_of_ble_eq_true rfl) ⟨Nat.le_of_ble_eq_true rfl, Nat.le_of_ble_eq_true rfl⟩ dL_isStartSo_71 (fun r18 h19 hf => ?_)
  refine v_istore (pc := 74) X (i := 11) (lv' := [(11, .int r18), (10, .int r16), (9, .int r14), (8, .int r12), (7, .int r10), (6, .int r8), (5, .int r6), (4, .int r4), (3, .int r1), (0, .ref p0), (1, .int p1), (2, .int p2)]) dL_isStartSo_74 (Nat.le_of_ble_eq_true rfl) rfl ?_
  refine v_aload_n (pc := 76) X 9 dL_isStartSo_76 rfl rfl ?_
  refine v_iload_n (pc := 77) X 10 dL_isStartSo_77 rfl rfl ?_
  refine v_iload_n (pc := 78) X 11 dL_isStartSo_78 rfl rfl ?_
  refine v_callVI (pc := 79) X (As := [.int p1, .int p2]) (rest := []) (c_X5_start l D cA L sh p0 p1 p2 h19 _ hf) (cwV 2 X.ht (gwV inM q_376 q_377 q_378 q_1 q_379) rfl rfl rfl (by decide +kernel) ⟨Nat.le_of_ble_eq_true rfl, Nat.le_of_ble_eq_true rfl⟩) rfl (by decide) t3 (ent_5 t3) rfl rfl (Nat.le_of_ble_eq_true rfl) ⟨Nat.le_of_ble_eq_true rfl, Nat.le_of_ble_eq_true rfl⟩ dL_isStartSo_79 (fun r20 h21 hf => ?_)
  refine v_istore (pc := 82) X (i := 12) (lv' := [(12, .int r20), (11, .int r18), (10, .int r16), (9, .int r14), (8, .int r12), (7, .int r10), (6, .int r8), (5, .int r6), (4, .int r4), (3, .int r1), (0, .ref p0), (1, .int p1), (2, .int p2)]) dL_isStartSo_82 (Nat.le_of_ble_eq_true rfl) rfl ?_
  refine v_iload (pc := 84) X 0 dL_isStartSo_84 rfl ?_
  refine v_if_ge (pc := 86) X 139 dL_isStartSo_86 (by decide) (fun cq => ?_) (fun cq => ?_)
  · replace hf := if_t cq hf
    refine v_iload (pc := 139) X 0 dL_isStartSo_139 rfl ?_
    refine v_iload (pc := 141) X 1 dL_isStartSo_141 rfl ?_
    refine dj_e hf (Vat := fun v22 h23 => V p l e (headSpec (wM yL_isStartSo cL_isStartSo 17 (some .boolean)) ({ frames := 5, cells := 0, slots := 0, locals := 125 } : Room)).room s0 m args below meth c (MQ below (QI D cA L sh K) args s0 0 0 (fun q => q ∈ L)) (fun q => q ∈ L) 0 0 D cA L sh 17 h23 232 [(12, .int r20), (11, .int r18), (10, .int r16), (9, .int r14), (8, .int r12), (7, .int r10), (6, .int r8), (5, .int r6), (4, .int r4), (3, .int r1), (0, .ref p0), (1, .int p1), (2, .int p2)] [.int v22]) (fun v22 h23 hf => ?_) (fun J24 hJ24 hf => ?_)
    · refine v_istore (pc := 232) X (i := 13) (lv' := [(13, .int v22), (12, .int r20), (11, .int r18), (10, .int r16), (9, .int r14), (8, .int r12), (7, .int r10), (6, .int r8), (5, .int r6), (4, .int r4), (3, .int r1), (0, .ref p0), (1, .int p1), (2, .int p2)]) dL_isStartSo_232 (Nat.le_of_ble_eq_true rfl) rfl ?_
      refine v_iload (pc := 234) X 0 dL_isStartSo_234 rfl ?_
      refine dj_e hf (Vat := fun v39 h40 => V p l e (headSpec (wM yL_isStartSo cL_isStartSo 17 (some .boolean)) ({ frames := 5, cells := 0, slots := 0, locals := 125 } : Room)).room s0 m args below meth c (MQ below (QI D cA L sh K) args s0 0 0 (fun q => q ∈ L)) (fun q => q ∈ L) 0 0 D cA L sh 17 h40 291 [(13, .int v22), (12, .int r20), (11, .int r18), (10, .int r16), (9, .int r14), (8, .int r12), (7, .int r10), (6, .int r8), (5, .int r6), (4, .int r4), (3, .int r1), (0, .ref p0), (1, .int p1), (2, .int p2)] [.int v39]) (fun v39 h40 hf => ?_) (fun J41 hJ41 hf => ?_)
      · refine v_istore (pc := 291) X (i := 13) (lv' := [(13, .int v39), (12, .int r20), (11, .int r18), (10, .int r16), (9, .int r14), (8, .int r12), (7, .int r10), (6, .int r8), (5, .int r6), (4, .int r4), (3, .int r1), (0, .ref p0), (1, .int p1), (2, .int p2)]) dL_isStartSo_291 (Nat.le_of_ble_eq_true rfl) rfl ?_
        refine v_iconst (pc := 293) X (v := (0 : Int32)) dL_isStartSo_293 (by decide) ?_
        refine v_istore (pc := 294) X (i := 14) (lv' := [(14, .int (0 : Int32)), (13, .int v39), (12, .int r20), (11, .int r18), (10, .int r16), (9, .int r14), (8, .int r12), (7, .int r10), (6, .int r8), (5, .int r6), (4, .int r4), (3, .int r1), (0, .ref p0), (1, .int p1), (2, .int p2)]) dL_isStartSo_294 (Nat.le_of_ble_eq_true rfl) rfl ?_
        refine v_iconst (pc := 296) X (v := (0 : Int32)) dL_isStartSo_296 (by decide) ?_
        refine v_istore (pc := 297) X (i := 15) (lv' := [(15, .int (0 : Int32)), (14, .int (0 : Int32)), (13, .int v39), (12, .int r20), (11, .int r18), (10, .int r16), (9, .int r14), (8, .int r12), (7, .int r10), (6, .int r8), (5, .int r6), (4, .int r4), (3, .int r1), (0, .ref p0), (1, .int p1), (2, .int p2)]) dL_isStartSo_297 (Nat.le_of_ble_eq_true rfl) rfl ?_
        obtain ⟨n, hf⟩ := hf
        refine v_sub [13, 14, 15, 3, 2, 1, 0] rfl ?_
        refine w_L_isStartSo_299 X hr hlk p0 p1 p2 r20 v39 _ K (fun y72 h73 hf => ?_) n ((0 : Int32), (0 : Int32)) h40 hf
        refine v_aload_n (pc := 399) X 0 dL_isStartSo_399 rfl rfl ?_
        refine v_callVI (pc := 400) X (As := []) (rest := []) (c_X5_undo l D cA L sh p0 h73 _ hf) (cwV 0 X.ht (gwV inM q_432 q_433 q_434 q_1 q_435) rfl rfl rfl (by decide +kernel) ⟨Nat.le_of_ble_eq_true rfl, Nat.le_of_ble_eq_true rfl⟩) rfl (by decide) t3 (ent_5 t3) rfl rfl (Nat.le_of_ble_eq_true rfl) ⟨Nat.le_of_ble_eq_true rfl, Nat.le_of_ble_eq_true rfl⟩ dL_isStartSo_400 (fun r74 h75 hf => ?_)
        refine v_istore (pc := 403) X (i := 15) (lv' := [(15, .int r74), (0, .ref p0), (2, .int p2), (13, .int v39), (14, .int y72)]) dL_isStartSo_403 (Nat.le_of_ble_eq_true rfl) rfl ?_
        refine v_iload (pc := 405) X 3 dL_isStartSo_405 rfl ?_
        refine dj_e hf (Vat := fun v76 h77 => V p l e (headSpec (wM yL_isStartSo cL_isStartSo 17 (some .boolean)) ({ frames := 5, cells := 0, slots := 0, locals := 125 } : Room)).room s0 m args below meth c (MQ below (QI D cA L sh K) args s0 0 0 (fun q => q ∈ L)) (fun q => q ∈ L) 0 0 D cA L sh 17 h77 426 [(15, .int r74), (0, .ref p0), (2, .int p2), (13, .int v39), (14, .int y72)] [.int v76]) (fun v76 h77 hf => ?_) (fun J78 hJ78 hf => ?_)
        · obtain ⟨z79, hf⟩ := hf
          exact v_zret (pc := 426) X hr hlk dL_isStartSo_426 z79 hf
        · refine v_if_eq (pc := 407) X 425 dL_isStartSo_407 (by decide) (fun cq => ?_) (fun cq => ?_)
          · replace hf := if_t cq hf
            refine v_iconst (pc := 425) X (v := (0 : Int32)) dL_isStartSo_425 (by decide) ?_
            exact hJ78 (0 : Int32) h75 hf
          · replace hf := if_f cq hf
            refine v_iload (pc := 410) X 4 dL_isStartSo_410 rfl ?_
            refine v_iload_n (pc := 412) X 2 dL_isStartSo_412 rfl rfl ?_
            refine v_icmp_ne (pc := 413) X 425 dL_isStartSo_413 (by decide) (fun cq => ?_) (fun cq => ?_)
            · replace hf := if_f cq hf
              refine v_iconst (pc := 425) X (v := (0 : Int32)) dL_isStartSo_425 (by decide) ?_
              exact hJ78 (0 : Int32) h75 hf
            · replace hf := if_t cq hf
              refine v_iload (pc := 416) X 0 dL_isStartSo_416 rfl ?_
              refine v_if_lt (pc := 418) X 425 dL_isStartSo_418 (by decide) (fun cq => ?_) (fun cq => ?_)
              · replace hf := if_t cq hf
                refine v_iconst (pc := 425) X (v := (0 : Int32)) dL_isStartSo_425 (by decide) ?_
                exact hJ78 (0 : Int32) h75 hf
              · replace hf := if_f cq hf
                refine v_iconst (pc := 421) X (v := (1 : Int32)) dL_isStartSo_421 (by decide) ?_
                refine v_goto (pc := 422) X 426 dL_isStartSo_422 (by decide) ?_
                exact hJ78 (1 : Int32) h75 hf
      · refine v_if_eq (pc := 236) X 290 dL_isStartSo_236 (by decide) (fun cq => ?_) (fun cq => ?_)
        · replace hf := if_t cq hf
          refine v_iconst (pc := 290) X (v := (0 : Int32)) dL_isStartSo_290 (by decide) ?_
          exact hJ41 (0 : Int32) h23 hf
        · replace hf := if_f cq hf
          refine v_aload_n (pc := 239) X 11 dL_isStartSo_239 rfl rfl ?_
          refine v_iload (pc := 240) X 1 dL_isStartSo_240 rfl ?_
          refine v_iconst (pc := 242) X (v := (0 : Int32)) dL_isStartSo_242 (by decide) ?_
          refine v_callVI (pc := 243) X (As := [.int r20, .int (0 : Int32)]) (rest := []) (c_X5_statement l D cA L sh p0 r20 (0 : Int32) h23 _ hf) (cwV 2 X.ht (gwV inM q_409 q_410 q_411 q_1 q_412) rfl rfl rfl (by decide +kernel) ⟨Nat.le_of_ble_eq_true rfl, Nat.le_of_ble_eq_true rfl⟩) rfl (by decide) t3 (ent_5 t3) rfl rfl (Nat.le_of_ble_eq_true rfl) ⟨Nat.le_of_ble_eq_true rfl, Nat.le_of_ble_eq_true rfl⟩ dL_isStartSo_243 (fun r42 h43 hf => ?_)
          refine v_iload_n (pc := 246) X 12 dL_isStartSo_246 rfl rfl ?_
          refine v_icmp_ne (pc := 247) X 290 dL_isStartSo_247 (by decide) (fun cq => ?_) (fun cq => ?_)
          · replace hf := if_f cq hf
            refine v_iconst (pc := 290) X (v := (0 : Int32)) dL_isStartSo_290 (by decide) ?_
            exact hJ41 (0 : Int32) h43 hf
          · replace hf := if_t cq hf
            refine v_aload_n (pc := 250) X 11 dL_isStartSo_250 rfl rfl ?_
            refine v_iload (pc := 251) X 1 dL_isStartSo_251 rfl ?_
            refine v_iconst (pc := 253) X (v := (1 : Int32)) dL_isStartSo_253 (by decide) ?_
            refine v_callVI (pc := 254) X (As := [.int r20, .int (1 : Int32)]) (rest := []) (c_X5_statement l D cA L sh p0 r20 (1 : Int32) h43 _ hf) (cwV 2 X.ht (gwV inM q_409 q_410 q_411 q_1 q_412) rfl rfl rfl (by decide +kernel) ⟨Nat.le_of_ble_eq_true rfl, Nat.le_of_ble_eq_true rfl⟩) rfl (by decide) t3 (ent_5 t3) rfl rfl (Nat.le_of_ble_eq_true rfl) ⟨Nat.le_of_ble_eq_true rfl, Nat.le_of_ble_eq_true rfl⟩ dL_isStartSo_254 (fun r44 h45 hf => ?_)
            refine v_iload_n (pc := 257) X 13 dL_isStartSo_257 rfl rfl ?_
            refine v_icmp_ne (pc := 258) X 290 dL_isStartSo_258 (by decide) (fun cq => ?_) (fun cq => ?_)
            · replace hf := if_f cq hf
              refine v_iconst (pc := 290) X (v := (0 : Int32)) dL_isStartSo_290 (by decide) ?_
              exact hJ41 (0 : Int32) h45 hf
            · replace hf := if_t cq hf
              refine v_aload_n (pc := 261) X 11 dL_isStartSo_261 rfl rfl ?_
              refine v_iload (pc := 262) X 1 dL_isStartSo_262 rfl ?_
              refine v_iconst (pc := 264) X (v := (2 : Int32)) dL_isStartSo_264 (by decide) ?_
              refine v_callVI (pc := 265) X (As := [.int r20, .int (2 : Int32)]) (rest := []) (c_X5_statement l D cA L sh p0 r20 (2 : Int32) h45 _ hf) (cwV 2 X.ht (gwV inM q_409 q_410 q_411 q_1 q_412) rfl rfl rfl (by decide +kernel) ⟨Nat.le_of_ble_eq_true rfl, Nat.le_of_ble_eq_true rfl⟩) rfl (by decide) t3 (ent_5 t3) rfl rfl (Nat.le_of_ble_eq_true rfl) ⟨Nat.le_of_ble_eq_true rfl, Nat.le_of_ble_eq_true rfl⟩ dL_isStartSo_265 (fun r46 h47 hf => ?_)
              refine v_aload_n (pc := 268) X 11 dL_isStartSo_268 rfl rfl ?_
              refine v_iconst (pc := 269) X (v := (0 : Int32)) dL_isStartSo_269 (by decide) ?_
              refine v_callVI (pc := 270) X (As := [.int (0 : Int32)]) (rest := [.int r46]) (c_X5_count l D cA L sh p0 (0 : Int32) h47 _ hf) (cwV 1 X.ht (gwV inM q_218 q_219 q_220 q_1 q_221) rfl rfl rfl (by decide +kernel) ⟨Nat.le_of_ble_eq_true rfl, Nat.le_of_ble_eq_true rfl⟩) rfl (by decide) t3 (ent_5 t3) rfl rfl (Nat.le_of_ble_eq_true rfl) ⟨Nat.le_of_ble_eq_true rfl, Nat.le_of_ble_eq_true rfl⟩ dL_isStartSo_270 (fun r48 h49 hf => ?_)
              refine v_icmp_ne (pc := 273) X 290 dL_isStartSo_273 (by decide) (fun cq => ?_) (fun cq => ?_)
              · replace hf := if_f cq hf
                refine v_iconst (pc := 290) X (v := (0 : Int32)) dL_isStartSo_290 (by decide) ?_
                exact hJ41 (0 : Int32) h49 hf
              · replace hf := if_t cq hf
                refine v_aload_n (pc := 276) X 11 dL_isStartSo_276 rfl rfl ?_
                refine v_iload (pc := 277) X 1 dL_isStartSo_277 rfl ?_
                refine v_iconst (pc := 279) X (v := (3 : Int32)) dL_isStartSo_279 (by decide) ?_
                refine v_callVI (pc := 280) X (As := [.int r20, .int (3 : Int32)]) (rest := []) (c_X5_statement l D cA L sh p0 r20 (3 : Int32) h49 _ hf) (cwV 2 X.ht (gwV inM q_409 q_410 q_411 q_1 q_412) rfl rfl rfl (by decide +kernel) ⟨Nat.le_of_ble_eq_true rfl, Nat.le_of_ble_eq_true rfl⟩) rfl (by decide) t3 (ent_5 t3) rfl rfl (Nat.le_of_ble_eq_true rfl) ⟨Nat.le_of_ble_eq_true rfl, Nat.le_of_ble_eq_true rfl⟩ dL_isStartSo_280 (fun r50 h51 hf => ?_)
                refine v_if_ne (pc := 283) X 290 dL_isStartSo_283 (by decide) (fun cq => ?_) (fun cq => ?_)
                · replace hf := if_f cq hf
                  refine v_iconst (pc := 290) X (v := (0 : Int32)) dL_isStartSo_290 (by decide) ?_
                  exact hJ41 (0 : Int32) h51 hf
                · replace hf := if_t cq hf
                  refine v_iconst (pc := 286) X (v := (1 : Int32)) dL_isStartSo_286 (by decide) ?_
                  refine v_goto (pc := 287) X 291 dL_isStartSo_287 (by decide) ?_
                  exact hJ41 (1 : Int32) h51 hf
    · refine v_icmp_ne (pc := 143) X 231 dL_isStartSo_143 (by decide) (fun cq => ?_) (fun cq => ?_)
      · replace hf := if_f cq hf
        refine v_iconst (pc := 231) X (v := (0 : Int32)) dL_isStartSo_231 (by decide) ?_
        exact hJ24 (0 : Int32) h21 hf
      · replace hf := if_t cq hf
        refine v_iload_n (pc := 146) X 9 dL_isStartSo_146 rfl rfl ?_
        refine v_iload (pc := 147) X 8 dL_isStartSo_147 rfl ?_
        refine v_iadd (pc := 149) X dL_isStartSo_149 ?_
        refine v_iload_n (pc := 150) X 12 dL_isStartSo_150 rfl rfl ?_
        refine v_callSI (pc := 151) X (As := [.int p2]) (rest := [.int (r1 + r4)]) (c_L_ones l D cA L sh p2 h21 _ hf) (va_cwS 1 X.ht (gwS inM q_429 q_430 q_0 q_431) rfl rfl rfl (by decide +kernel) ⟨Nat.le_of_ble_eq_true rfl, Nat.le_of_ble_eq_true rfl⟩) rfl rfl (Nat.le_of_ble_eq_true rfl) ⟨Nat.le_of_ble_eq_true rfl, Nat.le_of_ble_eq_true rfl⟩ dL_isStartSo_151 (fun r25 h26 hf => ?_)
        refine v_icmp_ne (pc := 154) X 231 dL_isStartSo_154 (by decide) (fun cq => ?_) (fun cq => ?_)
        · replace hf := if_f cq hf
          refine v_iconst (pc := 231) X (v := (0 : Int32)) dL_isStartSo_231 (by decide) ?_
          exact hJ24 (0 : Int32) h26 hf
        · replace hf := if_t cq hf
          refine v_aload_n (pc := 157) X 10 dL_isStartSo_157 rfl rfl ?_
          refine v_iload_n (pc := 158) X 11 dL_isStartSo_158 rfl rfl ?_
          refine v_iconst (pc := 159) X (v := (5 : Int32)) dL_isStartSo_159 (by decide) ?_
          refine v_callVI (pc := 160) X (As := [.int p1, .int (5 : Int32)]) (rest := []) (c_X5_sessionOf l D cA L sh p0 p1 (5 : Int32) h26 _ hf) (cwV 2 X.ht (gwV inM q_383 q_384 q_385 q_1 q_386) rfl rfl rfl (by decide +kernel) ⟨Nat.le_of_ble_eq_true rfl, Nat.le_of_ble_eq_true rfl⟩) rfl (by decide) t3 (ent_5 t3) rfl rfl (Nat.le_of_ble_eq_true rfl) ⟨Nat.le_of_ble_eq_true rfl, Nat.le_of_ble_eq_true rfl⟩ dL_isStartSo_160 (fun r27 h28 hf => ?_)
          refine v_iload (pc := 163) X 5 dL_isStartSo_163 rfl ?_
          refine v_isub (pc := 165) X dL_isStartSo_165 ?_
          refine v_iload_n (pc := 166) X 9 dL_isStartSo_166 rfl rfl ?_
          refine v_icmp_ne (pc := 167) X 231 dL_isStartSo_167 (by decide) (fun cq => ?_) (fun cq => ?_)
          · replace hf := if_f cq hf
            refine v_iconst (pc := 231) X (v := (0 : Int32)) dL_isStartSo_231 (by decide) ?_
            exact hJ24 (0 : Int32) h28 hf
          · replace hf := if_t cq hf
            refine v_aload_n (pc := 170) X 10 dL_isStartSo_170 rfl rfl ?_
            refine v_iload_n (pc := 171) X 11 dL_isStartSo_171 rfl rfl ?_
            refine v_bipush (pc := 172) X (v := (6 : Int32)) dL_isStartSo_172 (by decide) ?_
            refine v_callVI (pc := 174) X (As := [.int p1, .int (6 : Int32)]) (rest := []) (c_X5_sessionOf l D cA L sh p0 p1 (6 : Int32) h28 _ hf) (cwV 2 X.ht (gwV inM q_383 q_384 q_385 q_1 q_386) rfl rfl rfl (by decide +kernel) ⟨Nat.le_of_ble_eq_true rfl, Nat.le_of_ble_eq_true rfl⟩) rfl (by decide) t3 (ent_5 t3) rfl rfl (Nat.le_of_ble_eq_true rfl) ⟨Nat.le_of_ble_eq_true rfl, Nat.le_of_ble_eq_true rfl⟩ dL_isStartSo_174 (fun r29 h30 hf => ?_)
            refine v_iload (pc := 177) X 4 dL_isStartSo_177 rfl ?_
            refine v_isub (pc := 179) X dL_isStartSo_179 ?_
            refine v_iload (pc := 180) X 8 dL_isStartSo_180 rfl ?_
            refine v_icmp_ne (pc := 182) X 231 dL_isStartSo_182 (by decide) (fun cq => ?_) (fun cq => ?_)
            · replace hf := if_f cq hf
              refine v_iconst (pc := 231) X (v := (0 : Int32)) dL_isStartSo_231 (by decide) ?_
              exact hJ24 (0 : Int32) h30 hf
            · replace hf := if_t cq hf
              refine v_aload_n (pc := 185) X 10 dL_isStartSo_185 rfl rfl ?_
              refine v_iload_n (pc := 186) X 11 dL_isStartSo_186 rfl rfl ?_
              refine v_bipush (pc := 187) X (v := (7 : Int32)) dL_isStartSo_187 (by decide) ?_
              refine v_callVI (pc := 189) X (As := [.int p1, .int (7 : Int32)]) (rest := []) (c_X5_sessionOf l D cA L sh p0 p1 (7 : Int32) h30 _ hf) (cwV 2 X.ht (gwV inM q_383 q_384 q_385 q_1 q_386) rfl rfl rfl (by decide +kernel) ⟨Nat.le_of_ble_eq_true rfl, Nat.le_of_ble_eq_true rfl⟩) rfl (by decide) t3 (ent_5 t3) rfl rfl (Nat.le_of_ble_eq_true rfl) ⟨Nat.le_of_ble_eq_true rfl, Nat.le_of_ble_eq_true rfl⟩ dL_isStartSo_189 (fun r31 h32 hf => ?_)
              refine v_iload (pc := 192) X 3 dL_isStartSo_192 rfl ?_
              refine v_isub (pc := 194) X dL_isStartSo_194 ?_
              refine v_iload (pc := 195) X 7 dL_isStartSo_195 rfl ?_
              refine v_icmp_ne (pc := 197) X 231 dL_isStartSo_197 (by decide) (fun cq => ?_) (fun cq => ?_)
              · replace hf := if_f cq hf
                refine v_iconst (pc := 231) X (v := (0 : Int32)) dL_isStartSo_231 (by decide) ?_
                exact hJ24 (0 : Int32) h32 hf
              · replace hf := if_t cq hf
                refine v_aload_n (pc := 200) X 10 dL_isStartSo_200 rfl rfl ?_
                refine v_iload_n (pc := 201) X 11 dL_isStartSo_201 rfl rfl ?_
                refine v_iconst (pc := 202) X (v := (0 : Int32)) dL_isStartSo_202 (by decide) ?_
                refine v_callVI (pc := 203) X (As := [.int p1, .int (0 : Int32)]) (rest := []) (c_X5_sessionOf l D cA L sh p0 p1 (0 : Int32) h32 _ hf) (cwV 2 X.ht (gwV inM q_383 q_384 q_385 q_1 q_386) rfl rfl rfl (by decide +kernel) ⟨Nat.le_of_ble_eq_true rfl, Nat.le_of_ble_eq_true rfl⟩) rfl (by decide) t3 (ent_5 t3) rfl rfl (Nat.le_of_ble_eq_true rfl) ⟨Nat.le_of_ble_eq_true rfl, Nat.le_of_ble_eq_true rfl⟩ dL_isStartSo_203 (fun r33 h34 hf => ?_)
                refine v_aload_n (pc := 206) X 10 dL_isStartSo_206 rfl rfl ?_
                refine v_iconst (pc := 207) X (v := (1 : Int32)) dL_isStartSo_207 (by decide) ?_
                refine v_callVI (pc := 208) X (As := [.int (1 : Int32)]) (rest := [.int r33]) (c_X5_count l D cA L sh p0 (1 : Int32) h34 _ hf) (cwV 1 X.ht (gwV inM q_218 q_219 q_220 q_1 q_221) rfl rfl rfl (by decide +kernel) ⟨Nat.le_of_ble_eq_true rfl, Nat.le_of_ble_eq_true rfl⟩) rfl (by decide) t3 (ent_5 t3) rfl rfl (Nat.le_of_ble_eq_true rfl) ⟨Nat.le_of_ble_eq_true rfl, Nat.le_of_ble_eq_true rfl⟩ dL_isStartSo_208 (fun r35 h36 hf => ?_)
                refine v_icmp_ne (pc := 211) X 231 dL_isStartSo_211 (by decide) (fun cq => ?_) (fun cq => ?_)
                · replace hf := if_f cq hf
                  refine v_iconst (pc := 231) X (v := (0 : Int32)) dL_isStartSo_231 (by decide) ?_
                  exact hJ24 (0 : Int32) h36 hf
                · replace hf := if_t cq hf
                  refine v_aload_n (pc := 214) X 10 dL_isStartSo_214 rfl rfl ?_
                  refine v_iconst (pc := 215) X (v := (1 : Int32)) dL_isStartSo_215 (by decide) ?_
                  refine v_callVI (pc := 216) X (As := [.int (1 : Int32)]) (rest := []) (c_X5_count l D cA L sh p0 (1 : Int32) h36 _ hf) (cwV 1 X.ht (gwV inM q_218 q_219 q_220 q_1 q_221) rfl rfl rfl (by decide +kernel) ⟨Nat.le_of_ble_eq_true rfl, Nat.le_of_ble_eq_true rfl⟩) rfl (by decide) t3 (ent_5 t3) rfl rfl (Nat.le_of_ble_eq_true rfl) ⟨Nat.le_of_ble_eq_true rfl, Nat.le_of_ble_eq_true rfl⟩ dL_isStartSo_216 (fun r37 h38 hf => ?_)
                  refine v_iload (pc := 219) X 2 dL_isStartSo_219 rfl ?_
                  refine v_isub (pc := 221) X dL_isStartSo_221 ?_
                  refine v_iload (pc := 222) X 6 dL_isStartSo_222 rfl ?_
                  refine v_icmp_ne (pc := 224) X 231 dL_isStartSo_224 (by decide) (fun cq => ?_) (fun cq => ?_)
                  · replace hf := if_f cq hf
                    refine v_iconst (pc := 231) X (v := (0 : Int32)) dL_isStartSo_231 (by decide) ?_
                    exact hJ24 (0 : Int32) h38 hf
                  · replace hf := if_t cq hf
                    refine v_iconst (pc := 227) X (v := (1 : Int32)) dL_isStartSo_227 (by decide) ?_
                    refine v_goto (pc := 228) X 232 dL_isStartSo_228 (by decide) ?_
                    exact hJ24 (1 : Int32) h38 hf
  · replace hf := if_f cq hf
    refine v_iload (pc := 89) X 0 dL_isStartSo_89 rfl ?_
    refine v_bipush (pc := 91) X (v := (-3 : Int32)) dL_isStartSo_91 (by decide) ?_
    refine dj_e hf (Vat := fun v80 h81 => V p l e (headSpec (wM yL_isStartSo cL_isStartSo 17 (some .boolean)) ({ frames := 5, cells := 0, slots := 0, locals := 125 } : Room)).room s0 m args below meth c (MQ below (QI D cA L sh K) args s0 0 0 (fun q => q ∈ L)) (fun q => q ∈ L) 0 0 D cA L sh 17 h81 138 [(12, .int r20), (11, .int r18), (10, .int r16), (9, .int r14), (8, .int r12), (7, .int r10), (6, .int r8), (5, .int r6), (4, .int r4), (3, .int r1), (0, .ref p0), (1, .int p1), (2, .int p2)] [.int v80]) (fun v80 h81 hf => ?_) (fun J82 hJ82 hf => ?_)
    · obtain ⟨z85, hf⟩ := hf
      exact v_zret (pc := 138) X hr hlk dL_isStartSo_138 z85 hf
    · refine v_icmp_ne (pc := 93) X 137 dL_isStartSo_93 (by decide) (fun cq => ?_) (fun cq => ?_)
      · replace hf := if_f cq hf
        refine v_iconst (pc := 137) X (v := (0 : Int32)) dL_isStartSo_137 (by decide) ?_
        exact hJ82 (0 : Int32) h21 hf
      · replace hf := if_t cq hf
        refine v_iload_n (pc := 96) X 9 dL_isStartSo_96 rfl rfl ?_
        refine v_iload (pc := 97) X 0 dL_isStartSo_97 rfl ?_
        refine v_icmp_ne (pc := 99) X 137 dL_isStartSo_99 (by decide) (fun cq => ?_) (fun cq => ?_)
        · replace hf := if_f cq hf
          refine v_iconst (pc := 137) X (v := (0 : Int32)) dL_isStartSo_137 (by decide) ?_
          exact hJ82 (0 : Int32) h21 hf
        · replace hf := if_t cq hf
          refine v_iload (pc := 102) X 8 dL_isStartSo_102 rfl ?_
          refine v_iload (pc := 104) X 0 dL_isStartSo_104 rfl ?_
          refine v_icmp_ne (pc := 106) X 137 dL_isStartSo_106 (by decide) (fun cq => ?_) (fun cq => ?_)
          · replace hf := if_f cq hf
            refine v_iconst (pc := 137) X (v := (0 : Int32)) dL_isStartSo_137 (by decide) ?_
            exact hJ82 (0 : Int32) h21 hf
          · replace hf := if_t cq hf
            refine v_iload (pc := 109) X 7 dL_isStartSo_109 rfl ?_
            refine v_iload (pc := 111) X 0 dL_isStartSo_111 rfl ?_
            refine v_icmp_ne (pc := 113) X 137 dL_isStartSo_113 (by decide) (fun cq => ?_) (fun cq => ?_)
            · replace hf := if_f cq hf
              refine v_iconst (pc := 137) X (v := (0 : Int32)) dL_isStartSo_137 (by decide) ?_
              exact hJ82 (0 : Int32) h21 hf
            · replace hf := if_t cq hf
              refine v_iload (pc := 116) X 6 dL_isStartSo_116 rfl ?_
              refine v_iload (pc := 118) X 0 dL_isStartSo_118 rfl ?_
              refine v_icmp_ne (pc := 120) X 137 dL_isStartSo_120 (by decide) (fun cq => ?_) (fun cq => ?_)
              · replace hf := if_f cq hf
                refine v_iconst (pc := 137) X (v := (0 : Int32)) dL_isStartSo_137 (by decide) ?_
                exact hJ82 (0 : Int32) h21 hf
              · replace hf := if_t cq hf
                refine v_aload_n (pc := 123) X 10 dL_isStartSo_123 rfl rfl ?_
                refine v_iconst (pc := 124) X (v := (2 : Int32)) dL_isStartSo_124 (by decide) ?_
                refine v_callVI (pc := 125) X (As := [.int (2 : Int32)]) (rest := []) (c_X5_count l D cA L sh p0 (2 : Int32) h21 _ hf) (cwV 1 X.ht (gwV inM q_218 q_219 q_220 q_1 q_221) rfl rfl rfl (by decide +kernel) ⟨Nat.le_of_ble_eq_true rfl, Nat.le_of_ble_eq_true rfl⟩) rfl (by decide) t3 (ent_5 t3) rfl rfl (Nat.le_of_ble_eq_true rfl) ⟨Nat.le_of_ble_eq_true rfl, Nat.le_of_ble_eq_true rfl⟩ dL_isStartSo_125 (fun r83 h84 hf => ?_)
                refine v_iload (pc := 128) X 1 dL_isStartSo_128 rfl ?_
                refine v_icmp_ne (pc := 130) X 137 dL_isStartSo_130 (by decide) (fun cq => ?_) (fun cq => ?_)
                · replace hf := if_f cq hf
                  refine v_iconst (pc := 137) X (v := (0 : Int32)) dL_isStartSo_137 (by decide) ?_
                  exact hJ82 (0 : Int32) h84 hf
                · replace hf := if_t cq hf
                  refine v_iconst (pc := 133) X (v := (1 : Int32)) dL_isStartSo_133 (by decide) ?_
                  refine v_goto (pc := 134) X 138 dL_isStartSo_134 (by decide) ?_
                  exact hJ82 (1 : Int32) h84 hf

theorem c_L_isStartSo (l : Launch) (D : va_G) (cA : Nat → ClassId) (L : List Nat) (sh : Sh) (p0 : Nat) (p1 : Int32) (p2 : Int32) (h : Hp) (K : Int32 → Hp → Prop) (hf : f_L_isStartSo sh p0 p1 p2 h K) : Met l yL_isStartSo (wM yL_isStartSo cL_isStartSo 17 (some .boolean)) ({ frames := 5, cells := 0, slots := 0, locals := 125 } : Room) (PreM D cA L sh h [.ref p0, .int p1, .int p2]) (QI D cA L sh K) 0 0 (fun q => q ∈ L) := by
  refine met_v (cc := cL_isStartSo) (nL := 17) (ret := (some .boolean)) [(0, .ref p0), (1, .int p1), (2, .int p2)] (by decide) rfl (Nat.le_of_ble_eq_true rfl) rfl ?_
  intro p e s0 m below meth c X hr hlk
  exact bw_L_isStartSo X hr hlk p0 p1 p2 K h hf


def b_L_areHandsSo_18 (sh : Sh) (x0 : Nat) (x1 : Int32) (x2 : Int32) (x3 : Nat) (x4 : Nat) (Xc : Hp → Prop) (rec : Int32 → Hp → Prop) (s : Int32) (h : Hp) : Prop :=
  if (6 : Int32) ≤ s then
    Xc h
  else
    ty sh x4 7 <|
    sI sh h x4 s (9999 : Int32) fun h1 =>
    rec (s + (1 : Int32)) h1

def b_L_areHandsSo_87 (sh : Sh) (x0 : Nat) (x1 : Int32) (x2 : Int32) (x3 : Nat) (x4 : Nat) (x5 : Int32) (x6 : Int32) (Xc : Int32 → Int32 → Hp → Prop) (K : Int32 → Hp → Prop) (rec : Int32 × Int32 × Int32 → Hp → Prop) (s : Int32 × Int32 × Int32) (h : Hp) : Prop :=
  if x6 ≤ s.2.2 then
    Xc s.1 s.2.1 h
  else
    ty sh x0 5 <|
    f_X5_entry sh x0 x5 s.2.2 (0 : Int32) h fun r12 h13 =>
    f_X5_entry sh x0 x5 s.2.2 (1 : Int32) h13 fun r15 h16 =>
    f_X5_entry sh x0 x5 s.2.2 (3 : Int32) h16 fun r17 h18 =>
    f_X5_entry sh x0 x5 s.2.2 (5 : Int32) h18 fun r19 h20 =>
    dj (fun v21 h22 =>
      dj (fun v24 h25 =>
        dj (fun v27 h28 =>
          ty sh x3 7 <|
          lI sh h28 x3 r12 fun v30 =>
          dj (fun v33 h34 =>
            sI sh h34 x3 r12 (v30 + v33) fun h36 =>
            dj (fun v38 h39 =>
              ty sh x4 7 <|
              sI sh h39 x4 r12 v38 fun h49 =>
              dj (fun v52 h53 =>
                if v52 = 0 then
                  K (0 : Int32) h53
                else
                  rec (s.1 + v24, v27, s.2.2 + (1 : Int32)) h53)
                (fun J54 =>
                if r17 < 0 then
                  J54 (0 : Int32) h49
                else
                  if 0 < r17 then
                    f_X5_tableOf sh x0 r12 (0 : Int32) h49 fun r55 h56 =>
                    if r55 < r15 then
                      J54 (0 : Int32) h56
                    else
                      f_X5_tableOf sh x0 r12 (0 : Int32) h56 fun r57 h58 =>
                      if r15 < r57 then
                        f_X5_entry sh x0 x5 s.2.2 (4 : Int32) h58 fun r59 h60 =>
                        f_X5_count sh x0 (2 : Int32) h60 fun r61 h62 =>
                        if r61 ≤ r59 then
                          J54 (0 : Int32) h62
                        else
                          if s.2.2 = 0 then
                            J54 (1 : Int32) h62
                          else
                            f_X5_entry sh x0 x5 (s.2.2 - (1 : Int32)) (0 : Int32) h62 fun r63 h64 =>
                            f_X5_entry sh x0 x5 (s.2.2 - (1 : Int32)) (1 : Int32) h64 fun r65 h66 =>
                            if (((1000 : Int32) * r12) + r15) ≤ (((1000 : Int32) * r63) + r65) then
                              J54 (0 : Int32) h66
                            else
                              J54 (1 : Int32) h66
                      else
                        f_X5_entry sh x0 x5 s.2.2 (2 : Int32) h58 fun r67 h68 =>
                        f_X5_tableOf sh x0 r12 (1 : Int32) h68 fun r69 h70 =>
                        if r67 = r69 then
                          f_X5_entry sh x0 x5 s.2.2 (4 : Int32) h70 fun r71 h72 =>
                          f_X5_count sh x0 (2 : Int32) h72 fun r73 h74 =>
                          if r73 ≤ r71 then
                            J54 (0 : Int32) h74
                          else
                            if s.2.2 = 0 then
                              J54 (1 : Int32) h74
                            else
                              f_X5_entry sh x0 x5 (s.2.2 - (1 : Int32)) (0 : Int32) h74 fun r75 h76 =>
                              f_X5_entry sh x0 x5 (s.2.2 - (1 : Int32)) (1 : Int32) h76 fun r77 h78 =>
                              if (((1000 : Int32) * r12) + r15) ≤ (((1000 : Int32) * r75) + r77) then
                                J54 (0 : Int32) h78
                              else
                                J54 (1 : Int32) h78
                        else
                          J54 (0 : Int32) h70
                  else
                    if v21 = 0 then
                      f_X5_tableOf sh x0 r12 (0 : Int32) h49 fun r79 h80 =>
                      if r79 < r15 then
                        J54 (0 : Int32) h80
                      else
                        f_X5_tableOf sh x0 r12 (0 : Int32) h80 fun r81 h82 =>
                        if r15 < r81 then
                          f_X5_entry sh x0 x5 s.2.2 (4 : Int32) h82 fun r83 h84 =>
                          f_X5_count sh x0 (2 : Int32) h84 fun r85 h86 =>
                          if r85 ≤ r83 then
                            J54 (0 : Int32) h86
                          else
                            if s.2.2 = 0 then
                              J54 (1 : Int32) h86
                            else
                              f_X5_entry sh x0 x5 (s.2.2 - (1 : Int32)) (0 : Int32) h86 fun r87 h88 =>
                              f_X5_entry sh x0 x5 (s.2.2 - (1 : Int32)) (1 : Int32) h88 fun r89 h90 =>
                              if (((1000 : Int32) * r12) + r15) ≤ (((1000 : Int32) * r87) + r89) then
                                J54 (0 : Int32) h90
                              else
                                J54 (1 : Int32) h90
                        else
                          f_X5_entry sh x0 x5 s.2.2 (2 : Int32) h82 fun r91 h92 =>
                          f_X5_tableOf sh x0 r12 (1 : Int32) h92 fun r93 h94 =>
                          if r91 = r93 then
                            f_X5_entry sh x0 x5 s.2.2 (4 : Int32) h94 fun r95 h96 =>
                            f_X5_count sh x0 (2 : Int32) h96 fun r97 h98 =>
                            if r97 ≤ r95 then
                              J54 (0 : Int32) h98
                            else
                              if s.2.2 = 0 then
                                J54 (1 : Int32) h98
                              else
                                f_X5_entry sh x0 x5 (s.2.2 - (1 : Int32)) (0 : Int32) h98 fun r99 h100 =>
                                f_X5_entry sh x0 x5 (s.2.2 - (1 : Int32)) (1 : Int32) h100 fun r101 h102 =>
                                if (((1000 : Int32) * r12) + r15) ≤ (((1000 : Int32) * r99) + r101) then
                                  J54 (0 : Int32) h102
                                else
                                  J54 (1 : Int32) h102
                          else
                            J54 (0 : Int32) h94
                    else
                      J54 (0 : Int32) h49))
              (fun J40 =>
              if r17 ≤ 0 then
                ty sh x4 7 <|
                lI sh h36 x4 r12 fun v41 =>
                J40 v41 h36
              else
                ty sh x4 7 <|
                lI sh h36 x4 r12 fun v44 =>
                if v44 ≤ r15 then
                  lI sh h36 x4 r12 fun v47 =>
                  J40 v47 h36
                else
                  J40 r15 h36))
            (fun J35 =>
            if v21 = 0 then
              J35 (1 : Int32) h28
            else
              J35 (0 : Int32) h28))
          (fun J29 =>
          if s.2.1 = 0 then
            J29 (0 : Int32) h25
          else
            if r17 ≤ 0 then
              J29 (0 : Int32) h25
            else
              J29 (1 : Int32) h25))
        (fun J26 =>
        if v21 = 0 then
          J26 (0 : Int32) h22
        else
          J26 (1 : Int32) h22))
      (fun J23 =>
      if r19 = (1 : Int32) then
        J23 (1 : Int32) h20
      else
        J23 (0 : Int32) h20)

def b_L_areHandsSo_42 (sh : Sh) (x0 : Nat) (x3 : Nat) (x4 : Nat) (Xc : Int32 → Int32 → Hp → Prop) (K : Int32 → Hp → Prop) (rec : Int32 × Int32 × Int32 → Hp → Prop) (s : Int32 × Int32 × Int32) (h : Hp) : Prop :=
  if (4 : Int32) ≤ s.2.2 then
    Xc s.1 s.2.1 h
  else
    ty sh x0 5 <|
    f_X5_sessionOf sh x0 s.2.2 (2 : Int32) h fun r5 h6 =>
    f_X5_sessionOf sh x0 s.2.2 (4 : Int32) h6 fun r8 h9 =>
    f_X5_sessionOf sh x0 s.2.2 (6 : Int32) h9 fun r10 h11 =>
    lo (b_L_areHandsSo_87 sh x0 (s.1 + r8) (s.2.1 + r10) x3 x4 s.2.2 r5
      (fun y103 y104 h105 =>
        f_X5_sessionOf sh x0 s.2.2 (3 : Int32) h105 fun r106 h107 =>
        if y103 = r106 then
          f_X5_entry sh x0 s.2.2 r5 (0 : Int32) h107 fun r108 h109 =>
          if r108 = (-4 : Int32) then
            f_X5_count sh x0 (21 : Int32) h109 fun r110 h111 =>
            if r5 ≤ r110 then
              f_X5_sessionOf sh x0 s.2.2 (4 : Int32) h111 fun r112 h113 =>
              if (4 : Int32) < r112 then
                K (0 : Int32) h113
              else
                f_X5_sessionOf sh x0 s.2.2 (0 : Int32) h113 fun r114 h115 =>
                f_X5_count sh x0 (1 : Int32) h115 fun r116 h117 =>
                if r114 ≤ r116 then
                  rec (s.1 + r8, s.2.1 + r10, s.2.2 + (1 : Int32)) h117
                else
                  K (0 : Int32) h117
            else
              if y104 = 0 then
                K (0 : Int32) h111
              else
                f_X5_sessionOf sh x0 s.2.2 (4 : Int32) h111 fun r118 h119 =>
                if (4 : Int32) < r118 then
                  K (0 : Int32) h119
                else
                  f_X5_sessionOf sh x0 s.2.2 (0 : Int32) h119 fun r120 h121 =>
                  f_X5_count sh x0 (1 : Int32) h121 fun r122 h123 =>
                  if r120 ≤ r122 then
                    rec (s.1 + r8, s.2.1 + r10, s.2.2 + (1 : Int32)) h123
                  else
                    K (0 : Int32) h123
          else
            K (0 : Int32) h109
        else
          K (0 : Int32) h107) K) ((0 : Int32), (1 : Int32), (0 : Int32)) h11

def b_L_areHandsSo_470 (sh : Sh) (x0 : Nat) (x3 : Nat) (x4 : Nat) (Xc : Int32 → Hp → Prop) (rec : Int32 × Int32 → Hp → Prop) (s : Int32 × Int32) (h : Hp) : Prop :=
  if (6 : Int32) ≤ s.2 then
    Xc s.1 h
  else
    ty sh x0 5 <|
    f_X5_tableOf sh x0 s.2 (2 : Int32) h fun r135 h136 =>
    f_X5_inTheWay sh x0 s.2 h136 fun r138 h139 =>
    dj (fun v140 h141 =>
      dj (fun v158 h159 =>
        rec (v158, s.2 + (1 : Int32)) h159)
        (fun J160 =>
        if v140 = 0 then
          J160 (0 : Int32) h141
        else
          dj (fun v161 h162 =>
            f_X5_tableOf sh x0 s.2 (4 : Int32) h162 fun r164 h165 =>
            dj (fun v166 h167 =>
              if v161 = v166 then
                f_X5_count sh x0 (7 : Int32) h167 fun r169 h170 =>
                f_X5_tableOf sh x0 s.2 (4 : Int32) h170 fun r171 h172 =>
                if ((r169 >>> (s.2 &&& 31)) &&& (1 : Int32)) = r171 then
                  dj (fun v173 h174 =>
                    dj (fun v178 h179 =>
                      if v173 = v178 then
                        if r138 < 0 then
                          J160 (1 : Int32) h179
                        else
                          f_X5_statement sh x0 r138 (3 : Int32) h179 fun r181 h182 =>
                          if ((r181 >>> (s.2 &&& 31)) &&& (1 : Int32)) = (1 : Int32) then
                            J160 (1 : Int32) h182
                          else
                            J160 (0 : Int32) h182
                      else
                        J160 (0 : Int32) h179)
                      (fun J180 =>
                      if r138 < 0 then
                        J180 (0 : Int32) h174
                      else
                        J180 (1 : Int32) h174))
                    (fun J175 =>
                    if r135 < 0 then
                      J175 (0 : Int32) h172
                    else
                      f_X5_tableOf sh x0 s.2 (0 : Int32) h172 fun r176 h177 =>
                      if r176 ≤ r135 then
                        J175 (0 : Int32) h177
                      else
                        J175 (1 : Int32) h177)
                else
                  J160 (0 : Int32) h172
              else
                J160 (0 : Int32) h167)
              (fun J168 =>
              if r164 = (1 : Int32) then
                J168 (1 : Int32) h165
              else
                J168 (0 : Int32) h165))
            (fun J163 =>
            if r138 = (-4 : Int32) then
              J163 (1 : Int32) h141
            else
              J163 (0 : Int32) h141)))
      (fun J142 =>
      if s.1 = 0 then
        J142 (0 : Int32) h139
      else
        ty sh x3 7 <|
        lI sh h139 x3 s.2 fun v143 =>
        f_X5_tableOf sh x0 s.2 (3 : Int32) h139 fun r146 h147 =>
        if v143 = r146 then
          ty sh x4 7 <|
          lI sh h147 x4 s.2 fun v148 =>
          dj (fun v151 h152 =>
            if r135 = v151 then
              if r135 < 0 then
                J142 (1 : Int32) h152
              else
                f_X5_tableOf sh x0 s.2 (0 : Int32) h152 fun r156 h157 =>
                if r135 < (r156 - (1 : Int32)) then
                  J142 (0 : Int32) h157
                else
                  J142 (1 : Int32) h157
            else
              J142 (0 : Int32) h152)
            (fun J153 =>
            if v148 = (9999 : Int32) then
              J153 (-4 : Int32) h147
            else
              lI sh h147 x4 s.2 fun v154 =>
              J153 v154 h147)
        else
          J142 (0 : Int32) h147)

def g_L_areHandsSo (sh : Sh) (p0 q1 q2 : Nat) (h : Hp) (K : Int32 → Hp → Prop) : Prop :=
  lo (b_L_areHandsSo_18 sh p0 (0 : Int32) (0 : Int32) q1 q2
    (fun  h4 =>
      lo (b_L_areHandsSo_42 sh p0 q1 q2
        (fun y124 y125 h126 =>
          ty sh p0 5 <|
          f_X5_count sh p0 (3 : Int32) h126 fun r127 h128 =>
          dj (fun v130 h131 =>
            lo (b_L_areHandsSo_470 sh p0 q1 q2
              (fun y183 h184 =>
                bz y183 <|
                K y183 h184)) (v130, (0 : Int32)) h131)
            (fun J132 =>
            if y124 = r127 then
              f_X5_count sh p0 (8 : Int32) h128 fun r133 h134 =>
              if y125 = r133 then
                J132 (1 : Int32) h134
              else
                J132 (0 : Int32) h134
            else
              J132 (0 : Int32) h128)) K) ((0 : Int32), (0 : Int32), (0 : Int32)) h4)) (0 : Int32) h

def f_L_areHandsSo (L : List Nat) (sh : Sh) (p0 : Nat) (h : Hp) (K : Int32 → List Nat → Sh → Hp → Prop) : Prop :=
  nw L sh h 7 6 fun q1 L1 s1 h1 =>
  nw L1 s1 h1 7 6 fun q2 L2 s2 h2 =>
  g_L_areHandsSo s2 p0 q1 q2 h2 (fun r h3 => K r L2 s2 h3)

set_option maxHeartbeats 8000000 in
set_option maxRecDepth 100000 in
theorem w_L_areHandsSo_18 {p : Program} {l : Launch} {e : Env} {s0 : State} {m : MethodId} {args : Array Value} {below : List Frame} {meth : Method} {c : Code} {D : va_G} {cA : Nat → ClassId} {L L0 : List Nat} {sh : Sh} (X : Cx p s0 m c args cL_areHandsSo 15 (wM yL_areHandsSo cL_areHandsSo 15 (some .boolean)) RL (fun q => q ∈ L0 ∨ s0.heap.size ≤ q) D cA L sh) (hr : meth.sig.returnType = (some .boolean)) (hlk : meth.locks = false) (x0 : Nat) (x1 : Int32) (x2 : Int32) (x3 : Nat) (x4 : Nat) (Xc : Hp → Prop) (K : Int32 → List Nat → Sh → Hp → Prop) (hx : ∀  (h1 : Hp), Xc  h1 → V p l e (headSpec (wM yL_areHandsSo cL_areHandsSo 15 (some .boolean)) ({ frames := 5, cells := 2, slots := 12, locals := 111 } : Room)).room s0 m args below meth c (MQ below (QAI D cA L0 s0.heap.size K) args s0 2 12 (fun q => q ∈ L0 ∨ s0.heap.size ≤ q)) (fun q => q ∈ L0 ∨ s0.heap.size ≤ q) 2 12 D cA L sh 15 h1 39 [(0, .ref x0), (1, .int x1), (2, .int x2), (3, .ref x3), (4, .ref x4)] []) : ∀ (n : Nat) (s : Int32) (h : Hp), lp (b_L_areHandsSo_18 sh x0 x1 x2 x3 x4 Xc) n s h → V p l e (headSpec (wM yL_areHandsSo cL_areHandsSo 15 (some .boolean)) ({ frames := 5, cells := 2, slots := 12, locals := 111 } : Room)).room s0 m args below meth c (MQ below (QAI D cA L0 s0.heap.size K) args s0 2 12 (fun q => q ∈ L0 ∨ s0.heap.size ≤ q)) (fun q => q ∈ L0 ∨ s0.heap.size ≤ q) 2 12 D cA L sh 15 h 18 [(0, .ref x0), (1, .int x1), (2, .int x2), (3, .ref x3), (4, .ref x4), (5, .int s)] [] := by
  intro n
  induction n with
  | zero => intro s h hf; exact hf.elim
  | succ n ih =>
    intro s h hf
    replace hf : b_L_areHandsSo_18 sh x0 x1 x2 x3 x4 Xc (lp (b_L_areHandsSo_18 sh x0 x1 x2 x3 x4 Xc) n) s h := hf
    unfold b_L_areHandsSo_18 at hf
    refine v_iload (pc := 18) X 5 dL_areHandsSo_18 rfl ?_
    refine v_bipush (pc := 20) X (v := (6 : Int32)) dL_areHandsSo_20 (by decide) ?_
    refine v_icmp_ge (pc := 22) X 39 dL_areHandsSo_22 (by decide) (fun cq => ?_) (fun cq => ?_)
    · replace hf := if_t cq hf
      refine v_sub [0, 1, 2, 3, 4] rfl ?_
      exact hx h hf
    · replace hf := if_f cq hf
      refine v_aload (pc := 25) X 4 dL_areHandsSo_25 rfl ?_
      refine v_iload (pc := 27) X 5 dL_areHandsSo_27 rfl ?_
      refine v_sipush (pc := 29) X (v := (9999 : Int32)) dL_areHandsSo_29 (by decide) ?_
      obtain ⟨t3, hf⟩ := hf
      obtain ⟨b2, h1, e_h1, hf⟩ := hf
      refine v_iast (pc := 32) X t3 b2 e_h1 dL_areHandsSo_32 ?_
      refine v_iinc (pc := 33) X 5 (v := s + (1 : Int32)) (lv' := [(5, .int (s + (1 : Int32))), (0, .ref x0), (1, .int x1), (2, .int x2), (3, .ref x3), (4, .ref x4)]) dL_areHandsSo_33 rfl rfl (Nat.le_of_ble_eq_true rfl) rfl ?_
      refine v_goto (pc := 36) X 18 dL_areHandsSo_36 (by decide) ?_
      refine v_sub [1, 2, 3, 4, 5, 0] rfl ?_
      exact ih (s + (1 : Int32)) h1 hf

set_option maxHeartbeats 8000000 in
set_option maxRecDepth 100000 in
theorem w_L_areHandsSo_87 {p : Program} {l : Launch} {e : Env} {s0 : State} {m : MethodId} {args : Array Value} {below : List Frame} {meth : Method} {c : Code} {D : va_G} {cA : Nat → ClassId} {L L0 : List Nat} {sh : Sh} (X : Cx p s0 m c args cL_areHandsSo 15 (wM yL_areHandsSo cL_areHandsSo 15 (some .boolean)) RL (fun q => q ∈ L0 ∨ s0.heap.size ≤ q) D cA L sh) (hr : meth.sig.returnType = (some .boolean)) (hlk : meth.locks = false) (x0 : Nat) (x1 : Int32) (x2 : Int32) (x3 : Nat) (x4 : Nat) (x5 : Int32) (x6 : Int32) (Xc : Int32 → Int32 → Hp → Prop) (K : Int32 → List Nat → Sh → Hp → Prop) (hx : ∀ (y7 : Int32) (y8 : Int32) (h1 : Hp), Xc y7 y8 h1 → V p l e (headSpec (wM yL_areHandsSo cL_areHandsSo 15 (some .boolean)) ({ frames := 5, cells := 2, slots := 12, locals := 111 } : Room)).room s0 m args below meth c (MQ below (QAI D cA L0 s0.heap.size K) args s0 2 12 (fun q => q ∈ L0 ∨ s0.heap.size ≤ q)) (fun q => q ∈ L0 ∨ s0.heap.size ≤ q) 2 12 D cA L sh 15 h1 365 [(0, .ref x0), (1, .int x1), (2, .int x2), (3, .ref x3), (4, .ref x4), (5, .int x5), (6, .int x6), (7, .int y7), (8, .int y8)] []) : ∀ (n : Nat) (s : Int32 × Int32 × Int32) (h : Hp), lp (b_L_areHandsSo_87 sh x0 x1 x2 x3 x4 x5 x6 Xc (fun r h => K r L sh h)) n s h → V p l e (headSpec (wM yL_areHandsSo cL_areHandsSo 15 (some .boolean)) ({ frames := 5, cells := 2, slots := 12, locals := 111 } : Room)).room s0 m args below meth c (MQ below (QAI D cA L0 s0.heap.size K) args s0 2 12 (fun q => q ∈ L0 ∨ s0.heap.size ≤ q)) (fun q => q ∈ L0 ∨ s0.heap.size ≤ q) 2 12 D cA L sh 15 h 87 [(0, .ref x0), (1, .int x1), (2, .int x2), (3, .ref x3), (4, .ref x4), (5, .int x5), (6, .int x6), (7, .int s.1), (8, .int s.2.1), (9, .int s.2.2)] [] := by
  intro n
  induction n with
  | zero => intro s h hf; exact hf.elim
  | succ n ih =>
    intro s h hf
    replace hf : b_L_areHandsSo_87 sh x0 x1 x2 x3 x4 x5 x6 Xc (fun r h => K r L sh h) (lp (b_L_areHandsSo_87 sh x0 x1 x2 x3 x4 x5 x6 Xc (fun r h => K r L sh h)) n) s h := hf
    unfold b_L_areHandsSo_87 at hf
    refine v_iload (pc := 87) X 9 dL_areHandsSo_87 rfl ?_
    refine v_iload (pc := 89) X 6 dL_areHandsSo_89 rfl ?_
    refine v_icmp_ge (pc := 91) X 365 dL_areHandsSo_91 (by decide) (fun cq => ?_) (fun cq => ?_)
    · replace hf := if_t cq hf
      refine v_sub [0, 1, 2, 3, 4, 5, 6, 7, 8] rfl ?_
      exact hx s.1 s.2.1 h hf
    · replace hf := if_f cq hf
      refine v_aload_n (pc := 94) X 0 dL_areHandsSo_94 rfl rfl ?_
      refine v_iload (pc := 95) X 5 dL_areHandsSo_95 rfl ?_
      refine v_iload (pc := 97) X 9 dL_areHandsSo_97 rfl ?_
      refine v_iconst (pc := 99) X (v := (0 : Int32)) dL_areHandsSo_99 (by decide) ?_
      obtain ⟨t14, hf⟩ := hf
      refine v_callVI (pc := 100) X (As := [.int x5, .int s.2.2, .int (0 : Int32)]) (rest := []) (c_X5_entry l D cA L sh x0 x5 s.2.2 (0 : Int32) h _ hf) (cwV 3 X.ht (gwV inM q_396 q_397 q_398 q_1 q_399) rfl rfl rfl (by decide +kernel) ⟨Nat.le_of_ble_eq_true rfl, Nat.le_of_ble_eq_true rfl⟩) rfl (by decide) t14 (ent_5 t14) rfl rfl (Nat.le_of_ble_eq_true rfl) ⟨Nat.le_of_ble_eq_true rfl, Nat.le_of_ble_eq_true rfl⟩ dL_areHandsSo_100 (fun r12 h13 hf => ?_)
      refine v_istore (pc := 103) X (i := 10) (lv' := [(10, .int r12), (0, .ref x0), (1, .int x1), (2, .int x2), (3, .ref x3), (4, .ref x4), (5, .int x5), (6, .int x6), (7, .int s.1), (8, .int s.2.1), (9, .int s.2.2)]) dL_areHandsSo_103 (Nat.le_of_ble_eq_true rfl) rfl ?_
      refine v_aload_n (pc := 105) X 1 dL_areHandsSo_105 rfl rfl ?_
      refine v_iload (pc := 106) X 6 dL_areHandsSo_106 rfl ?_
      refine v_iload (pc := 108) X 10 dL_areHandsSo_108 rfl ?_
      refine v_iconst (pc := 110) X (v := (1 : Int32)) dL_areHandsSo_110 (by decide) ?_
      refine v_callVI (pc := 111) X (As := [.int x5, .int s.2.2, .int (1 : Int32)]) (rest := []) (c_X5_entry l D cA L sh x0 x5 s.2.2 (1 : Int32) h13 _ hf) (cwV 3 X.ht (gwV inM q_396 q_397 q_398 q_1 q_399) rfl rfl rfl (by decide +kernel) ⟨Nat.le_of_ble_eq_true rfl, Nat.le_of_ble_eq_true rfl⟩) rfl (by decide) t14 (ent_5 t14) rfl rfl (Nat.le_of_ble_eq_true rfl) ⟨Nat.le_of_ble_eq_true rfl, Nat.le_of_ble_eq_true rfl⟩ dL_areHandsSo_111 (fun r15 h16 hf => ?_)
      refine v_istore (pc := 114) X (i := 11) (lv' := [(11, .int r15), (10, .int r12), (0, .ref x0), (1, .int x1), (2, .int x2), (3, .ref x3), (4, .ref x4), (5, .int x5), (6, .int x6), (7, .int s.1), (8, .int s.2.1), (9, .int s.2.2)]) dL_areHandsSo_114 (Nat.le_of_ble_eq_true rfl) rfl ?_
      refine v_aload_n (pc := 116) X 2 dL_areHandsSo_116 rfl rfl ?_
      refine v_iload (pc := 117) X 7 dL_areHandsSo_117 rfl ?_
      refine v_iload (pc := 119) X 11 dL_areHandsSo_119 rfl ?_
      refine v_iconst (pc := 121) X (v := (3 : Int32)) dL_areHandsSo_121 (by decide) ?_
      refine v_callVI (pc := 122) X (As := [.int x5, .int s.2.2, .int (3 : Int32)]) (rest := []) (c_X5_entry l D cA L sh x0 x5 s.2.2 (3 : Int32) h16 _ hf) (cwV 3 X.ht (gwV inM q_396 q_397 q_398 q_1 q_399) rfl rfl rfl (by decide +kernel) ⟨Nat.le_of_ble_eq_true rfl, Nat.le_of_ble_eq_true rfl⟩) rfl (by decide) t14 (ent_5 t14) rfl rfl (Nat.le_of_ble_eq_true rfl) ⟨Nat.le_of_ble_eq_true rfl, Nat.le_of_ble_eq_true rfl⟩ dL_areHandsSo_122 (fun r17 h18 hf => ?_)
      refine v_istore (pc := 125) X (i := 12) (lv' := [(12, .int r17), (11, .int r15), (10, .int r12), (0, .ref x0), (1, .int x1), (2, .int x2), (3, .ref x3), (4, .ref x4), (5, .int x5), (6, .int x6), (7, .int s.1), (8, .int s.2.1), (9, .int s.2.2)]) dL_areHandsSo_125 (Nat.le_of_ble_eq_true rfl) rfl ?_
      refine v_aload_n (pc := 127) X 3 dL_areHandsSo_127 rfl rfl ?_
      refine v_iload (pc := 128) X 8 dL_areHandsSo_128 rfl ?_
      refine v_iload (pc := 130) X 12 dL_areHandsSo_130 rfl ?_
      refine v_iconst (pc := 132) X (v := (5 : Int32)) dL_areHandsSo_132 (by decide) ?_
      refine v_callVI (pc := 133) X (As := [.int x5, .int s.2.2, .int (5 : Int32)]) (rest := []) (c_X5_entry l D cA L sh x0 x5 s.2.2 (5 : Int32) h18 _ hf) (cwV 3 X.ht (gwV inM q_396 q_397 q_398 q_1 q_399) rfl rfl rfl (by decide +kernel) ⟨Nat.le_of_ble_eq_true rfl, Nat.le_of_ble_eq_true rfl⟩) rfl (by decide) t14 (ent_5 t14) rfl rfl (Nat.le_of_ble_eq_true rfl) ⟨Nat.le_of_ble_eq_true rfl, Nat.le_of_ble_eq_true rfl⟩ dL_areHandsSo_133 (fun r19 h20 hf => ?_)
      refine v_iconst (pc := 136) X (v := (1 : Int32)) dL_areHandsSo_136 (by decide) ?_
      refine dj_e hf (Vat := fun v21 h22 => V p l e (headSpec (wM yL_areHandsSo cL_areHandsSo 15 (some .boolean)) ({ frames := 5, cells := 2, slots := 12, locals := 111 } : Room)).room s0 m args below meth c (MQ below (QAI D cA L0 s0.heap.size K) args s0 2 12 (fun q => q ∈ L0 ∨ s0.heap.size ≤ q)) (fun q => q ∈ L0 ∨ s0.heap.size ≤ q) 2 12 D cA L sh 15 h22 145 [(12, .int r17), (11, .int r15), (10, .int r12), (0, .ref x0), (1, .int x1), (2, .int x2), (3, .ref x3), (4, .ref x4), (5, .int x5), (6, .int x6), (7, .int s.1), (8, .int s.2.1), (9, .int s.2.2)] [.int v21]) (fun v21 h22 hf => ?_) (fun J23 hJ23 hf => ?_)
      · refine v_istore (pc := 145) X (i := 13) (lv' := [(13, .int v21), (12, .int r17), (11, .int r15), (10, .int r12), (0, .ref x0), (1, .int x1), (2, .int x2), (3, .ref x3), (4, .ref x4), (5, .int x5), (6, .int x6), (7, .int s.1), (8, .int s.2.1), (9, .int s.2.2)]) dL_areHandsSo_145 (Nat.le_of_ble_eq_true rfl) rfl ?_
        refine v_iload (pc := 147) X 11 dL_areHandsSo_147 rfl ?_
        refine v_iload (pc := 149) X 0 dL_areHandsSo_149 rfl ?_
        refine dj_e hf (Vat := fun v24 h25 => V p l e (headSpec (wM yL_areHandsSo cL_areHandsSo 15 (some .boolean)) ({ frames := 5, cells := 2, slots := 12, locals := 111 } : Room)).room s0 m args below meth c (MQ below (QAI D cA L0 s0.heap.size K) args s0 2 12 (fun q => q ∈ L0 ∨ s0.heap.size ≤ q)) (fun q => q ∈ L0 ∨ s0.heap.size ≤ q) 2 12 D cA L sh 15 h25 159 [(13, .int v21), (12, .int r17), (11, .int r15), (10, .int r12), (0, .ref x0), (1, .int x1), (2, .int x2), (3, .ref x3), (4, .ref x4), (5, .int x5), (6, .int x6), (7, .int s.1), (8, .int s.2.1), (9, .int s.2.2)] [.int v24, .int s.1]) (fun v24 h25 hf => ?_) (fun J26 hJ26 hf => ?_)
        · refine v_iadd (pc := 159) X dL_areHandsSo_159 ?_
          refine v_istore (pc := 160) X (i := 7) (lv' := [(7, .int (s.1 + v24)), (13, .int v21), (12, .int r17), (11, .int r15), (10, .int r12), (0, .ref x0), (1, .int x1), (2, .int x2), (3, .ref x3), (4, .ref x4), (5, .int x5), (6, .int x6), (8, .int s.2.1), (9, .int s.2.2)]) dL_areHandsSo_160 (Nat.le_of_ble_eq_true rfl) rfl ?_
          refine v_iload (pc := 162) X 12 dL_areHandsSo_162 rfl ?_
          refine dj_e hf (Vat := fun v27 h28 => V p l e (headSpec (wM yL_areHandsSo cL_areHandsSo 15 (some .boolean)) ({ frames := 5, cells := 2, slots := 12, locals := 111 } : Room)).room s0 m args below meth c (MQ below (QAI D cA L0 s0.heap.size K) args s0 2 12 (fun q => q ∈ L0 ∨ s0.heap.size ≤ q)) (fun q => q ∈ L0 ∨ s0.heap.size ≤ q) 2 12 D cA L sh 15 h28 177 [(7, .int (s.1 + v24)), (13, .int v21), (12, .int r17), (11, .int r15), (10, .int r12), (0, .ref x0), (1, .int x1), (2, .int x2), (3, .ref x3), (4, .ref x4), (5, .int x5), (6, .int x6), (8, .int s.2.1), (9, .int s.2.2)] [.int v27]) (fun v27 h28 hf => ?_) (fun J29 hJ29 hf => ?_)
          · refine v_istore (pc := 177) X (i := 8) (lv' := [(8, .int v27), (7, .int (s.1 + v24)), (13, .int v21), (12, .int r17), (11, .int r15), (10, .int r12), (0, .ref x0), (1, .int x1), (2, .int x2), (3, .ref x3), (4, .ref x4), (5, .int x5), (6, .int x6), (9, .int s.2.2)]) dL_areHandsSo_177 (Nat.le_of_ble_eq_true rfl) rfl ?_
            refine v_aload_n (pc := 179) X 9 dL_areHandsSo_179 rfl rfl ?_
            refine v_iload (pc := 180) X 5 dL_areHandsSo_180 rfl ?_
            refine v_dup2 (pc := 182) X dL_areHandsSo_182 rfl rfl ?_
            obtain ⟨t32, hf⟩ := hf
            obtain ⟨b31, v30, e_v30, hf⟩ := hf
            refine v_iald (pc := 183) X t32 b31 e_v30 dL_areHandsSo_183 ?_
            refine v_iload (pc := 184) X 2 dL_areHandsSo_184 rfl ?_
            refine dj_e hf (Vat := fun v33 h34 => V p l e (headSpec (wM yL_areHandsSo cL_areHandsSo 15 (some .boolean)) ({ frames := 5, cells := 2, slots := 12, locals := 111 } : Room)).room s0 m args below meth c (MQ below (QAI D cA L0 s0.heap.size K) args s0 2 12 (fun q => q ∈ L0 ∨ s0.heap.size ≤ q)) (fun q => q ∈ L0 ∨ s0.heap.size ≤ q) 2 12 D cA L sh 15 h34 194 [(8, .int v27), (7, .int (s.1 + v24)), (13, .int v21), (12, .int r17), (11, .int r15), (10, .int r12), (0, .ref x0), (1, .int x1), (2, .int x2), (3, .ref x3), (4, .ref x4), (5, .int x5), (6, .int x6), (9, .int s.2.2)] [.int v33, .int v30, .int r12, .ref x3]) (fun v33 h34 hf => ?_) (fun J35 hJ35 hf => ?_)
            · refine v_iadd (pc := 194) X dL_areHandsSo_194 ?_
              obtain ⟨b37, h36, e_h36, hf⟩ := hf
              refine v_iast (pc := 195) X t32 b37 e_h36 dL_areHandsSo_195 ?_
              refine v_aload (pc := 196) X 10 dL_areHandsSo_196 rfl ?_
              refine v_iload (pc := 198) X 5 dL_areHandsSo_198 rfl ?_
              refine v_iload (pc := 200) X 3 dL_areHandsSo_200 rfl ?_
              refine dj_e hf (Vat := fun v38 h39 => V p l e (headSpec (wM yL_areHandsSo cL_areHandsSo 15 (some .boolean)) ({ frames := 5, cells := 2, slots := 12, locals := 111 } : Room)).room s0 m args below meth c (MQ below (QAI D cA L0 s0.heap.size K) args s0 2 12 (fun q => q ∈ L0 ∨ s0.heap.size ≤ q)) (fun q => q ∈ L0 ∨ s0.heap.size ≤ q) 2 12 D cA L sh 15 h39 225 [(8, .int v27), (7, .int (s.1 + v24)), (13, .int v21), (12, .int r17), (11, .int r15), (10, .int r12), (0, .ref x0), (1, .int x1), (2, .int x2), (3, .ref x3), (4, .ref x4), (5, .int x5), (6, .int x6), (9, .int s.2.2)] [.int v38, .int r12, .ref x4]) (fun v38 h39 hf => ?_) (fun J40 hJ40 hf => ?_)
              · obtain ⟨t51, hf⟩ := hf
                obtain ⟨b50, h49, e_h49, hf⟩ := hf
                refine v_iast (pc := 225) X t51 b50 e_h49 dL_areHandsSo_225 ?_
                refine v_iload (pc := 226) X 3 dL_areHandsSo_226 rfl ?_
                refine dj_e hf (Vat := fun v52 h53 => V p l e (headSpec (wM yL_areHandsSo cL_areHandsSo 15 (some .boolean)) ({ frames := 5, cells := 2, slots := 12, locals := 111 } : Room)).room s0 m args below meth c (MQ below (QAI D cA L0 s0.heap.size K) args s0 2 12 (fun q => q ∈ L0 ∨ s0.heap.size ≤ q)) (fun q => q ∈ L0 ∨ s0.heap.size ≤ q) 2 12 D cA L sh 15 h53 350 [(8, .int v27), (7, .int (s.1 + v24)), (13, .int v21), (12, .int r17), (11, .int r15), (10, .int r12), (0, .ref x0), (1, .int x1), (2, .int x2), (3, .ref x3), (4, .ref x4), (5, .int x5), (6, .int x6), (9, .int s.2.2)] [.int v52]) (fun v52 h53 hf => ?_) (fun J54 hJ54 hf => ?_)
                · refine v_istore (pc := 350) X (i := 14) (lv' := [(14, .int v52), (8, .int v27), (7, .int (s.1 + v24)), (13, .int v21), (12, .int r17), (11, .int r15), (10, .int r12), (0, .ref x0), (1, .int x1), (2, .int x2), (3, .ref x3), (4, .ref x4), (5, .int x5), (6, .int x6), (9, .int s.2.2)]) dL_areHandsSo_350 (Nat.le_of_ble_eq_true rfl) rfl ?_
                  refine v_iload (pc := 352) X 0 dL_areHandsSo_352 rfl ?_
                  refine v_if_ne (pc := 354) X 359 dL_areHandsSo_354 (by decide) (fun cq => ?_) (fun cq => ?_)
                  · replace hf := if_f cq hf
                    refine v_iinc (pc := 359) X 14 (v := s.2.2 + (1 : Int32)) (lv' := [(9, .int (s.2.2 + (1 : Int32))), (14, .int v52), (8, .int v27), (7, .int (s.1 + v24)), (13, .int v21), (12, .int r17), (11, .int r15), (10, .int r12), (0, .ref x0), (1, .int x1), (2, .int x2), (3, .ref x3), (4, .ref x4), (5, .int x5), (6, .int x6)]) dL_areHandsSo_359 rfl rfl (Nat.le_of_ble_eq_true rfl) rfl ?_
                    refine v_goto (pc := 362) X 87 dL_areHandsSo_362 (by decide) ?_
                    refine v_sub [8, 9, 10, 11, 12, 13, 14, 3, 2, 0] rfl ?_
                    exact ih (s.1 + v24, v27, s.2.2 + (1 : Int32)) h53 hf
                  · replace hf := if_t cq hf
                    refine v_iconst (pc := 357) X (v := (0 : Int32)) dL_areHandsSo_357 (by decide) ?_
                    exact v_zretA (pc := 358) X hr hlk dL_areHandsSo_358 (by decide) hf
                · refine v_if_lt (pc := 228) X 349 dL_areHandsSo_228 (by decide) (fun cq => ?_) (fun cq => ?_)
                  · replace hf := if_t cq hf
                    refine v_iconst (pc := 349) X (v := (0 : Int32)) dL_areHandsSo_349 (by decide) ?_
                    exact hJ54 (0 : Int32) h49 hf
                  · replace hf := if_f cq hf
                    refine v_iload (pc := 231) X 3 dL_areHandsSo_231 rfl ?_
                    refine v_if_gt (pc := 233) X 241 dL_areHandsSo_233 (by decide) (fun cq => ?_) (fun cq => ?_)
                    · replace hf := if_t cq hf
                      refine v_iload (pc := 241) X 4 dL_areHandsSo_241 rfl ?_
                      refine v_aload_n (pc := 243) X 6 dL_areHandsSo_243 rfl rfl ?_
                      refine v_iload (pc := 244) X 5 dL_areHandsSo_244 rfl ?_
                      refine v_iconst (pc := 246) X (v := (0 : Int32)) dL_areHandsSo_246 (by decide) ?_
                      refine v_callVI (pc := 247) X (As := [.int r12, .int (0 : Int32)]) (rest := [.int r15]) (c_X5_tableOf l D cA L sh x0 r12 (0 : Int32) h49 _ hf) (cwV 2 X.ht (gwV inM q_193 q_194 q_195 q_1 q_196) rfl rfl rfl (by decide +kernel) ⟨Nat.le_of_ble_eq_true rfl, Nat.le_of_ble_eq_true rfl⟩) rfl (by decide) t14 (ent_5 t14) rfl rfl (Nat.le_of_ble_eq_true rfl) ⟨Nat.le_of_ble_eq_true rfl, Nat.le_of_ble_eq_true rfl⟩ dL_areHandsSo_247 (fun r55 h56 hf => ?_)
                      refine v_icmp_gt (pc := 250) X 349 dL_areHandsSo_250 (by decide) (fun cq => ?_) (fun cq => ?_)
                      · replace hf := if_t cq hf
                        refine v_iconst (pc := 349) X (v := (0 : Int32)) dL_areHandsSo_349 (by decide) ?_
                        exact hJ54 (0 : Int32) h56 hf
                      · replace hf := if_f cq hf
                        refine v_iload (pc := 253) X 4 dL_areHandsSo_253 rfl ?_
                        refine v_aload_n (pc := 255) X 6 dL_areHandsSo_255 rfl rfl ?_
                        refine v_iload (pc := 256) X 5 dL_areHandsSo_256 rfl ?_
                        refine v_iconst (pc := 258) X (v := (0 : Int32)) dL_areHandsSo_258 (by decide) ?_
                        refine v_callVI (pc := 259) X (As := [.int r12, .int (0 : Int32)]) (rest := [.int r15]) (c_X5_tableOf l D cA L sh x0 r12 (0 : Int32) h56 _ hf) (cwV 2 X.ht (gwV inM q_193 q_194 q_195 q_1 q_196) rfl rfl rfl (by decide +kernel) ⟨Nat.le_of_ble_eq_true rfl, Nat.le_of_ble_eq_true rfl⟩) rfl (by decide) t14 (ent_5 t14) rfl rfl (Nat.le_of_ble_eq_true rfl) ⟨Nat.le_of_ble_eq_true rfl, Nat.le_of_ble_eq_true rfl⟩ dL_areHandsSo_259 (fun r57 h58 hf => ?_)
                        refine v_icmp_lt (pc := 262) X 284 dL_areHandsSo_262 (by decide) (fun cq => ?_) (fun cq => ?_)
                        · replace hf := if_t cq hf
                          refine v_aload_n (pc := 284) X 6 dL_areHandsSo_284 rfl rfl ?_
                          refine v_iload (pc := 285) X 11 dL_areHandsSo_285 rfl ?_
                          refine v_iload (pc := 287) X 13 dL_areHandsSo_287 rfl ?_
                          refine v_iconst (pc := 289) X (v := (4 : Int32)) dL_areHandsSo_289 (by decide) ?_
                          refine v_callVI (pc := 290) X (As := [.int x5, .int s.2.2, .int (4 : Int32)]) (rest := []) (c_X5_entry l D cA L sh x0 x5 s.2.2 (4 : Int32) h58 _ hf) (cwV 3 X.ht (gwV inM q_396 q_397 q_398 q_1 q_399) rfl rfl rfl (by decide +kernel) ⟨Nat.le_of_ble_eq_true rfl, Nat.le_of_ble_eq_true rfl⟩) rfl (by decide) t14 (ent_5 t14) rfl rfl (Nat.le_of_ble_eq_true rfl) ⟨Nat.le_of_ble_eq_true rfl, Nat.le_of_ble_eq_true rfl⟩ dL_areHandsSo_290 (fun r59 h60 hf => ?_)
                          refine v_aload_n (pc := 293) X 6 dL_areHandsSo_293 rfl rfl ?_
                          refine v_iconst (pc := 294) X (v := (2 : Int32)) dL_areHandsSo_294 (by decide) ?_
                          refine v_callVI (pc := 295) X (As := [.int (2 : Int32)]) (rest := [.int r59]) (c_X5_count l D cA L sh x0 (2 : Int32) h60 _ hf) (cwV 1 X.ht (gwV inM q_218 q_219 q_220 q_1 q_221) rfl rfl rfl (by decide +kernel) ⟨Nat.le_of_ble_eq_true rfl, Nat.le_of_ble_eq_true rfl⟩) rfl (by decide) t14 (ent_5 t14) rfl rfl (Nat.le_of_ble_eq_true rfl) ⟨Nat.le_of_ble_eq_true rfl, Nat.le_of_ble_eq_true rfl⟩ dL_areHandsSo_295 (fun r61 h62 hf => ?_)
                          refine v_icmp_ge (pc := 298) X 349 dL_areHandsSo_298 (by decide) (fun cq => ?_) (fun cq => ?_)
                          · replace hf := if_t cq hf
                            refine v_iconst (pc := 349) X (v := (0 : Int32)) dL_areHandsSo_349 (by decide) ?_
                            exact hJ54 (0 : Int32) h62 hf
                          · replace hf := if_f cq hf
                            refine v_iload (pc := 301) X 13 dL_areHandsSo_301 rfl ?_
                            refine v_if_eq (pc := 303) X 345 dL_areHandsSo_303 (by decide) (fun cq => ?_) (fun cq => ?_)
                            · replace hf := if_t cq hf
                              refine v_iconst (pc := 345) X (v := (1 : Int32)) dL_areHandsSo_345 (by decide) ?_
                              refine v_goto (pc := 346) X 350 dL_areHandsSo_346 (by decide) ?_
                              exact hJ54 (1 : Int32) h62 hf
                            · replace hf := if_f cq hf
                              refine v_sipush (pc := 306) X (v := (1000 : Int32)) dL_areHandsSo_306 (by decide) ?_
                              refine v_iload (pc := 309) X 5 dL_areHandsSo_309 rfl ?_
                              refine v_imul (pc := 311) X dL_areHandsSo_311 ?_
                              refine v_iload (pc := 312) X 4 dL_areHandsSo_312 rfl ?_
                              refine v_iadd (pc := 314) X dL_areHandsSo_314 ?_
                              refine v_sipush (pc := 315) X (v := (1000 : Int32)) dL_areHandsSo_315 (by decide) ?_
                              refine v_aload_n (pc := 318) X 6 dL_areHandsSo_318 rfl rfl ?_
                              refine v_iload (pc := 319) X 11 dL_areHandsSo_319 rfl ?_
                              refine v_iload (pc := 321) X 13 dL_areHandsSo_321 rfl ?_
                              refine v_iconst (pc := 323) X (v := (1 : Int32)) dL_areHandsSo_323 (by decide) ?_
                              refine v_isub (pc := 324) X dL_areHandsSo_324 ?_
                              refine v_iconst (pc := 325) X (v := (0 : Int32)) dL_areHandsSo_325 (by decide) ?_
                              refine v_callVI (pc := 326) X (As := [.int x5, .int (s.2.2 - (1 : Int32)), .int (0 : Int32)]) (rest := [.int (1000 : Int32), .int (((1000 : Int32) * r12) + r15)]) (c_X5_entry l D cA L sh x0 x5 (s.2.2 - (1 : Int32)) (0 : Int32) h62 _ hf) (cwV 3 X.ht (gwV inM q_396 q_397 q_398 q_1 q_399) rfl rfl rfl (by decide +kernel) ⟨Nat.le_of_ble_eq_true rfl, Nat.le_of_ble_eq_true rfl⟩) rfl (by decide) t14 (ent_5 t14) rfl rfl (Nat.le_of_ble_eq_true rfl) ⟨Nat.le_of_ble_eq_true rfl, Nat.le_of_ble_eq_true rfl⟩ dL_areHandsSo_326 (fun r63 h64 hf => ?_)
                              refine v_imul (pc := 329) X dL_areHandsSo_329 ?_
                              refine v_aload_n (pc := 330) X 6 dL_areHandsSo_330 rfl rfl ?_
                              refine v_iload (pc := 331) X 11 dL_areHandsSo_331 rfl ?_
                              refine v_iload (pc := 333) X 13 dL_areHandsSo_333 rfl ?_
                              refine v_iconst (pc := 335) X (v := (1 : Int32)) dL_areHandsSo_335 (by decide) ?_
                              refine v_isub (pc := 336) X dL_areHandsSo_336 ?_
                              refine v_iconst (pc := 337) X (v := (1 : Int32)) dL_areHandsSo_337 (by decide) ?_
                              refine v_callVI (pc := 338) X (As := [.int x5, .int (s.2.2 - (1 : Int32)), .int (1 : Int32)]) (rest := [.int ((1000 : Int32) * r63), .int (((1000 : Int32) * r12) + r15)]) (c_X5_entry l D cA L sh x0 x5 (s.2.2 - (1 : Int32)) (1 : Int32) h64 _ hf) (cwV 3 X.ht (gwV inM q_396 q_397 q_398 q_1 q_399) rfl rfl rfl (by decide +kernel) ⟨Nat.le_of_ble_eq_true rfl, Nat.le_of_ble_eq_true rfl⟩) rfl (by decide) t14 (ent_5 t14) rfl rfl (Nat.le_of_ble_eq_true rfl) ⟨Nat.le_of_ble_eq_true rfl, Nat.le_of_ble_eq_true rfl⟩ dL_areHandsSo_338 (fun r65 h66 hf => ?_)
                              refine v_iadd (pc := 341) X dL_areHandsSo_341 ?_
                              refine v_icmp_le (pc := 342) X 349 dL_areHandsSo_342 (by decide) (fun cq => ?_) (fun cq => ?_)
                              · replace hf := if_t cq hf
                                refine v_iconst (pc := 349) X (v := (0 : Int32)) dL_areHandsSo_349 (by decide) ?_
                                exact hJ54 (0 : Int32) h66 hf
                              · replace hf := if_f cq hf
                                refine v_iconst (pc := 345) X (v := (1 : Int32)) dL_areHandsSo_345 (by decide) ?_
                                refine v_goto (pc := 346) X 350 dL_areHandsSo_346 (by decide) ?_
                                exact hJ54 (1 : Int32) h66 hf
                        · replace hf := if_f cq hf
                          refine v_aload_n (pc := 265) X 6 dL_areHandsSo_265 rfl rfl ?_
                          refine v_iload (pc := 266) X 11 dL_areHandsSo_266 rfl ?_
                          refine v_iload (pc := 268) X 13 dL_areHandsSo_268 rfl ?_
                          refine v_iconst (pc := 270) X (v := (2 : Int32)) dL_areHandsSo_270 (by decide) ?_
                          refine v_callVI (pc := 271) X (As := [.int x5, .int s.2.2, .int (2 : Int32)]) (rest := []) (c_X5_entry l D cA L sh x0 x5 s.2.2 (2 : Int32) h58 _ hf) (cwV 3 X.ht (gwV inM q_396 q_397 q_398 q_1 q_399) rfl rfl rfl (by decide +kernel) ⟨Nat.le_of_ble_eq_true rfl, Nat.le_of_ble_eq_true rfl⟩) rfl (by decide) t14 (ent_5 t14) rfl rfl (Nat.le_of_ble_eq_true rfl) ⟨Nat.le_of_ble_eq_true rfl, Nat.le_of_ble_eq_true rfl⟩ dL_areHandsSo_271 (fun r67 h68 hf => ?_)
                          refine v_aload_n (pc := 274) X 6 dL_areHandsSo_274 rfl rfl ?_
                          refine v_iload (pc := 275) X 5 dL_areHandsSo_275 rfl ?_
                          refine v_iconst (pc := 277) X (v := (1 : Int32)) dL_areHandsSo_277 (by decide) ?_
                          refine v_callVI (pc := 278) X (As := [.int r12, .int (1 : Int32)]) (rest := [.int r67]) (c_X5_tableOf l D cA L sh x0 r12 (1 : Int32) h68 _ hf) (cwV 2 X.ht (gwV inM q_193 q_194 q_195 q_1 q_196) rfl rfl rfl (by decide +kernel) ⟨Nat.le_of_ble_eq_true rfl, Nat.le_of_ble_eq_true rfl⟩) rfl (by decide) t14 (ent_5 t14) rfl rfl (Nat.le_of_ble_eq_true rfl) ⟨Nat.le_of_ble_eq_true rfl, Nat.le_of_ble_eq_true rfl⟩ dL_areHandsSo_278 (fun r69 h70 hf => ?_)
                          refine v_icmp_ne (pc := 281) X 349 dL_areHandsSo_281 (by decide) (fun cq => ?_) (fun cq => ?_)
                          · replace hf := if_f cq hf
                            refine v_iconst (pc := 349) X (v := (0 : Int32)) dL_areHandsSo_349 (by decide) ?_
                            exact hJ54 (0 : Int32) h70 hf
                          · replace hf := if_t cq hf
                            refine v_aload_n (pc := 284) X 6 dL_areHandsSo_284 rfl rfl ?_
                            refine v_iload (pc := 285) X 11 dL_areHandsSo_285 rfl ?_
                            refine v_iload (pc := 287) X 13 dL_areHandsSo_287 rfl ?_
                            refine v_iconst (pc := 289) X (v := (4 : Int32)) dL_areHandsSo_289 (by decide) ?_
                            refine v_callVI (pc := 290) X (As := [.int x5, .int s.2.2, .int (4 : Int32)]) (rest := []) (c_X5_entry l D cA L sh x0 x5 s.2.2 (4 : Int32) h70 _ hf) (cwV 3 X.ht (gwV inM q_396 q_397 q_398 q_1 q_399) rfl rfl rfl (by decide +kernel) ⟨Nat.le_of_ble_eq_true rfl, Nat.le_of_ble_eq_true rfl⟩) rfl (by decide) t14 (ent_5 t14) rfl rfl (Nat.le_of_ble_eq_true rfl) ⟨Nat.le_of_ble_eq_true rfl, Nat.le_of_ble_eq_true rfl⟩ dL_areHandsSo_290 (fun r71 h72 hf => ?_)
                            refine v_aload_n (pc := 293) X 6 dL_areHandsSo_293 rfl rfl ?_
                            refine v_iconst (pc := 294) X (v := (2 : Int32)) dL_areHandsSo_294 (by decide) ?_
                            refine v_callVI (pc := 295) X (As := [.int (2 : Int32)]) (rest := [.int r71]) (c_X5_count l D cA L sh x0 (2 : Int32) h72 _ hf) (cwV 1 X.ht (gwV inM q_218 q_219 q_220 q_1 q_221) rfl rfl rfl (by decide +kernel) ⟨Nat.le_of_ble_eq_true rfl, Nat.le_of_ble_eq_true rfl⟩) rfl (by decide) t14 (ent_5 t14) rfl rfl (Nat.le_of_ble_eq_true rfl) ⟨Nat.le_of_ble_eq_true rfl, Nat.le_of_ble_eq_true rfl⟩ dL_areHandsSo_295 (fun r73 h74 hf => ?_)
                            refine v_icmp_ge (pc := 298) X 349 dL_areHandsSo_298 (by decide) (fun cq => ?_) (fun cq => ?_)
                            · replace hf := if_t cq hf
                              refine v_iconst (pc := 349) X (v := (0 : Int32)) dL_areHandsSo_349 (by decide) ?_
                              exact hJ54 (0 : Int32) h74 hf
                            · replace hf := if_f cq hf
                              refine v_iload (pc := 301) X 13 dL_areHandsSo_301 rfl ?_
                              refine v_if_eq (pc := 303) X 345 dL_areHandsSo_303 (by decide) (fun cq => ?_) (fun cq => ?_)
                              · replace hf := if_t cq hf
                                refine v_iconst (pc := 345) X (v := (1 : Int32)) dL_areHandsSo_345 (by decide) ?_
                                refine v_goto (pc := 346) X 350 dL_areHandsSo_346 (by decide) ?_
                                exact hJ54 (1 : Int32) h74 hf
                              · replace hf := if_f cq hf
                                refine v_sipush (pc := 306) X (v := (1000 : Int32)) dL_areHandsSo_306 (by decide) ?_
                                refine v_iload (pc := 309) X 5 dL_areHandsSo_309 rfl ?_
                                refine v_imul (pc := 311) X dL_areHandsSo_311 ?_
                                refine v_iload (pc := 312) X 4 dL_areHandsSo_312 rfl ?_
                                refine v_iadd (pc := 314) X dL_areHandsSo_314 ?_
                                refine v_sipush (pc := 315) X (v := (1000 : Int32)) dL_areHandsSo_315 (by decide) ?_
                                refine v_aload_n (pc := 318) X 6 dL_areHandsSo_318 rfl rfl ?_
                                refine v_iload (pc := 319) X 11 dL_areHandsSo_319 rfl ?_
                                refine v_iload (pc := 321) X 13 dL_areHandsSo_321 rfl ?_
                                refine v_iconst (pc := 323) X (v := (1 : Int32)) dL_areHandsSo_323 (by decide) ?_
                                refine v_isub (pc := 324) X dL_areHandsSo_324 ?_
                                refine v_iconst (pc := 325) X (v := (0 : Int32)) dL_areHandsSo_325 (by decide) ?_
                                refine v_callVI (pc := 326) X (As := [.int x5, .int (s.2.2 - (1 : Int32)), .int (0 : Int32)]) (rest := [.int (1000 : Int32), .int (((1000 : Int32) * r12) + r15)]) (c_X5_entry l D cA L sh x0 x5 (s.2.2 - (1 : Int32)) (0 : Int32) h74 _ hf) (cwV 3 X.ht (gwV inM q_396 q_397 q_398 q_1 q_399) rfl rfl rfl (by decide +kernel) ⟨Nat.le_of_ble_eq_true rfl, Nat.le_of_ble_eq_true rfl⟩) rfl (by decide) t14 (ent_5 t14) rfl rfl (Nat.le_of_ble_eq_true rfl) ⟨Nat.le_of_ble_eq_true rfl, Nat.le_of_ble_eq_true rfl⟩ dL_areHandsSo_326 (fun r75 h76 hf => ?_)
                                refine v_imul (pc := 329) X dL_areHandsSo_329 ?_
                                refine v_aload_n (pc := 330) X 6 dL_areHandsSo_330 rfl rfl ?_
                                refine v_iload (pc := 331) X 11 dL_areHandsSo_331 rfl ?_
                                refine v_iload (pc := 333) X 13 dL_areHandsSo_333 rfl ?_
                                refine v_iconst (pc := 335) X (v := (1 : Int32)) dL_areHandsSo_335 (by decide) ?_
                                refine v_isub (pc := 336) X dL_areHandsSo_336 ?_
                                refine v_iconst (pc := 337) X (v := (1 : Int32)) dL_areHandsSo_337 (by decide) ?_
                                refine v_callVI (pc := 338) X (As := [.int x5, .int (s.2.2 - (1 : Int32)), .int (1 : Int32)]) (rest := [.int ((1000 : Int32) * r75), .int (((1000 : Int32) * r12) + r15)]) (c_X5_entry l D cA L sh x0 x5 (s.2.2 - (1 : Int32)) (1 : Int32) h76 _ hf) (cwV 3 X.ht (gwV inM q_396 q_397 q_398 q_1 q_399) rfl rfl rfl (by decide +kernel) ⟨Nat.le_of_ble_eq_true rfl, Nat.le_of_ble_eq_true rfl⟩) rfl (by decide) t14 (ent_5 t14) rfl rfl (Nat.le_of_ble_eq_true rfl) ⟨Nat.le_of_ble_eq_true rfl, Nat.le_of_ble_eq_true rfl⟩ dL_areHandsSo_338 (fun r77 h78 hf => ?_)
                                refine v_iadd (pc := 341) X dL_areHandsSo_341 ?_
                                refine v_icmp_le (pc := 342) X 349 dL_areHandsSo_342 (by decide) (fun cq => ?_) (fun cq => ?_)
                                · replace hf := if_t cq hf
                                  refine v_iconst (pc := 349) X (v := (0 : Int32)) dL_areHandsSo_349 (by decide) ?_
                                  exact hJ54 (0 : Int32) h78 hf
                                · replace hf := if_f cq hf
                                  refine v_iconst (pc := 345) X (v := (1 : Int32)) dL_areHandsSo_345 (by decide) ?_
                                  refine v_goto (pc := 346) X 350 dL_areHandsSo_346 (by decide) ?_
                                  exact hJ54 (1 : Int32) h78 hf
                    · replace hf := if_f cq hf
                      refine v_iload (pc := 236) X 2 dL_areHandsSo_236 rfl ?_
                      refine v_if_ne (pc := 238) X 349 dL_areHandsSo_238 (by decide) (fun cq => ?_) (fun cq => ?_)
                      · replace hf := if_f cq hf
                        refine v_iconst (pc := 349) X (v := (0 : Int32)) dL_areHandsSo_349 (by decide) ?_
                        exact hJ54 (0 : Int32) h49 hf
                      · replace hf := if_t cq hf
                        refine v_iload (pc := 241) X 4 dL_areHandsSo_241 rfl ?_
                        refine v_aload_n (pc := 243) X 6 dL_areHandsSo_243 rfl rfl ?_
                        refine v_iload (pc := 244) X 5 dL_areHandsSo_244 rfl ?_
                        refine v_iconst (pc := 246) X (v := (0 : Int32)) dL_areHandsSo_246 (by decide) ?_
                        refine v_callVI (pc := 247) X (As := [.int r12, .int (0 : Int32)]) (rest := [.int r15]) (c_X5_tableOf l D cA L sh x0 r12 (0 : Int32) h49 _ hf) (cwV 2 X.ht (gwV inM q_193 q_194 q_195 q_1 q_196) rfl rfl rfl (by decide +kernel) ⟨Nat.le_of_ble_eq_true rfl, Nat.le_of_ble_eq_true rfl⟩) rfl (by decide) t14 (ent_5 t14) rfl rfl (Nat.le_of_ble_eq_true rfl) ⟨Nat.le_of_ble_eq_true rfl, Nat.le_of_ble_eq_true rfl⟩ dL_areHandsSo_247 (fun r79 h80 hf => ?_)
                        refine v_icmp_gt (pc := 250) X 349 dL_areHandsSo_250 (by decide) (fun cq => ?_) (fun cq => ?_)
                        · replace hf := if_t cq hf
                          refine v_iconst (pc := 349) X (v := (0 : Int32)) dL_areHandsSo_349 (by decide) ?_
                          exact hJ54 (0 : Int32) h80 hf
                        · replace hf := if_f cq hf
                          refine v_iload (pc := 253) X 4 dL_areHandsSo_253 rfl ?_
                          refine v_aload_n (pc := 255) X 6 dL_areHandsSo_255 rfl rfl ?_
                          refine v_iload (pc := 256) X 5 dL_areHandsSo_256 rfl ?_
                          refine v_iconst (pc := 258) X (v := (0 : Int32)) dL_areHandsSo_258 (by decide) ?_
                          refine v_callVI (pc := 259) X (As := [.int r12, .int (0 : Int32)]) (rest := [.int r15]) (c_X5_tableOf l D cA L sh x0 r12 (0 : Int32) h80 _ hf) (cwV 2 X.ht (gwV inM q_193 q_194 q_195 q_1 q_196) rfl rfl rfl (by decide +kernel) ⟨Nat.le_of_ble_eq_true rfl, Nat.le_of_ble_eq_true rfl⟩) rfl (by decide) t14 (ent_5 t14) rfl rfl (Nat.le_of_ble_eq_true rfl) ⟨Nat.le_of_ble_eq_true rfl, Nat.le_of_ble_eq_true rfl⟩ dL_areHandsSo_259 (fun r81 h82 hf => ?_)
                          refine v_icmp_lt (pc := 262) X 284 dL_areHandsSo_262 (by decide) (fun cq => ?_) (fun cq => ?_)
                          · replace hf := if_t cq hf
                            refine v_aload_n (pc := 284) X 6 dL_areHandsSo_284 rfl rfl ?_
                            refine v_iload (pc := 285) X 11 dL_areHandsSo_285 rfl ?_
                            refine v_iload (pc := 287) X 13 dL_areHandsSo_287 rfl ?_
                            refine v_iconst (pc := 289) X (v := (4 : Int32)) dL_areHandsSo_289 (by decide) ?_
                            refine v_callVI (pc := 290) X (As := [.int x5, .int s.2.2, .int (4 : Int32)]) (rest := []) (c_X5_entry l D cA L sh x0 x5 s.2.2 (4 : Int32) h82 _ hf) (cwV 3 X.ht (gwV inM q_396 q_397 q_398 q_1 q_399) rfl rfl rfl (by decide +kernel) ⟨Nat.le_of_ble_eq_true rfl, Nat.le_of_ble_eq_true rfl⟩) rfl (by decide) t14 (ent_5 t14) rfl rfl (Nat.le_of_ble_eq_true rfl) ⟨Nat.le_of_ble_eq_true rfl, Nat.le_of_ble_eq_true rfl⟩ dL_areHandsSo_290 (fun r83 h84 hf => ?_)
                            refine v_aload_n (pc := 293) X 6 dL_areHandsSo_293 rfl rfl ?_
                            refine v_iconst (pc := 294) X (v := (2 : Int32)) dL_areHandsSo_294 (by decide) ?_
                            refine v_callVI (pc := 295) X (As := [.int (2 : Int32)]) (rest := [.int r83]) (c_X5_count l D cA L sh x0 (2 : Int32) h84 _ hf) (cwV 1 X.ht (gwV inM q_218 q_219 q_220 q_1 q_221) rfl rfl rfl (by decide +kernel) ⟨Nat.le_of_ble_eq_true rfl, Nat.le_of_ble_eq_true rfl⟩) rfl (by decide) t14 (ent_5 t14) rfl rfl (Nat.le_of_ble_eq_true rfl) ⟨Nat.le_of_ble_eq_true rfl, Nat.le_of_ble_eq_true rfl⟩ dL_areHandsSo_295 (fun r85 h86 hf => ?_)
                            refine v_icmp_ge (pc := 298) X 349 dL_areHandsSo_298 (by decide) (fun cq => ?_) (fun cq => ?_)
                            · replace hf := if_t cq hf
                              refine v_iconst (pc := 349) X (v := (0 : Int32)) dL_areHandsSo_349 (by decide) ?_
                              exact hJ54 (0 : Int32) h86 hf
                            · replace hf := if_f cq hf
                              refine v_iload (pc := 301) X 13 dL_areHandsSo_301 rfl ?_
                              refine v_if_eq (pc := 303) X 345 dL_areHandsSo_303 (by decide) (fun cq => ?_) (fun cq => ?_)
                              · replace hf := if_t cq hf
                                refine v_iconst (pc := 345) X (v := (1 : Int32)) dL_areHandsSo_345 (by decide) ?_
                                refine v_goto (pc := 346) X 350 dL_areHandsSo_346 (by decide) ?_
                                exact hJ54 (1 : Int32) h86 hf
                              · replace hf := if_f cq hf
                                refine v_sipush (pc := 306) X (v := (1000 : Int32)) dL_areHandsSo_306 (by decide) ?_
                                refine v_iload (pc := 309) X 5 dL_areHandsSo_309 rfl ?_
                                refine v_imul (pc := 311) X dL_areHandsSo_311 ?_
                                refine v_iload (pc := 312) X 4 dL_areHandsSo_312 rfl ?_
                                refine v_iadd (pc := 314) X dL_areHandsSo_314 ?_
                                refine v_sipush (pc := 315) X (v := (1000 : Int32)) dL_areHandsSo_315 (by decide) ?_
                                refine v_aload_n (pc := 318) X 6 dL_areHandsSo_318 rfl rfl ?_
                                refine v_iload (pc := 319) X 11 dL_areHandsSo_319 rfl ?_
                                refine v_iload (pc := 321) X 13 dL_areHandsSo_321 rfl ?_
                                refine v_iconst (pc := 323) X (v := (1 : Int32)) dL_areHandsSo_323 (by decide) ?_
                                refine v_isub (pc := 324) X dL_areHandsSo_324 ?_
                                refine v_iconst (pc := 325) X (v := (0 : Int32)) dL_areHandsSo_325 (by decide) ?_
                                refine v_callVI (pc := 326) X (As := [.int x5, .int (s.2.2 - (1 : Int32)), .int (0 : Int32)]) (rest := [.int (1000 : Int32), .int (((1000 : Int32) * r12) + r15)]) (c_X5_entry l D cA L sh x0 x5 (s.2.2 - (1 : Int32)) (0 : Int32) h86 _ hf) (cwV 3 X.ht (gwV inM q_396 q_397 q_398 q_1 q_399) rfl rfl rfl (by decide +kernel) ⟨Nat.le_of_ble_eq_true rfl, Nat.le_of_ble_eq_true rfl⟩) rfl (by decide) t14 (ent_5 t14) rfl rfl (Nat.le_of_ble_eq_true rfl) ⟨Nat.le_of_ble_eq_true rfl, Nat.le_of_ble_eq_true rfl⟩ dL_areHandsSo_326 (fun r87 h88 hf => ?_)
                                refine v_imul (pc := 329) X dL_areHandsSo_329 ?_
                                refine v_aload_n (pc := 330) X 6 dL_areHandsSo_330 rfl rfl ?_
                                refine v_iload (pc := 331) X 11 dL_areHandsSo_331 rfl ?_
                                refine v_iload (pc := 333) X 13 dL_areHandsSo_333 rfl ?_
                                refine v_iconst (pc := 335) X (v := (1 : Int32)) dL_areHandsSo_335 (by decide) ?_
                                refine v_isub (pc := 336) X dL_areHandsSo_336 ?_
                                refine v_iconst (pc := 337) X (v := (1 : Int32)) dL_areHandsSo_337 (by decide) ?_
                                refine v_callVI (pc := 338) X (As := [.int x5, .int (s.2.2 - (1 : Int32)), .int (1 : Int32)]) (rest := [.int ((1000 : Int32) * r87), .int (((1000 : Int32) * r12) + r15)]) (c_X5_entry l D cA L sh x0 x5 (s.2.2 - (1 : Int32)) (1 : Int32) h88 _ hf) (cwV 3 X.ht (gwV inM q_396 q_397 q_398 q_1 q_399) rfl rfl rfl (by decide +kernel) ⟨Nat.le_of_ble_eq_true rfl, Nat.le_of_ble_eq_true rfl⟩) rfl (by decide) t14 (ent_5 t14) rfl rfl (Nat.le_of_ble_eq_true rfl) ⟨Nat.le_of_ble_eq_true rfl, Nat.le_of_ble_eq_true rfl⟩ dL_areHandsSo_338 (fun r89 h90 hf => ?_)
                                refine v_iadd (pc := 341) X dL_areHandsSo_341 ?_
                                refine v_icmp_le (pc := 342) X 349 dL_areHandsSo_342 (by decide) (fun cq => ?_) (fun cq => ?_)
                                · replace hf := if_t cq hf
                                  refine v_iconst (pc := 349) X (v := (0 : Int32)) dL_areHandsSo_349 (by decide) ?_
                                  exact hJ54 (0 : Int32) h90 hf
                                · replace hf := if_f cq hf
                                  refine v_iconst (pc := 345) X (v := (1 : Int32)) dL_areHandsSo_345 (by decide) ?_
                                  refine v_goto (pc := 346) X 350 dL_areHandsSo_346 (by decide) ?_
                                  exact hJ54 (1 : Int32) h90 hf
                          · replace hf := if_f cq hf
                            refine v_aload_n (pc := 265) X 6 dL_areHandsSo_265 rfl rfl ?_
                            refine v_iload (pc := 266) X 11 dL_areHandsSo_266 rfl ?_
                            refine v_iload (pc := 268) X 13 dL_areHandsSo_268 rfl ?_
                            refine v_iconst (pc := 270) X (v := (2 : Int32)) dL_areHandsSo_270 (by decide) ?_
                            refine v_callVI (pc := 271) X (As := [.int x5, .int s.2.2, .int (2 : Int32)]) (rest := []) (c_X5_entry l D cA L sh x0 x5 s.2.2 (2 : Int32) h82 _ hf) (cwV 3 X.ht (gwV inM q_396 q_397 q_398 q_1 q_399) rfl rfl rfl (by decide +kernel) ⟨Nat.le_of_ble_eq_true rfl, Nat.le_of_ble_eq_true rfl⟩) rfl (by decide) t14 (ent_5 t14) rfl rfl (Nat.le_of_ble_eq_true rfl) ⟨Nat.le_of_ble_eq_true rfl, Nat.le_of_ble_eq_true rfl⟩ dL_areHandsSo_271 (fun r91 h92 hf => ?_)
                            refine v_aload_n (pc := 274) X 6 dL_areHandsSo_274 rfl rfl ?_
                            refine v_iload (pc := 275) X 5 dL_areHandsSo_275 rfl ?_
                            refine v_iconst (pc := 277) X (v := (1 : Int32)) dL_areHandsSo_277 (by decide) ?_
                            refine v_callVI (pc := 278) X (As := [.int r12, .int (1 : Int32)]) (rest := [.int r91]) (c_X5_tableOf l D cA L sh x0 r12 (1 : Int32) h92 _ hf) (cwV 2 X.ht (gwV inM q_193 q_194 q_195 q_1 q_196) rfl rfl rfl (by decide +kernel) ⟨Nat.le_of_ble_eq_true rfl, Nat.le_of_ble_eq_true rfl⟩) rfl (by decide) t14 (ent_5 t14) rfl rfl (Nat.le_of_ble_eq_true rfl) ⟨Nat.le_of_ble_eq_true rfl, Nat.le_of_ble_eq_true rfl⟩ dL_areHandsSo_278 (fun r93 h94 hf => ?_)
                            refine v_icmp_ne (pc := 281) X 349 dL_areHandsSo_281 (by decide) (fun cq => ?_) (fun cq => ?_)
                            · replace hf := if_f cq hf
                              refine v_iconst (pc := 349) X (v := (0 : Int32)) dL_areHandsSo_349 (by decide) ?_
                              exact hJ54 (0 : Int32) h94 hf
                            · replace hf := if_t cq hf
                              refine v_aload_n (pc := 284) X 6 dL_areHandsSo_284 rfl rfl ?_
                              refine v_iload (pc := 285) X 11 dL_areHandsSo_285 rfl ?_
                              refine v_iload (pc := 287) X 13 dL_areHandsSo_287 rfl ?_
                              refine v_iconst (pc := 289) X (v := (4 : Int32)) dL_areHandsSo_289 (by decide) ?_
                              refine v_callVI (pc := 290) X (As := [.int x5, .int s.2.2, .int (4 : Int32)]) (rest := []) (c_X5_entry l D cA L sh x0 x5 s.2.2 (4 : Int32) h94 _ hf) (cwV 3 X.ht (gwV inM q_396 q_397 q_398 q_1 q_399) rfl rfl rfl (by decide +kernel) ⟨Nat.le_of_ble_eq_true rfl, Nat.le_of_ble_eq_true rfl⟩) rfl (by decide) t14 (ent_5 t14) rfl rfl (Nat.le_of_ble_eq_true rfl) ⟨Nat.le_of_ble_eq_true rfl, Nat.le_of_ble_eq_true rfl⟩ dL_areHandsSo_290 (fun r95 h96 hf => ?_)
                              refine v_aload_n (pc := 293) X 6 dL_areHandsSo_293 rfl rfl ?_
                              refine v_iconst (pc := 294) X (v := (2 : Int32)) dL_areHandsSo_294 (by decide) ?_
                              refine v_callVI (pc := 295) X (As := [.int (2 : Int32)]) (rest := [.int r95]) (c_X5_count l D cA L sh x0 (2 : Int32) h96 _ hf) (cwV 1 X.ht (gwV inM q_218 q_219 q_220 q_1 q_221) rfl rfl rfl (by decide +kernel) ⟨Nat.le_of_ble_eq_true rfl, Nat.le_of_ble_eq_true rfl⟩) rfl (by decide) t14 (ent_5 t14) rfl rfl (Nat.le_of_ble_eq_true rfl) ⟨Nat.le_of_ble_eq_true rfl, Nat.le_of_ble_eq_true rfl⟩ dL_areHandsSo_295 (fun r97 h98 hf => ?_)
                              refine v_icmp_ge (pc := 298) X 349 dL_areHandsSo_298 (by decide) (fun cq => ?_) (fun cq => ?_)
                              · replace hf := if_t cq hf
                                refine v_iconst (pc := 349) X (v := (0 : Int32)) dL_areHandsSo_349 (by decide) ?_
                                exact hJ54 (0 : Int32) h98 hf
                              · replace hf := if_f cq hf
                                refine v_iload (pc := 301) X 13 dL_areHandsSo_301 rfl ?_
                                refine v_if_eq (pc := 303) X 345 dL_areHandsSo_303 (by decide) (fun cq => ?_) (fun cq => ?_)
                                · replace hf := if_t cq hf
                                  refine v_iconst (pc := 345) X (v := (1 : Int32)) dL_areHandsSo_345 (by decide) ?_
                                  refine v_goto (pc := 346) X 350 dL_areHandsSo_346 (by decide) ?_
                                  exact hJ54 (1 : Int32) h98 hf
                                · replace hf := if_f cq hf
                                  refine v_sipush (pc := 306) X (v := (1000 : Int32)) dL_areHandsSo_306 (by decide) ?_
                                  refine v_iload (pc := 309) X 5 dL_areHandsSo_309 rfl ?_
                                  refine v_imul (pc := 311) X dL_areHandsSo_311 ?_
                                  refine v_iload (pc := 312) X 4 dL_areHandsSo_312 rfl ?_
                                  refine v_iadd (pc := 314) X dL_areHandsSo_314 ?_
                                  refine v_sipush (pc := 315) X (v := (1000 : Int32)) dL_areHandsSo_315 (by decide) ?_
                                  refine v_aload_n (pc := 318) X 6 dL_areHandsSo_318 rfl rfl ?_
                                  refine v_iload (pc := 319) X 11 dL_areHandsSo_319 rfl ?_
                                  refine v_iload (pc := 321) X 13 dL_areHandsSo_321 rfl ?_
                                  refine v_iconst (pc := 323) X (v := (1 : Int32)) dL_areHandsSo_323 (by decide) ?_
                                  refine v_isub (pc := 324) X dL_areHandsSo_324 ?_
                                  refine v_iconst (pc := 325) X (v := (0 : Int32)) dL_areHandsSo_325 (by decide) ?_
                                  refine v_callVI (pc := 326) X (As := [.int x5, .int (s.2.2 - (1 : Int32)), .int (0 : Int32)]) (rest := [.int (1000 : Int32), .int (((1000 : Int32) * r12) + r15)]) (c_X5_entry l D cA L sh x0 x5 (s.2.2 - (1 : Int32)) (0 : Int32) h98 _ hf) (cwV 3 X.ht (gwV inM q_396 q_397 q_398 q_1 q_399) rfl rfl rfl (by decide +kernel) ⟨Nat.le_of_ble_eq_true rfl, Nat.le_of_ble_eq_true rfl⟩) rfl (by decide) t14 (ent_5 t14) rfl rfl (Nat.le_of_ble_eq_true rfl) ⟨Nat.le_of_ble_eq_true rfl, Nat.le_of_ble_eq_true rfl⟩ dL_areHandsSo_326 (fun r99 h100 hf => ?_)
                                  refine v_imul (pc := 329) X dL_areHandsSo_329 ?_
                                  refine v_aload_n (pc := 330) X 6 dL_areHandsSo_330 rfl rfl ?_
                                  refine v_iload (pc := 331) X 11 dL_areHandsSo_331 rfl ?_
                                  refine v_iload (pc := 333) X 13 dL_areHandsSo_333 rfl ?_
                                  refine v_iconst (pc := 335) X (v := (1 : Int32)) dL_areHandsSo_335 (by decide) ?_
                                  refine v_isub (pc := 336) X dL_areHandsSo_336 ?_
                                  refine v_iconst (pc := 337) X (v := (1 : Int32)) dL_areHandsSo_337 (by decide) ?_
                                  refine v_callVI (pc := 338) X (As := [.int x5, .int (s.2.2 - (1 : Int32)), .int (1 : Int32)]) (rest := [.int ((1000 : Int32) * r99), .int (((1000 : Int32) * r12) + r15)]) (c_X5_entry l D cA L sh x0 x5 (s.2.2 - (1 : Int32)) (1 : Int32) h100 _ hf) (cwV 3 X.ht (gwV inM q_396 q_397 q_398 q_1 q_399) rfl rfl rfl (by decide +kernel) ⟨Nat.le_of_ble_eq_true rfl, Nat.le_of_ble_eq_true rfl⟩) rfl (by decide) t14 (ent_5 t14) rfl rfl (Nat.le_of_ble_eq_true rfl) ⟨Nat.le_of_ble_eq_true rfl, Nat.le_of_ble_eq_true rfl⟩ dL_areHandsSo_338 (fun r101 h102 hf => ?_)
                                  refine v_iadd (pc := 341) X dL_areHandsSo_341 ?_
                                  refine v_icmp_le (pc := 342) X 349 dL_areHandsSo_342 (by decide) (fun cq => ?_) (fun cq => ?_)
                                  · replace hf := if_t cq hf
                                    refine v_iconst (pc := 349) X (v := (0 : Int32)) dL_areHandsSo_349 (by decide) ?_
                                    exact hJ54 (0 : Int32) h102 hf
                                  · replace hf := if_f cq hf
                                    refine v_iconst (pc := 345) X (v := (1 : Int32)) dL_areHandsSo_345 (by decide) ?_
                                    refine v_goto (pc := 346) X 350 dL_areHandsSo_346 (by decide) ?_
                                    exact hJ54 (1 : Int32) h102 hf
              · refine v_if_le (pc := 202) X 220 dL_areHandsSo_202 (by decide) (fun cq => ?_) (fun cq => ?_)
                · replace hf := if_t cq hf
                  refine v_aload (pc := 220) X 10 dL_areHandsSo_220 rfl ?_
                  refine v_iload (pc := 222) X 5 dL_areHandsSo_222 rfl ?_
                  obtain ⟨t43, hf⟩ := hf
                  obtain ⟨b42, v41, e_v41, hf⟩ := hf
                  refine v_iald (pc := 224) X t43 b42 e_v41 dL_areHandsSo_224 ?_
                  exact hJ40 v41 h36 hf
                · replace hf := if_f cq hf
                  refine v_iload (pc := 205) X 4 dL_areHandsSo_205 rfl ?_
                  refine v_aload (pc := 207) X 10 dL_areHandsSo_207 rfl ?_
                  refine v_iload (pc := 209) X 5 dL_areHandsSo_209 rfl ?_
                  obtain ⟨t46, hf⟩ := hf
                  obtain ⟨b45, v44, e_v44, hf⟩ := hf
                  refine v_iald (pc := 211) X t46 b45 e_v44 dL_areHandsSo_211 ?_
                  refine v_icmp_ge (pc := 212) X 220 dL_areHandsSo_212 (by decide) (fun cq => ?_) (fun cq => ?_)
                  · replace hf := if_t cq hf
                    refine v_aload (pc := 220) X 10 dL_areHandsSo_220 rfl ?_
                    refine v_iload (pc := 222) X 5 dL_areHandsSo_222 rfl ?_
                    obtain ⟨b48, v47, e_v47, hf⟩ := hf
                    refine v_iald (pc := 224) X t46 b48 e_v47 dL_areHandsSo_224 ?_
                    exact hJ40 v47 h36 hf
                  · replace hf := if_f cq hf
                    refine v_iload (pc := 215) X 4 dL_areHandsSo_215 rfl ?_
                    refine v_goto (pc := 217) X 225 dL_areHandsSo_217 (by decide) ?_
                    exact hJ40 r15 h36 hf
            · refine v_if_eq (pc := 186) X 193 dL_areHandsSo_186 (by decide) (fun cq => ?_) (fun cq => ?_)
              · replace hf := if_t cq hf
                refine v_iconst (pc := 193) X (v := (1 : Int32)) dL_areHandsSo_193 (by decide) ?_
                exact hJ35 (1 : Int32) h28 hf
              · replace hf := if_f cq hf
                refine v_iconst (pc := 189) X (v := (0 : Int32)) dL_areHandsSo_189 (by decide) ?_
                refine v_goto (pc := 190) X 194 dL_areHandsSo_190 (by decide) ?_
                exact hJ35 (0 : Int32) h28 hf
          · refine v_if_eq (pc := 164) X 176 dL_areHandsSo_164 (by decide) (fun cq => ?_) (fun cq => ?_)
            · replace hf := if_t cq hf
              refine v_iconst (pc := 176) X (v := (0 : Int32)) dL_areHandsSo_176 (by decide) ?_
              exact hJ29 (0 : Int32) h25 hf
            · replace hf := if_f cq hf
              refine v_iload (pc := 167) X 2 dL_areHandsSo_167 rfl ?_
              refine v_if_le (pc := 169) X 176 dL_areHandsSo_169 (by decide) (fun cq => ?_) (fun cq => ?_)
              · replace hf := if_t cq hf
                refine v_iconst (pc := 176) X (v := (0 : Int32)) dL_areHandsSo_176 (by decide) ?_
                exact hJ29 (0 : Int32) h25 hf
              · replace hf := if_f cq hf
                refine v_iconst (pc := 172) X (v := (1 : Int32)) dL_areHandsSo_172 (by decide) ?_
                refine v_goto (pc := 173) X 177 dL_areHandsSo_173 (by decide) ?_
                exact hJ29 (1 : Int32) h25 hf
        · refine v_if_eq (pc := 151) X 158 dL_areHandsSo_151 (by decide) (fun cq => ?_) (fun cq => ?_)
          · replace hf := if_t cq hf
            refine v_iconst (pc := 158) X (v := (0 : Int32)) dL_areHandsSo_158 (by decide) ?_
            exact hJ26 (0 : Int32) h22 hf
          · replace hf := if_f cq hf
            refine v_iconst (pc := 154) X (v := (1 : Int32)) dL_areHandsSo_154 (by decide) ?_
            refine v_goto (pc := 155) X 159 dL_areHandsSo_155 (by decide) ?_
            exact hJ26 (1 : Int32) h22 hf
      · refine v_icmp_ne (pc := 137) X 144 dL_areHandsSo_137 (by decide) (fun cq => ?_) (fun cq => ?_)
        · replace hf := if_f cq hf
          refine v_iconst (pc := 144) X (v := (0 : Int32)) dL_areHandsSo_144 (by decide) ?_
          exact hJ23 (0 : Int32) h20 hf
        · replace hf := if_t cq hf
          refine v_iconst (pc := 140) X (v := (1 : Int32)) dL_areHandsSo_140 (by decide) ?_
          refine v_goto (pc := 141) X 145 dL_areHandsSo_141 (by decide) ?_
          exact hJ23 (1 : Int32) h20 hf

set_option maxHeartbeats 8000000 in
set_option maxRecDepth 100000 in
theorem w_L_areHandsSo_42 {p : Program} {l : Launch} {e : Env} {s0 : State} {m : MethodId} {args : Array Value} {below : List Frame} {meth : Method} {c : Code} {D : va_G} {cA : Nat → ClassId} {L L0 : List Nat} {sh : Sh} (X : Cx p s0 m c args cL_areHandsSo 15 (wM yL_areHandsSo cL_areHandsSo 15 (some .boolean)) RL (fun q => q ∈ L0 ∨ s0.heap.size ≤ q) D cA L sh) (hr : meth.sig.returnType = (some .boolean)) (hlk : meth.locks = false) (x0 : Nat) (x3 : Nat) (x4 : Nat) (Xc : Int32 → Int32 → Hp → Prop) (K : Int32 → List Nat → Sh → Hp → Prop) (hx : ∀ (y1 : Int32) (y2 : Int32) (h1 : Hp), Xc y1 y2 h1 → V p l e (headSpec (wM yL_areHandsSo cL_areHandsSo 15 (some .boolean)) ({ frames := 5, cells := 2, slots := 12, locals := 111 } : Room)).room s0 m args below meth c (MQ below (QAI D cA L0 s0.heap.size K) args s0 2 12 (fun q => q ∈ L0 ∨ s0.heap.size ≤ q)) (fun q => q ∈ L0 ∨ s0.heap.size ≤ q) 2 12 D cA L sh 15 h1 441 [(0, .ref x0), (1, .int y1), (2, .int y2), (3, .ref x3), (4, .ref x4)] []) : ∀ (n : Nat) (s : Int32 × Int32 × Int32) (h : Hp), lp (b_L_areHandsSo_42 sh x0 x3 x4 Xc (fun r h => K r L sh h)) n s h → V p l e (headSpec (wM yL_areHandsSo cL_areHandsSo 15 (some .boolean)) ({ frames := 5, cells := 2, slots := 12, locals := 111 } : Room)).room s0 m args below meth c (MQ below (QAI D cA L0 s0.heap.size K) args s0 2 12 (fun q => q ∈ L0 ∨ s0.heap.size ≤ q)) (fun q => q ∈ L0 ∨ s0.heap.size ≤ q) 2 12 D cA L sh 15 h 42 [(0, .ref x0), (3, .ref x3), (4, .ref x4), (1, .int s.1), (2, .int s.2.1), (5, .int s.2.2)] [] := by
  intro n
  induction n with
  | zero => intro s h hf; exact hf.elim
  | succ n ih =>
    intro s h hf
    replace hf : b_L_areHandsSo_42 sh x0 x3 x4 Xc (fun r h => K r L sh h) (lp (b_L_areHandsSo_42 sh x0 x3 x4 Xc (fun r h => K r L sh h)) n) s h := hf
    unfold b_L_areHandsSo_42 at hf
    refine v_iload (pc := 42) X 5 dL_areHandsSo_42 rfl ?_
    refine v_iconst (pc := 44) X (v := (4 : Int32)) dL_areHandsSo_44 (by decide) ?_
    refine v_icmp_ge (pc := 45) X 441 dL_areHandsSo_45 (by decide) (fun cq => ?_) (fun cq => ?_)
    · replace hf := if_t cq hf
      refine v_sub [0, 3, 4, 1, 2] rfl ?_
      exact hx s.1 s.2.1 h hf
    · replace hf := if_f cq hf
      refine v_aload_n (pc := 48) X 0 dL_areHandsSo_48 rfl rfl ?_
      refine v_iload (pc := 49) X 5 dL_areHandsSo_49 rfl ?_
      refine v_iconst (pc := 51) X (v := (2 : Int32)) dL_areHandsSo_51 (by decide) ?_
      obtain ⟨t7, hf⟩ := hf
      refine v_callVI (pc := 52) X (As := [.int s.2.2, .int (2 : Int32)]) (rest := []) (c_X5_sessionOf l D cA L sh x0 s.2.2 (2 : Int32) h _ hf) (cwV 2 X.ht (gwV inM q_383 q_384 q_385 q_1 q_386) rfl rfl rfl (by decide +kernel) ⟨Nat.le_of_ble_eq_true rfl, Nat.le_of_ble_eq_true rfl⟩) rfl (by decide) t7 (ent_5 t7) rfl rfl (Nat.le_of_ble_eq_true rfl) ⟨Nat.le_of_ble_eq_true rfl, Nat.le_of_ble_eq_true rfl⟩ dL_areHandsSo_52 (fun r5 h6 hf => ?_)
      refine v_istore (pc := 55) X (i := 6) (lv' := [(6, .int r5), (0, .ref x0), (3, .ref x3), (4, .ref x4), (1, .int s.1), (2, .int s.2.1), (5, .int s.2.2)]) dL_areHandsSo_55 (Nat.le_of_ble_eq_true rfl) rfl ?_
      refine v_iconst (pc := 57) X (v := (0 : Int32)) dL_areHandsSo_57 (by decide) ?_
      refine v_istore (pc := 58) X (i := 7) (lv' := [(7, .int (0 : Int32)), (6, .int r5), (0, .ref x0), (3, .ref x3), (4, .ref x4), (1, .int s.1), (2, .int s.2.1), (5, .int s.2.2)]) dL_areHandsSo_58 (Nat.le_of_ble_eq_true rfl) rfl ?_
      refine v_iconst (pc := 60) X (v := (1 : Int32)) dL_areHandsSo_60 (by decide) ?_
      refine v_istore (pc := 61) X (i := 8) (lv' := [(8, .int (1 : Int32)), (7, .int (0 : Int32)), (6, .int r5), (0, .ref x0), (3, .ref x3), (4, .ref x4), (1, .int s.1), (2, .int s.2.1), (5, .int s.2.2)]) dL_areHandsSo_61 (Nat.le_of_ble_eq_true rfl) rfl ?_
      refine v_iload_n (pc := 63) X 6 dL_areHandsSo_63 rfl rfl ?_
      refine v_aload_n (pc := 64) X 3 dL_areHandsSo_64 rfl rfl ?_
      refine v_iload (pc := 65) X 8 dL_areHandsSo_65 rfl ?_
      refine v_iconst (pc := 67) X (v := (4 : Int32)) dL_areHandsSo_67 (by decide) ?_
      refine v_callVI (pc := 68) X (As := [.int s.2.2, .int (4 : Int32)]) (rest := [.int s.1]) (c_X5_sessionOf l D cA L sh x0 s.2.2 (4 : Int32) h6 _ hf) (cwV 2 X.ht (gwV inM q_383 q_384 q_385 q_1 q_386) rfl rfl rfl (by decide +kernel) ⟨Nat.le_of_ble_eq_true rfl, Nat.le_of_ble_eq_true rfl⟩) rfl (by decide) t7 (ent_5 t7) rfl rfl (Nat.le_of_ble_eq_true rfl) ⟨Nat.le_of_ble_eq_true rfl, Nat.le_of_ble_eq_true rfl⟩ dL_areHandsSo_68 (fun r8 h9 hf => ?_)
      refine v_iadd (pc := 71) X dL_areHandsSo_71 ?_
      refine v_istore_n (pc := 72) X (i := 1) (lv' := [(1, .int (s.1 + r8)), (8, .int (1 : Int32)), (7, .int (0 : Int32)), (6, .int r5), (0, .ref x0), (3, .ref x3), (4, .ref x4), (2, .int s.2.1), (5, .int s.2.2)]) dL_areHandsSo_72 rfl (Nat.le_of_ble_eq_true rfl) rfl ?_
      refine v_iload_n (pc := 73) X 7 dL_areHandsSo_73 rfl rfl ?_
      refine v_aload_n (pc := 74) X 4 dL_areHandsSo_74 rfl rfl ?_
      refine v_iload (pc := 75) X 8 dL_areHandsSo_75 rfl ?_
      refine v_bipush (pc := 77) X (v := (6 : Int32)) dL_areHandsSo_77 (by decide) ?_
      refine v_callVI (pc := 79) X (As := [.int s.2.2, .int (6 : Int32)]) (rest := [.int s.2.1]) (c_X5_sessionOf l D cA L sh x0 s.2.2 (6 : Int32) h9 _ hf) (cwV 2 X.ht (gwV inM q_383 q_384 q_385 q_1 q_386) rfl rfl rfl (by decide +kernel) ⟨Nat.le_of_ble_eq_true rfl, Nat.le_of_ble_eq_true rfl⟩) rfl (by decide) t7 (ent_5 t7) rfl rfl (Nat.le_of_ble_eq_true rfl) ⟨Nat.le_of_ble_eq_true rfl, Nat.le_of_ble_eq_true rfl⟩ dL_areHandsSo_79 (fun r10 h11 hf => ?_)
      refine v_iadd (pc := 82) X dL_areHandsSo_82 ?_
      refine v_istore_n (pc := 83) X (i := 2) (lv' := [(2, .int (s.2.1 + r10)), (1, .int (s.1 + r8)), (8, .int (1 : Int32)), (7, .int (0 : Int32)), (6, .int r5), (0, .ref x0), (3, .ref x3), (4, .ref x4), (5, .int s.2.2)]) dL_areHandsSo_83 rfl (Nat.le_of_ble_eq_true rfl) rfl ?_
      refine v_iconst (pc := 84) X (v := (0 : Int32)) dL_areHandsSo_84 (by decide) ?_
      refine v_istore (pc := 85) X (i := 9) (lv' := [(9, .int (0 : Int32)), (2, .int (s.2.1 + r10)), (1, .int (s.1 + r8)), (8, .int (1 : Int32)), (7, .int (0 : Int32)), (6, .int r5), (0, .ref x0), (3, .ref x3), (4, .ref x4), (5, .int s.2.2)]) dL_areHandsSo_85 (Nat.le_of_ble_eq_true rfl) rfl ?_
      obtain ⟨n, hf⟩ := hf
      refine v_sub [6, 2, 1, 7, 8, 9, 5, 4, 3, 0] rfl ?_
      refine w_L_areHandsSo_87 X hr hlk x0 (s.1 + r8) (s.2.1 + r10) x3 x4 s.2.2 r5 _ K (fun y103 y104 h105 hf => ?_) n ((0 : Int32), (1 : Int32), (0 : Int32)) h11 hf
      refine v_iload (pc := 365) X 7 dL_areHandsSo_365 rfl ?_
      refine v_aload_n (pc := 367) X 0 dL_areHandsSo_367 rfl rfl ?_
      refine v_iload (pc := 368) X 5 dL_areHandsSo_368 rfl ?_
      refine v_iconst (pc := 370) X (v := (3 : Int32)) dL_areHandsSo_370 (by decide) ?_
      refine v_callVI (pc := 371) X (As := [.int s.2.2, .int (3 : Int32)]) (rest := [.int y103]) (c_X5_sessionOf l D cA L sh x0 s.2.2 (3 : Int32) h105 _ hf) (cwV 2 X.ht (gwV inM q_383 q_384 q_385 q_1 q_386) rfl rfl rfl (by decide +kernel) ⟨Nat.le_of_ble_eq_true rfl, Nat.le_of_ble_eq_true rfl⟩) rfl (by decide) t7 (ent_5 t7) rfl rfl (Nat.le_of_ble_eq_true rfl) ⟨Nat.le_of_ble_eq_true rfl, Nat.le_of_ble_eq_true rfl⟩ dL_areHandsSo_371 (fun r106 h107 hf => ?_)
      refine v_icmp_ne (pc := 374) X 433 dL_areHandsSo_374 (by decide) (fun cq => ?_) (fun cq => ?_)
      · replace hf := if_f cq hf
        refine v_iconst (pc := 433) X (v := (0 : Int32)) dL_areHandsSo_433 (by decide) ?_
        exact v_zretA (pc := 434) X hr hlk dL_areHandsSo_434 (by decide) hf
      · replace hf := if_t cq hf
        refine v_aload_n (pc := 377) X 0 dL_areHandsSo_377 rfl rfl ?_
        refine v_iload (pc := 378) X 5 dL_areHandsSo_378 rfl ?_
        refine v_iload (pc := 380) X 6 dL_areHandsSo_380 rfl ?_
        refine v_iconst (pc := 382) X (v := (0 : Int32)) dL_areHandsSo_382 (by decide) ?_
        refine v_callVI (pc := 383) X (As := [.int s.2.2, .int r5, .int (0 : Int32)]) (rest := []) (c_X5_entry l D cA L sh x0 s.2.2 r5 (0 : Int32) h107 _ hf) (cwV 3 X.ht (gwV inM q_396 q_397 q_398 q_1 q_399) rfl rfl rfl (by decide +kernel) ⟨Nat.le_of_ble_eq_true rfl, Nat.le_of_ble_eq_true rfl⟩) rfl (by decide) t7 (ent_5 t7) rfl rfl (Nat.le_of_ble_eq_true rfl) ⟨Nat.le_of_ble_eq_true rfl, Nat.le_of_ble_eq_true rfl⟩ dL_areHandsSo_383 (fun r108 h109 hf => ?_)
        refine v_bipush (pc := 386) X (v := (-4 : Int32)) dL_areHandsSo_386 (by decide) ?_
        refine v_icmp_ne (pc := 388) X 433 dL_areHandsSo_388 (by decide) (fun cq => ?_) (fun cq => ?_)
        · replace hf := if_f cq hf
          refine v_iconst (pc := 433) X (v := (0 : Int32)) dL_areHandsSo_433 (by decide) ?_
          exact v_zretA (pc := 434) X hr hlk dL_areHandsSo_434 (by decide) hf
        · replace hf := if_t cq hf
          refine v_iload (pc := 391) X 6 dL_areHandsSo_391 rfl ?_
          refine v_aload_n (pc := 393) X 0 dL_areHandsSo_393 rfl rfl ?_
          refine v_bipush (pc := 394) X (v := (21 : Int32)) dL_areHandsSo_394 (by decide) ?_
          refine v_callVI (pc := 396) X (As := [.int (21 : Int32)]) (rest := [.int r5]) (c_X5_count l D cA L sh x0 (21 : Int32) h109 _ hf) (cwV 1 X.ht (gwV inM q_218 q_219 q_220 q_1 q_221) rfl rfl rfl (by decide +kernel) ⟨Nat.le_of_ble_eq_true rfl, Nat.le_of_ble_eq_true rfl⟩) rfl (by decide) t7 (ent_5 t7) rfl rfl (Nat.le_of_ble_eq_true rfl) ⟨Nat.le_of_ble_eq_true rfl, Nat.le_of_ble_eq_true rfl⟩ dL_areHandsSo_396 (fun r110 h111 hf => ?_)
          refine v_icmp_le (pc := 399) X 407 dL_areHandsSo_399 (by decide) (fun cq => ?_) (fun cq => ?_)
          · replace hf := if_t cq hf
            refine v_aload_n (pc := 407) X 0 dL_areHandsSo_407 rfl rfl ?_
            refine v_iload (pc := 408) X 5 dL_areHandsSo_408 rfl ?_
            refine v_iconst (pc := 410) X (v := (4 : Int32)) dL_areHandsSo_410 (by decide) ?_
            refine v_callVI (pc := 411) X (As := [.int s.2.2, .int (4 : Int32)]) (rest := []) (c_X5_sessionOf l D cA L sh x0 s.2.2 (4 : Int32) h111 _ hf) (cwV 2 X.ht (gwV inM q_383 q_384 q_385 q_1 q_386) rfl rfl rfl (by decide +kernel) ⟨Nat.le_of_ble_eq_true rfl, Nat.le_of_ble_eq_true rfl⟩) rfl (by decide) t7 (ent_5 t7) rfl rfl (Nat.le_of_ble_eq_true rfl) ⟨Nat.le_of_ble_eq_true rfl, Nat.le_of_ble_eq_true rfl⟩ dL_areHandsSo_411 (fun r112 h113 hf => ?_)
            refine v_iconst (pc := 414) X (v := (4 : Int32)) dL_areHandsSo_414 (by decide) ?_
            refine v_icmp_gt (pc := 415) X 433 dL_areHandsSo_415 (by decide) (fun cq => ?_) (fun cq => ?_)
            · replace hf := if_t cq hf
              refine v_iconst (pc := 433) X (v := (0 : Int32)) dL_areHandsSo_433 (by decide) ?_
              exact v_zretA (pc := 434) X hr hlk dL_areHandsSo_434 (by decide) hf
            · replace hf := if_f cq hf
              refine v_aload_n (pc := 418) X 0 dL_areHandsSo_418 rfl rfl ?_
              refine v_iload (pc := 419) X 5 dL_areHandsSo_419 rfl ?_
              refine v_iconst (pc := 421) X (v := (0 : Int32)) dL_areHandsSo_421 (by decide) ?_
              refine v_callVI (pc := 422) X (As := [.int s.2.2, .int (0 : Int32)]) (rest := []) (c_X5_sessionOf l D cA L sh x0 s.2.2 (0 : Int32) h113 _ hf) (cwV 2 X.ht (gwV inM q_383 q_384 q_385 q_1 q_386) rfl rfl rfl (by decide +kernel) ⟨Nat.le_of_ble_eq_true rfl, Nat.le_of_ble_eq_true rfl⟩) rfl (by decide) t7 (ent_5 t7) rfl rfl (Nat.le_of_ble_eq_true rfl) ⟨Nat.le_of_ble_eq_true rfl, Nat.le_of_ble_eq_true rfl⟩ dL_areHandsSo_422 (fun r114 h115 hf => ?_)
              refine v_aload_n (pc := 425) X 0 dL_areHandsSo_425 rfl rfl ?_
              refine v_iconst (pc := 426) X (v := (1 : Int32)) dL_areHandsSo_426 (by decide) ?_
              refine v_callVI (pc := 427) X (As := [.int (1 : Int32)]) (rest := [.int r114]) (c_X5_count l D cA L sh x0 (1 : Int32) h115 _ hf) (cwV 1 X.ht (gwV inM q_218 q_219 q_220 q_1 q_221) rfl rfl rfl (by decide +kernel) ⟨Nat.le_of_ble_eq_true rfl, Nat.le_of_ble_eq_true rfl⟩) rfl (by decide) t7 (ent_5 t7) rfl rfl (Nat.le_of_ble_eq_true rfl) ⟨Nat.le_of_ble_eq_true rfl, Nat.le_of_ble_eq_true rfl⟩ dL_areHandsSo_427 (fun r116 h117 hf => ?_)
              refine v_icmp_le (pc := 430) X 435 dL_areHandsSo_430 (by decide) (fun cq => ?_) (fun cq => ?_)
              · replace hf := if_t cq hf
                refine v_iinc (pc := 435) X 5 (v := s.2.2 + (1 : Int32)) (lv' := [(5, .int (s.2.2 + (1 : Int32))), (0, .ref x0), (1, .int (s.1 + r8)), (2, .int (s.2.1 + r10)), (3, .ref x3), (4, .ref x4), (6, .int r5), (7, .int y103), (8, .int y104)]) dL_areHandsSo_435 rfl rfl (Nat.le_of_ble_eq_true rfl) rfl ?_
                refine v_goto (pc := 438) X 42 dL_areHandsSo_438 (by decide) ?_
                refine v_sub [1, 4, 5, 2, 3, 0] rfl ?_
                exact ih (s.1 + r8, s.2.1 + r10, s.2.2 + (1 : Int32)) h117 hf
              · replace hf := if_f cq hf
                refine v_iconst (pc := 433) X (v := (0 : Int32)) dL_areHandsSo_433 (by decide) ?_
                exact v_zretA (pc := 434) X hr hlk dL_areHandsSo_434 (by decide) hf
          · replace hf := if_f cq hf
            refine v_iload (pc := 402) X 8 dL_areHandsSo_402 rfl ?_
            refine v_if_eq (pc := 404) X 433 dL_areHandsSo_404 (by decide) (fun cq => ?_) (fun cq => ?_)
            · replace hf := if_t cq hf
              refine v_iconst (pc := 433) X (v := (0 : Int32)) dL_areHandsSo_433 (by decide) ?_
              exact v_zretA (pc := 434) X hr hlk dL_areHandsSo_434 (by decide) hf
            · replace hf := if_f cq hf
              refine v_aload_n (pc := 407) X 0 dL_areHandsSo_407 rfl rfl ?_
              refine v_iload (pc := 408) X 5 dL_areHandsSo_408 rfl ?_
              refine v_iconst (pc := 410) X (v := (4 : Int32)) dL_areHandsSo_410 (by decide) ?_
              refine v_callVI (pc := 411) X (As := [.int s.2.2, .int (4 : Int32)]) (rest := []) (c_X5_sessionOf l D cA L sh x0 s.2.2 (4 : Int32) h111 _ hf) (cwV 2 X.ht (gwV inM q_383 q_384 q_385 q_1 q_386) rfl rfl rfl (by decide +kernel) ⟨Nat.le_of_ble_eq_true rfl, Nat.le_of_ble_eq_true rfl⟩) rfl (by decide) t7 (ent_5 t7) rfl rfl (Nat.le_of_ble_eq_true rfl) ⟨Nat.le_of_ble_eq_true rfl, Nat.le_of_ble_eq_true rfl⟩ dL_areHandsSo_411 (fun r118 h119 hf => ?_)
              refine v_iconst (pc := 414) X (v := (4 : Int32)) dL_areHandsSo_414 (by decide) ?_
              refine v_icmp_gt (pc := 415) X 433 dL_areHandsSo_415 (by decide) (fun cq => ?_) (fun cq => ?_)
              · replace hf := if_t cq hf
                refine v_iconst (pc := 433) X (v := (0 : Int32)) dL_areHandsSo_433 (by decide) ?_
                exact v_zretA (pc := 434) X hr hlk dL_areHandsSo_434 (by decide) hf
              · replace hf := if_f cq hf
                refine v_aload_n (pc := 418) X 0 dL_areHandsSo_418 rfl rfl ?_
                refine v_iload (pc := 419) X 5 dL_areHandsSo_419 rfl ?_
                refine v_iconst (pc := 421) X (v := (0 : Int32)) dL_areHandsSo_421 (by decide) ?_
                refine v_callVI (pc := 422) X (As := [.int s.2.2, .int (0 : Int32)]) (rest := []) (c_X5_sessionOf l D cA L sh x0 s.2.2 (0 : Int32) h119 _ hf) (cwV 2 X.ht (gwV inM q_383 q_384 q_385 q_1 q_386) rfl rfl rfl (by decide +kernel) ⟨Nat.le_of_ble_eq_true rfl, Nat.le_of_ble_eq_true rfl⟩) rfl (by decide) t7 (ent_5 t7) rfl rfl (Nat.le_of_ble_eq_true rfl) ⟨Nat.le_of_ble_eq_true rfl, Nat.le_of_ble_eq_true rfl⟩ dL_areHandsSo_422 (fun r120 h121 hf => ?_)
                refine v_aload_n (pc := 425) X 0 dL_areHandsSo_425 rfl rfl ?_
                refine v_iconst (pc := 426) X (v := (1 : Int32)) dL_areHandsSo_426 (by decide) ?_
                refine v_callVI (pc := 427) X (As := [.int (1 : Int32)]) (rest := [.int r120]) (c_X5_count l D cA L sh x0 (1 : Int32) h121 _ hf) (cwV 1 X.ht (gwV inM q_218 q_219 q_220 q_1 q_221) rfl rfl rfl (by decide +kernel) ⟨Nat.le_of_ble_eq_true rfl, Nat.le_of_ble_eq_true rfl⟩) rfl (by decide) t7 (ent_5 t7) rfl rfl (Nat.le_of_ble_eq_true rfl) ⟨Nat.le_of_ble_eq_true rfl, Nat.le_of_ble_eq_true rfl⟩ dL_areHandsSo_427 (fun r122 h123 hf => ?_)
                refine v_icmp_le (pc := 430) X 435 dL_areHandsSo_430 (by decide) (fun cq => ?_) (fun cq => ?_)
                · replace hf := if_t cq hf
                  refine v_iinc (pc := 435) X 5 (v := s.2.2 + (1 : Int32)) (lv' := [(5, .int (s.2.2 + (1 : Int32))), (0, .ref x0), (1, .int (s.1 + r8)), (2, .int (s.2.1 + r10)), (3, .ref x3), (4, .ref x4), (6, .int r5), (7, .int y103), (8, .int y104)]) dL_areHandsSo_435 rfl rfl (Nat.le_of_ble_eq_true rfl) rfl ?_
                  refine v_goto (pc := 438) X 42 dL_areHandsSo_438 (by decide) ?_
                  refine v_sub [1, 4, 5, 2, 3, 0] rfl ?_
                  exact ih (s.1 + r8, s.2.1 + r10, s.2.2 + (1 : Int32)) h123 hf
                · replace hf := if_f cq hf
                  refine v_iconst (pc := 433) X (v := (0 : Int32)) dL_areHandsSo_433 (by decide) ?_
                  exact v_zretA (pc := 434) X hr hlk dL_areHandsSo_434 (by decide) hf

set_option maxHeartbeats 8000000 in
set_option maxRecDepth 100000 in
theorem w_L_areHandsSo_470 {p : Program} {l : Launch} {e : Env} {s0 : State} {m : MethodId} {args : Array Value} {below : List Frame} {meth : Method} {c : Code} {D : va_G} {cA : Nat → ClassId} {L L0 : List Nat} {sh : Sh} (X : Cx p s0 m c args cL_areHandsSo 15 (wM yL_areHandsSo cL_areHandsSo 15 (some .boolean)) RL (fun q => q ∈ L0 ∨ s0.heap.size ≤ q) D cA L sh) (hr : meth.sig.returnType = (some .boolean)) (hlk : meth.locks = false) (x0 : Nat) (x3 : Nat) (x4 : Nat) (Xc : Int32 → Hp → Prop) (K : Int32 → List Nat → Sh → Hp → Prop) (hx : ∀ (y5 : Int32) (h1 : Hp), Xc y5 h1 → V p l e (headSpec (wM yL_areHandsSo cL_areHandsSo 15 (some .boolean)) ({ frames := 5, cells := 2, slots := 12, locals := 111 } : Room)).room s0 m args below meth c (MQ below (QAI D cA L0 s0.heap.size K) args s0 2 12 (fun q => q ∈ L0 ∨ s0.heap.size ≤ q)) (fun q => q ∈ L0 ∨ s0.heap.size ≤ q) 2 12 D cA L sh 15 h1 691 [(5, .int y5)] []) : ∀ (n : Nat) (s : Int32 × Int32) (h : Hp), lp (b_L_areHandsSo_470 sh x0 x3 x4 Xc) n s h → V p l e (headSpec (wM yL_areHandsSo cL_areHandsSo 15 (some .boolean)) ({ frames := 5, cells := 2, slots := 12, locals := 111 } : Room)).room s0 m args below meth c (MQ below (QAI D cA L0 s0.heap.size K) args s0 2 12 (fun q => q ∈ L0 ∨ s0.heap.size ≤ q)) (fun q => q ∈ L0 ∨ s0.heap.size ≤ q) 2 12 D cA L sh 15 h 470 [(0, .ref x0), (3, .ref x3), (4, .ref x4), (5, .int s.1), (6, .int s.2)] [] := by
  intro n
  induction n with
  | zero => intro s h hf; exact hf.elim
  | succ n ih =>
    intro s h hf
    replace hf : b_L_areHandsSo_470 sh x0 x3 x4 Xc (lp (b_L_areHandsSo_470 sh x0 x3 x4 Xc) n) s h := hf
    unfold b_L_areHandsSo_470 at hf
    refine v_iload (pc := 470) X 4 dL_areHandsSo_470 rfl ?_
    refine v_bipush (pc := 472) X (v := (6 : Int32)) dL_areHandsSo_472 (by decide) ?_
    refine v_icmp_ge (pc := 474) X 691 dL_areHandsSo_474 (by decide) (fun cq => ?_) (fun cq => ?_)
    · replace hf := if_t cq hf
      refine v_sub [3] rfl ?_
      exact hx s.1 h hf
    · replace hf := if_f cq hf
      refine v_aload_n (pc := 477) X 0 dL_areHandsSo_477 rfl rfl ?_
      refine v_iload (pc := 478) X 4 dL_areHandsSo_478 rfl ?_
      refine v_iconst (pc := 480) X (v := (2 : Int32)) dL_areHandsSo_480 (by decide) ?_
      obtain ⟨t137, hf⟩ := hf
      refine v_callVI (pc := 481) X (As := [.int s.2, .int (2 : Int32)]) (rest := []) (c_X5_tableOf l D cA L sh x0 s.2 (2 : Int32) h _ hf) (cwV 2 X.ht (gwV inM q_193 q_194 q_195 q_1 q_196) rfl rfl rfl (by decide +kernel) ⟨Nat.le_of_ble_eq_true rfl, Nat.le_of_ble_eq_true rfl⟩) rfl (by decide) t137 (ent_5 t137) rfl rfl (Nat.le_of_ble_eq_true rfl) ⟨Nat.le_of_ble_eq_true rfl, Nat.le_of_ble_eq_true rfl⟩ dL_areHandsSo_481 (fun r135 h136 hf => ?_)
      refine v_istore (pc := 484) X (i := 7) (lv' := [(7, .int r135), (0, .ref x0), (3, .ref x3), (4, .ref x4), (5, .int s.1), (6, .int s.2)]) dL_areHandsSo_484 (Nat.le_of_ble_eq_true rfl) rfl ?_
      refine v_aload_n (pc := 486) X 1 dL_areHandsSo_486 rfl rfl ?_
      refine v_iload (pc := 487) X 5 dL_areHandsSo_487 rfl ?_
      refine v_callVI (pc := 489) X (As := [.int s.2]) (rest := []) (c_X5_inTheWay l D cA L sh x0 s.2 h136 _ hf) (cwV 1 X.ht (gwV inM q_400 q_401 q_402 q_1 q_403) rfl rfl rfl (by decide +kernel) ⟨Nat.le_of_ble_eq_true rfl, Nat.le_of_ble_eq_true rfl⟩) rfl (by decide) t137 (ent_5 t137) rfl rfl (Nat.le_of_ble_eq_true rfl) ⟨Nat.le_of_ble_eq_true rfl, Nat.le_of_ble_eq_true rfl⟩ dL_areHandsSo_489 (fun r138 h139 hf => ?_)
      refine v_istore (pc := 492) X (i := 8) (lv' := [(8, .int r138), (7, .int r135), (0, .ref x0), (3, .ref x3), (4, .ref x4), (5, .int s.1), (6, .int s.2)]) dL_areHandsSo_492 (Nat.le_of_ble_eq_true rfl) rfl ?_
      refine v_iload (pc := 494) X 5 dL_areHandsSo_494 rfl ?_
      refine dj_e hf (Vat := fun v140 h141 => V p l e (headSpec (wM yL_areHandsSo cL_areHandsSo 15 (some .boolean)) ({ frames := 5, cells := 2, slots := 12, locals := 111 } : Room)).room s0 m args below meth c (MQ below (QAI D cA L0 s0.heap.size K) args s0 2 12 (fun q => q ∈ L0 ∨ s0.heap.size ≤ q)) (fun q => q ∈ L0 ∨ s0.heap.size ≤ q) 2 12 D cA L sh 15 h141 563 [(8, .int r138), (7, .int r135), (0, .ref x0), (3, .ref x3), (4, .ref x4), (5, .int s.1), (6, .int s.2)] [.int v140]) (fun v140 h141 hf => ?_) (fun J142 hJ142 hf => ?_)
      · refine v_istore (pc := 563) X (i := 5) (lv' := [(5, .int v140), (8, .int r138), (7, .int r135), (0, .ref x0), (3, .ref x3), (4, .ref x4), (6, .int s.2)]) dL_areHandsSo_563 (Nat.le_of_ble_eq_true rfl) rfl ?_
        refine v_iload (pc := 565) X 0 dL_areHandsSo_565 rfl ?_
        refine dj_e hf (Vat := fun v158 h159 => V p l e (headSpec (wM yL_areHandsSo cL_areHandsSo 15 (some .boolean)) ({ frames := 5, cells := 2, slots := 12, locals := 111 } : Room)).room s0 m args below meth c (MQ below (QAI D cA L0 s0.heap.size K) args s0 2 12 (fun q => q ∈ L0 ∨ s0.heap.size ≤ q)) (fun q => q ∈ L0 ∨ s0.heap.size ≤ q) 2 12 D cA L sh 15 h159 683 [(5, .int v140), (8, .int r138), (7, .int r135), (0, .ref x0), (3, .ref x3), (4, .ref x4), (6, .int s.2)] [.int v158]) (fun v158 h159 hf => ?_) (fun J160 hJ160 hf => ?_)
        · refine v_istore (pc := 683) X (i := 5) (lv' := [(5, .int v158), (8, .int r138), (7, .int r135), (0, .ref x0), (3, .ref x3), (4, .ref x4), (6, .int s.2)]) dL_areHandsSo_683 (Nat.le_of_ble_eq_true rfl) rfl ?_
          refine v_iinc (pc := 685) X 6 (v := s.2 + (1 : Int32)) (lv' := [(6, .int (s.2 + (1 : Int32))), (5, .int v158), (8, .int r138), (7, .int r135), (0, .ref x0), (3, .ref x3), (4, .ref x4)]) dL_areHandsSo_685 rfl rfl (Nat.le_of_ble_eq_true rfl) rfl ?_
          refine v_goto (pc := 688) X 470 dL_areHandsSo_688 (by decide) ?_
          refine v_sub [4, 5, 6, 1, 0] rfl ?_
          exact ih (v158, s.2 + (1 : Int32)) h159 hf
        · refine v_if_eq (pc := 567) X 682 dL_areHandsSo_567 (by decide) (fun cq => ?_) (fun cq => ?_)
          · replace hf := if_t cq hf
            refine v_iconst (pc := 682) X (v := (0 : Int32)) dL_areHandsSo_682 (by decide) ?_
            exact hJ160 (0 : Int32) h141 hf
          · replace hf := if_f cq hf
            refine v_iload (pc := 570) X 1 dL_areHandsSo_570 rfl ?_
            refine v_bipush (pc := 572) X (v := (-4 : Int32)) dL_areHandsSo_572 (by decide) ?_
            refine dj_e hf (Vat := fun v161 h162 => V p l e (headSpec (wM yL_areHandsSo cL_areHandsSo 15 (some .boolean)) ({ frames := 5, cells := 2, slots := 12, locals := 111 } : Room)).room s0 m args below meth c (MQ below (QAI D cA L0 s0.heap.size K) args s0 2 12 (fun q => q ∈ L0 ∨ s0.heap.size ≤ q)) (fun q => q ∈ L0 ∨ s0.heap.size ≤ q) 2 12 D cA L sh 15 h162 582 [(5, .int v140), (8, .int r138), (7, .int r135), (0, .ref x0), (3, .ref x3), (4, .ref x4), (6, .int s.2)] [.int v161]) (fun v161 h162 hf => ?_) (fun J163 hJ163 hf => ?_)
            · refine v_aload_n (pc := 582) X 3 dL_areHandsSo_582 rfl rfl ?_
              refine v_iload (pc := 583) X 6 dL_areHandsSo_583 rfl ?_
              refine v_iconst (pc := 585) X (v := (4 : Int32)) dL_areHandsSo_585 (by decide) ?_
              refine v_callVI (pc := 586) X (As := [.int s.2, .int (4 : Int32)]) (rest := [.int v161]) (c_X5_tableOf l D cA L sh x0 s.2 (4 : Int32) h162 _ hf) (cwV 2 X.ht (gwV inM q_193 q_194 q_195 q_1 q_196) rfl rfl rfl (by decide +kernel) ⟨Nat.le_of_ble_eq_true rfl, Nat.le_of_ble_eq_true rfl⟩) rfl (by decide) t137 (ent_5 t137) rfl rfl (Nat.le_of_ble_eq_true rfl) ⟨Nat.le_of_ble_eq_true rfl, Nat.le_of_ble_eq_true rfl⟩ dL_areHandsSo_586 (fun r164 h165 hf => ?_)
              refine v_iconst (pc := 589) X (v := (1 : Int32)) dL_areHandsSo_589 (by decide) ?_
              refine dj_e hf (Vat := fun v166 h167 => V p l e (headSpec (wM yL_areHandsSo cL_areHandsSo 15 (some .boolean)) ({ frames := 5, cells := 2, slots := 12, locals := 111 } : Room)).room s0 m args below meth c (MQ below (QAI D cA L0 s0.heap.size K) args s0 2 12 (fun q => q ∈ L0 ∨ s0.heap.size ≤ q)) (fun q => q ∈ L0 ∨ s0.heap.size ≤ q) 2 12 D cA L sh 15 h167 598 [(5, .int v140), (8, .int r138), (7, .int r135), (0, .ref x0), (3, .ref x3), (4, .ref x4), (6, .int s.2)] [.int v166, .int v161]) (fun v166 h167 hf => ?_) (fun J168 hJ168 hf => ?_)
              · refine v_icmp_ne (pc := 598) X 682 dL_areHandsSo_598 (by decide) (fun cq => ?_) (fun cq => ?_)
                · replace hf := if_f cq hf
                  refine v_iconst (pc := 682) X (v := (0 : Int32)) dL_areHandsSo_682 (by decide) ?_
                  exact hJ160 (0 : Int32) h167 hf
                · replace hf := if_t cq hf
                  refine v_aload_n (pc := 601) X 3 dL_areHandsSo_601 rfl rfl ?_
                  refine v_bipush (pc := 602) X (v := (7 : Int32)) dL_areHandsSo_602 (by decide) ?_
                  refine v_callVI (pc := 604) X (As := [.int (7 : Int32)]) (rest := []) (c_X5_count l D cA L sh x0 (7 : Int32) h167 _ hf) (cwV 1 X.ht (gwV inM q_218 q_219 q_220 q_1 q_221) rfl rfl rfl (by decide +kernel) ⟨Nat.le_of_ble_eq_true rfl, Nat.le_of_ble_eq_true rfl⟩) rfl (by decide) t137 (ent_5 t137) rfl rfl (Nat.le_of_ble_eq_true rfl) ⟨Nat.le_of_ble_eq_true rfl, Nat.le_of_ble_eq_true rfl⟩ dL_areHandsSo_604 (fun r169 h170 hf => ?_)
                  refine v_iload (pc := 607) X 6 dL_areHandsSo_607 rfl ?_
                  refine v_ishr (pc := 609) X dL_areHandsSo_609 ?_
                  refine v_iconst (pc := 610) X (v := (1 : Int32)) dL_areHandsSo_610 (by decide) ?_
                  refine v_iand (pc := 611) X dL_areHandsSo_611 ?_
                  refine v_aload_n (pc := 612) X 3 dL_areHandsSo_612 rfl rfl ?_
                  refine v_iload (pc := 613) X 6 dL_areHandsSo_613 rfl ?_
                  refine v_iconst (pc := 615) X (v := (4 : Int32)) dL_areHandsSo_615 (by decide) ?_
                  refine v_callVI (pc := 616) X (As := [.int s.2, .int (4 : Int32)]) (rest := [.int ((r169 >>> (s.2 &&& 31)) &&& (1 : Int32))]) (c_X5_tableOf l D cA L sh x0 s.2 (4 : Int32) h170 _ hf) (cwV 2 X.ht (gwV inM q_193 q_194 q_195 q_1 q_196) rfl rfl rfl (by decide +kernel) ⟨Nat.le_of_ble_eq_true rfl, Nat.le_of_ble_eq_true rfl⟩) rfl (by decide) t137 (ent_5 t137) rfl rfl (Nat.le_of_ble_eq_true rfl) ⟨Nat.le_of_ble_eq_true rfl, Nat.le_of_ble_eq_true rfl⟩ dL_areHandsSo_616 (fun r171 h172 hf => ?_)
                  refine v_icmp_ne (pc := 619) X 682 dL_areHandsSo_619 (by decide) (fun cq => ?_) (fun cq => ?_)
                  · replace hf := if_f cq hf
                    refine v_iconst (pc := 682) X (v := (0 : Int32)) dL_areHandsSo_682 (by decide) ?_
                    exact hJ160 (0 : Int32) h172 hf
                  · replace hf := if_t cq hf
                    refine v_iload (pc := 622) X 2 dL_areHandsSo_622 rfl ?_
                    refine dj_e hf (Vat := fun v173 h174 => V p l e (headSpec (wM yL_areHandsSo cL_areHandsSo 15 (some .boolean)) ({ frames := 5, cells := 2, slots := 12, locals := 111 } : Room)).room s0 m args below meth c (MQ below (QAI D cA L0 s0.heap.size K) args s0 2 12 (fun q => q ∈ L0 ∨ s0.heap.size ≤ q)) (fun q => q ∈ L0 ∨ s0.heap.size ≤ q) 2 12 D cA L sh 15 h174 644 [(5, .int v140), (8, .int r138), (7, .int r135), (0, .ref x0), (3, .ref x3), (4, .ref x4), (6, .int s.2)] [.int v173]) (fun v173 h174 hf => ?_) (fun J175 hJ175 hf => ?_)
                    · refine v_iload (pc := 644) X 1 dL_areHandsSo_644 rfl ?_
                      refine dj_e hf (Vat := fun v178 h179 => V p l e (headSpec (wM yL_areHandsSo cL_areHandsSo 15 (some .boolean)) ({ frames := 5, cells := 2, slots := 12, locals := 111 } : Room)).room s0 m args below meth c (MQ below (QAI D cA L0 s0.heap.size K) args s0 2 12 (fun q => q ∈ L0 ∨ s0.heap.size ≤ q)) (fun q => q ∈ L0 ∨ s0.heap.size ≤ q) 2 12 D cA L sh 15 h179 654 [(5, .int v140), (8, .int r138), (7, .int r135), (0, .ref x0), (3, .ref x3), (4, .ref x4), (6, .int s.2)] [.int v178, .int v173]) (fun v178 h179 hf => ?_) (fun J180 hJ180 hf => ?_)
                      · refine v_icmp_ne (pc := 654) X 682 dL_areHandsSo_654 (by decide) (fun cq => ?_) (fun cq => ?_)
                        · replace hf := if_f cq hf
                          refine v_iconst (pc := 682) X (v := (0 : Int32)) dL_areHandsSo_682 (by decide) ?_
                          exact hJ160 (0 : Int32) h179 hf
                        · replace hf := if_t cq hf
                          refine v_iload (pc := 657) X 1 dL_areHandsSo_657 rfl ?_
                          refine v_if_lt (pc := 659) X 678 dL_areHandsSo_659 (by decide) (fun cq => ?_) (fun cq => ?_)
                          · replace hf := if_t cq hf
                            refine v_iconst (pc := 678) X (v := (1 : Int32)) dL_areHandsSo_678 (by decide) ?_
                            refine v_goto (pc := 679) X 683 dL_areHandsSo_679 (by decide) ?_
                            exact hJ160 (1 : Int32) h179 hf
                          · replace hf := if_f cq hf
                            refine v_aload_n (pc := 662) X 3 dL_areHandsSo_662 rfl rfl ?_
                            refine v_iload (pc := 663) X 1 dL_areHandsSo_663 rfl ?_
                            refine v_iconst (pc := 665) X (v := (3 : Int32)) dL_areHandsSo_665 (by decide) ?_
                            refine v_callVI (pc := 666) X (As := [.int r138, .int (3 : Int32)]) (rest := []) (c_X5_statement l D cA L sh x0 r138 (3 : Int32) h179 _ hf) (cwV 2 X.ht (gwV inM q_409 q_410 q_411 q_1 q_412) rfl rfl rfl (by decide +kernel) ⟨Nat.le_of_ble_eq_true rfl, Nat.le_of_ble_eq_true rfl⟩) rfl (by decide) t137 (ent_5 t137) rfl rfl (Nat.le_of_ble_eq_true rfl) ⟨Nat.le_of_ble_eq_true rfl, Nat.le_of_ble_eq_true rfl⟩ dL_areHandsSo_666 (fun r181 h182 hf => ?_)
                            refine v_iload (pc := 669) X 6 dL_areHandsSo_669 rfl ?_
                            refine v_ishr (pc := 671) X dL_areHandsSo_671 ?_
                            refine v_iconst (pc := 672) X (v := (1 : Int32)) dL_areHandsSo_672 (by decide) ?_
                            refine v_iand (pc := 673) X dL_areHandsSo_673 ?_
                            refine v_iconst (pc := 674) X (v := (1 : Int32)) dL_areHandsSo_674 (by decide) ?_
                            refine v_icmp_ne (pc := 675) X 682 dL_areHandsSo_675 (by decide) (fun cq => ?_) (fun cq => ?_)
                            · replace hf := if_f cq hf
                              refine v_iconst (pc := 682) X (v := (0 : Int32)) dL_areHandsSo_682 (by decide) ?_
                              exact hJ160 (0 : Int32) h182 hf
                            · replace hf := if_t cq hf
                              refine v_iconst (pc := 678) X (v := (1 : Int32)) dL_areHandsSo_678 (by decide) ?_
                              refine v_goto (pc := 679) X 683 dL_areHandsSo_679 (by decide) ?_
                              exact hJ160 (1 : Int32) h182 hf
                      · refine v_if_lt (pc := 646) X 653 dL_areHandsSo_646 (by decide) (fun cq => ?_) (fun cq => ?_)
                        · replace hf := if_t cq hf
                          refine v_iconst (pc := 653) X (v := (0 : Int32)) dL_areHandsSo_653 (by decide) ?_
                          exact hJ180 (0 : Int32) h174 hf
                        · replace hf := if_f cq hf
                          refine v_iconst (pc := 649) X (v := (1 : Int32)) dL_areHandsSo_649 (by decide) ?_
                          refine v_goto (pc := 650) X 654 dL_areHandsSo_650 (by decide) ?_
                          exact hJ180 (1 : Int32) h174 hf
                    · refine v_if_lt (pc := 624) X 643 dL_areHandsSo_624 (by decide) (fun cq => ?_) (fun cq => ?_)
                      · replace hf := if_t cq hf
                        refine v_iconst (pc := 643) X (v := (0 : Int32)) dL_areHandsSo_643 (by decide) ?_
                        exact hJ175 (0 : Int32) h172 hf
                      · replace hf := if_f cq hf
                        refine v_iload (pc := 627) X 2 dL_areHandsSo_627 rfl ?_
                        refine v_aload_n (pc := 629) X 3 dL_areHandsSo_629 rfl rfl ?_
                        refine v_iload (pc := 630) X 6 dL_areHandsSo_630 rfl ?_
                        refine v_iconst (pc := 632) X (v := (0 : Int32)) dL_areHandsSo_632 (by decide) ?_
                        refine v_callVI (pc := 633) X (As := [.int s.2, .int (0 : Int32)]) (rest := [.int r135]) (c_X5_tableOf l D cA L sh x0 s.2 (0 : Int32) h172 _ hf) (cwV 2 X.ht (gwV inM q_193 q_194 q_195 q_1 q_196) rfl rfl rfl (by decide +kernel) ⟨Nat.le_of_ble_eq_true rfl, Nat.le_of_ble_eq_true rfl⟩) rfl (by decide) t137 (ent_5 t137) rfl rfl (Nat.le_of_ble_eq_true rfl) ⟨Nat.le_of_ble_eq_true rfl, Nat.le_of_ble_eq_true rfl⟩ dL_areHandsSo_633 (fun r176 h177 hf => ?_)
                        refine v_icmp_ge (pc := 636) X 643 dL_areHandsSo_636 (by decide) (fun cq => ?_) (fun cq => ?_)
                        · replace hf := if_t cq hf
                          refine v_iconst (pc := 643) X (v := (0 : Int32)) dL_areHandsSo_643 (by decide) ?_
                          exact hJ175 (0 : Int32) h177 hf
                        · replace hf := if_f cq hf
                          refine v_iconst (pc := 639) X (v := (1 : Int32)) dL_areHandsSo_639 (by decide) ?_
                          refine v_goto (pc := 640) X 644 dL_areHandsSo_640 (by decide) ?_
                          exact hJ175 (1 : Int32) h177 hf
              · refine v_icmp_ne (pc := 590) X 597 dL_areHandsSo_590 (by decide) (fun cq => ?_) (fun cq => ?_)
                · replace hf := if_f cq hf
                  refine v_iconst (pc := 597) X (v := (0 : Int32)) dL_areHandsSo_597 (by decide) ?_
                  exact hJ168 (0 : Int32) h165 hf
                · replace hf := if_t cq hf
                  refine v_iconst (pc := 593) X (v := (1 : Int32)) dL_areHandsSo_593 (by decide) ?_
                  refine v_goto (pc := 594) X 598 dL_areHandsSo_594 (by decide) ?_
                  exact hJ168 (1 : Int32) h165 hf
            · refine v_icmp_ne (pc := 574) X 581 dL_areHandsSo_574 (by decide) (fun cq => ?_) (fun cq => ?_)
              · replace hf := if_f cq hf
                refine v_iconst (pc := 581) X (v := (0 : Int32)) dL_areHandsSo_581 (by decide) ?_
                exact hJ163 (0 : Int32) h141 hf
              · replace hf := if_t cq hf
                refine v_iconst (pc := 577) X (v := (1 : Int32)) dL_areHandsSo_577 (by decide) ?_
                refine v_goto (pc := 578) X 582 dL_areHandsSo_578 (by decide) ?_
                exact hJ163 (1 : Int32) h141 hf
      · refine v_if_eq (pc := 496) X 562 dL_areHandsSo_496 (by decide) (fun cq => ?_) (fun cq => ?_)
        · replace hf := if_t cq hf
          refine v_iconst (pc := 562) X (v := (0 : Int32)) dL_areHandsSo_562 (by decide) ?_
          exact hJ142 (0 : Int32) h139 hf
        · replace hf := if_f cq hf
          refine v_aload_n (pc := 499) X 3 dL_areHandsSo_499 rfl rfl ?_
          refine v_iload (pc := 500) X 6 dL_areHandsSo_500 rfl ?_
          obtain ⟨t145, hf⟩ := hf
          obtain ⟨b144, v143, e_v143, hf⟩ := hf
          refine v_iald (pc := 502) X t145 b144 e_v143 dL_areHandsSo_502 ?_
          refine v_aload_n (pc := 503) X 2 dL_areHandsSo_503 rfl rfl ?_
          refine v_iload (pc := 504) X 6 dL_areHandsSo_504 rfl ?_
          refine v_iconst (pc := 506) X (v := (3 : Int32)) dL_areHandsSo_506 (by decide) ?_
          refine v_callVI (pc := 507) X (As := [.int s.2, .int (3 : Int32)]) (rest := [.int v143]) (c_X5_tableOf l D cA L sh x0 s.2 (3 : Int32) h139 _ hf) (cwV 2 X.ht (gwV inM q_193 q_194 q_195 q_1 q_196) rfl rfl rfl (by decide +kernel) ⟨Nat.le_of_ble_eq_true rfl, Nat.le_of_ble_eq_true rfl⟩) rfl (by decide) t137 (ent_5 t137) rfl rfl (Nat.le_of_ble_eq_true rfl) ⟨Nat.le_of_ble_eq_true rfl, Nat.le_of_ble_eq_true rfl⟩ dL_areHandsSo_507 (fun r146 h147 hf => ?_)
          refine v_icmp_ne (pc := 510) X 562 dL_areHandsSo_510 (by decide) (fun cq => ?_) (fun cq => ?_)
          · replace hf := if_f cq hf
            refine v_iconst (pc := 562) X (v := (0 : Int32)) dL_areHandsSo_562 (by decide) ?_
            exact hJ142 (0 : Int32) h147 hf
          · replace hf := if_t cq hf
            refine v_iload (pc := 513) X 1 dL_areHandsSo_513 rfl ?_
            refine v_aload (pc := 515) X 4 dL_areHandsSo_515 rfl ?_
            refine v_iload (pc := 517) X 6 dL_areHandsSo_517 rfl ?_
            obtain ⟨t150, hf⟩ := hf
            obtain ⟨b149, v148, e_v148, hf⟩ := hf
            refine v_iald (pc := 519) X t150 b149 e_v148 dL_areHandsSo_519 ?_
            refine v_sipush (pc := 520) X (v := (9999 : Int32)) dL_areHandsSo_520 (by decide) ?_
            refine dj_e hf (Vat := fun v151 h152 => V p l e (headSpec (wM yL_areHandsSo cL_areHandsSo 15 (some .boolean)) ({ frames := 5, cells := 2, slots := 12, locals := 111 } : Room)).room s0 m args below meth c (MQ below (QAI D cA L0 s0.heap.size K) args s0 2 12 (fun q => q ∈ L0 ∨ s0.heap.size ≤ q)) (fun q => q ∈ L0 ∨ s0.heap.size ≤ q) 2 12 D cA L sh 15 h152 536 [(8, .int r138), (7, .int r135), (0, .ref x0), (3, .ref x3), (4, .ref x4), (5, .int s.1), (6, .int s.2)] [.int v151, .int r135]) (fun v151 h152 hf => ?_) (fun J153 hJ153 hf => ?_)
            · refine v_icmp_ne (pc := 536) X 562 dL_areHandsSo_536 (by decide) (fun cq => ?_) (fun cq => ?_)
              · replace hf := if_f cq hf
                refine v_iconst (pc := 562) X (v := (0 : Int32)) dL_areHandsSo_562 (by decide) ?_
                exact hJ142 (0 : Int32) h152 hf
              · replace hf := if_t cq hf
                refine v_iload (pc := 539) X 1 dL_areHandsSo_539 rfl ?_
                refine v_if_lt (pc := 541) X 558 dL_areHandsSo_541 (by decide) (fun cq => ?_) (fun cq => ?_)
                · replace hf := if_t cq hf
                  refine v_iconst (pc := 558) X (v := (1 : Int32)) dL_areHandsSo_558 (by decide) ?_
                  refine v_goto (pc := 559) X 563 dL_areHandsSo_559 (by decide) ?_
                  exact hJ142 (1 : Int32) h152 hf
                · replace hf := if_f cq hf
                  refine v_iload (pc := 544) X 1 dL_areHandsSo_544 rfl ?_
                  refine v_aload_n (pc := 546) X 2 dL_areHandsSo_546 rfl rfl ?_
                  refine v_iload (pc := 547) X 6 dL_areHandsSo_547 rfl ?_
                  refine v_iconst (pc := 549) X (v := (0 : Int32)) dL_areHandsSo_549 (by decide) ?_
                  refine v_callVI (pc := 550) X (As := [.int s.2, .int (0 : Int32)]) (rest := [.int r135]) (c_X5_tableOf l D cA L sh x0 s.2 (0 : Int32) h152 _ hf) (cwV 2 X.ht (gwV inM q_193 q_194 q_195 q_1 q_196) rfl rfl rfl (by decide +kernel) ⟨Nat.le_of_ble_eq_true rfl, Nat.le_of_ble_eq_true rfl⟩) rfl (by decide) t137 (ent_5 t137) rfl rfl (Nat.le_of_ble_eq_true rfl) ⟨Nat.le_of_ble_eq_true rfl, Nat.le_of_ble_eq_true rfl⟩ dL_areHandsSo_550 (fun r156 h157 hf => ?_)
                  refine v_iconst (pc := 553) X (v := (1 : Int32)) dL_areHandsSo_553 (by decide) ?_
                  refine v_isub (pc := 554) X dL_areHandsSo_554 ?_
                  refine v_icmp_lt (pc := 555) X 562 dL_areHandsSo_555 (by decide) (fun cq => ?_) (fun cq => ?_)
                  · replace hf := if_t cq hf
                    refine v_iconst (pc := 562) X (v := (0 : Int32)) dL_areHandsSo_562 (by decide) ?_
                    exact hJ142 (0 : Int32) h157 hf
                  · replace hf := if_f cq hf
                    refine v_iconst (pc := 558) X (v := (1 : Int32)) dL_areHandsSo_558 (by decide) ?_
                    refine v_goto (pc := 559) X 563 dL_areHandsSo_559 (by decide) ?_
                    exact hJ142 (1 : Int32) h157 hf
            · refine v_icmp_ne (pc := 523) X 531 dL_areHandsSo_523 (by decide) (fun cq => ?_) (fun cq => ?_)
              · replace hf := if_f cq hf
                refine v_aload (pc := 531) X 4 dL_areHandsSo_531 rfl ?_
                refine v_iload (pc := 533) X 6 dL_areHandsSo_533 rfl ?_
                obtain ⟨b155, v154, e_v154, hf⟩ := hf
                refine v_iald (pc := 535) X t150 b155 e_v154 dL_areHandsSo_535 ?_
                exact hJ153 v154 h147 hf
              · replace hf := if_t cq hf
                refine v_bipush (pc := 526) X (v := (-4 : Int32)) dL_areHandsSo_526 (by decide) ?_
                refine v_goto (pc := 528) X 536 dL_areHandsSo_528 (by decide) ?_
                exact hJ153 (-4 : Int32) h147 hf

set_option maxHeartbeats 8000000 in
set_option maxRecDepth 100000 in
theorem bw_L_areHandsSo {p : Program} {l : Launch} {e : Env} {s0 : State} {m : MethodId} {args : Array Value} {below : List Frame} {meth : Method} {c : Code} {D : va_G} {cA : Nat → ClassId} {L L0 : List Nat} {sh : Sh} (X : Cx p s0 m c args cL_areHandsSo 15 (wM yL_areHandsSo cL_areHandsSo 15 (some .boolean)) RL (fun q => q ∈ L0 ∨ s0.heap.size ≤ q) D cA L sh) (hr : meth.sig.returnType = (some .boolean)) (hlk : meth.locks = false) (p0 q1 q2 : Nat) (K : Int32 → List Nat → Sh → Hp → Prop) (h : Hp) (hf : g_L_areHandsSo sh p0 q1 q2 h (fun r h => K r L sh h)) : V p l e (headSpec (wM yL_areHandsSo cL_areHandsSo 15 (some .boolean)) ({ frames := 5, cells := 2, slots := 12, locals := 111 } : Room)).room s0 m args below meth c (MQ below (QAI D cA L0 s0.heap.size K) args s0 2 12 (fun q => q ∈ L0 ∨ s0.heap.size ≤ q)) (fun q => q ∈ L0 ∨ s0.heap.size ≤ q) 2 12 D cA L sh 15 h 15 [(4, .ref q2), (3, .ref q1), (2, .int (0 : Int32)), (1, .int (0 : Int32)), (0, .ref p0)] [] := by
  unfold g_L_areHandsSo at hf
  refine v_iconst (pc := 15) X (v := (0 : Int32)) dL_areHandsSo_15 (by decide) ?_
  refine v_istore (pc := 16) X (i := 5) (lv' := [(5, .int (0 : Int32)), (4, .ref q2), (3, .ref q1), (2, .int (0 : Int32)), (1, .int (0 : Int32)), (0, .ref p0)]) dL_areHandsSo_16 (Nat.le_of_ble_eq_true rfl) rfl ?_
  obtain ⟨n, hf⟩ := hf
  refine v_sub [5, 4, 3, 2, 1, 0] rfl ?_
  refine w_L_areHandsSo_18 X hr hlk p0 (0 : Int32) (0 : Int32) q1 q2 _ K (fun  h4 hf => ?_) n (0 : Int32) h hf
  refine v_iconst (pc := 39) X (v := (0 : Int32)) dL_areHandsSo_39 (by decide) ?_
  refine v_istore (pc := 40) X (i := 5) (lv' := [(5, .int (0 : Int32)), (0, .ref p0), (1, .int (0 : Int32)), (2, .int (0 : Int32)), (3, .ref q1), (4, .ref q2)]) dL_areHandsSo_40 (Nat.le_of_ble_eq_true rfl) rfl ?_
  obtain ⟨n, hf⟩ := hf
  refine v_sub [1, 4, 5, 2, 3, 0] rfl ?_
  refine w_L_areHandsSo_42 X hr hlk p0 q1 q2 _ K (fun y124 y125 h126 hf => ?_) n ((0 : Int32), (0 : Int32), (0 : Int32)) h4 hf
  refine v_iload_n (pc := 441) X 1 dL_areHandsSo_441 rfl rfl ?_
  refine v_aload_n (pc := 442) X 0 dL_areHandsSo_442 rfl rfl ?_
  refine v_iconst (pc := 443) X (v := (3 : Int32)) dL_areHandsSo_443 (by decide) ?_
  obtain ⟨t129, hf⟩ := hf
  refine v_callVI (pc := 444) X (As := [.int (3 : Int32)]) (rest := [.int y124]) (c_X5_count l D cA L sh p0 (3 : Int32) h126 _ hf) (cwV 1 X.ht (gwV inM q_218 q_219 q_220 q_1 q_221) rfl rfl rfl (by decide +kernel) ⟨Nat.le_of_ble_eq_true rfl, Nat.le_of_ble_eq_true rfl⟩) rfl (by decide) t129 (ent_5 t129) rfl rfl (Nat.le_of_ble_eq_true rfl) ⟨Nat.le_of_ble_eq_true rfl, Nat.le_of_ble_eq_true rfl⟩ dL_areHandsSo_444 (fun r127 h128 hf => ?_)
  refine dj_e hf (Vat := fun v130 h131 => V p l e (headSpec (wM yL_areHandsSo cL_areHandsSo 15 (some .boolean)) ({ frames := 5, cells := 2, slots := 12, locals := 111 } : Room)).room s0 m args below meth c (MQ below (QAI D cA L0 s0.heap.size K) args s0 2 12 (fun q => q ∈ L0 ∨ s0.heap.size ≤ q)) (fun q => q ∈ L0 ∨ s0.heap.size ≤ q) 2 12 D cA L sh 15 h131 465 [(0, .ref p0), (1, .int y124), (2, .int y125), (3, .ref q1), (4, .ref q2)] [.int v130]) (fun v130 h131 hf => ?_) (fun J132 hJ132 hf => ?_)
  · refine v_istore (pc := 465) X (i := 5) (lv' := [(5, .int v130), (0, .ref p0), (1, .int y124), (2, .int y125), (3, .ref q1), (4, .ref q2)]) dL_areHandsSo_465 (Nat.le_of_ble_eq_true rfl) rfl ?_
    refine v_iconst (pc := 467) X (v := (0 : Int32)) dL_areHandsSo_467 (by decide) ?_
    refine v_istore (pc := 468) X (i := 6) (lv' := [(6, .int (0 : Int32)), (5, .int v130), (0, .ref p0), (1, .int y124), (2, .int y125), (3, .ref q1), (4, .ref q2)]) dL_areHandsSo_468 (Nat.le_of_ble_eq_true rfl) rfl ?_
    obtain ⟨n, hf⟩ := hf
    refine v_sub [2, 5, 6, 1, 0] rfl ?_
    refine w_L_areHandsSo_470 X hr hlk p0 q1 q2 _ K (fun y183 h184 hf => ?_) n (v130, (0 : Int32)) h131 hf
    refine v_iload (pc := 691) X 0 dL_areHandsSo_691 rfl ?_
    obtain ⟨z185, hf⟩ := hf
    exact v_zretA (pc := 693) X hr hlk dL_areHandsSo_693 z185 hf
  · refine v_icmp_ne (pc := 447) X 464 dL_areHandsSo_447 (by decide) (fun cq => ?_) (fun cq => ?_)
    · replace hf := if_f cq hf
      refine v_iconst (pc := 464) X (v := (0 : Int32)) dL_areHandsSo_464 (by decide) ?_
      exact hJ132 (0 : Int32) h128 hf
    · replace hf := if_t cq hf
      refine v_iload_n (pc := 450) X 2 dL_areHandsSo_450 rfl rfl ?_
      refine v_aload_n (pc := 451) X 0 dL_areHandsSo_451 rfl rfl ?_
      refine v_bipush (pc := 452) X (v := (8 : Int32)) dL_areHandsSo_452 (by decide) ?_
      refine v_callVI (pc := 454) X (As := [.int (8 : Int32)]) (rest := [.int y125]) (c_X5_count l D cA L sh p0 (8 : Int32) h128 _ hf) (cwV 1 X.ht (gwV inM q_218 q_219 q_220 q_1 q_221) rfl rfl rfl (by decide +kernel) ⟨Nat.le_of_ble_eq_true rfl, Nat.le_of_ble_eq_true rfl⟩) rfl (by decide) t129 (ent_5 t129) rfl rfl (Nat.le_of_ble_eq_true rfl) ⟨Nat.le_of_ble_eq_true rfl, Nat.le_of_ble_eq_true rfl⟩ dL_areHandsSo_454 (fun r133 h134 hf => ?_)
      refine v_icmp_ne (pc := 457) X 464 dL_areHandsSo_457 (by decide) (fun cq => ?_) (fun cq => ?_)
      · replace hf := if_f cq hf
        refine v_iconst (pc := 464) X (v := (0 : Int32)) dL_areHandsSo_464 (by decide) ?_
        exact hJ132 (0 : Int32) h134 hf
      · replace hf := if_t cq hf
        refine v_iconst (pc := 460) X (v := (1 : Int32)) dL_areHandsSo_460 (by decide) ?_
        refine v_goto (pc := 461) X 465 dL_areHandsSo_461 (by decide) ?_
        exact hJ132 (1 : Int32) h134 hf

set_option maxHeartbeats 8000000 in
set_option maxRecDepth 100000 in
theorem c_L_areHandsSo (l : Launch) (D : va_G) (cA : Nat → ClassId) (L : List Nat) (sh : Sh) (p0 : Nat) (h : Hp) (K : Int32 → List Nat → Sh → Hp → Prop) (hf : f_L_areHandsSo L sh p0 h K) : ∀ sz, Met l yL_areHandsSo (wM yL_areHandsSo cL_areHandsSo 15 (some .boolean)) ({ frames := 5, cells := 2, slots := 12, locals := 111 } : Room) (PreN D cA L sh h sz [.ref p0]) (QAI D cA L sz K) 2 12 (fun q => q ∈ L ∨ sz ≤ q) := by
  intro sz
  refine met_a (cc := cL_areHandsSo) (nL := 15) (ret := (some .boolean)) [(0, .ref p0)] (by decide) rfl (Nat.le_of_ble_eq_true rfl) rfl ?_
  intro p e s0 m below meth c X hr hlk
  unfold f_L_areHandsSo at hf
  have ka := X.ht _ (inM _ q_62)
  refine v_iconst (pc := 0) X (v := (0 : Int32)) dL_areHandsSo_0 (by decide) ?_
  refine v_istore_n (pc := 1) X (i := 1) (lv' := [(1, .int (0 : Int32)), (0, .ref p0)]) dL_areHandsSo_1 rfl (Nat.le_of_ble_eq_true rfl) rfl ?_
  refine v_iconst (pc := 2) X (v := (0 : Int32)) dL_areHandsSo_2 (by decide) ?_
  refine v_istore_n (pc := 3) X (i := 2) (lv' := [(2, .int (0 : Int32)), (1, .int (0 : Int32)), (0, .ref p0)]) dL_areHandsSo_3 rfl (Nat.le_of_ble_eq_true rfl) rfl ?_
  refine v_bipush (pc := 4) X (v := (6 : Int32)) dL_areHandsSo_4 (by decide) ?_
  refine v_newa (pc := 6) X (N := 6) ka (fun _ z => Or.inr z) (by decide) (by decide) (Nat.le_of_ble_eq_true rfl) (Nat.le_of_ble_eq_true rfl) (Nat.le_of_ble_eq_true rfl) dL_areHandsSo_6 (fun q1 nq X1 => ?_)
  replace hf := hf q1 _ _ _ nq rfl rfl rfl
  obtain ⟨h1, e_h1⟩ : ∃ z, z = hz h q1 := ⟨_, rfl⟩
  rw [← e_h1] at hf ⊢
  obtain ⟨L1, e_L1⟩ : ∃ z, z = L ++ [q1] := ⟨_, rfl⟩
  rw [← e_L1] at hf X1 ⊢
  obtain ⟨s1, e_s1⟩ : ∃ z, z = va_up sh q1 (7, 6) := ⟨_, rfl⟩
  rw [← e_s1] at hf X1 ⊢
  refine v_astore_n (pc := 8) X1 (i := 3) (lv' := [(3, .ref q1), (2, .int (0 : Int32)), (1, .int (0 : Int32)), (0, .ref p0)]) dL_areHandsSo_8 rfl (Nat.le_of_ble_eq_true rfl) rfl ?_
  refine v_bipush (pc := 9) X1 (v := (6 : Int32)) dL_areHandsSo_9 (by decide) ?_
  refine v_newa (pc := 11) X1 (N := 6) ka (fun _ z => Or.inr z) (by decide) (by decide) (Nat.le_of_ble_eq_true rfl) (Nat.le_of_ble_eq_true rfl) (Nat.le_of_ble_eq_true rfl) dL_areHandsSo_11 (fun q2 nq X2 => ?_)
  replace hf := hf q2 _ _ _ nq rfl rfl rfl
  obtain ⟨h2, e_h2⟩ : ∃ z, z = hz h1 q2 := ⟨_, rfl⟩
  rw [← e_h2] at hf ⊢
  obtain ⟨L2, e_L2⟩ : ∃ z, z = L1 ++ [q2] := ⟨_, rfl⟩
  rw [← e_L2] at hf X2 ⊢
  obtain ⟨s2, e_s2⟩ : ∃ z, z = va_up s1 q2 (7, 6) := ⟨_, rfl⟩
  rw [← e_s2] at hf X2 ⊢
  refine v_astore (pc := 13) X2 (i := 4) (lv' := [(4, .ref q2), (3, .ref q1), (2, .int (0 : Int32)), (1, .int (0 : Int32)), (0, .ref p0)]) dL_areHandsSo_13 (Nat.le_of_ble_eq_true rfl) rfl ?_
  exact bw_L_areHandsSo X2 hr hlk p0 q1 q2 K h2 hf


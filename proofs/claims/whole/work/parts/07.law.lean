-- ===== end of PART A; then your names; then what follows =====
/-! THE CLAIM OUT OF ONE WALK OF THE LAW'S BODY. Your part is whole_start (and what it stands on); all else here is the same for every law, but numbers. -/
def R_law : String := "ShapeSessionsLaw"
def lw_P (b : Addr) (xs : List Int32) (args : Array Value) (s : State) : Prop := args = #[.ref b] ∧ s.IntsAt b xs ∧ xs.length ≤ 2048 ∧ (Jvm.Cond.and given_1 narrow_1).before args s = true
def lw_Q (_ : Array Value) (s : State) (o : Outcome) (t : State) : Prop := o = .returned (some (.int 1)) ∧ Framed s o t [] 600000 7302250
def lw_Z (below : List Frame) (a : Array Value) (s : State) : State → Prop := fun t => ∃ o, t.status = .running ∧ Ended t below o ∧ lw_Q a s o t
/-- the law's own end, with 1 on the stack, nothing written that was there before, its room as the claim has it -/
theorem lw_ret {p : Program} {l : Launch} {e : Env} {s : State} {m : MethodId} {below : List Frame} {meth : Method} {c : Code} {b : Nat} (hx : p.tables.exec = Jvm.exec) (hb : c.code = code) (hr : meth.sig.returnType = ret) (hlocks : meth.locks = false) {pc : Nat} {H : Heap} {ls : Array Slot} (hdg : decode code pc = .ok (.ireturn, 1)) : W p l e room_1 s m #[Value.ref b] below meth c H [] 600000 7302250 (lw_Z below #[Value.ref b] s) (F0 m pc ls [.int 1]) := by
  intro T hT X
  obtain ⟨fs, hret, hrun, hended, hW, hframe⟩ := X.leave (v := some (.int 1)) (hlocks := hlocks) (fun h => by rw [hr] at h; cases h)
  have hmeth' : T.vm.method? m = some meth := X.method'
  refine ⟨T.setFrames fs, ?_, .returned (some (.int 1)), hrun, hended, rfl, ⟨_, rfl⟩, hW, hframe⟩
  jvm_step X.here [X.here.top, hx, hb, hdg, hmeth', hr, ret, narrow_b1]
  (try refine ⟨rfl, ?_⟩); (try refine ⟨rfl, ?_⟩)
  first | (intro acts; rw [hret _ acts rfl rfl rfl]) | rw [hret _ _ rfl rfl rfl]
  exact Steps.refl _
/-- what holds at the law's entry: the machine, the code, the tables' words (any of lw_tbl by 'hts w (by decide +kernel)'), the script of L ints xs at the cell b, what the Statement gives of the start (any of its parts by flat_of_before) -/
def lw_At (p : Program) (s : State) (m : MethodId) (meth : Method) (c : Code) (b L : Nat) (xs : Nat → Int32) : Prop :=
  p.tables.exec = Jvm.exec ∧ c.code = code ∧ meth.sig.returnType = ret ∧ c.maxLocals = 4 ∧ s.vm.findClass R_law = some m.cls ∧ (∀ w ∈ lw_tbl, w.before #[Value.ref b] s = true) ∧ va_X b L xs s s.heap ∧ b < s.heap.size ∧ meth.locks = false ∧ (Jvm.Cond.and given_1 narrow_1).before #[Value.ref b] s = true

def lS (xs : Nat → Int32) (Ls : Nat) (i : Int32) (K : Int32 → Prop) : Prop := vp_in i Ls ∧ ∃ v, v = xs i.toNatClampNeg ∧ K v
section LROWS
variable {p : Program} {l : Launch} {e : Env} {R : Room} {s : State} {m : MethodId} {args : Array Value} {below : List Frame} {meth : Method} {c : Code} {Q : State → Prop} {A : Nat → Prop} {ce sl : Nat} {D : va_G} {cA : Nat → ClassId} {L : List Nat} {sh : Sh} {nL : Nat} {h : Hp} {pc : Nat} {lv : List (Nat × Value)} {st : List Value} {cc : ByteArray} {Ts : List Cond} {own : String} {b Ls : Nat} {xs : Nat → Int32}
theorem v_sld (X : Cx p s m c args cc nL Ts own A D cA L sh) {i v : Int32} (hX : va_X b Ls xs s s.heap) (hbl : b < s.heap.size) (hbA : ¬ A b) (hin : vp_in i Ls) (ev : v = xs i.toNatClampNeg) (hd : decode cc pc = .ok (.iaload, 1)) (kk : V p l e R s m args below meth c Q A ce sl D cA L sh nL h (pc + 1) lv (.int v :: st)) : V p l e R s m args below meth c Q A ce sl D cA L sh nL h pc lv (.int i :: .ref b :: st) := fun ls H locs hL hP hS => by
  subst ev
  exact va_sld X.hx X.hb hX hbl hbA hS hin hd (kk ls H locs hL hP hS)
theorem v_slen (X : Cx p s m c args cc nL Ts own A D cA L sh) (hX : va_X b Ls xs s s.heap) (hbl : b < s.heap.size) (hbA : ¬ A b) (hd : decode cc pc = .ok (.arraylength, 1)) (kk : V p l e R s m args below meth c Q A ce sl D cA L sh nL h (pc + 1) lv (.int (Int32.ofNat Ls) :: st)) : V p l e R s m args below meth c Q A ce sl D cA L sh nL h pc lv (.ref b :: st) := fun ls H locs hL hP hS => va_slen X.hx X.hb hX hbl hbA hS hd (kk ls H locs hL hP hS)
theorem v_lawret {meth : Method} (X : Cx p s m c #[Value.ref b] code nL Ts own (fun q => s.heap.size ≤ q) D cA L sh) (hr : meth.sig.returnType = ret) (hlk : meth.locks = false) (hce : ce ≤ 600000) (hsl : sl ≤ 7302250) (hd : decode code pc = .ok (.ireturn, 1)) : V p l e room_1 s m #[Value.ref b] below meth c (lw_Z below #[Value.ref b] s) (fun q => s.heap.size ≤ q) ce sl D cA L sh nL h pc lv [.int 1] := fun ls H locs hL hP hS => by
  refine va_forget (fun q hq => hS.2.2 q hq) ?_
  refine W.widen hce hsl ?_
  exact lw_ret X.hx X.hb hr hlk hd
end LROWS

def b_law (sh : Sh) (x1 x2 : Nat) (xs : Nat → Int32) (Ls : Nat) (rec : Int32 → Hp → Prop) (i : Int32) (h : Hp) : Prop :=
  if ((Int32.ofNat Ls) - (4 : Int32)) < i then
    True
  else
    lS xs Ls i fun v1 =>
    if (v1 &&& (31 : Int32)) = (0 : Int32) then
      lS xs Ls (i + (1 : Int32)) fun v3 =>
      lS xs Ls (i + (2 : Int32)) fun v5 =>
      f_X5_alter sh x1 v3 v5 h fun r7 h8 =>
      lS xs Ls (i + (1 : Int32)) fun v9 =>
      lS xs Ls (i + (2 : Int32)) fun v11 =>
      f_X6_alter sh x2 v9 v11 h8 fun r13 h14 =>
      if r7 = r13 then
        rec (i + (4 : Int32)) h14
      else
        False
    else
    if (v1 &&& (31 : Int32)) = (1 : Int32) then
      lS xs Ls (i + (1 : Int32)) fun v15 =>
      lS xs Ls (i + (2 : Int32)) fun v17 =>
      f_X5_start sh x1 v15 v17 h fun r19 h20 =>
      lS xs Ls (i + (1 : Int32)) fun v21 =>
      lS xs Ls (i + (2 : Int32)) fun v23 =>
      f_X6_start sh x2 v21 v23 h20 fun r25 h26 =>
      if r19 = r25 then
        rec (i + (4 : Int32)) h26
      else
        False
    else
    if (v1 &&& (31 : Int32)) = (2 : Int32) then
      lS xs Ls (i + (1 : Int32)) fun v27 =>
      f_X5_end sh x1 v27 h fun r29 h30 =>
      lS xs Ls (i + (1 : Int32)) fun v31 =>
      f_X6_end sh x2 v31 h30 fun r33 h34 =>
      if r29 = r33 then
        rec (i + (4 : Int32)) h34
      else
        False
    else
    if (v1 &&& (31 : Int32)) = (3 : Int32) then
      lS xs Ls (i + (1 : Int32)) fun v35 =>
      f_X5_tick sh x1 v35 h fun r37 h38 =>
      lS xs Ls (i + (1 : Int32)) fun v39 =>
      f_X6_tick sh x2 v39 h38 fun r41 h42 =>
      if r37 = r41 then
        rec (i + (4 : Int32)) h42
      else
        False
    else
    if (v1 &&& (31 : Int32)) = (4 : Int32) then
      lS xs Ls (i + (1 : Int32)) fun v43 =>
      lS xs Ls (i + (2 : Int32)) fun v45 =>
      f_X5_set sh x1 v43 v45 h fun r47 h48 =>
      lS xs Ls (i + (1 : Int32)) fun v49 =>
      lS xs Ls (i + (2 : Int32)) fun v51 =>
      f_X6_set sh x2 v49 v51 h48 fun r53 h54 =>
      if r47 = r53 then
        rec (i + (4 : Int32)) h54
      else
        False
    else
    if (v1 &&& (31 : Int32)) = (5 : Int32) then
      lS xs Ls (i + (1 : Int32)) fun v55 =>
      lS xs Ls (i + (2 : Int32)) fun v57 =>
      f_X5_tableOf sh x1 v55 v57 h fun r59 h60 =>
      lS xs Ls (i + (1 : Int32)) fun v61 =>
      lS xs Ls (i + (2 : Int32)) fun v63 =>
      f_X6_tableOf sh x2 v61 v63 h60 fun r65 h66 =>
      if r59 = r65 then
        rec (i + (4 : Int32)) h66
      else
        False
    else
    if (v1 &&& (31 : Int32)) = (6 : Int32) then
      lS xs Ls (i + (1 : Int32)) fun v67 =>
      lS xs Ls (i + (2 : Int32)) fun v69 =>
      f_X5_sessionOf sh x1 v67 v69 h fun r71 h72 =>
      lS xs Ls (i + (1 : Int32)) fun v73 =>
      lS xs Ls (i + (2 : Int32)) fun v75 =>
      f_X6_sessionOf sh x2 v73 v75 h72 fun r77 h78 =>
      if r71 = r77 then
        rec (i + (4 : Int32)) h78
      else
        False
    else
    if (v1 &&& (31 : Int32)) = (7 : Int32) then
      lS xs Ls (i + (1 : Int32)) fun v79 =>
      lS xs Ls (i + (2 : Int32)) fun v81 =>
      lS xs Ls (i + (3 : Int32)) fun v83 =>
      f_X5_entry sh x1 v79 v81 v83 h fun r85 h86 =>
      lS xs Ls (i + (1 : Int32)) fun v87 =>
      lS xs Ls (i + (2 : Int32)) fun v89 =>
      lS xs Ls (i + (3 : Int32)) fun v91 =>
      f_X6_entry sh x2 v87 v89 v91 h86 fun r93 h94 =>
      if r85 = r93 then
        rec (i + (4 : Int32)) h94
      else
        False
    else
    if (v1 &&& (31 : Int32)) = (8 : Int32) then
      lS xs Ls (i + (1 : Int32)) fun v95 =>
      lS xs Ls (i + (2 : Int32)) fun v97 =>
      f_X5_statement sh x1 v95 v97 h fun r99 h100 =>
      lS xs Ls (i + (1 : Int32)) fun v101 =>
      lS xs Ls (i + (2 : Int32)) fun v103 =>
      f_X6_statement sh x2 v101 v103 h100 fun r105 h106 =>
      if r99 = r105 then
        rec (i + (4 : Int32)) h106
      else
        False
    else
    if (v1 &&& (31 : Int32)) = (9 : Int32) then
      lS xs Ls (i + (1 : Int32)) fun v107 =>
      f_X5_notice sh x1 v107 h fun r109 h110 =>
      lS xs Ls (i + (1 : Int32)) fun v111 =>
      f_X6_notice sh x2 v111 h110 fun r113 h114 =>
      if r109 = r113 then
        rec (i + (4 : Int32)) h114
      else
        False
    else
    if (v1 &&& (31 : Int32)) = (10 : Int32) then
      lS xs Ls (i + (1 : Int32)) fun v115 =>
      f_X5_count sh x1 v115 h fun r117 h118 =>
      lS xs Ls (i + (1 : Int32)) fun v119 =>
      f_X6_count sh x2 v119 h118 fun r121 h122 =>
      if r117 = r121 then
        rec (i + (4 : Int32)) h122
      else
        False
    else
    if (v1 &&& (31 : Int32)) = (11 : Int32) then
      lS xs Ls (i + (1 : Int32)) fun v123 =>
      lS xs Ls (i + (2 : Int32)) fun v125 =>
      lS xs Ls (i + (3 : Int32)) fun v127 =>
      f_X5_would sh x1 v123 v125 v127 h fun r129 h130 =>
      lS xs Ls (i + (1 : Int32)) fun v131 =>
      lS xs Ls (i + (2 : Int32)) fun v133 =>
      lS xs Ls (i + (3 : Int32)) fun v135 =>
      f_X6_would sh x2 v131 v133 v135 h130 fun r137 h138 =>
      if r129 = r137 then
        rec (i + (4 : Int32)) h138
      else
        False
    else
    if (v1 &&& (31 : Int32)) = (12 : Int32) then
      lS xs Ls (i + (1 : Int32)) fun v139 =>
      f_X5_inTheWay sh x1 v139 h fun r141 h142 =>
      lS xs Ls (i + (1 : Int32)) fun v143 =>
      f_X6_inTheWay sh x2 v143 h142 fun r145 h146 =>
      if r141 = r145 then
        rec (i + (4 : Int32)) h146
      else
        False
    else
    if (v1 &&& (31 : Int32)) = (13 : Int32) then
      lS xs Ls (i + (1 : Int32)) fun v147 =>
      f_X5_bestRoom sh x1 v147 h fun r149 h150 =>
      lS xs Ls (i + (1 : Int32)) fun v151 =>
      f_X6_bestRoom sh x2 v151 h150 fun r153 h154 =>
      if r149 = r153 then
        rec (i + (4 : Int32)) h154
      else
        False
    else
    if (v1 &&& (31 : Int32)) = (14 : Int32) then
      f_X5_keep sh x1 h fun r155 h156 =>
      f_X6_keep sh x2 h156 fun r157 h158 =>
      if r155 = r157 then
        rec (i + (4 : Int32)) h158
      else
        False
    else
    if (v1 &&& (31 : Int32)) = (15 : Int32) then
      f_X5_restore sh x1 h fun r159 h160 =>
      f_X6_restore sh x2 h160 fun r161 h162 =>
      if r159 = r161 then
        rec (i + (4 : Int32)) h162
      else
        False
    else
    if (v1 &&& (31 : Int32)) = (16 : Int32) then
      f_X5_undo sh x1 h fun r163 h164 =>
      f_X6_undo sh x2 h164 fun r165 h166 =>
      if r163 = r165 then
        rec (i + (4 : Int32)) h166
      else
        False
    else
    if (v1 &&& (31 : Int32)) = (17 : Int32) then
      lS xs Ls (i + (1 : Int32)) fun v167 =>
      f_X5_type sh x1 v167 h fun r169 h170 =>
      lS xs Ls (i + (1 : Int32)) fun v171 =>
      f_X6_type sh x2 v171 h170 fun r173 h174 =>
      if r169 = r173 then
        rec (i + (4 : Int32)) h174
      else
        False
    else
    if (v1 &&& (31 : Int32)) = (18 : Int32) then
      f_X5_clearText sh x1 h fun r175 h176 =>
      f_X6_clearText sh x2 h176 fun r177 h178 =>
      if r175 = r177 then
        rec (i + (4 : Int32)) h178
      else
        False
    else
    if (v1 &&& (31 : Int32)) = (19 : Int32) then
      lS xs Ls (i + (1 : Int32)) fun v179 =>
      f_X5_fault sh x1 v179 h fun r181 h182 =>
      lS xs Ls (i + (1 : Int32)) fun v183 =>
      f_X6_fault sh x2 v183 h182 fun r185 h186 =>
      if r181 = r185 then
        rec (i + (4 : Int32)) h186
      else
        False
    else
    if (v1 &&& (31 : Int32)) = (20 : Int32) then
      f_X5_play sh x1 h fun r187 h188 =>
      f_X6_play sh x2 h188 fun r189 h190 =>
      if r187 = r189 then
        rec (i + (4 : Int32)) h190
      else
        False
    else
    rec (i + (4 : Int32)) h

set_option maxHeartbeats 16000000 in
set_option maxRecDepth 100000 in
theorem w_law {p : Program} {l : Launch} {e : Env} {s : State} {m : MethodId} {below : List Frame} {meth : Method} {c : Code} {D : va_G} {cA : Nat → ClassId} {L : List Nat} {sh : Sh} {b Ls : Nat} {xs : Nat → Int32} (X : Cx p s m c #[Value.ref b] code 4 lw_tbl RL (fun q => s.heap.size ≤ q) D cA L sh) (hr : meth.sig.returnType = ret) (hlk : meth.locks = false) (hX : va_X b Ls xs s s.heap) (hbl : b < s.heap.size) (x1 x2 : Nat) (t5 : (sh x1).1 = 5) (t6 : (sh x2).1 = 6) : ∀ (n : Nat) (i : Int32) (h : Hp), lp (b_law sh x1 x2 xs Ls) n i h → V p l e room_1 s m #[Value.ref b] below meth c (lw_Z below #[Value.ref b] s) (fun q => s.heap.size ≤ q) 601 9404 D cA L sh 4 h 18 [(0, .ref b), (1, .ref x1), (2, .ref x2), (3, .int i)] [] := by
  have hbA : ¬ (fun q => s.heap.size ≤ q) b := Nat.not_le.mpr hbl
  intro n
  induction n with
  | zero => intro i h hf; exact hf.elim
  | succ n ih =>
    intro i h hf
    replace hf : b_law sh x1 x2 xs Ls (lp (b_law sh x1 x2 xs Ls) n) i h := hf
    unfold b_law at hf
    refine v_iload_n (pc := 18) X 3 dL_law_18 rfl rfl ?_
    refine v_aload_n (pc := 19) X 0 dL_law_19 rfl rfl ?_
    refine v_slen (pc := 20) X hX hbl hbA dL_law_20 ?_
    refine v_iconst (pc := 21) X (v := (4 : Int32)) dL_law_21 (by decide) ?_
    refine v_isub (pc := 22) X dL_law_22 ?_
    refine v_icmp_gt (pc := 23) X 671 dL_law_23 (by decide) (fun c => ?_) (fun c => ?_)
    · replace hf := if_t c hf
      refine v_iconst (pc := 671) X (v := (1 : Int32)) dL_law_671 (by decide) ?_
      exact v_lawret (pc := 672) X hr hlk (Nat.le_of_ble_eq_true rfl) (Nat.le_of_ble_eq_true rfl) dL_law_672
    · replace hf := if_f c hf
      refine v_aload_n (pc := 26) X 0 dL_law_26 rfl rfl ?_
      refine v_iload_n (pc := 27) X 3 dL_law_27 rfl rfl ?_
      obtain ⟨b2, v1, e_v1, hf⟩ := hf
      refine v_sld (pc := 28) X hX hbl hbA b2 e_v1 dL_law_28 ?_
      refine v_bipush (pc := 29) X (v := (31 : Int32)) dL_law_29 (by decide) ?_
      refine v_iand (pc := 31) X dL_law_31 ?_
      by_cases c0 : (v1 &&& (31 : Int32)) = (0 : Int32)
      · replace hf := if_t c0 hf
        refine v_tableIn (pc := 32) X (off := 100) 132 dL_law_32 (by rw [c0]; decide) (by rw [c0]; decide) (by rw [c0]; decide) (by decide) ?_
        refine v_aload_n (pc := 132) X 1 dL_law_132 rfl rfl ?_
        refine v_aload_n (pc := 133) X 0 dL_law_133 rfl rfl ?_
        refine v_iload_n (pc := 134) X 3 dL_law_134 rfl rfl ?_
        refine v_iconst (pc := 135) X (v := (1 : Int32)) dL_law_135 (by decide) ?_
        refine v_iadd (pc := 136) X dL_law_136 ?_
        obtain ⟨b4, v3, e_v3, hf⟩ := hf
        refine v_sld (pc := 137) X hX hbl hbA b4 e_v3 dL_law_137 ?_
        refine v_aload_n (pc := 138) X 0 dL_law_138 rfl rfl ?_
        refine v_iload_n (pc := 139) X 3 dL_law_139 rfl rfl ?_
        refine v_iconst (pc := 140) X (v := (2 : Int32)) dL_law_140 (by decide) ?_
        refine v_iadd (pc := 141) X dL_law_141 ?_
        obtain ⟨b6, v5, e_v5, hf⟩ := hf
        refine v_sld (pc := 142) X hX hbl hbA b6 e_v5 dL_law_142 ?_
        refine v_callVI (pc := 143) X (As := [.int v3, .int v5]) (rest := []) (c_X5_alter l D cA L sh x1 v3 v5 h _ hf) (cwV 2 X.ht (gwV lwG_in q_205 q_206 q_207 q_1 q_208) rfl rfl rfl (by decide +kernel) ⟨Nat.le_of_ble_eq_true rfl, Nat.le_of_ble_eq_true rfl⟩) rfl (by decide) t5 (ent_5 t5) rfl rfl (Nat.le_of_ble_eq_true rfl) ⟨Nat.le_of_ble_eq_true rfl, Nat.le_of_ble_eq_true rfl⟩ dL_law_143 (fun r7 h8 hf => ?_)
        refine v_aload_n (pc := 146) X 2 dL_law_146 rfl rfl ?_
        refine v_aload_n (pc := 147) X 0 dL_law_147 rfl rfl ?_
        refine v_iload_n (pc := 148) X 3 dL_law_148 rfl rfl ?_
        refine v_iconst (pc := 149) X (v := (1 : Int32)) dL_law_149 (by decide) ?_
        refine v_iadd (pc := 150) X dL_law_150 ?_
        obtain ⟨b10, v9, e_v9, hf⟩ := hf
        refine v_sld (pc := 151) X hX hbl hbA b10 e_v9 dL_law_151 ?_
        refine v_aload_n (pc := 152) X 0 dL_law_152 rfl rfl ?_
        refine v_iload_n (pc := 153) X 3 dL_law_153 rfl rfl ?_
        refine v_iconst (pc := 154) X (v := (2 : Int32)) dL_law_154 (by decide) ?_
        refine v_iadd (pc := 155) X dL_law_155 ?_
        obtain ⟨b12, v11, e_v11, hf⟩ := hf
        refine v_sld (pc := 156) X hX hbl hbA b12 e_v11 dL_law_156 ?_
        refine v_callVI (pc := 157) X (As := [.int v9, .int v11]) (rest := [.int r7]) (c_X6_alter l D cA L sh x2 v9 v11 h8 _ hf) (cwV 2 X.ht (gwV lwG_in q_523 q_524 q_525 q_7 q_526) rfl rfl rfl (by decide +kernel) ⟨Nat.le_of_ble_eq_true rfl, Nat.le_of_ble_eq_true rfl⟩) rfl (by decide) t6 (ent_6 t6) rfl rfl (Nat.le_of_ble_eq_true rfl) ⟨Nat.le_of_ble_eq_true rfl, Nat.le_of_ble_eq_true rfl⟩ dL_law_157 (fun r13 h14 hf => ?_)
        refine v_icmp_eq (pc := 160) X 665 dL_law_160 (by decide) (fun c => ?_) (fun c => ?_)
        · replace hf := if_t c hf
          refine v_iinc (pc := 665) X 3 (v := i + (4 : Int32)) (lv' := [(3, .int (i + (4 : Int32))), (0, .ref b), (1, .ref x1), (2, .ref x2)]) dL_law_665 rfl rfl (Nat.le_of_ble_eq_true rfl) rfl ?_
          refine v_goto (pc := 668) X 18 dL_law_668 (by decide) ?_
          refine v_sub [1, 2, 3, 0] rfl ?_
          exact ih (i + (4 : Int32)) h14 hf
        · replace hf := if_f c hf
          refine v_iconst (pc := 163) X (v := (0 : Int32)) dL_law_163 (by decide) ?_
          exact hf.elim
      replace hf := if_f c0 hf
      by_cases c1 : (v1 &&& (31 : Int32)) = (1 : Int32)
      · replace hf := if_t c1 hf
        refine v_tableIn (pc := 32) X (off := 133) 165 dL_law_32 (by rw [c1]; decide) (by rw [c1]; decide) (by rw [c1]; decide) (by decide) ?_
        refine v_aload_n (pc := 165) X 1 dL_law_165 rfl rfl ?_
        refine v_aload_n (pc := 166) X 0 dL_law_166 rfl rfl ?_
        refine v_iload_n (pc := 167) X 3 dL_law_167 rfl rfl ?_
        refine v_iconst (pc := 168) X (v := (1 : Int32)) dL_law_168 (by decide) ?_
        refine v_iadd (pc := 169) X dL_law_169 ?_
        obtain ⟨b16, v15, e_v15, hf⟩ := hf
        refine v_sld (pc := 170) X hX hbl hbA b16 e_v15 dL_law_170 ?_
        refine v_aload_n (pc := 171) X 0 dL_law_171 rfl rfl ?_
        refine v_iload_n (pc := 172) X 3 dL_law_172 rfl rfl ?_
        refine v_iconst (pc := 173) X (v := (2 : Int32)) dL_law_173 (by decide) ?_
        refine v_iadd (pc := 174) X dL_law_174 ?_
        obtain ⟨b18, v17, e_v17, hf⟩ := hf
        refine v_sld (pc := 175) X hX hbl hbA b18 e_v17 dL_law_175 ?_
        refine v_callVI (pc := 176) X (As := [.int v15, .int v17]) (rest := []) (c_X5_start l D cA L sh x1 v15 v17 h _ hf) (cwV 2 X.ht (gwV lwG_in q_257 q_258 q_259 q_1 q_260) rfl rfl rfl (by decide +kernel) ⟨Nat.le_of_ble_eq_true rfl, Nat.le_of_ble_eq_true rfl⟩) rfl (by decide) t5 (ent_5 t5) rfl rfl (Nat.le_of_ble_eq_true rfl) ⟨Nat.le_of_ble_eq_true rfl, Nat.le_of_ble_eq_true rfl⟩ dL_law_176 (fun r19 h20 hf => ?_)
        refine v_aload_n (pc := 179) X 2 dL_law_179 rfl rfl ?_
        refine v_aload_n (pc := 180) X 0 dL_law_180 rfl rfl ?_
        refine v_iload_n (pc := 181) X 3 dL_law_181 rfl rfl ?_
        refine v_iconst (pc := 182) X (v := (1 : Int32)) dL_law_182 (by decide) ?_
        refine v_iadd (pc := 183) X dL_law_183 ?_
        obtain ⟨b22, v21, e_v21, hf⟩ := hf
        refine v_sld (pc := 184) X hX hbl hbA b22 e_v21 dL_law_184 ?_
        refine v_aload_n (pc := 185) X 0 dL_law_185 rfl rfl ?_
        refine v_iload_n (pc := 186) X 3 dL_law_186 rfl rfl ?_
        refine v_iconst (pc := 187) X (v := (2 : Int32)) dL_law_187 (by decide) ?_
        refine v_iadd (pc := 188) X dL_law_188 ?_
        obtain ⟨b24, v23, e_v23, hf⟩ := hf
        refine v_sld (pc := 189) X hX hbl hbA b24 e_v23 dL_law_189 ?_
        refine v_callVI (pc := 190) X (As := [.int v21, .int v23]) (rest := [.int r19]) (c_X6_start l D cA L sh x2 v21 v23 h20 _ hf) (cwV 2 X.ht (gwV lwG_in q_566 q_567 q_568 q_7 q_569) rfl rfl rfl (by decide +kernel) ⟨Nat.le_of_ble_eq_true rfl, Nat.le_of_ble_eq_true rfl⟩) rfl (by decide) t6 (ent_6 t6) rfl rfl (Nat.le_of_ble_eq_true rfl) ⟨Nat.le_of_ble_eq_true rfl, Nat.le_of_ble_eq_true rfl⟩ dL_law_190 (fun r25 h26 hf => ?_)
        refine v_icmp_eq (pc := 193) X 665 dL_law_193 (by decide) (fun c => ?_) (fun c => ?_)
        · replace hf := if_t c hf
          refine v_iinc (pc := 665) X 3 (v := i + (4 : Int32)) (lv' := [(3, .int (i + (4 : Int32))), (0, .ref b), (1, .ref x1), (2, .ref x2)]) dL_law_665 rfl rfl (Nat.le_of_ble_eq_true rfl) rfl ?_
          refine v_goto (pc := 668) X 18 dL_law_668 (by decide) ?_
          refine v_sub [1, 2, 3, 0] rfl ?_
          exact ih (i + (4 : Int32)) h26 hf
        · replace hf := if_f c hf
          refine v_iconst (pc := 196) X (v := (0 : Int32)) dL_law_196 (by decide) ?_
          exact hf.elim
      replace hf := if_f c1 hf
      by_cases c2 : (v1 &&& (31 : Int32)) = (2 : Int32)
      · replace hf := if_t c2 hf
        refine v_tableIn (pc := 32) X (off := 166) 198 dL_law_32 (by rw [c2]; decide) (by rw [c2]; decide) (by rw [c2]; decide) (by decide) ?_
        refine v_aload_n (pc := 198) X 1 dL_law_198 rfl rfl ?_
        refine v_aload_n (pc := 199) X 0 dL_law_199 rfl rfl ?_
        refine v_iload_n (pc := 200) X 3 dL_law_200 rfl rfl ?_
        refine v_iconst (pc := 201) X (v := (1 : Int32)) dL_law_201 (by decide) ?_
        refine v_iadd (pc := 202) X dL_law_202 ?_
        obtain ⟨b28, v27, e_v27, hf⟩ := hf
        refine v_sld (pc := 203) X hX hbl hbA b28 e_v27 dL_law_203 ?_
        refine v_callVI (pc := 204) X (As := [.int v27]) (rest := []) (c_X5_end l D cA L sh x1 v27 h _ hf) (cwV 1 X.ht (gwV lwG_in q_297 q_298 q_299 q_1 q_300) rfl rfl rfl (by decide +kernel) ⟨Nat.le_of_ble_eq_true rfl, Nat.le_of_ble_eq_true rfl⟩) rfl (by decide) t5 (ent_5 t5) rfl rfl (Nat.le_of_ble_eq_true rfl) ⟨Nat.le_of_ble_eq_true rfl, Nat.le_of_ble_eq_true rfl⟩ dL_law_204 (fun r29 h30 hf => ?_)
        refine v_aload_n (pc := 207) X 2 dL_law_207 rfl rfl ?_
        refine v_aload_n (pc := 208) X 0 dL_law_208 rfl rfl ?_
        refine v_iload_n (pc := 209) X 3 dL_law_209 rfl rfl ?_
        refine v_iconst (pc := 210) X (v := (1 : Int32)) dL_law_210 (by decide) ?_
        refine v_iadd (pc := 211) X dL_law_211 ?_
        obtain ⟨b32, v31, e_v31, hf⟩ := hf
        refine v_sld (pc := 212) X hX hbl hbA b32 e_v31 dL_law_212 ?_
        refine v_callVI (pc := 213) X (As := [.int v31]) (rest := [.int r29]) (c_X6_end l D cA L sh x2 v31 h30 _ hf) (cwV 1 X.ht (gwV lwG_in q_603 q_604 q_605 q_7 q_606) rfl rfl rfl (by decide +kernel) ⟨Nat.le_of_ble_eq_true rfl, Nat.le_of_ble_eq_true rfl⟩) rfl (by decide) t6 (ent_6 t6) rfl rfl (Nat.le_of_ble_eq_true rfl) ⟨Nat.le_of_ble_eq_true rfl, Nat.le_of_ble_eq_true rfl⟩ dL_law_213 (fun r33 h34 hf => ?_)
        refine v_icmp_eq (pc := 216) X 665 dL_law_216 (by decide) (fun c => ?_) (fun c => ?_)
        · replace hf := if_t c hf
          refine v_iinc (pc := 665) X 3 (v := i + (4 : Int32)) (lv' := [(3, .int (i + (4 : Int32))), (0, .ref b), (1, .ref x1), (2, .ref x2)]) dL_law_665 rfl rfl (Nat.le_of_ble_eq_true rfl) rfl ?_
          refine v_goto (pc := 668) X 18 dL_law_668 (by decide) ?_
          refine v_sub [1, 2, 3, 0] rfl ?_
          exact ih (i + (4 : Int32)) h34 hf
        · replace hf := if_f c hf
          refine v_iconst (pc := 219) X (v := (0 : Int32)) dL_law_219 (by decide) ?_
          exact hf.elim
      replace hf := if_f c2 hf
      by_cases c3 : (v1 &&& (31 : Int32)) = (3 : Int32)
      · replace hf := if_t c3 hf
        refine v_tableIn (pc := 32) X (off := 189) 221 dL_law_32 (by rw [c3]; decide) (by rw [c3]; decide) (by rw [c3]; decide) (by decide) ?_
        refine v_aload_n (pc := 221) X 1 dL_law_221 rfl rfl ?_
        refine v_aload_n (pc := 222) X 0 dL_law_222 rfl rfl ?_
        refine v_iload_n (pc := 223) X 3 dL_law_223 rfl rfl ?_
        refine v_iconst (pc := 224) X (v := (1 : Int32)) dL_law_224 (by decide) ?_
        refine v_iadd (pc := 225) X dL_law_225 ?_
        obtain ⟨b36, v35, e_v35, hf⟩ := hf
        refine v_sld (pc := 226) X hX hbl hbA b36 e_v35 dL_law_226 ?_
        refine v_callVI (pc := 227) X (As := [.int v35]) (rest := []) (c_X5_tick l D cA L sh x1 v35 h _ hf) (cwV 1 X.ht (gwV lwG_in q_318 q_319 q_320 q_1 q_321) rfl rfl rfl (by decide +kernel) ⟨Nat.le_of_ble_eq_true rfl, Nat.le_of_ble_eq_true rfl⟩) rfl (by decide) t5 (ent_5 t5) rfl rfl (Nat.le_of_ble_eq_true rfl) ⟨Nat.le_of_ble_eq_true rfl, Nat.le_of_ble_eq_true rfl⟩ dL_law_227 (fun r37 h38 hf => ?_)
        refine v_aload_n (pc := 230) X 2 dL_law_230 rfl rfl ?_
        refine v_aload_n (pc := 231) X 0 dL_law_231 rfl rfl ?_
        refine v_iload_n (pc := 232) X 3 dL_law_232 rfl rfl ?_
        refine v_iconst (pc := 233) X (v := (1 : Int32)) dL_law_233 (by decide) ?_
        refine v_iadd (pc := 234) X dL_law_234 ?_
        obtain ⟨b40, v39, e_v39, hf⟩ := hf
        refine v_sld (pc := 235) X hX hbl hbA b40 e_v39 dL_law_235 ?_
        refine v_callVI (pc := 236) X (As := [.int v39]) (rest := [.int r37]) (c_X6_tick l D cA L sh x2 v39 h38 _ hf) (cwV 1 X.ht (gwV lwG_in q_616 q_617 q_618 q_7 q_619) rfl rfl rfl (by decide +kernel) ⟨Nat.le_of_ble_eq_true rfl, Nat.le_of_ble_eq_true rfl⟩) rfl (by decide) t6 (ent_6 t6) rfl rfl (Nat.le_of_ble_eq_true rfl) ⟨Nat.le_of_ble_eq_true rfl, Nat.le_of_ble_eq_true rfl⟩ dL_law_236 (fun r41 h42 hf => ?_)
        refine v_icmp_eq (pc := 239) X 665 dL_law_239 (by decide) (fun c => ?_) (fun c => ?_)
        · replace hf := if_t c hf
          refine v_iinc (pc := 665) X 3 (v := i + (4 : Int32)) (lv' := [(3, .int (i + (4 : Int32))), (0, .ref b), (1, .ref x1), (2, .ref x2)]) dL_law_665 rfl rfl (Nat.le_of_ble_eq_true rfl) rfl ?_
          refine v_goto (pc := 668) X 18 dL_law_668 (by decide) ?_
          refine v_sub [1, 2, 3, 0] rfl ?_
          exact ih (i + (4 : Int32)) h42 hf
        · replace hf := if_f c hf
          refine v_iconst (pc := 242) X (v := (0 : Int32)) dL_law_242 (by decide) ?_
          exact hf.elim
      replace hf := if_f c3 hf
      by_cases c4 : (v1 &&& (31 : Int32)) = (4 : Int32)
      · replace hf := if_t c4 hf
        refine v_tableIn (pc := 32) X (off := 212) 244 dL_law_32 (by rw [c4]; decide) (by rw [c4]; decide) (by rw [c4]; decide) (by decide) ?_
        refine v_aload_n (pc := 244) X 1 dL_law_244 rfl rfl ?_
        refine v_aload_n (pc := 245) X 0 dL_law_245 rfl rfl ?_
        refine v_iload_n (pc := 246) X 3 dL_law_246 rfl rfl ?_
        refine v_iconst (pc := 247) X (v := (1 : Int32)) dL_law_247 (by decide) ?_
        refine v_iadd (pc := 248) X dL_law_248 ?_
        obtain ⟨b44, v43, e_v43, hf⟩ := hf
        refine v_sld (pc := 249) X hX hbl hbA b44 e_v43 dL_law_249 ?_
        refine v_aload_n (pc := 250) X 0 dL_law_250 rfl rfl ?_
        refine v_iload_n (pc := 251) X 3 dL_law_251 rfl rfl ?_
        refine v_iconst (pc := 252) X (v := (2 : Int32)) dL_law_252 (by decide) ?_
        refine v_iadd (pc := 253) X dL_law_253 ?_
        obtain ⟨b46, v45, e_v45, hf⟩ := hf
        refine v_sld (pc := 254) X hX hbl hbA b46 e_v45 dL_law_254 ?_
        refine v_callVI (pc := 255) X (As := [.int v43, .int v45]) (rest := []) (c_X5_set l D cA L sh x1 v43 v45 h _ hf) (cwV 2 X.ht (gwV lwG_in q_329 q_330 q_331 q_1 q_332) rfl rfl rfl (by decide +kernel) ⟨Nat.le_of_ble_eq_true rfl, Nat.le_of_ble_eq_true rfl⟩) rfl (by decide) t5 (ent_5 t5) rfl rfl (Nat.le_of_ble_eq_true rfl) ⟨Nat.le_of_ble_eq_true rfl, Nat.le_of_ble_eq_true rfl⟩ dL_law_255 (fun r47 h48 hf => ?_)
        refine v_aload_n (pc := 258) X 2 dL_law_258 rfl rfl ?_
        refine v_aload_n (pc := 259) X 0 dL_law_259 rfl rfl ?_
        refine v_iload_n (pc := 260) X 3 dL_law_260 rfl rfl ?_
        refine v_iconst (pc := 261) X (v := (1 : Int32)) dL_law_261 (by decide) ?_
        refine v_iadd (pc := 262) X dL_law_262 ?_
        obtain ⟨b50, v49, e_v49, hf⟩ := hf
        refine v_sld (pc := 263) X hX hbl hbA b50 e_v49 dL_law_263 ?_
        refine v_aload_n (pc := 264) X 0 dL_law_264 rfl rfl ?_
        refine v_iload_n (pc := 265) X 3 dL_law_265 rfl rfl ?_
        refine v_iconst (pc := 266) X (v := (2 : Int32)) dL_law_266 (by decide) ?_
        refine v_iadd (pc := 267) X dL_law_267 ?_
        obtain ⟨b52, v51, e_v51, hf⟩ := hf
        refine v_sld (pc := 268) X hX hbl hbA b52 e_v51 dL_law_268 ?_
        refine v_callVI (pc := 269) X (As := [.int v49, .int v51]) (rest := [.int r47]) (c_X6_set l D cA L sh x2 v49 v51 h48 _ hf) (cwV 2 X.ht (gwV lwG_in q_623 q_624 q_625 q_7 q_626) rfl rfl rfl (by decide +kernel) ⟨Nat.le_of_ble_eq_true rfl, Nat.le_of_ble_eq_true rfl⟩) rfl (by decide) t6 (ent_6 t6) rfl rfl (Nat.le_of_ble_eq_true rfl) ⟨Nat.le_of_ble_eq_true rfl, Nat.le_of_ble_eq_true rfl⟩ dL_law_269 (fun r53 h54 hf => ?_)
        refine v_icmp_eq (pc := 272) X 665 dL_law_272 (by decide) (fun c => ?_) (fun c => ?_)
        · replace hf := if_t c hf
          refine v_iinc (pc := 665) X 3 (v := i + (4 : Int32)) (lv' := [(3, .int (i + (4 : Int32))), (0, .ref b), (1, .ref x1), (2, .ref x2)]) dL_law_665 rfl rfl (Nat.le_of_ble_eq_true rfl) rfl ?_
          refine v_goto (pc := 668) X 18 dL_law_668 (by decide) ?_
          refine v_sub [1, 2, 3, 0] rfl ?_
          exact ih (i + (4 : Int32)) h54 hf
        · replace hf := if_f c hf
          refine v_iconst (pc := 275) X (v := (0 : Int32)) dL_law_275 (by decide) ?_
          exact hf.elim
      replace hf := if_f c4 hf
      by_cases c5 : (v1 &&& (31 : Int32)) = (5 : Int32)
      · replace hf := if_t c5 hf
        refine v_tableIn (pc := 32) X (off := 245) 277 dL_law_32 (by rw [c5]; decide) (by rw [c5]; decide) (by rw [c5]; decide) (by decide) ?_
        refine v_aload_n (pc := 277) X 1 dL_law_277 rfl rfl ?_
        refine v_aload_n (pc := 278) X 0 dL_law_278 rfl rfl ?_
        refine v_iload_n (pc := 279) X 3 dL_law_279 rfl rfl ?_
        refine v_iconst (pc := 280) X (v := (1 : Int32)) dL_law_280 (by decide) ?_
        refine v_iadd (pc := 281) X dL_law_281 ?_
        obtain ⟨b56, v55, e_v55, hf⟩ := hf
        refine v_sld (pc := 282) X hX hbl hbA b56 e_v55 dL_law_282 ?_
        refine v_aload_n (pc := 283) X 0 dL_law_283 rfl rfl ?_
        refine v_iload_n (pc := 284) X 3 dL_law_284 rfl rfl ?_
        refine v_iconst (pc := 285) X (v := (2 : Int32)) dL_law_285 (by decide) ?_
        refine v_iadd (pc := 286) X dL_law_286 ?_
        obtain ⟨b58, v57, e_v57, hf⟩ := hf
        refine v_sld (pc := 287) X hX hbl hbA b58 e_v57 dL_law_287 ?_
        refine v_callVI (pc := 288) X (As := [.int v55, .int v57]) (rest := []) (c_X5_tableOf l D cA L sh x1 v55 v57 h _ hf) (cwV 2 X.ht (gwV lwG_in q_338 q_339 q_340 q_1 q_341) rfl rfl rfl (by decide +kernel) ⟨Nat.le_of_ble_eq_true rfl, Nat.le_of_ble_eq_true rfl⟩) rfl (by decide) t5 (ent_5 t5) rfl rfl (Nat.le_of_ble_eq_true rfl) ⟨Nat.le_of_ble_eq_true rfl, Nat.le_of_ble_eq_true rfl⟩ dL_law_288 (fun r59 h60 hf => ?_)
        refine v_aload_n (pc := 291) X 2 dL_law_291 rfl rfl ?_
        refine v_aload_n (pc := 292) X 0 dL_law_292 rfl rfl ?_
        refine v_iload_n (pc := 293) X 3 dL_law_293 rfl rfl ?_
        refine v_iconst (pc := 294) X (v := (1 : Int32)) dL_law_294 (by decide) ?_
        refine v_iadd (pc := 295) X dL_law_295 ?_
        obtain ⟨b62, v61, e_v61, hf⟩ := hf
        refine v_sld (pc := 296) X hX hbl hbA b62 e_v61 dL_law_296 ?_
        refine v_aload_n (pc := 297) X 0 dL_law_297 rfl rfl ?_
        refine v_iload_n (pc := 298) X 3 dL_law_298 rfl rfl ?_
        refine v_iconst (pc := 299) X (v := (2 : Int32)) dL_law_299 (by decide) ?_
        refine v_iadd (pc := 300) X dL_law_300 ?_
        obtain ⟨b64, v63, e_v63, hf⟩ := hf
        refine v_sld (pc := 301) X hX hbl hbA b64 e_v63 dL_law_301 ?_
        refine v_callVI (pc := 302) X (As := [.int v61, .int v63]) (rest := [.int r59]) (c_X6_tableOf l D cA L sh x2 v61 v63 h60 _ hf) (cwV 2 X.ht (gwV lwG_in q_627 q_628 q_629 q_7 q_630) rfl rfl rfl (by decide +kernel) ⟨Nat.le_of_ble_eq_true rfl, Nat.le_of_ble_eq_true rfl⟩) rfl (by decide) t6 (ent_6 t6) rfl rfl (Nat.le_of_ble_eq_true rfl) ⟨Nat.le_of_ble_eq_true rfl, Nat.le_of_ble_eq_true rfl⟩ dL_law_302 (fun r65 h66 hf => ?_)
        refine v_icmp_eq (pc := 305) X 665 dL_law_305 (by decide) (fun c => ?_) (fun c => ?_)
        · replace hf := if_t c hf
          refine v_iinc (pc := 665) X 3 (v := i + (4 : Int32)) (lv' := [(3, .int (i + (4 : Int32))), (0, .ref b), (1, .ref x1), (2, .ref x2)]) dL_law_665 rfl rfl (Nat.le_of_ble_eq_true rfl) rfl ?_
          refine v_goto (pc := 668) X 18 dL_law_668 (by decide) ?_
          refine v_sub [1, 2, 3, 0] rfl ?_
          exact ih (i + (4 : Int32)) h66 hf
        · replace hf := if_f c hf
          refine v_iconst (pc := 308) X (v := (0 : Int32)) dL_law_308 (by decide) ?_
          exact hf.elim
      replace hf := if_f c5 hf
      by_cases c6 : (v1 &&& (31 : Int32)) = (6 : Int32)
      · replace hf := if_t c6 hf
        refine v_tableIn (pc := 32) X (off := 278) 310 dL_law_32 (by rw [c6]; decide) (by rw [c6]; decide) (by rw [c6]; decide) (by decide) ?_
        refine v_aload_n (pc := 310) X 1 dL_law_310 rfl rfl ?_
        refine v_aload_n (pc := 311) X 0 dL_law_311 rfl rfl ?_
        refine v_iload_n (pc := 312) X 3 dL_law_312 rfl rfl ?_
        refine v_iconst (pc := 313) X (v := (1 : Int32)) dL_law_313 (by decide) ?_
        refine v_iadd (pc := 314) X dL_law_314 ?_
        obtain ⟨b68, v67, e_v67, hf⟩ := hf
        refine v_sld (pc := 315) X hX hbl hbA b68 e_v67 dL_law_315 ?_
        refine v_aload_n (pc := 316) X 0 dL_law_316 rfl rfl ?_
        refine v_iload_n (pc := 317) X 3 dL_law_317 rfl rfl ?_
        refine v_iconst (pc := 318) X (v := (2 : Int32)) dL_law_318 (by decide) ?_
        refine v_iadd (pc := 319) X dL_law_319 ?_
        obtain ⟨b70, v69, e_v69, hf⟩ := hf
        refine v_sld (pc := 320) X hX hbl hbA b70 e_v69 dL_law_320 ?_
        refine v_callVI (pc := 321) X (As := [.int v67, .int v69]) (rest := []) (c_X5_sessionOf l D cA L sh x1 v67 v69 h _ hf) (cwV 2 X.ht (gwV lwG_in q_349 q_350 q_351 q_1 q_352) rfl rfl rfl (by decide +kernel) ⟨Nat.le_of_ble_eq_true rfl, Nat.le_of_ble_eq_true rfl⟩) rfl (by decide) t5 (ent_5 t5) rfl rfl (Nat.le_of_ble_eq_true rfl) ⟨Nat.le_of_ble_eq_true rfl, Nat.le_of_ble_eq_true rfl⟩ dL_law_321 (fun r71 h72 hf => ?_)
        refine v_aload_n (pc := 324) X 2 dL_law_324 rfl rfl ?_
        refine v_aload_n (pc := 325) X 0 dL_law_325 rfl rfl ?_
        refine v_iload_n (pc := 326) X 3 dL_law_326 rfl rfl ?_
        refine v_iconst (pc := 327) X (v := (1 : Int32)) dL_law_327 (by decide) ?_
        refine v_iadd (pc := 328) X dL_law_328 ?_
        obtain ⟨b74, v73, e_v73, hf⟩ := hf
        refine v_sld (pc := 329) X hX hbl hbA b74 e_v73 dL_law_329 ?_
        refine v_aload_n (pc := 330) X 0 dL_law_330 rfl rfl ?_
        refine v_iload_n (pc := 331) X 3 dL_law_331 rfl rfl ?_
        refine v_iconst (pc := 332) X (v := (2 : Int32)) dL_law_332 (by decide) ?_
        refine v_iadd (pc := 333) X dL_law_333 ?_
        obtain ⟨b76, v75, e_v75, hf⟩ := hf
        refine v_sld (pc := 334) X hX hbl hbA b76 e_v75 dL_law_334 ?_
        refine v_callVI (pc := 335) X (As := [.int v73, .int v75]) (rest := [.int r71]) (c_X6_sessionOf l D cA L sh x2 v73 v75 h72 _ hf) (cwV 2 X.ht (gwV lwG_in q_637 q_638 q_639 q_7 q_640) rfl rfl rfl (by decide +kernel) ⟨Nat.le_of_ble_eq_true rfl, Nat.le_of_ble_eq_true rfl⟩) rfl (by decide) t6 (ent_6 t6) rfl rfl (Nat.le_of_ble_eq_true rfl) ⟨Nat.le_of_ble_eq_true rfl, Nat.le_of_ble_eq_true rfl⟩ dL_law_335 (fun r77 h78 hf => ?_)
        refine v_icmp_eq (pc := 338) X 665 dL_law_338 (by decide) (fun c => ?_) (fun c => ?_)
        · replace hf := if_t c hf
          refine v_iinc (pc := 665) X 3 (v := i + (4 : Int32)) (lv' := [(3, .int (i + (4 : Int32))), (0, .ref b), (1, .ref x1), (2, .ref x2)]) dL_law_665 rfl rfl (Nat.le_of_ble_eq_true rfl) rfl ?_
          refine v_goto (pc := 668) X 18 dL_law_668 (by decide) ?_
          refine v_sub [1, 2, 3, 0] rfl ?_
          exact ih (i + (4 : Int32)) h78 hf
        · replace hf := if_f c hf
          refine v_iconst (pc := 341) X (v := (0 : Int32)) dL_law_341 (by decide) ?_
          exact hf.elim
      replace hf := if_f c6 hf
      by_cases c7 : (v1 &&& (31 : Int32)) = (7 : Int32)
      · replace hf := if_t c7 hf
        refine v_tableIn (pc := 32) X (off := 311) 343 dL_law_32 (by rw [c7]; decide) (by rw [c7]; decide) (by rw [c7]; decide) (by decide) ?_
        refine v_aload_n (pc := 343) X 1 dL_law_343 rfl rfl ?_
        refine v_aload_n (pc := 344) X 0 dL_law_344 rfl rfl ?_
        refine v_iload_n (pc := 345) X 3 dL_law_345 rfl rfl ?_
        refine v_iconst (pc := 346) X (v := (1 : Int32)) dL_law_346 (by decide) ?_
        refine v_iadd (pc := 347) X dL_law_347 ?_
        obtain ⟨b80, v79, e_v79, hf⟩ := hf
        refine v_sld (pc := 348) X hX hbl hbA b80 e_v79 dL_law_348 ?_
        refine v_aload_n (pc := 349) X 0 dL_law_349 rfl rfl ?_
        refine v_iload_n (pc := 350) X 3 dL_law_350 rfl rfl ?_
        refine v_iconst (pc := 351) X (v := (2 : Int32)) dL_law_351 (by decide) ?_
        refine v_iadd (pc := 352) X dL_law_352 ?_
        obtain ⟨b82, v81, e_v81, hf⟩ := hf
        refine v_sld (pc := 353) X hX hbl hbA b82 e_v81 dL_law_353 ?_
        refine v_aload_n (pc := 354) X 0 dL_law_354 rfl rfl ?_
        refine v_iload_n (pc := 355) X 3 dL_law_355 rfl rfl ?_
        refine v_iconst (pc := 356) X (v := (3 : Int32)) dL_law_356 (by decide) ?_
        refine v_iadd (pc := 357) X dL_law_357 ?_
        obtain ⟨b84, v83, e_v83, hf⟩ := hf
        refine v_sld (pc := 358) X hX hbl hbA b84 e_v83 dL_law_358 ?_
        refine v_callVI (pc := 359) X (As := [.int v79, .int v81, .int v83]) (rest := []) (c_X5_entry l D cA L sh x1 v79 v81 v83 h _ hf) (cwV 3 X.ht (gwV lwG_in q_365 q_366 q_367 q_1 q_368) rfl rfl rfl (by decide +kernel) ⟨Nat.le_of_ble_eq_true rfl, Nat.le_of_ble_eq_true rfl⟩) rfl (by decide) t5 (ent_5 t5) rfl rfl (Nat.le_of_ble_eq_true rfl) ⟨Nat.le_of_ble_eq_true rfl, Nat.le_of_ble_eq_true rfl⟩ dL_law_359 (fun r85 h86 hf => ?_)
        refine v_aload_n (pc := 362) X 2 dL_law_362 rfl rfl ?_
        refine v_aload_n (pc := 363) X 0 dL_law_363 rfl rfl ?_
        refine v_iload_n (pc := 364) X 3 dL_law_364 rfl rfl ?_
        refine v_iconst (pc := 365) X (v := (1 : Int32)) dL_law_365 (by decide) ?_
        refine v_iadd (pc := 366) X dL_law_366 ?_
        obtain ⟨b88, v87, e_v87, hf⟩ := hf
        refine v_sld (pc := 367) X hX hbl hbA b88 e_v87 dL_law_367 ?_
        refine v_aload_n (pc := 368) X 0 dL_law_368 rfl rfl ?_
        refine v_iload_n (pc := 369) X 3 dL_law_369 rfl rfl ?_
        refine v_iconst (pc := 370) X (v := (2 : Int32)) dL_law_370 (by decide) ?_
        refine v_iadd (pc := 371) X dL_law_371 ?_
        obtain ⟨b90, v89, e_v89, hf⟩ := hf
        refine v_sld (pc := 372) X hX hbl hbA b90 e_v89 dL_law_372 ?_
        refine v_aload_n (pc := 373) X 0 dL_law_373 rfl rfl ?_
        refine v_iload_n (pc := 374) X 3 dL_law_374 rfl rfl ?_
        refine v_iconst (pc := 375) X (v := (3 : Int32)) dL_law_375 (by decide) ?_
        refine v_iadd (pc := 376) X dL_law_376 ?_
        obtain ⟨b92, v91, e_v91, hf⟩ := hf
        refine v_sld (pc := 377) X hX hbl hbA b92 e_v91 dL_law_377 ?_
        refine v_callVI (pc := 378) X (As := [.int v87, .int v89, .int v91]) (rest := [.int r85]) (c_X6_entry l D cA L sh x2 v87 v89 v91 h86 _ hf) (cwV 3 X.ht (gwV lwG_in q_647 q_648 q_649 q_7 q_650) rfl rfl rfl (by decide +kernel) ⟨Nat.le_of_ble_eq_true rfl, Nat.le_of_ble_eq_true rfl⟩) rfl (by decide) t6 (ent_6 t6) rfl rfl (Nat.le_of_ble_eq_true rfl) ⟨Nat.le_of_ble_eq_true rfl, Nat.le_of_ble_eq_true rfl⟩ dL_law_378 (fun r93 h94 hf => ?_)
        refine v_icmp_eq (pc := 381) X 665 dL_law_381 (by decide) (fun c => ?_) (fun c => ?_)
        · replace hf := if_t c hf
          refine v_iinc (pc := 665) X 3 (v := i + (4 : Int32)) (lv' := [(3, .int (i + (4 : Int32))), (0, .ref b), (1, .ref x1), (2, .ref x2)]) dL_law_665 rfl rfl (Nat.le_of_ble_eq_true rfl) rfl ?_
          refine v_goto (pc := 668) X 18 dL_law_668 (by decide) ?_
          refine v_sub [1, 2, 3, 0] rfl ?_
          exact ih (i + (4 : Int32)) h94 hf
        · replace hf := if_f c hf
          refine v_iconst (pc := 384) X (v := (0 : Int32)) dL_law_384 (by decide) ?_
          exact hf.elim
      replace hf := if_f c7 hf
      by_cases c8 : (v1 &&& (31 : Int32)) = (8 : Int32)
      · replace hf := if_t c8 hf
        refine v_tableIn (pc := 32) X (off := 354) 386 dL_law_32 (by rw [c8]; decide) (by rw [c8]; decide) (by rw [c8]; decide) (by decide) ?_
        refine v_aload_n (pc := 386) X 1 dL_law_386 rfl rfl ?_
        refine v_aload_n (pc := 387) X 0 dL_law_387 rfl rfl ?_
        refine v_iload_n (pc := 388) X 3 dL_law_388 rfl rfl ?_
        refine v_iconst (pc := 389) X (v := (1 : Int32)) dL_law_389 (by decide) ?_
        refine v_iadd (pc := 390) X dL_law_390 ?_
        obtain ⟨b96, v95, e_v95, hf⟩ := hf
        refine v_sld (pc := 391) X hX hbl hbA b96 e_v95 dL_law_391 ?_
        refine v_aload_n (pc := 392) X 0 dL_law_392 rfl rfl ?_
        refine v_iload_n (pc := 393) X 3 dL_law_393 rfl rfl ?_
        refine v_iconst (pc := 394) X (v := (2 : Int32)) dL_law_394 (by decide) ?_
        refine v_iadd (pc := 395) X dL_law_395 ?_
        obtain ⟨b98, v97, e_v97, hf⟩ := hf
        refine v_sld (pc := 396) X hX hbl hbA b98 e_v97 dL_law_396 ?_
        refine v_callVI (pc := 397) X (As := [.int v95, .int v97]) (rest := []) (c_X5_statement l D cA L sh x1 v95 v97 h _ hf) (cwV 2 X.ht (gwV lwG_in q_369 q_370 q_371 q_1 q_372) rfl rfl rfl (by decide +kernel) ⟨Nat.le_of_ble_eq_true rfl, Nat.le_of_ble_eq_true rfl⟩) rfl (by decide) t5 (ent_5 t5) rfl rfl (Nat.le_of_ble_eq_true rfl) ⟨Nat.le_of_ble_eq_true rfl, Nat.le_of_ble_eq_true rfl⟩ dL_law_397 (fun r99 h100 hf => ?_)
        refine v_aload_n (pc := 400) X 2 dL_law_400 rfl rfl ?_
        refine v_aload_n (pc := 401) X 0 dL_law_401 rfl rfl ?_
        refine v_iload_n (pc := 402) X 3 dL_law_402 rfl rfl ?_
        refine v_iconst (pc := 403) X (v := (1 : Int32)) dL_law_403 (by decide) ?_
        refine v_iadd (pc := 404) X dL_law_404 ?_
        obtain ⟨b102, v101, e_v101, hf⟩ := hf
        refine v_sld (pc := 405) X hX hbl hbA b102 e_v101 dL_law_405 ?_
        refine v_aload_n (pc := 406) X 0 dL_law_406 rfl rfl ?_
        refine v_iload_n (pc := 407) X 3 dL_law_407 rfl rfl ?_
        refine v_iconst (pc := 408) X (v := (2 : Int32)) dL_law_408 (by decide) ?_
        refine v_iadd (pc := 409) X dL_law_409 ?_
        obtain ⟨b104, v103, e_v103, hf⟩ := hf
        refine v_sld (pc := 410) X hX hbl hbA b104 e_v103 dL_law_410 ?_
        refine v_callVI (pc := 411) X (As := [.int v101, .int v103]) (rest := [.int r99]) (c_X6_statement l D cA L sh x2 v101 v103 h100 _ hf) (cwV 2 X.ht (gwV lwG_in q_651 q_652 q_653 q_7 q_654) rfl rfl rfl (by decide +kernel) ⟨Nat.le_of_ble_eq_true rfl, Nat.le_of_ble_eq_true rfl⟩) rfl (by decide) t6 (ent_6 t6) rfl rfl (Nat.le_of_ble_eq_true rfl) ⟨Nat.le_of_ble_eq_true rfl, Nat.le_of_ble_eq_true rfl⟩ dL_law_411 (fun r105 h106 hf => ?_)
        refine v_icmp_eq (pc := 414) X 665 dL_law_414 (by decide) (fun c => ?_) (fun c => ?_)
        · replace hf := if_t c hf
          refine v_iinc (pc := 665) X 3 (v := i + (4 : Int32)) (lv' := [(3, .int (i + (4 : Int32))), (0, .ref b), (1, .ref x1), (2, .ref x2)]) dL_law_665 rfl rfl (Nat.le_of_ble_eq_true rfl) rfl ?_
          refine v_goto (pc := 668) X 18 dL_law_668 (by decide) ?_
          refine v_sub [1, 2, 3, 0] rfl ?_
          exact ih (i + (4 : Int32)) h106 hf
        · replace hf := if_f c hf
          refine v_iconst (pc := 417) X (v := (0 : Int32)) dL_law_417 (by decide) ?_
          exact hf.elim
      replace hf := if_f c8 hf
      by_cases c9 : (v1 &&& (31 : Int32)) = (9 : Int32)
      · replace hf := if_t c9 hf
        refine v_tableIn (pc := 32) X (off := 387) 419 dL_law_32 (by rw [c9]; decide) (by rw [c9]; decide) (by rw [c9]; decide) (by decide) ?_
        refine v_aload_n (pc := 419) X 1 dL_law_419 rfl rfl ?_
        refine v_aload_n (pc := 420) X 0 dL_law_420 rfl rfl ?_
        refine v_iload_n (pc := 421) X 3 dL_law_421 rfl rfl ?_
        refine v_iconst (pc := 422) X (v := (1 : Int32)) dL_law_422 (by decide) ?_
        refine v_iadd (pc := 423) X dL_law_423 ?_
        obtain ⟨b108, v107, e_v107, hf⟩ := hf
        refine v_sld (pc := 424) X hX hbl hbA b108 e_v107 dL_law_424 ?_
        refine v_callVI (pc := 425) X (As := [.int v107]) (rest := []) (c_X5_notice l D cA L sh x1 v107 h _ hf) (cwV 1 X.ht (gwV lwG_in q_382 q_383 q_384 q_1 q_385) rfl rfl rfl (by decide +kernel) ⟨Nat.le_of_ble_eq_true rfl, Nat.le_of_ble_eq_true rfl⟩) rfl (by decide) t5 (ent_5 t5) rfl rfl (Nat.le_of_ble_eq_true rfl) ⟨Nat.le_of_ble_eq_true rfl, Nat.le_of_ble_eq_true rfl⟩ dL_law_425 (fun r109 h110 hf => ?_)
        refine v_aload_n (pc := 428) X 2 dL_law_428 rfl rfl ?_
        refine v_aload_n (pc := 429) X 0 dL_law_429 rfl rfl ?_
        refine v_iload_n (pc := 430) X 3 dL_law_430 rfl rfl ?_
        refine v_iconst (pc := 431) X (v := (1 : Int32)) dL_law_431 (by decide) ?_
        refine v_iadd (pc := 432) X dL_law_432 ?_
        obtain ⟨b112, v111, e_v111, hf⟩ := hf
        refine v_sld (pc := 433) X hX hbl hbA b112 e_v111 dL_law_433 ?_
        refine v_callVI (pc := 434) X (As := [.int v111]) (rest := [.int r109]) (c_X6_notice l D cA L sh x2 v111 h110 _ hf) (cwV 1 X.ht (gwV lwG_in q_658 q_659 q_660 q_7 q_661) rfl rfl rfl (by decide +kernel) ⟨Nat.le_of_ble_eq_true rfl, Nat.le_of_ble_eq_true rfl⟩) rfl (by decide) t6 (ent_6 t6) rfl rfl (Nat.le_of_ble_eq_true rfl) ⟨Nat.le_of_ble_eq_true rfl, Nat.le_of_ble_eq_true rfl⟩ dL_law_434 (fun r113 h114 hf => ?_)
        refine v_icmp_eq (pc := 437) X 665 dL_law_437 (by decide) (fun c => ?_) (fun c => ?_)
        · replace hf := if_t c hf
          refine v_iinc (pc := 665) X 3 (v := i + (4 : Int32)) (lv' := [(3, .int (i + (4 : Int32))), (0, .ref b), (1, .ref x1), (2, .ref x2)]) dL_law_665 rfl rfl (Nat.le_of_ble_eq_true rfl) rfl ?_
          refine v_goto (pc := 668) X 18 dL_law_668 (by decide) ?_
          refine v_sub [1, 2, 3, 0] rfl ?_
          exact ih (i + (4 : Int32)) h114 hf
        · replace hf := if_f c hf
          refine v_iconst (pc := 440) X (v := (0 : Int32)) dL_law_440 (by decide) ?_
          exact hf.elim
      replace hf := if_f c9 hf
      by_cases c10 : (v1 &&& (31 : Int32)) = (10 : Int32)
      · replace hf := if_t c10 hf
        refine v_tableIn (pc := 32) X (off := 410) 442 dL_law_32 (by rw [c10]; decide) (by rw [c10]; decide) (by rw [c10]; decide) (by decide) ?_
        refine v_aload_n (pc := 442) X 1 dL_law_442 rfl rfl ?_
        refine v_aload_n (pc := 443) X 0 dL_law_443 rfl rfl ?_
        refine v_iload_n (pc := 444) X 3 dL_law_444 rfl rfl ?_
        refine v_iconst (pc := 445) X (v := (1 : Int32)) dL_law_445 (by decide) ?_
        refine v_iadd (pc := 446) X dL_law_446 ?_
        obtain ⟨b116, v115, e_v115, hf⟩ := hf
        refine v_sld (pc := 447) X hX hbl hbA b116 e_v115 dL_law_447 ?_
        refine v_callVI (pc := 448) X (As := [.int v115]) (rest := []) (c_X5_count l D cA L sh x1 v115 h _ hf) (cwV 1 X.ht (gwV lwG_in q_386 q_387 q_388 q_1 q_389) rfl rfl rfl (by decide +kernel) ⟨Nat.le_of_ble_eq_true rfl, Nat.le_of_ble_eq_true rfl⟩) rfl (by decide) t5 (ent_5 t5) rfl rfl (Nat.le_of_ble_eq_true rfl) ⟨Nat.le_of_ble_eq_true rfl, Nat.le_of_ble_eq_true rfl⟩ dL_law_448 (fun r117 h118 hf => ?_)
        refine v_aload_n (pc := 451) X 2 dL_law_451 rfl rfl ?_
        refine v_aload_n (pc := 452) X 0 dL_law_452 rfl rfl ?_
        refine v_iload_n (pc := 453) X 3 dL_law_453 rfl rfl ?_
        refine v_iconst (pc := 454) X (v := (1 : Int32)) dL_law_454 (by decide) ?_
        refine v_iadd (pc := 455) X dL_law_455 ?_
        obtain ⟨b120, v119, e_v119, hf⟩ := hf
        refine v_sld (pc := 456) X hX hbl hbA b120 e_v119 dL_law_456 ?_
        refine v_callVI (pc := 457) X (As := [.int v119]) (rest := [.int r117]) (c_X6_count l D cA L sh x2 v119 h118 _ hf) (cwV 1 X.ht (gwV lwG_in q_662 q_663 q_664 q_7 q_665) rfl rfl rfl (by decide +kernel) ⟨Nat.le_of_ble_eq_true rfl, Nat.le_of_ble_eq_true rfl⟩) rfl (by decide) t6 (ent_6 t6) rfl rfl (Nat.le_of_ble_eq_true rfl) ⟨Nat.le_of_ble_eq_true rfl, Nat.le_of_ble_eq_true rfl⟩ dL_law_457 (fun r121 h122 hf => ?_)
        refine v_icmp_eq (pc := 460) X 665 dL_law_460 (by decide) (fun c => ?_) (fun c => ?_)
        · replace hf := if_t c hf
          refine v_iinc (pc := 665) X 3 (v := i + (4 : Int32)) (lv' := [(3, .int (i + (4 : Int32))), (0, .ref b), (1, .ref x1), (2, .ref x2)]) dL_law_665 rfl rfl (Nat.le_of_ble_eq_true rfl) rfl ?_
          refine v_goto (pc := 668) X 18 dL_law_668 (by decide) ?_
          refine v_sub [1, 2, 3, 0] rfl ?_
          exact ih (i + (4 : Int32)) h122 hf
        · replace hf := if_f c hf
          refine v_iconst (pc := 463) X (v := (0 : Int32)) dL_law_463 (by decide) ?_
          exact hf.elim
      replace hf := if_f c10 hf
      by_cases c11 : (v1 &&& (31 : Int32)) = (11 : Int32)
      · replace hf := if_t c11 hf
        refine v_tableIn (pc := 32) X (off := 433) 465 dL_law_32 (by rw [c11]; decide) (by rw [c11]; decide) (by rw [c11]; decide) (by decide) ?_
        refine v_aload_n (pc := 465) X 1 dL_law_465 rfl rfl ?_
        refine v_aload_n (pc := 466) X 0 dL_law_466 rfl rfl ?_
        refine v_iload_n (pc := 467) X 3 dL_law_467 rfl rfl ?_
        refine v_iconst (pc := 468) X (v := (1 : Int32)) dL_law_468 (by decide) ?_
        refine v_iadd (pc := 469) X dL_law_469 ?_
        obtain ⟨b124, v123, e_v123, hf⟩ := hf
        refine v_sld (pc := 470) X hX hbl hbA b124 e_v123 dL_law_470 ?_
        refine v_aload_n (pc := 471) X 0 dL_law_471 rfl rfl ?_
        refine v_iload_n (pc := 472) X 3 dL_law_472 rfl rfl ?_
        refine v_iconst (pc := 473) X (v := (2 : Int32)) dL_law_473 (by decide) ?_
        refine v_iadd (pc := 474) X dL_law_474 ?_
        obtain ⟨b126, v125, e_v125, hf⟩ := hf
        refine v_sld (pc := 475) X hX hbl hbA b126 e_v125 dL_law_475 ?_
        refine v_aload_n (pc := 476) X 0 dL_law_476 rfl rfl ?_
        refine v_iload_n (pc := 477) X 3 dL_law_477 rfl rfl ?_
        refine v_iconst (pc := 478) X (v := (3 : Int32)) dL_law_478 (by decide) ?_
        refine v_iadd (pc := 479) X dL_law_479 ?_
        obtain ⟨b128, v127, e_v127, hf⟩ := hf
        refine v_sld (pc := 480) X hX hbl hbA b128 e_v127 dL_law_480 ?_
        refine v_callVI (pc := 481) X (As := [.int v123, .int v125, .int v127]) (rest := []) (c_X5_would l D cA L sh x1 v123 v125 v127 h _ hf) (cwV 3 X.ht (gwV lwG_in q_403 q_404 q_405 q_1 q_406) rfl rfl rfl (by decide +kernel) ⟨Nat.le_of_ble_eq_true rfl, Nat.le_of_ble_eq_true rfl⟩) rfl (by decide) t5 (ent_5 t5) rfl rfl (Nat.le_of_ble_eq_true rfl) ⟨Nat.le_of_ble_eq_true rfl, Nat.le_of_ble_eq_true rfl⟩ dL_law_481 (fun r129 h130 hf => ?_)
        refine v_aload_n (pc := 484) X 2 dL_law_484 rfl rfl ?_
        refine v_aload_n (pc := 485) X 0 dL_law_485 rfl rfl ?_
        refine v_iload_n (pc := 486) X 3 dL_law_486 rfl rfl ?_
        refine v_iconst (pc := 487) X (v := (1 : Int32)) dL_law_487 (by decide) ?_
        refine v_iadd (pc := 488) X dL_law_488 ?_
        obtain ⟨b132, v131, e_v131, hf⟩ := hf
        refine v_sld (pc := 489) X hX hbl hbA b132 e_v131 dL_law_489 ?_
        refine v_aload_n (pc := 490) X 0 dL_law_490 rfl rfl ?_
        refine v_iload_n (pc := 491) X 3 dL_law_491 rfl rfl ?_
        refine v_iconst (pc := 492) X (v := (2 : Int32)) dL_law_492 (by decide) ?_
        refine v_iadd (pc := 493) X dL_law_493 ?_
        obtain ⟨b134, v133, e_v133, hf⟩ := hf
        refine v_sld (pc := 494) X hX hbl hbA b134 e_v133 dL_law_494 ?_
        refine v_aload_n (pc := 495) X 0 dL_law_495 rfl rfl ?_
        refine v_iload_n (pc := 496) X 3 dL_law_496 rfl rfl ?_
        refine v_iconst (pc := 497) X (v := (3 : Int32)) dL_law_497 (by decide) ?_
        refine v_iadd (pc := 498) X dL_law_498 ?_
        obtain ⟨b136, v135, e_v135, hf⟩ := hf
        refine v_sld (pc := 499) X hX hbl hbA b136 e_v135 dL_law_499 ?_
        refine v_callVI (pc := 500) X (As := [.int v131, .int v133, .int v135]) (rest := [.int r129]) (c_X6_would l D cA L sh x2 v131 v133 v135 h130 _ hf) (cwV 3 X.ht (gwV lwG_in q_672 q_673 q_674 q_7 q_675) rfl rfl rfl (by decide +kernel) ⟨Nat.le_of_ble_eq_true rfl, Nat.le_of_ble_eq_true rfl⟩) rfl (by decide) t6 (ent_6 t6) rfl rfl (Nat.le_of_ble_eq_true rfl) ⟨Nat.le_of_ble_eq_true rfl, Nat.le_of_ble_eq_true rfl⟩ dL_law_500 (fun r137 h138 hf => ?_)
        refine v_icmp_eq (pc := 503) X 665 dL_law_503 (by decide) (fun c => ?_) (fun c => ?_)
        · replace hf := if_t c hf
          refine v_iinc (pc := 665) X 3 (v := i + (4 : Int32)) (lv' := [(3, .int (i + (4 : Int32))), (0, .ref b), (1, .ref x1), (2, .ref x2)]) dL_law_665 rfl rfl (Nat.le_of_ble_eq_true rfl) rfl ?_
          refine v_goto (pc := 668) X 18 dL_law_668 (by decide) ?_
          refine v_sub [1, 2, 3, 0] rfl ?_
          exact ih (i + (4 : Int32)) h138 hf
        · replace hf := if_f c hf
          refine v_iconst (pc := 506) X (v := (0 : Int32)) dL_law_506 (by decide) ?_
          exact hf.elim
      replace hf := if_f c11 hf
      by_cases c12 : (v1 &&& (31 : Int32)) = (12 : Int32)
      · replace hf := if_t c12 hf
        refine v_tableIn (pc := 32) X (off := 476) 508 dL_law_32 (by rw [c12]; decide) (by rw [c12]; decide) (by rw [c12]; decide) (by decide) ?_
        refine v_aload_n (pc := 508) X 1 dL_law_508 rfl rfl ?_
        refine v_aload_n (pc := 509) X 0 dL_law_509 rfl rfl ?_
        refine v_iload_n (pc := 510) X 3 dL_law_510 rfl rfl ?_
        refine v_iconst (pc := 511) X (v := (1 : Int32)) dL_law_511 (by decide) ?_
        refine v_iadd (pc := 512) X dL_law_512 ?_
        obtain ⟨b140, v139, e_v139, hf⟩ := hf
        refine v_sld (pc := 513) X hX hbl hbA b140 e_v139 dL_law_513 ?_
        refine v_callVI (pc := 514) X (As := [.int v139]) (rest := []) (c_X5_inTheWay l D cA L sh x1 v139 h _ hf) (cwV 1 X.ht (gwV lwG_in q_407 q_408 q_409 q_1 q_410) rfl rfl rfl (by decide +kernel) ⟨Nat.le_of_ble_eq_true rfl, Nat.le_of_ble_eq_true rfl⟩) rfl (by decide) t5 (ent_5 t5) rfl rfl (Nat.le_of_ble_eq_true rfl) ⟨Nat.le_of_ble_eq_true rfl, Nat.le_of_ble_eq_true rfl⟩ dL_law_514 (fun r141 h142 hf => ?_)
        refine v_aload_n (pc := 517) X 2 dL_law_517 rfl rfl ?_
        refine v_aload_n (pc := 518) X 0 dL_law_518 rfl rfl ?_
        refine v_iload_n (pc := 519) X 3 dL_law_519 rfl rfl ?_
        refine v_iconst (pc := 520) X (v := (1 : Int32)) dL_law_520 (by decide) ?_
        refine v_iadd (pc := 521) X dL_law_521 ?_
        obtain ⟨b144, v143, e_v143, hf⟩ := hf
        refine v_sld (pc := 522) X hX hbl hbA b144 e_v143 dL_law_522 ?_
        refine v_callVI (pc := 523) X (As := [.int v143]) (rest := [.int r141]) (c_X6_inTheWay l D cA L sh x2 v143 h142 _ hf) (cwV 1 X.ht (gwV lwG_in q_676 q_677 q_678 q_7 q_679) rfl rfl rfl (by decide +kernel) ⟨Nat.le_of_ble_eq_true rfl, Nat.le_of_ble_eq_true rfl⟩) rfl (by decide) t6 (ent_6 t6) rfl rfl (Nat.le_of_ble_eq_true rfl) ⟨Nat.le_of_ble_eq_true rfl, Nat.le_of_ble_eq_true rfl⟩ dL_law_523 (fun r145 h146 hf => ?_)
        refine v_icmp_eq (pc := 526) X 665 dL_law_526 (by decide) (fun c => ?_) (fun c => ?_)
        · replace hf := if_t c hf
          refine v_iinc (pc := 665) X 3 (v := i + (4 : Int32)) (lv' := [(3, .int (i + (4 : Int32))), (0, .ref b), (1, .ref x1), (2, .ref x2)]) dL_law_665 rfl rfl (Nat.le_of_ble_eq_true rfl) rfl ?_
          refine v_goto (pc := 668) X 18 dL_law_668 (by decide) ?_
          refine v_sub [1, 2, 3, 0] rfl ?_
          exact ih (i + (4 : Int32)) h146 hf
        · replace hf := if_f c hf
          refine v_iconst (pc := 529) X (v := (0 : Int32)) dL_law_529 (by decide) ?_
          exact hf.elim
      replace hf := if_f c12 hf
      by_cases c13 : (v1 &&& (31 : Int32)) = (13 : Int32)
      · replace hf := if_t c13 hf
        refine v_tableIn (pc := 32) X (off := 499) 531 dL_law_32 (by rw [c13]; decide) (by rw [c13]; decide) (by rw [c13]; decide) (by decide) ?_
        refine v_aload_n (pc := 531) X 1 dL_law_531 rfl rfl ?_
        refine v_aload_n (pc := 532) X 0 dL_law_532 rfl rfl ?_
        refine v_iload_n (pc := 533) X 3 dL_law_533 rfl rfl ?_
        refine v_iconst (pc := 534) X (v := (1 : Int32)) dL_law_534 (by decide) ?_
        refine v_iadd (pc := 535) X dL_law_535 ?_
        obtain ⟨b148, v147, e_v147, hf⟩ := hf
        refine v_sld (pc := 536) X hX hbl hbA b148 e_v147 dL_law_536 ?_
        refine v_callVI (pc := 537) X (As := [.int v147]) (rest := []) (c_X5_bestRoom l D cA L sh x1 v147 h _ hf) (cwV 1 X.ht (gwV lwG_in q_416 q_417 q_418 q_1 q_419) rfl rfl rfl (by decide +kernel) ⟨Nat.le_of_ble_eq_true rfl, Nat.le_of_ble_eq_true rfl⟩) rfl (by decide) t5 (ent_5 t5) rfl rfl (Nat.le_of_ble_eq_true rfl) ⟨Nat.le_of_ble_eq_true rfl, Nat.le_of_ble_eq_true rfl⟩ dL_law_537 (fun r149 h150 hf => ?_)
        refine v_aload_n (pc := 540) X 2 dL_law_540 rfl rfl ?_
        refine v_aload_n (pc := 541) X 0 dL_law_541 rfl rfl ?_
        refine v_iload_n (pc := 542) X 3 dL_law_542 rfl rfl ?_
        refine v_iconst (pc := 543) X (v := (1 : Int32)) dL_law_543 (by decide) ?_
        refine v_iadd (pc := 544) X dL_law_544 ?_
        obtain ⟨b152, v151, e_v151, hf⟩ := hf
        refine v_sld (pc := 545) X hX hbl hbA b152 e_v151 dL_law_545 ?_
        refine v_callVI (pc := 546) X (As := [.int v151]) (rest := [.int r149]) (c_X6_bestRoom l D cA L sh x2 v151 h150 _ hf) (cwV 1 X.ht (gwV lwG_in q_680 q_681 q_682 q_7 q_683) rfl rfl rfl (by decide +kernel) ⟨Nat.le_of_ble_eq_true rfl, Nat.le_of_ble_eq_true rfl⟩) rfl (by decide) t6 (ent_6 t6) rfl rfl (Nat.le_of_ble_eq_true rfl) ⟨Nat.le_of_ble_eq_true rfl, Nat.le_of_ble_eq_true rfl⟩ dL_law_546 (fun r153 h154 hf => ?_)
        refine v_icmp_eq (pc := 549) X 665 dL_law_549 (by decide) (fun c => ?_) (fun c => ?_)
        · replace hf := if_t c hf
          refine v_iinc (pc := 665) X 3 (v := i + (4 : Int32)) (lv' := [(3, .int (i + (4 : Int32))), (0, .ref b), (1, .ref x1), (2, .ref x2)]) dL_law_665 rfl rfl (Nat.le_of_ble_eq_true rfl) rfl ?_
          refine v_goto (pc := 668) X 18 dL_law_668 (by decide) ?_
          refine v_sub [1, 2, 3, 0] rfl ?_
          exact ih (i + (4 : Int32)) h154 hf
        · replace hf := if_f c hf
          refine v_iconst (pc := 552) X (v := (0 : Int32)) dL_law_552 (by decide) ?_
          exact hf.elim
      replace hf := if_f c13 hf
      by_cases c14 : (v1 &&& (31 : Int32)) = (14 : Int32)
      · replace hf := if_t c14 hf
        refine v_tableIn (pc := 32) X (off := 522) 554 dL_law_32 (by rw [c14]; decide) (by rw [c14]; decide) (by rw [c14]; decide) (by decide) ?_
        refine v_aload_n (pc := 554) X 1 dL_law_554 rfl rfl ?_
        refine v_callVI (pc := 555) X (As := []) (rest := []) (c_X5_keep l D cA L sh x1 h _ hf) (cwV 0 X.ht (gwV lwG_in q_426 q_427 q_428 q_1 q_429) rfl rfl rfl (by decide +kernel) ⟨Nat.le_of_ble_eq_true rfl, Nat.le_of_ble_eq_true rfl⟩) rfl (by decide) t5 (ent_5 t5) rfl rfl (Nat.le_of_ble_eq_true rfl) ⟨Nat.le_of_ble_eq_true rfl, Nat.le_of_ble_eq_true rfl⟩ dL_law_555 (fun r155 h156 hf => ?_)
        refine v_aload_n (pc := 558) X 2 dL_law_558 rfl rfl ?_
        refine v_callVI (pc := 559) X (As := []) (rest := [.int r155]) (c_X6_keep l D cA L sh x2 h156 _ hf) (cwV 0 X.ht (gwV lwG_in q_690 q_691 q_692 q_7 q_693) rfl rfl rfl (by decide +kernel) ⟨Nat.le_of_ble_eq_true rfl, Nat.le_of_ble_eq_true rfl⟩) rfl (by decide) t6 (ent_6 t6) rfl rfl (Nat.le_of_ble_eq_true rfl) ⟨Nat.le_of_ble_eq_true rfl, Nat.le_of_ble_eq_true rfl⟩ dL_law_559 (fun r157 h158 hf => ?_)
        refine v_icmp_eq (pc := 562) X 665 dL_law_562 (by decide) (fun c => ?_) (fun c => ?_)
        · replace hf := if_t c hf
          refine v_iinc (pc := 665) X 3 (v := i + (4 : Int32)) (lv' := [(3, .int (i + (4 : Int32))), (0, .ref b), (1, .ref x1), (2, .ref x2)]) dL_law_665 rfl rfl (Nat.le_of_ble_eq_true rfl) rfl ?_
          refine v_goto (pc := 668) X 18 dL_law_668 (by decide) ?_
          refine v_sub [1, 2, 3, 0] rfl ?_
          exact ih (i + (4 : Int32)) h158 hf
        · replace hf := if_f c hf
          refine v_iconst (pc := 565) X (v := (0 : Int32)) dL_law_565 (by decide) ?_
          exact hf.elim
      replace hf := if_f c14 hf
      by_cases c15 : (v1 &&& (31 : Int32)) = (15 : Int32)
      · replace hf := if_t c15 hf
        refine v_tableIn (pc := 32) X (off := 535) 567 dL_law_32 (by rw [c15]; decide) (by rw [c15]; decide) (by rw [c15]; decide) (by decide) ?_
        refine v_aload_n (pc := 567) X 1 dL_law_567 rfl rfl ?_
        refine v_callVI (pc := 568) X (As := []) (rest := []) (c_X5_restore l D cA L sh x1 h _ hf) (cwV 0 X.ht (gwV lwG_in q_430 q_431 q_432 q_1 q_433) rfl rfl rfl (by decide +kernel) ⟨Nat.le_of_ble_eq_true rfl, Nat.le_of_ble_eq_true rfl⟩) rfl (by decide) t5 (ent_5 t5) rfl rfl (Nat.le_of_ble_eq_true rfl) ⟨Nat.le_of_ble_eq_true rfl, Nat.le_of_ble_eq_true rfl⟩ dL_law_568 (fun r159 h160 hf => ?_)
        refine v_aload_n (pc := 571) X 2 dL_law_571 rfl rfl ?_
        refine v_callVI (pc := 572) X (As := []) (rest := [.int r159]) (c_X6_restore l D cA L sh x2 h160 _ hf) (cwV 0 X.ht (gwV lwG_in q_694 q_695 q_696 q_7 q_697) rfl rfl rfl (by decide +kernel) ⟨Nat.le_of_ble_eq_true rfl, Nat.le_of_ble_eq_true rfl⟩) rfl (by decide) t6 (ent_6 t6) rfl rfl (Nat.le_of_ble_eq_true rfl) ⟨Nat.le_of_ble_eq_true rfl, Nat.le_of_ble_eq_true rfl⟩ dL_law_572 (fun r161 h162 hf => ?_)
        refine v_icmp_eq (pc := 575) X 665 dL_law_575 (by decide) (fun c => ?_) (fun c => ?_)
        · replace hf := if_t c hf
          refine v_iinc (pc := 665) X 3 (v := i + (4 : Int32)) (lv' := [(3, .int (i + (4 : Int32))), (0, .ref b), (1, .ref x1), (2, .ref x2)]) dL_law_665 rfl rfl (Nat.le_of_ble_eq_true rfl) rfl ?_
          refine v_goto (pc := 668) X 18 dL_law_668 (by decide) ?_
          refine v_sub [1, 2, 3, 0] rfl ?_
          exact ih (i + (4 : Int32)) h162 hf
        · replace hf := if_f c hf
          refine v_iconst (pc := 578) X (v := (0 : Int32)) dL_law_578 (by decide) ?_
          exact hf.elim
      replace hf := if_f c15 hf
      by_cases c16 : (v1 &&& (31 : Int32)) = (16 : Int32)
      · replace hf := if_t c16 hf
        refine v_tableIn (pc := 32) X (off := 548) 580 dL_law_32 (by rw [c16]; decide) (by rw [c16]; decide) (by rw [c16]; decide) (by decide) ?_
        refine v_aload_n (pc := 580) X 1 dL_law_580 rfl rfl ?_
        refine v_callVI (pc := 581) X (As := []) (rest := []) (c_X5_undo l D cA L sh x1 h _ hf) (cwV 0 X.ht (gwV lwG_in q_434 q_435 q_436 q_1 q_437) rfl rfl rfl (by decide +kernel) ⟨Nat.le_of_ble_eq_true rfl, Nat.le_of_ble_eq_true rfl⟩) rfl (by decide) t5 (ent_5 t5) rfl rfl (Nat.le_of_ble_eq_true rfl) ⟨Nat.le_of_ble_eq_true rfl, Nat.le_of_ble_eq_true rfl⟩ dL_law_581 (fun r163 h164 hf => ?_)
        refine v_aload_n (pc := 584) X 2 dL_law_584 rfl rfl ?_
        refine v_callVI (pc := 585) X (As := []) (rest := [.int r163]) (c_X6_undo l D cA L sh x2 h164 _ hf) (cwV 0 X.ht (gwV lwG_in q_698 q_699 q_700 q_7 q_701) rfl rfl rfl (by decide +kernel) ⟨Nat.le_of_ble_eq_true rfl, Nat.le_of_ble_eq_true rfl⟩) rfl (by decide) t6 (ent_6 t6) rfl rfl (Nat.le_of_ble_eq_true rfl) ⟨Nat.le_of_ble_eq_true rfl, Nat.le_of_ble_eq_true rfl⟩ dL_law_585 (fun r165 h166 hf => ?_)
        refine v_icmp_eq (pc := 588) X 665 dL_law_588 (by decide) (fun c => ?_) (fun c => ?_)
        · replace hf := if_t c hf
          refine v_iinc (pc := 665) X 3 (v := i + (4 : Int32)) (lv' := [(3, .int (i + (4 : Int32))), (0, .ref b), (1, .ref x1), (2, .ref x2)]) dL_law_665 rfl rfl (Nat.le_of_ble_eq_true rfl) rfl ?_
          refine v_goto (pc := 668) X 18 dL_law_668 (by decide) ?_
          refine v_sub [1, 2, 3, 0] rfl ?_
          exact ih (i + (4 : Int32)) h166 hf
        · replace hf := if_f c hf
          refine v_iconst (pc := 591) X (v := (0 : Int32)) dL_law_591 (by decide) ?_
          exact hf.elim
      replace hf := if_f c16 hf
      by_cases c17 : (v1 &&& (31 : Int32)) = (17 : Int32)
      · replace hf := if_t c17 hf
        refine v_tableIn (pc := 32) X (off := 561) 593 dL_law_32 (by rw [c17]; decide) (by rw [c17]; decide) (by rw [c17]; decide) (by decide) ?_
        refine v_aload_n (pc := 593) X 1 dL_law_593 rfl rfl ?_
        refine v_aload_n (pc := 594) X 0 dL_law_594 rfl rfl ?_
        refine v_iload_n (pc := 595) X 3 dL_law_595 rfl rfl ?_
        refine v_iconst (pc := 596) X (v := (1 : Int32)) dL_law_596 (by decide) ?_
        refine v_iadd (pc := 597) X dL_law_597 ?_
        obtain ⟨b168, v167, e_v167, hf⟩ := hf
        refine v_sld (pc := 598) X hX hbl hbA b168 e_v167 dL_law_598 ?_
        refine v_callVI (pc := 599) X (As := [.int v167]) (rest := []) (c_X5_type l D cA L sh x1 v167 h _ hf) (cwV 1 X.ht (gwV lwG_in q_438 q_439 q_440 q_1 q_441) rfl rfl rfl (by decide +kernel) ⟨Nat.le_of_ble_eq_true rfl, Nat.le_of_ble_eq_true rfl⟩) rfl (by decide) t5 (ent_5 t5) rfl rfl (Nat.le_of_ble_eq_true rfl) ⟨Nat.le_of_ble_eq_true rfl, Nat.le_of_ble_eq_true rfl⟩ dL_law_599 (fun r169 h170 hf => ?_)
        refine v_aload_n (pc := 602) X 2 dL_law_602 rfl rfl ?_
        refine v_aload_n (pc := 603) X 0 dL_law_603 rfl rfl ?_
        refine v_iload_n (pc := 604) X 3 dL_law_604 rfl rfl ?_
        refine v_iconst (pc := 605) X (v := (1 : Int32)) dL_law_605 (by decide) ?_
        refine v_iadd (pc := 606) X dL_law_606 ?_
        obtain ⟨b172, v171, e_v171, hf⟩ := hf
        refine v_sld (pc := 607) X hX hbl hbA b172 e_v171 dL_law_607 ?_
        refine v_callVI (pc := 608) X (As := [.int v171]) (rest := [.int r169]) (c_X6_type l D cA L sh x2 v171 h170 _ hf) (cwV 1 X.ht (gwV lwG_in q_702 q_703 q_704 q_7 q_705) rfl rfl rfl (by decide +kernel) ⟨Nat.le_of_ble_eq_true rfl, Nat.le_of_ble_eq_true rfl⟩) rfl (by decide) t6 (ent_6 t6) rfl rfl (Nat.le_of_ble_eq_true rfl) ⟨Nat.le_of_ble_eq_true rfl, Nat.le_of_ble_eq_true rfl⟩ dL_law_608 (fun r173 h174 hf => ?_)
        refine v_icmp_eq (pc := 611) X 665 dL_law_611 (by decide) (fun c => ?_) (fun c => ?_)
        · replace hf := if_t c hf
          refine v_iinc (pc := 665) X 3 (v := i + (4 : Int32)) (lv' := [(3, .int (i + (4 : Int32))), (0, .ref b), (1, .ref x1), (2, .ref x2)]) dL_law_665 rfl rfl (Nat.le_of_ble_eq_true rfl) rfl ?_
          refine v_goto (pc := 668) X 18 dL_law_668 (by decide) ?_
          refine v_sub [1, 2, 3, 0] rfl ?_
          exact ih (i + (4 : Int32)) h174 hf
        · replace hf := if_f c hf
          refine v_iconst (pc := 614) X (v := (0 : Int32)) dL_law_614 (by decide) ?_
          exact hf.elim
      replace hf := if_f c17 hf
      by_cases c18 : (v1 &&& (31 : Int32)) = (18 : Int32)
      · replace hf := if_t c18 hf
        refine v_tableIn (pc := 32) X (off := 584) 616 dL_law_32 (by rw [c18]; decide) (by rw [c18]; decide) (by rw [c18]; decide) (by decide) ?_
        refine v_aload_n (pc := 616) X 1 dL_law_616 rfl rfl ?_
        refine v_callVI (pc := 617) X (As := []) (rest := []) (c_X5_clearText l D cA L sh x1 h _ hf) (cwV 0 X.ht (gwV lwG_in q_442 q_443 q_444 q_1 q_445) rfl rfl rfl (by decide +kernel) ⟨Nat.le_of_ble_eq_true rfl, Nat.le_of_ble_eq_true rfl⟩) rfl (by decide) t5 (ent_5 t5) rfl rfl (Nat.le_of_ble_eq_true rfl) ⟨Nat.le_of_ble_eq_true rfl, Nat.le_of_ble_eq_true rfl⟩ dL_law_617 (fun r175 h176 hf => ?_)
        refine v_aload_n (pc := 620) X 2 dL_law_620 rfl rfl ?_
        refine v_callVI (pc := 621) X (As := []) (rest := [.int r175]) (c_X6_clearText l D cA L sh x2 h176 _ hf) (cwV 0 X.ht (gwV lwG_in q_706 q_707 q_708 q_7 q_709) rfl rfl rfl (by decide +kernel) ⟨Nat.le_of_ble_eq_true rfl, Nat.le_of_ble_eq_true rfl⟩) rfl (by decide) t6 (ent_6 t6) rfl rfl (Nat.le_of_ble_eq_true rfl) ⟨Nat.le_of_ble_eq_true rfl, Nat.le_of_ble_eq_true rfl⟩ dL_law_621 (fun r177 h178 hf => ?_)
        refine v_icmp_eq (pc := 624) X 665 dL_law_624 (by decide) (fun c => ?_) (fun c => ?_)
        · replace hf := if_t c hf
          refine v_iinc (pc := 665) X 3 (v := i + (4 : Int32)) (lv' := [(3, .int (i + (4 : Int32))), (0, .ref b), (1, .ref x1), (2, .ref x2)]) dL_law_665 rfl rfl (Nat.le_of_ble_eq_true rfl) rfl ?_
          refine v_goto (pc := 668) X 18 dL_law_668 (by decide) ?_
          refine v_sub [1, 2, 3, 0] rfl ?_
          exact ih (i + (4 : Int32)) h178 hf
        · replace hf := if_f c hf
          refine v_iconst (pc := 627) X (v := (0 : Int32)) dL_law_627 (by decide) ?_
          exact hf.elim
      replace hf := if_f c18 hf
      by_cases c19 : (v1 &&& (31 : Int32)) = (19 : Int32)
      · replace hf := if_t c19 hf
        refine v_tableIn (pc := 32) X (off := 597) 629 dL_law_32 (by rw [c19]; decide) (by rw [c19]; decide) (by rw [c19]; decide) (by decide) ?_
        refine v_aload_n (pc := 629) X 1 dL_law_629 rfl rfl ?_
        refine v_aload_n (pc := 630) X 0 dL_law_630 rfl rfl ?_
        refine v_iload_n (pc := 631) X 3 dL_law_631 rfl rfl ?_
        refine v_iconst (pc := 632) X (v := (1 : Int32)) dL_law_632 (by decide) ?_
        refine v_iadd (pc := 633) X dL_law_633 ?_
        obtain ⟨b180, v179, e_v179, hf⟩ := hf
        refine v_sld (pc := 634) X hX hbl hbA b180 e_v179 dL_law_634 ?_
        refine v_callVI (pc := 635) X (As := [.int v179]) (rest := []) (c_X5_fault l D cA L sh x1 v179 h _ hf) (cwV 1 X.ht (gwV lwG_in q_446 q_447 q_448 q_1 q_449) rfl rfl rfl (by decide +kernel) ⟨Nat.le_of_ble_eq_true rfl, Nat.le_of_ble_eq_true rfl⟩) rfl (by decide) t5 (ent_5 t5) rfl rfl (Nat.le_of_ble_eq_true rfl) ⟨Nat.le_of_ble_eq_true rfl, Nat.le_of_ble_eq_true rfl⟩ dL_law_635 (fun r181 h182 hf => ?_)
        refine v_aload_n (pc := 638) X 2 dL_law_638 rfl rfl ?_
        refine v_aload_n (pc := 639) X 0 dL_law_639 rfl rfl ?_
        refine v_iload_n (pc := 640) X 3 dL_law_640 rfl rfl ?_
        refine v_iconst (pc := 641) X (v := (1 : Int32)) dL_law_641 (by decide) ?_
        refine v_iadd (pc := 642) X dL_law_642 ?_
        obtain ⟨b184, v183, e_v183, hf⟩ := hf
        refine v_sld (pc := 643) X hX hbl hbA b184 e_v183 dL_law_643 ?_
        refine v_callVI (pc := 644) X (As := [.int v183]) (rest := [.int r181]) (c_X6_fault l D cA L sh x2 v183 h182 _ hf) (cwV 1 X.ht (gwV lwG_in q_710 q_711 q_712 q_7 q_713) rfl rfl rfl (by decide +kernel) ⟨Nat.le_of_ble_eq_true rfl, Nat.le_of_ble_eq_true rfl⟩) rfl (by decide) t6 (ent_6 t6) rfl rfl (Nat.le_of_ble_eq_true rfl) ⟨Nat.le_of_ble_eq_true rfl, Nat.le_of_ble_eq_true rfl⟩ dL_law_644 (fun r185 h186 hf => ?_)
        refine v_icmp_eq (pc := 647) X 665 dL_law_647 (by decide) (fun c => ?_) (fun c => ?_)
        · replace hf := if_t c hf
          refine v_iinc (pc := 665) X 3 (v := i + (4 : Int32)) (lv' := [(3, .int (i + (4 : Int32))), (0, .ref b), (1, .ref x1), (2, .ref x2)]) dL_law_665 rfl rfl (Nat.le_of_ble_eq_true rfl) rfl ?_
          refine v_goto (pc := 668) X 18 dL_law_668 (by decide) ?_
          refine v_sub [1, 2, 3, 0] rfl ?_
          exact ih (i + (4 : Int32)) h186 hf
        · replace hf := if_f c hf
          refine v_iconst (pc := 650) X (v := (0 : Int32)) dL_law_650 (by decide) ?_
          exact hf.elim
      replace hf := if_f c19 hf
      by_cases c20 : (v1 &&& (31 : Int32)) = (20 : Int32)
      · replace hf := if_t c20 hf
        refine v_tableIn (pc := 32) X (off := 620) 652 dL_law_32 (by rw [c20]; decide) (by rw [c20]; decide) (by rw [c20]; decide) (by decide) ?_
        refine v_aload_n (pc := 652) X 1 dL_law_652 rfl rfl ?_
        refine v_callVI (pc := 653) X (As := []) (rest := []) (c_X5_play l D cA L sh x1 h _ hf) (cwV 0 X.ht (gwV lwG_in q_475 q_476 q_477 q_1 q_478) rfl rfl rfl (by decide +kernel) ⟨Nat.le_of_ble_eq_true rfl, Nat.le_of_ble_eq_true rfl⟩) rfl (by decide) t5 (ent_5 t5) rfl rfl (Nat.le_of_ble_eq_true rfl) ⟨Nat.le_of_ble_eq_true rfl, Nat.le_of_ble_eq_true rfl⟩ dL_law_653 (fun r187 h188 hf => ?_)
        refine v_aload_n (pc := 656) X 2 dL_law_656 rfl rfl ?_
        refine v_callVI (pc := 657) X (As := []) (rest := [.int r187]) (c_X6_play l D cA L sh x2 h188 _ hf) (cwV 0 X.ht (gwV lwG_in q_732 q_733 q_734 q_7 q_735) rfl rfl rfl (by decide +kernel) ⟨Nat.le_of_ble_eq_true rfl, Nat.le_of_ble_eq_true rfl⟩) rfl (by decide) t6 (ent_6 t6) rfl rfl (Nat.le_of_ble_eq_true rfl) ⟨Nat.le_of_ble_eq_true rfl, Nat.le_of_ble_eq_true rfl⟩ dL_law_657 (fun r189 h190 hf => ?_)
        refine v_icmp_eq (pc := 660) X 665 dL_law_660 (by decide) (fun c => ?_) (fun c => ?_)
        · replace hf := if_t c hf
          refine v_iinc (pc := 665) X 3 (v := i + (4 : Int32)) (lv' := [(3, .int (i + (4 : Int32))), (0, .ref b), (1, .ref x1), (2, .ref x2)]) dL_law_665 rfl rfl (Nat.le_of_ble_eq_true rfl) rfl ?_
          refine v_goto (pc := 668) X 18 dL_law_668 (by decide) ?_
          refine v_sub [1, 2, 3, 0] rfl ?_
          exact ih (i + (4 : Int32)) h190 hf
        · replace hf := if_f c hf
          refine v_iconst (pc := 663) X (v := (0 : Int32)) dL_law_663 (by decide) ?_
          exact hf.elim
      replace hf := if_f c20 hf
      refine v_tableOut (pc := 32) X 665 dL_law_32 (tab_out_0_20 c0 c1 c2 c3 c4 c5 c6 c7 c8 c9 c10 c11 c12 c13 c14 c15 c16 c17 c18 c19 c20) (by decide) ?_
      refine v_iinc (pc := 665) X 3 (v := i + (4 : Int32)) (lv' := [(3, .int (i + (4 : Int32))), (0, .ref b), (1, .ref x1), (2, .ref x2)]) dL_law_665 rfl rfl (Nat.le_of_ble_eq_true rfl) rfl ?_
      refine v_goto (pc := 668) X 18 dL_law_668 (by decide) ?_
      refine v_sub [1, 2, 3, 0] rfl ?_
      exact ih (i + (4 : Int32)) h hf

/-- the law: two constructors, then the loop -/
def f_law (L : List Nat) (sh : Sh) (h : Hp) (xs : Nat → Int32) (Ls : Nat) : Prop :=
  nw L sh h 5 0 fun x1 L1 sh1 h1 =>
  f_X5_init L1 sh1 x1 h1 fun L2 sh2 h2 =>
  nw L2 sh2 h2 6 0 fun x2 L3 sh3 h3 =>
  f_X6_init L3 sh3 x2 h3 fun L4 sh4 h4 =>
  ty sh4 x1 5 <| ty sh4 x2 6 <|
  lo (b_law sh4 x1 x2 xs Ls) (0 : Int32) h4
def sh0 : Sh := fun _ => (99, 0)
def h0 : Hp := (fun _ _ => 0, fun _ _ => none)
set_option maxHeartbeats 16000000 in
set_option maxRecDepth 100000 in
theorem v_law {p : Program} {l : Launch} {e : Env} {s : State} {m : MethodId} {below : List Frame} {meth : Method} {c : Code} {D : va_G} {cA : Nat → ClassId} {b Ls : Nat} {xs : Nat → Int32} (X : Cx p s m c #[Value.ref b] code 4 lw_tbl RL (fun q => s.heap.size ≤ q) D cA [] sh0) (hr : meth.sig.returnType = ret) (hlk : meth.locks = false) (hX : va_X b Ls xs s s.heap) (hbl : b < s.heap.size) (hf : f_law [] sh0 h0 xs Ls) : V p l e room_1 s m #[Value.ref b] below meth c (lw_Z below #[Value.ref b] s) (fun q => s.heap.size ≤ q) 0 0 D cA [] sh0 4 h0 0 [(0, .ref b)] [] := by
  unfold f_law at hf
  refine v_new_5 (pc := 0) X (fun w h => lwG_in w (inG5 w h)) (X.ht _ (lwG_in _ q_9)) (X.ht _ (lwG_in _ q_10)) (X.ht _ (lwG_in _ q_1)) (fun _ z => z) (Nat.le_of_ble_eq_true rfl) (Nat.le_of_ble_eq_true rfl) dL_law_0 (fun x1 nq X1 => ?_)
  replace hf := hf x1 _ _ _ nq rfl rfl rfl
  obtain ⟨h1, e_h1⟩ : ∃ z, z = hz h0 x1 := ⟨_, rfl⟩
  rw [← e_h1] at hf ⊢
  obtain ⟨L1, e_L1⟩ : ∃ z, z = ([] : List Nat) ++ [x1] := ⟨_, rfl⟩
  rw [← e_L1] at hf X1 ⊢
  obtain ⟨sh1, e_sh1⟩ : ∃ z, z = va_up sh0 x1 (5, 0) := ⟨_, rfl⟩
  rw [← e_sh1] at hf X1 ⊢
  refine v_dup (pc := 3) X1 dL_law_3 rfl ?_
  refine v_callI (pc := 4) X1 (rest := [.ref x1]) (c_X5_init l D cA L1 sh1 x1 h1 _ hf) (cwI 0 X.ht (good_wM lwG_in q_13) rfl rfl rfl (X.ht _ (lwG_in _ q_1)) (X.ht _ (lwG_in _ q_11)) (X.ht _ (lwG_in _ q_12)) rfl (by decide +kernel) ⟨Nat.le_of_ble_eq_true rfl, Nat.le_of_ble_eq_true rfl⟩) (fun _ z => z) rfl (Nat.le_of_ble_eq_true rfl) ⟨Nat.le_of_ble_eq_true rfl, Nat.le_of_ble_eq_true rfl⟩ dL_law_4 (fun L2 sh2 h2 hf X2 => ?_)
  refine v_astore_n (pc := 7) X2 (i := 1) (lv' := [(1, .ref x1), (0, .ref b)]) dL_law_7 rfl (Nat.le_of_ble_eq_true rfl) rfl ?_
  refine v_new_6 (pc := 8) X2 (fun w h => lwG_in w (inG6 w h)) (X.ht _ (lwG_in _ q_479)) (X.ht _ (lwG_in _ q_480)) (X.ht _ (lwG_in _ q_7)) (fun _ z => z) (Nat.le_of_ble_eq_true rfl) (Nat.le_of_ble_eq_true rfl) dL_law_8 (fun x2 nq X3 => ?_)
  replace hf := hf x2 _ _ _ nq rfl rfl rfl
  obtain ⟨h3, e_h3⟩ : ∃ z, z = hz h2 x2 := ⟨_, rfl⟩
  rw [← e_h3] at hf ⊢
  obtain ⟨L3, e_L3⟩ : ∃ z, z = L2 ++ [x2] := ⟨_, rfl⟩
  rw [← e_L3] at hf X3 ⊢
  obtain ⟨sh3, e_sh3⟩ : ∃ z, z = va_up sh2 x2 (6, 0) := ⟨_, rfl⟩
  rw [← e_sh3] at hf X3 ⊢
  refine v_dup (pc := 11) X3 dL_law_11 rfl ?_
  refine v_callI (pc := 12) X3 (rest := [.ref x2]) (c_X6_init l D cA L3 sh3 x2 h3 _ hf) (cwI 0 X.ht (good_wM lwG_in q_483) rfl rfl rfl (X.ht _ (lwG_in _ q_7)) (X.ht _ (lwG_in _ q_481)) (X.ht _ (lwG_in _ q_482)) rfl (by decide +kernel) ⟨Nat.le_of_ble_eq_true rfl, Nat.le_of_ble_eq_true rfl⟩) (fun _ z => z) rfl (Nat.le_of_ble_eq_true rfl) ⟨Nat.le_of_ble_eq_true rfl, Nat.le_of_ble_eq_true rfl⟩ dL_law_12 (fun L4 sh4 h4 hf X4 => ?_)
  refine v_astore_n (pc := 15) X4 (i := 2) (lv' := [(2, .ref x2), (1, .ref x1), (0, .ref b)]) dL_law_15 rfl (Nat.le_of_ble_eq_true rfl) rfl ?_
  refine v_iconst (pc := 16) X4 (v := (0 : Int32)) dL_law_16 (by decide) ?_
  refine v_istore_n (pc := 17) X4 (i := 3) (lv' := [(3, .int (0 : Int32)), (2, .ref x2), (1, .ref x1), (0, .ref b)]) dL_law_17 rfl (Nat.le_of_ble_eq_true rfl) rfl ?_
  obtain ⟨t5, t6, n, hf⟩ := hf
  refine v_sub [3, 2, 1, 0] rfl ?_
  exact w_law X4 hr hlk hX hbl x1 x2 t5 t6 n 0 h4 hf

theorem arr_of {s : State} {args : Array Value} (h : (Cond.arrayClass .int).before args s = true) : ∃ cA : ClassId, ArrOfT s cA .int ∧ va_RA s cA .int := by
  obtain ⟨cA, kA, comp, h1, h2, h3⟩ := Cond.arrayClass_spec h
  exact ⟨cA, fun n z => ⟨fun k q => (by cases q), kA, h2, comp, h3⟩, h1⟩
theorem arr_ofq {s : State} {args : Array Value} {C : String} (h : (Cond.arrayOver (.object C)).before args s = true) : ∃ cA : ClassId, ArrOfT s cA (.object C) ∧ va_RA s cA (.object C) := by
  obtain ⟨comp, c, k, h1, h2, h3, h4, h5⟩ := Cond.arrayOver_spec h
  exact ⟨c, fun n z => ⟨fun k q => (by cases q), k, h3, comp, h4⟩, k, comp, h3, h4, h1, h5⟩
set_option maxHeartbeats 16000000 in
set_option maxRecDepth 100000 in
theorem whole_open {p : Program} {e : Env} {s : State} {m : MethodId} {below : List Frame} {meth : Method} {c : Code} (l : Launch) (hflags : l.flags = flags0) {b L : Nat} {xs : Nat → Int32} (hL : L ≤ 2048) (C0 : lw_At p s m meth c b L xs) (hf : f_law [] sh0 h0 xs L) : W p l e room_1 s m #[Value.ref b] below meth c s.heap [] 0 0 (lw_Z below #[Value.ref b] s) (entryFrame m ([Value.ref b] : List Value).toArray 4) := by
  obtain ⟨hx, hb, hr, hml, hown, hts, hX, hbl, hlocks, hgv⟩ := C0
  obtain ⟨c0, s0, k0⟩ := u_known (C := RX0) (T := TX0) (N := 6) (n := 6) hts (fun w h => lwG_in w (inG0 w h)) (hts _ (lwG_in _ q_32))
  obtain ⟨c1, s1, k1⟩ := u_known (C := RX1) (T := TX1) (N := 9) (n := 9) hts (fun w h => lwG_in w (inG1 w h)) (hts _ (lwG_in _ q_25))
  obtain ⟨c2, s2, k2⟩ := u_known (C := RX2) (T := TX2) (N := 12) (n := 12) hts (fun w h => lwG_in w (inG2 w h)) (hts _ (lwG_in _ q_18))
  obtain ⟨c3, s3, k3⟩ := u_known (C := RX3) (T := TX3) (N := 6) (n := 6) hts (fun w h => lwG_in w (inG3 w h)) (hts _ (lwG_in _ q_162))
  obtain ⟨c4, s4, k4⟩ := u_known (C := RX4) (T := TX4) (N := 4) (n := 4) hts (fun w h => lwG_in w (inG4 w h)) (hts _ (lwG_in _ q_66))
  obtain ⟨c5, s5, k5⟩ := u_known (C := RX5) (T := TX5) (N := 10) (n := 10) hts (fun w h => lwG_in w (inG5 w h)) (hts _ (lwG_in _ q_10))
  obtain ⟨c6, s6, k6⟩ := u_known (C := RX6) (T := TX6) (N := 19) (n := 19) hts (fun w h => lwG_in w (inG6 w h)) (hts _ (lwG_in _ q_480))
  obtain ⟨a7, r7⟩ := arr_of (hts _ (lwG_in _ q_63))
  obtain ⟨a8, r8⟩ := arr_ofq (hts _ q_31)
  obtain ⟨a9, r9⟩ := arr_ofq (hts _ q_24)
  obtain ⟨a10, r10⟩ := arr_ofq (hts _ q_160)
  obtain ⟨a11, r11⟩ := arr_ofq (hts _ q_65)
  have hK : KK (fun k => match k with | 0 => c0 | 1 => c1 | 2 => c2 | 3 => c3 | 4 => c4 | 5 => c5 | _ => c6, fun k => match k with | 0 => s0 | 1 => s1 | 2 => s2 | 3 => s3 | 4 => s4 | 5 => s5 | _ => s6) (fun k => match k with | 7 => a7 | 8 => a8 | 9 => a9 | 10 => a10 | _ => a11) s := by
    refine ⟨⟨fun k q hq => ?_, fun k q hq => ?_⟩, va_Nw.of rfl (hts _ q_33), va_Nw.of rfl (hts _ q_415), va_Nw.of rfl (hts _ q_272), va_Nw.of rfl (hts _ q_317), va_AO.of (hts _ q_31), va_AO.of (hts _ q_24), va_AO.of (hts _ q_160), va_AO.of (hts _ q_65)⟩
    · match k, hq with
      | 0, hq => cases hq; exact k0
      | 1, hq => cases hq; exact k1
      | 2, hq => cases hq; exact k2
      | 3, hq => cases hq; exact k3
      | 4, hq => cases hq; exact k4
      | 5, hq => cases hq; exact k5
      | 6, hq => cases hq; exact k6
      | k + 7, hq => simp [vwCl] at hq
    · match k, hq with
      | 0, hq => cases hq; exact r7
      | 1, hq => cases hq; exact r8
      | 2, hq => cases hq; exact r9
      | 3, hq => cases hq; exact r10
      | 4, hq => cases hq; exact r11
      | k + 5, hq => simp [tysL] at hq
  have X : Cx p s m c #[Value.ref b] code 4 lw_tbl RL (fun q => s.heap.size ≤ q) _ _ [] sh0 := ⟨⟨hx, hb, hml, hown, hts⟩, hK, List.nodup_nil, fun a ha => absurd ha List.not_mem_nil, fun a ha => absurd ha (by show ¬ (99 : Nat) < 50; decide)⟩
  have hl := lv_entry ([.ref b]) (n := 4) (Nat.le_of_ble_eq_true rfl)
  rw [lg_entry_eq]
  exact v_law X hr hlocks hX hbl hf _ _ _ hl (fun k q hq => by simp [va_pl] at hq) va_S.rf

-- ===== end of PART A; then your names; then what follows =====
/-! THE CLAIM OUT OF ONE WALK OF THE LAW'S BODY. Your part is whole_start (and what it stands on); all else here is the same for every law, but numbers. -/
def R_law : String := "ShapeSessionsLaw"
def lw_P (b : Addr) (xs : List Int32) (args : Array Value) (s : State) : Prop := args = #[.ref b] ∧ s.IntsAt b xs ∧ xs.length ≤ 260 ∧ (Jvm.Cond.and given_1 narrow_1).before args s = true
def lw_Q (_ : Array Value) (s : State) (o : Outcome) (t : State) : Prop := o = .returned (some (.int 1)) ∧ Framed s o t [] 600074 7302025
def lw_Z (below : List Frame) (a : Array Value) (s : State) : State → Prop := fun t => ∃ o, t.status = .running ∧ Ended t below o ∧ lw_Q a s o t
/-- the law's own end, with 1 on the stack, nothing written that was there before, its room as the claim has it -/
theorem lw_ret {p : Program} {l : Launch} {e : Env} {s : State} {m : MethodId} {below : List Frame} {meth : Method} {c : Code} {b : Nat} (hx : p.tables.exec = Jvm.exec) (hb : c.code = code) (hr : meth.sig.returnType = ret) (hlocks : meth.locks = false) {pc : Nat} {H : Heap} {ls : Array Slot} (hdg : decode code pc = .ok (.ireturn, 1)) : W p l e room_1 s m #[Value.ref b] below meth c H [] 600074 7302025 (lw_Z below #[Value.ref b] s) (F0 m pc ls [.int 1]) := by
  intro T hT X
  obtain ⟨fs, hret, hrun, hended, hW, hframe⟩ := X.leave (v := some (.int 1)) (hlocks := hlocks) (fun h => by rw [hr] at h; cases h)
  have hmeth' : T.vm.method? m = some meth := X.method'
  refine ⟨T.setFrames fs, ?_, .returned (some (.int 1)), hrun, hended, rfl, ⟨_, rfl⟩, hW, hframe⟩
  jvm_step X.here [X.here.top, hx, hb, hdg, hmeth', hr, ret, narrow_b1]
  (try refine ⟨rfl, ?_⟩); (try refine ⟨rfl, ?_⟩)
  first | (intro acts; rw [hret _ acts rfl rfl rfl]) | rw [hret _ _ rfl rfl rfl]
  exact Steps.refl _
/-- what holds at the law's entry: the machine, the code, the tables' words (any of lw_tbl by 'hts w (by decide +kernel)'), the script of L ints xs at the cell b, what the Statement gives of the start (any of its parts by flat_of_before) -/
def lw_At (p : Program) (s : State) (m : MethodId) (meth : Method) (c : Code) (b L : Nat) (xs : Nat → Int32) : Prop :=
  p.tables.exec = Jvm.exec ∧ c.code = code ∧ meth.sig.returnType = ret ∧ c.maxLocals = 11 ∧ s.vm.findClass R_law = some m.cls ∧ (∀ w ∈ lw_tbl, w.before #[Value.ref b] s = true) ∧ va_X b L xs s s.heap ∧ b < s.heap.size ∧ meth.locks = false ∧ (Jvm.Cond.and given_1 narrow_1).before #[Value.ref b] s = true

/-! rows for the law's own methods: a fork that joins; a constant; the script's cell; a method that makes arrays -/
def dj (K : Int32 → Hp → Prop) (B : (Int32 → Hp → Prop) → Prop) : Prop := B K
theorem dj_e {K : Int32 → Hp → Prop} {B : (Int32 → Hp → Prop) → Prop} {Vat : Int32 → Hp → Prop} {P : Prop} (hf : dj K B) (h1 : ∀ v h, K v h → Vat v h) (h2 : ∀ J : Int32 → Hp → Prop, (∀ v h, J v h → Vat v h) → B J → P) : P := h2 K h1 hf
theorem dj_i {K : Int32 → Hp → Prop} {B : (Int32 → Hp → Prop) → Prop} (v : Int32) (h : Hp) (h1 : K v h) (h2 : ∀ J : Int32 → Hp → Prop, J v h → B J) : dj K B := h2 K h1
def lS (xs : Nat → Int32) (Ls : Nat) (i : Int32) (K : Int32 → Prop) : Prop := vp_in i Ls ∧ ∃ v, v = xs i.toNatClampNeg ∧ K v
section LROWS
variable {p : Program} {l : Launch} {e : Env} {R : Room} {s : State} {m : MethodId} {args : Array Value} {below : List Frame} {meth : Method} {c : Code} {Q : State → Prop} {A : Nat → Prop} {ce sl : Nat} {D : va_G} {cA : Nat → ClassId} {L : List Nat} {sh : Sh} {nL : Nat} {h : Hp} {pc : Nat} {lv : List (Nat × Value)} {st : List Value} {cc : ByteArray} {Ts : List Cond} {own : String} {b Ls : Nat} {xs : Nat → Int32}
theorem v_ldc (X : Cx p s m c args cc nL Ts own A D cA L sh) {index : Nat} {v : Int32} (hc : (Cond.constant own index v).before args s = true) (hd : decode cc pc = .ok (.ldc index, 2)) (kk : V p l e R s m args below meth c Q A ce sl D cA L sh nL h (pc + 2) lv (.int v :: st)) : V p l e R s m args below meth c Q A ce sl D cA L sh nL h pc lv st := fun ls H locs hL hP hS => lv_ldc X.hx X.hb X.ho hc hd (kk ls H locs hL hP hS)
theorem v_sld (X : Cx p s m c args cc nL Ts own A D cA L sh) {i v : Int32} (hX : va_X b Ls xs s s.heap) (hbl : b < s.heap.size) (hbA : ¬ A b) (hin : vp_in i Ls) (ev : v = xs i.toNatClampNeg) (hd : decode cc pc = .ok (.iaload, 1)) (kk : V p l e R s m args below meth c Q A ce sl D cA L sh nL h (pc + 1) lv (.int v :: st)) : V p l e R s m args below meth c Q A ce sl D cA L sh nL h pc lv (.int i :: .ref b :: st) := fun ls H locs hL hP hS => by
  subst ev
  exact va_sld X.hx X.hb hX hbl hbA hS hin hd (kk ls H locs hL hP hS)
theorem v_slen (X : Cx p s m c args cc nL Ts own A D cA L sh) (hX : va_X b Ls xs s s.heap) (hbl : b < s.heap.size) (hbA : ¬ A b) (hd : decode cc pc = .ok (.arraylength, 1)) (kk : V p l e R s m args below meth c Q A ce sl D cA L sh nL h (pc + 1) lv (.int (Int32.ofNat Ls) :: st)) : V p l e R s m args below meth c Q A ce sl D cA L sh nL h pc lv (.ref b :: st) := fun ls H locs hL hP hS => va_slen X.hx X.hb hX hbl hbA hS hd (kk ls H locs hL hP hS)
theorem v_lawret {meth : Method} (X : Cx p s m c #[Value.ref b] code nL Ts own (fun q => s.heap.size ≤ q) D cA L sh) (hr : meth.sig.returnType = ret) (hlk : meth.locks = false) (hce : ce ≤ 600074) (hsl : sl ≤ 7302025) (hd : decode code pc = .ok (.ireturn, 1)) : V p l e room_1 s m #[Value.ref b] below meth c (lw_Z below #[Value.ref b] s) (fun q => s.heap.size ≤ q) ce sl D cA L sh nL h pc lv [.int 1] := fun ls H locs hL hP hS => by
  refine va_forget (fun q hq => hS.2.2 q hq) ?_
  refine W.widen hce hsl ?_
  exact lw_ret X.hx X.hb hr hlk hd
/-- the script's cell: a method that reads the script -/
abbrev PreX (D : va_G) (cA : Nat → ClassId) (L : List Nat) (sh : Sh) (h : Hp) (b Ls : Nat) (xs : Nat → Int32) (k : Int32) : Array Value → State → Prop := va_Pc [.ref b, .int k] (fun U => HW D cA L sh h U ∧ va_X b Ls xs U U.heap ∧ b ∉ L)
theorem blindX {k : Int32} : FrameBlind (PreX D cA L sh h b Ls xs k) := fun a U g mk q => by
  obtain ⟨q0, ⟨q1, q2, q3⟩, q4, q5⟩ := q
  exact ⟨q0, ⟨q1, KK.same (u := U) (U := U.calling g mk a) rfl q2, q3⟩, va_X.moved (u := U) (U := U.calling g mk a) (Vm.Alike.refl U.vm) q4, q5⟩
theorem v_preX (X : Cx p s m c args cc nL Ts own A D cA L sh) {k : Int32} {H : Heap} {locs : List Loc} (hP : va_P D vwCl (va_pl L (ent cA sh h)) H) (hS : va_S A s.heap H locs) (hX : va_X b Ls xs s s.heap) (hbl : b < s.heap.size) (hbA : ¬ A b) : ∀ U : State, U.heap = H → s.WarmedH U.vm → PreX D cA L sh h b Ls xs k [.ref b, .int k].toArray U := fun U hU hW => ⟨rfl, ⟨by rw [hU]; exact hP, KK.warm hW X.2.1, X.2.2.1, X.2.2.2.2⟩, va_X.moved hW.alike (hX.kept (by rw [hU]; exact hS.2.1 b hbl hbA)), fun z => hbA (X.2.2.2.1 b z)⟩
theorem v_callSX (X : Cx p s m c args cc nL Ts own A D cA L sh) {K : Int32 → Hp → Prop} {y : MethodName} {bytes : ByteArray} {maxL index : Nat} {ret : Option FieldType} {ws : List Cond} {rm : Room} {k : Int32} {rest : List Value} (hM : Met l y ws rm (PreX D cA L sh h b Ls xs k) (QI D cA L sh K) 0 0 (fun q => q ∈ L)) (cw : CallB R s args own index y bytes maxL ret ws rm 0 0 2 ∧ (Cond.static y).before args s = true) (hX : va_X b Ls xs s s.heap) (hbl : b < s.heap.size) (hbA : ¬ A b) (hcat : (rest.map fun v => v.category).sum ≤ 8) (hroom : ce ≤ R.cells ∧ sl ≤ R.slots) (hd : decode cc pc = .ok (.invokestatic index, 3)) (kk : ∀ (r : Int32) (h1 : Hp), K r h1 → V p l e R s m args below meth c Q A ce sl D cA L sh nL h1 (pc + 3) lv (.int r :: rest)) : V p l e R s m args below meth c Q A ce sl D cA L sh nL h pc lv (.int k :: .ref b :: rest) := fun ls H locs hL hP hS =>
  va_calli (va_runS (As := [.ref b, .int k]) (rest := rest) X.1 hM cw ⟨blindX, v_preX X hP hS hX hbl hbA⟩ rfl rfl hL.1 rfl (lv_room hcat) hd hroom) hS (fun q _ h9 => X.2.2.2.1 q h9) X.2.2.2.1 (fun r u t H1 locs1 ht hvm hw hB hz1 hk1 hS1 => kk r u hw ls H1 locs1 hL (by rw [← ht]; exact hB) hS1)
/-- a static method that makes arrays, and answers a number -/
abbrev QAI (D : va_G) (cA : Nat → ClassId) (L : List Nat) (sz : Nat) (K : Int32 → List Nat → Sh → Hp → Prop) : Array Value → State → Outcome → State → Prop := va_Qi (fun r (u : List Nat × Sh × Hp) => K r u.1 u.2.1 u.2.2) (HN D cA L sz) (fun q => q ∈ L ∨ sz ≤ q)
theorem v_callSA (X : Cx p s m c args cc nL Ts own A D cA L sh) {K : Int32 → List Nat → Sh → Hp → Prop} {y : MethodName} {bytes : ByteArray} {maxL n index mc ms : Nat} {ret : Option FieldType} {ws : List Cond} {rm : Room} {As rest : List Value} (hM : ∀ sz, Met l y ws rm (PreN D cA L sh h sz As) (QAI D cA L sz K) mc ms (fun q => q ∈ L ∨ sz ≤ q)) (cw : CallB R s args own index y bytes maxL ret ws rm mc ms n ∧ (Cond.static y).before args s = true) (hA : ∀ q, s.heap.size ≤ q → A q) (hn : As.length = n) (hst : st = As.reverse ++ rest) (hcat : (rest.map fun v => v.category).sum ≤ 8) (hroom : ce + mc ≤ R.cells ∧ sl + ms ≤ R.slots) (hd : decode cc pc = .ok (.invokestatic index, 3)) (kk : ∀ (r : Int32) (L1 : List Nat) (sh1 : Sh) (h1 : Hp), K r L1 sh1 h1 → Cx p s m c args cc nL Ts own A D cA L1 sh1 → V p l e R s m args below meth c Q A (ce + mc) (sl + ms) D cA L1 sh1 nL h1 (pc + 3) lv (.int r :: rest)) : V p l e R s m args below meth c Q A ce sl D cA L sh nL h pc lv st := fun ls H locs hL hP hS => by
  subst hst
  refine va_calli (va_runS (As := As) (rest := rest) X.1 (hM H.size) cw ⟨blindN, v_preN X hP⟩ rfl hn hL.1 rfl (lv_room hcat) hd hroom) hS (fun q h1 h2 => ?_) (fun q h2 => ?_) (fun r u t H1 locs1 ht hvm hw hB hz1 hk1 hS1 => ?_)
  · rcases h2 with h2 | h2
    · exact X.2.2.2.1 q h2
    · exact absurd h1 (Nat.not_lt.mpr h2)
  · rcases h2 with h2 | h2
    · exact X.2.2.2.1 q h2
    · exact hA q (Nat.le_trans hS.1 h2)
  · obtain ⟨b1, b2, b3, b4⟩ := hB
    rw [ht] at b1
    exact kk r u.1 u.2.1 u.2.2 hw ⟨X.1, X.2.1, b2, fun a ha => (b4 a ha).elim (X.2.2.2.1 a) (fun z => hA a (Nat.le_trans hS.1 z)), b3⟩ ls H1 locs1 hL b1 hS1
theorem v_zretA {L0 : List Nat} (X : Cx p s m c args cc nL Ts own (fun q => q ∈ L0 ∨ s.heap.size ≤ q) D cA L sh) {K : Int32 → List Nat → Sh → Hp → Prop} {r : Int32} (hr : meth.sig.returnType = some .boolean) (hlk : meth.locks = false) (hd : decode cc pc = .ok (.ireturn, 1)) (hz : r = 0 ∨ r = 1) (hK : K r L sh h) : V p l e R s m args below meth c (MQ below (QAI D cA L0 s.heap.size K) args s ce sl (fun q => q ∈ L0 ∨ s.heap.size ≤ q)) (fun q => q ∈ L0 ∨ s.heap.size ≤ q) ce sl D cA L sh nL h pc lv [.int r] := fun ls H locs hL hP hS => W.zret X.hx X.hb hr (by rcases hz with rfl | rfl <;> decide +kernel) (fun t ht hW => ⟨⟨r, (L, sh, h), rfl, hK, by rw [ht]; exact hP, X.2.2.1, X.2.2.2.2, X.2.2.2.1⟩, hS.F ht⟩) hS.2.2 hd hlk
end LROWS
theorem met_x {l : Launch} {y : MethodName} {ws ws' : List Cond} {rm : Room} {cc : ByteArray} {nL : Nat} {ret : Option FieldType} {D : va_G} {cA : Nat → ClassId} {L : List Nat} {sh : Sh} {h : Hp} {b Ls : Nat} {xs : Nat → Int32} {k : Int32} {Qc : Array Value → State → Outcome → State → Prop} (lv : List (Nat × Value)) (hy : plainName y.cls = true) (hw : ws = Cond.code y cc nL ret :: ws') (hlen : (lg_sl [.ref b, .int k]).length ≤ nL) (hlv : lv_args 0 [.ref b, .int k] = lv)
    (body : ∀ (p : Program) (e : Env) (s : State) (m : MethodId) (below : List Frame) (meth : Method) (c : Code), Cx p s m c [Value.ref b, .int k].toArray cc nL ws y.cls (fun q => q ∈ L) D cA L sh → meth.sig.returnType = ret → meth.locks = false → va_X b Ls xs s s.heap → b < s.heap.size → b ∉ L → V p l e (headSpec ws rm).room s m [Value.ref b, .int k].toArray below meth c (MQ below Qc [Value.ref b, .int k].toArray s 0 0 (fun q => q ∈ L)) (fun q => q ∈ L) 0 0 D cA L sh nL h 0 lv []) :
    Met l y ws rm (PreX D cA L sh h b Ls xs k) Qc 0 0 (fun q => q ∈ L) := by
  refine Met.ofW (cc := cc) (maxL := nL) (ret := ret) hy hw ?_
  intro p e s m args below meth c s₁ B hml hv
  obtain ⟨rfl, ⟨hP, hK, hN, hI⟩, hX, hbL⟩ := hv
  have hl := lv_entry [.ref b, .int k] (n := nL) hlen
  rw [hlv] at hl
  rw [lg_entry_eq]
  have hbl : b < s.heap.size := by
    obtain ⟨scr, h1, -⟩ := hX
    rcases Nat.lt_or_ge b s.heap.size with z | z
    · exact z
    · rw [Array.getElem?_eq_none z] at h1; cases h1
  exact body p e s m below meth c ⟨⟨B.exec, B.bytes, hml, findClass_of_methodNamed B.named, atoms_spec (ws := ws) B.pre⟩, hK, hN, fun _ h9 => h9, hI⟩ B.returns B.notSynchronized hX hbl hbL _ _ _ hl hP va_S.rf
theorem met_a {l : Launch} {y : MethodName} {ws ws' : List Cond} {rm : Room} {cc : ByteArray} {nL mc ms : Nat} {ret : Option FieldType} {D : va_G} {cA : Nat → ClassId} {L : List Nat} {sh : Sh} {h : Hp} {sz : Nat} {as : List Value} {K : Int32 → List Nat → Sh → Hp → Prop} (lv : List (Nat × Value)) (hy : plainName y.cls = true) (hw : ws = Cond.code y cc nL ret :: ws') (hlen : (lg_sl as).length ≤ nL) (hlv : lv_args 0 as = lv)
    (body : ∀ (p : Program) (e : Env) (s : State) (m : MethodId) (below : List Frame) (meth : Method) (c : Code), Cx p s m c as.toArray cc nL ws y.cls (fun q => q ∈ L ∨ s.heap.size ≤ q) D cA L sh → meth.sig.returnType = ret → meth.locks = false → V p l e (headSpec ws rm).room s m as.toArray below meth c (MQ below (QAI D cA L s.heap.size K) as.toArray s mc ms (fun q => q ∈ L ∨ s.heap.size ≤ q)) (fun q => q ∈ L ∨ s.heap.size ≤ q) 0 0 D cA L sh nL h 0 lv []) :
    Met l y ws rm (PreN D cA L sh h sz as) (QAI D cA L sz K) mc ms (fun q => q ∈ L ∨ sz ≤ q) := by
  refine Met.ofW (cc := cc) (maxL := nL) (ret := ret) hy hw ?_
  intro p e s m args below meth c s₁ B hml hv
  obtain ⟨rfl, hsz, hP, hK, hN, hI⟩ := hv
  subst hsz
  have hl := lv_entry as (n := nL) hlen
  rw [hlv] at hl
  rw [lg_entry_eq]
  exact body p e s m below meth c ⟨⟨B.exec, B.bytes, hml, findClass_of_methodNamed B.named, atoms_spec (ws := ws) B.pre⟩, hK, hN, fun _ h9 => Or.inl h9, hI⟩ B.returns B.notSynchronized _ _ _ hl hP va_S.rf


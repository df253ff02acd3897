/-! what is made: a new address, blank; and a constructor's walk -/
def hz (h : Hp) (q : Nat) : Hp := (va_up h.1 q (fun _ => 0), va_up h.2 q (fun _ => none))
def nw (L : List Nat) (sh : Sh) (h : Hp) (kind n : Nat) (K : Nat → List Nat → Sh → Hp → Prop) : Prop := ∀ (q : Nat) (L' : List Nat) (sh' : Sh) (h' : Hp), q ∉ L → L' = L ++ [q] → sh' = va_up sh q (kind, n) → h' = hz h q → K q L' sh' h'
section CROWS
variable {p : Program} {l : Launch} {e : Env} {R : Room} {s : State} {m : MethodId} {args : Array Value} {below : List Frame} {meth : Method} {c : Code} {Q : State → Prop} {A : Nat → Prop} {ce sl : Nat} {D : va_G} {cA : Nat → ClassId} {L : List Nat} {sh : Sh} {nL : Nat} {h : Hp} {pc : Nat} {lv : List (Nat × Value)} {st : List Value} {cc : ByteArray} {Ts : List Cond} {own : String}
theorem ent_hz_off {b q k n : Nat} (hb : b ≠ q) : ent cA (va_up sh q (k, n)) (hz h q) b = ent cA sh h b := by
  unfold ent
  rw [va_up_ne _ _ hb]
  split <;> simp [fl0, fl1, fl2, fl3, fl4, fl5, gi, gr, hz, va_up, hb]
theorem Cx.make (X : Cx p s m c args cc nL Ts own A D cA L sh) {q k n : Nat} (hq : q ∉ L) (hA : A q) : Cx p s m c args cc nL Ts own A D cA (L ++ [q]) (va_up sh q (k, n)) := by
  refine ⟨X.1, X.2.1, ?_, fun a ha => ?_, fun a ha => ?_⟩
  · exact List.nodup_append.mpr ⟨X.2.2.1, by simp, fun a ha b hb => by
      rw [List.mem_singleton.mp hb]
      exact fun z => hq (z ▸ ha)⟩
  · rcases List.mem_append.mp ha with h1 | h1
    · exact X.2.2.2.1 a h1
    · rw [List.mem_singleton.mp h1]; exact hA
  · by_cases z : a = q
    · rw [z]; exact List.mem_append_right _ (List.mem_singleton.mpr rfl)
    · rw [va_up_ne _ _ z] at ha
      exact List.mem_append_left _ (X.2.2.2.2 a ha)
theorem va_D_last {A : Nat → Prop} {ws : va_W} {q : Nat} {en : va_E} (hD : va_D A (ws ++ [(q, en)])) : A q := hD.2 ws.length (q, en) (by simp)
theorem pl_make {q k n : Nat} {en : va_E} (hq : q ∉ L) (he : ent cA (va_up sh q (k, n)) (hz h q) q = en) : va_pl L (ent cA sh h) ++ [(q, en)] = va_pl (L ++ [q]) (ent cA (va_up sh q (k, n)) (hz h q)) := by
  rw [va_pl_push hq]
  exact va_pl_congr (fun b => by
    by_cases hb : b = q
    · subst hb; rw [va_up_self, he]
    · rw [va_up_ne _ _ hb, ent_hz_off hb])
theorem v_objInit (X : Cx p s m c args cc nL Ts own A D cA L sh) {idx a : Nat} (hlink : (Cond.methodLink own idx objectInit).before args s = true) (hinst : (Cond.instanceMethod objectInit).before args s = true) (hcode : (Cond.code objectInit ⟨#[0xb1]⟩ 1 none).before args s = true) (hframes : 1 ≤ R.frames) (hlocals : (st.map fun v => v.category).sum + 12 ≤ R.locals) (hd : decode cc pc = .ok (.invokespecial idx, 3)) (kk : V p l e R s m args below meth c Q A ce sl D cA L sh nL h (pc + 3) lv st) : V p l e R s m args below meth c Q A ce sl D cA L sh nL h pc lv (.ref a :: st) := fun ls H locs hL hP hS => W.objInit X.hx X.hb X.ho hlink hinst hcode rfl (hL.1.trans X.1.2.2.1.symm) rfl hd hframes (by show 2 * (F0 m pc ls _).monitorRoom + _ + 12 ≤ R.locals; rw [show (F0 m pc ls (Value.ref a :: st)).monitorRoom = 0 from rfl]; omega) (kk ls H locs hL hP hS)

theorem v_new_0 (X : Cx p s m c args cc nL Ts own A D cA L sh) {index : Nat} (hin : ∀ w ∈ wsX00, w ∈ Ts) (hcl : (Cond.classLink own index RX0).before args s = true) (hinst : (Cond.instantiable RX0 6).before args s = true) (hini : (Cond.initialized RX0).before args s = true) (hA : ∀ q, s.heap.size ≤ q → A q) (hcells : ce + 1 ≤ R.cells) (hslots : sl + 6 ≤ R.slots) (hd : decode cc pc = .ok (.new index, 3)) (kk : ∀ q, q ∉ L → Cx p s m c args cc nL Ts own A D cA (L ++ [q]) (va_up sh q (0, 0)) → V p l e R s m args below meth c Q A (ce + 1) (sl + 6) D cA (L ++ [q]) (va_up sh q (0, 0)) nL (hz h q) (pc + 3) lv (.ref q :: st)) : V p l e R s m args below meth c Q A ce sl D cA L sh nL h pc lv st := fun ls H locs hL hP hS => by
  refine va_new (ci := 0) (fs := [.int 0, .int 0, .int 0, .int 0, .int 0, .int 0]) (C := RX0) (T := TX0) (N := 6) X.hx X.hb X.ht hin tyX0 tyX0_ok X.ho hcl hinst hini X.hK hP (X.hD _) hS hA rfl (fun j hj => by rcases (show j = 0 ∨ j = 1 ∨ j = 2 ∨ j = 3 ∨ j = 4 ∨ j = 5 by omega) with rfl | rfl | rfl | rfl | rfl | rfl <;> rfl) hcells hslots hd (fun q H1 hP1 hD1 hS1 => ?_)
  have hq : q ∉ L := va_pl_fresh2 (X := []) hD1
  refine kk q hq (X.make hq (va_D_last hD1)) ls H1 locs hL ?_ hS1
  rw [← pl_make (en := .inr (0, [.int 0, .int 0, .int 0, .int 0, .int 0, .int 0])) hq (by rw [ent_0 (by rw [va_up_self])]; simp [fl0, gi, gr, hz, va_up, va_rf])]
  exact hP1
theorem v_new_1 (X : Cx p s m c args cc nL Ts own A D cA L sh) {index : Nat} (hin : ∀ w ∈ wsX10, w ∈ Ts) (hcl : (Cond.classLink own index RX1).before args s = true) (hinst : (Cond.instantiable RX1 9).before args s = true) (hini : (Cond.initialized RX1).before args s = true) (hA : ∀ q, s.heap.size ≤ q → A q) (hcells : ce + 1 ≤ R.cells) (hslots : sl + 9 ≤ R.slots) (hd : decode cc pc = .ok (.new index, 3)) (kk : ∀ q, q ∉ L → Cx p s m c args cc nL Ts own A D cA (L ++ [q]) (va_up sh q (1, 0)) → V p l e R s m args below meth c Q A (ce + 1) (sl + 9) D cA (L ++ [q]) (va_up sh q (1, 0)) nL (hz h q) (pc + 3) lv (.ref q :: st)) : V p l e R s m args below meth c Q A ce sl D cA L sh nL h pc lv st := fun ls H locs hL hP hS => by
  refine va_new (ci := 1) (fs := [.int 0, .int 0, .int 0, .int 0, .int 0, .int 0, .int 0, .null, .null]) (C := RX1) (T := TX1) (N := 9) X.hx X.hb X.ht hin tyX1 tyX1_ok X.ho hcl hinst hini X.hK hP (X.hD _) hS hA rfl (fun j hj => by rcases (show j = 0 ∨ j = 1 ∨ j = 2 ∨ j = 3 ∨ j = 4 ∨ j = 5 ∨ j = 6 ∨ j = 7 ∨ j = 8 by omega) with rfl | rfl | rfl | rfl | rfl | rfl | rfl | rfl | rfl <;> rfl) hcells hslots hd (fun q H1 hP1 hD1 hS1 => ?_)
  have hq : q ∉ L := va_pl_fresh2 (X := []) hD1
  refine kk q hq (X.make hq (va_D_last hD1)) ls H1 locs hL ?_ hS1
  rw [← pl_make (en := .inr (1, [.int 0, .int 0, .int 0, .int 0, .int 0, .int 0, .int 0, .null, .null])) hq (by rw [ent_1 (by rw [va_up_self])]; simp [fl1, gi, gr, hz, va_up, va_rf])]
  exact hP1
theorem v_new_2 (X : Cx p s m c args cc nL Ts own A D cA L sh) {index : Nat} (hin : ∀ w ∈ wsX20, w ∈ Ts) (hcl : (Cond.classLink own index RX2).before args s = true) (hinst : (Cond.instantiable RX2 12).before args s = true) (hini : (Cond.initialized RX2).before args s = true) (hA : ∀ q, s.heap.size ≤ q → A q) (hcells : ce + 1 ≤ R.cells) (hslots : sl + 12 ≤ R.slots) (hd : decode cc pc = .ok (.new index, 3)) (kk : ∀ q, q ∉ L → Cx p s m c args cc nL Ts own A D cA (L ++ [q]) (va_up sh q (2, 0)) → V p l e R s m args below meth c Q A (ce + 1) (sl + 12) D cA (L ++ [q]) (va_up sh q (2, 0)) nL (hz h q) (pc + 3) lv (.ref q :: st)) : V p l e R s m args below meth c Q A ce sl D cA L sh nL h pc lv st := fun ls H locs hL hP hS => by
  refine va_new (ci := 2) (fs := [.int 0, .int 0, .int 0, .null, .null, .int 0, .null, .null, .int 0, .null, .null, .null]) (C := RX2) (T := TX2) (N := 12) X.hx X.hb X.ht hin tyX2 tyX2_ok X.ho hcl hinst hini X.hK hP (X.hD _) hS hA rfl (fun j hj => by rcases (show j = 0 ∨ j = 1 ∨ j = 2 ∨ j = 3 ∨ j = 4 ∨ j = 5 ∨ j = 6 ∨ j = 7 ∨ j = 8 ∨ j = 9 ∨ j = 10 ∨ j = 11 by omega) with rfl | rfl | rfl | rfl | rfl | rfl | rfl | rfl | rfl | rfl | rfl | rfl <;> rfl) hcells hslots hd (fun q H1 hP1 hD1 hS1 => ?_)
  have hq : q ∉ L := va_pl_fresh2 (X := []) hD1
  refine kk q hq (X.make hq (va_D_last hD1)) ls H1 locs hL ?_ hS1
  rw [← pl_make (en := .inr (2, [.int 0, .int 0, .int 0, .null, .null, .int 0, .null, .null, .int 0, .null, .null, .null])) hq (by rw [ent_2 (by rw [va_up_self])]; simp [fl2, gi, gr, hz, va_up, va_rf])]
  exact hP1
theorem v_new_3 (X : Cx p s m c args cc nL Ts own A D cA L sh) {index : Nat} (hin : ∀ w ∈ wsX30, w ∈ Ts) (hcl : (Cond.classLink own index RX3).before args s = true) (hinst : (Cond.instantiable RX3 6).before args s = true) (hini : (Cond.initialized RX3).before args s = true) (hA : ∀ q, s.heap.size ≤ q → A q) (hcells : ce + 1 ≤ R.cells) (hslots : sl + 6 ≤ R.slots) (hd : decode cc pc = .ok (.new index, 3)) (kk : ∀ q, q ∉ L → Cx p s m c args cc nL Ts own A D cA (L ++ [q]) (va_up sh q (3, 0)) → V p l e R s m args below meth c Q A (ce + 1) (sl + 6) D cA (L ++ [q]) (va_up sh q (3, 0)) nL (hz h q) (pc + 3) lv (.ref q :: st)) : V p l e R s m args below meth c Q A ce sl D cA L sh nL h pc lv st := fun ls H locs hL hP hS => by
  refine va_new (ci := 3) (fs := [.null, .int 0, .int 0, .int 0, .int 0, .int 0]) (C := RX3) (T := TX3) (N := 6) X.hx X.hb X.ht hin tyX3 tyX3_ok X.ho hcl hinst hini X.hK hP (X.hD _) hS hA rfl (fun j hj => by rcases (show j = 0 ∨ j = 1 ∨ j = 2 ∨ j = 3 ∨ j = 4 ∨ j = 5 by omega) with rfl | rfl | rfl | rfl | rfl | rfl <;> rfl) hcells hslots hd (fun q H1 hP1 hD1 hS1 => ?_)
  have hq : q ∉ L := va_pl_fresh2 (X := []) hD1
  refine kk q hq (X.make hq (va_D_last hD1)) ls H1 locs hL ?_ hS1
  rw [← pl_make (en := .inr (3, [.null, .int 0, .int 0, .int 0, .int 0, .int 0])) hq (by rw [ent_3 (by rw [va_up_self])]; simp [fl3, gi, gr, hz, va_up, va_rf])]
  exact hP1
theorem v_new_4 (X : Cx p s m c args cc nL Ts own A D cA L sh) {index : Nat} (hin : ∀ w ∈ wsX40, w ∈ Ts) (hcl : (Cond.classLink own index RX4).before args s = true) (hinst : (Cond.instantiable RX4 4).before args s = true) (hini : (Cond.initialized RX4).before args s = true) (hA : ∀ q, s.heap.size ≤ q → A q) (hcells : ce + 1 ≤ R.cells) (hslots : sl + 4 ≤ R.slots) (hd : decode cc pc = .ok (.new index, 3)) (kk : ∀ q, q ∉ L → Cx p s m c args cc nL Ts own A D cA (L ++ [q]) (va_up sh q (4, 0)) → V p l e R s m args below meth c Q A (ce + 1) (sl + 4) D cA (L ++ [q]) (va_up sh q (4, 0)) nL (hz h q) (pc + 3) lv (.ref q :: st)) : V p l e R s m args below meth c Q A ce sl D cA L sh nL h pc lv st := fun ls H locs hL hP hS => by
  refine va_new (ci := 4) (fs := [.int 0, .int 0, .int 0, .null]) (C := RX4) (T := TX4) (N := 4) X.hx X.hb X.ht hin tyX4 tyX4_ok X.ho hcl hinst hini X.hK hP (X.hD _) hS hA rfl (fun j hj => by rcases (show j = 0 ∨ j = 1 ∨ j = 2 ∨ j = 3 by omega) with rfl | rfl | rfl | rfl <;> rfl) hcells hslots hd (fun q H1 hP1 hD1 hS1 => ?_)
  have hq : q ∉ L := va_pl_fresh2 (X := []) hD1
  refine kk q hq (X.make hq (va_D_last hD1)) ls H1 locs hL ?_ hS1
  rw [← pl_make (en := .inr (4, [.int 0, .int 0, .int 0, .null])) hq (by rw [ent_4 (by rw [va_up_self])]; simp [fl4, gi, gr, hz, va_up, va_rf])]
  exact hP1
theorem v_new_5 (X : Cx p s m c args cc nL Ts own A D cA L sh) {index : Nat} (hin : ∀ w ∈ wsX50, w ∈ Ts) (hcl : (Cond.classLink own index RX5).before args s = true) (hinst : (Cond.instantiable RX5 10).before args s = true) (hini : (Cond.initialized RX5).before args s = true) (hA : ∀ q, s.heap.size ≤ q → A q) (hcells : ce + 1 ≤ R.cells) (hslots : sl + 10 ≤ R.slots) (hd : decode cc pc = .ok (.new index, 3)) (kk : ∀ q, q ∉ L → Cx p s m c args cc nL Ts own A D cA (L ++ [q]) (va_up sh q (5, 0)) → V p l e R s m args below meth c Q A (ce + 1) (sl + 10) D cA (L ++ [q]) (va_up sh q (5, 0)) nL (hz h q) (pc + 3) lv (.ref q :: st)) : V p l e R s m args below meth c Q A ce sl D cA L sh nL h pc lv st := fun ls H locs hL hP hS => by
  refine va_new (ci := 5) (fs := [.null, .null, .null, .int 0, .null, .int 0, .null, .int 0, .int 0, .int 0]) (C := RX5) (T := TX5) (N := 10) X.hx X.hb X.ht hin tyX5 tyX5_ok X.ho hcl hinst hini X.hK hP (X.hD _) hS hA rfl (fun j hj => by rcases (show j = 0 ∨ j = 1 ∨ j = 2 ∨ j = 3 ∨ j = 4 ∨ j = 5 ∨ j = 6 ∨ j = 7 ∨ j = 8 ∨ j = 9 by omega) with rfl | rfl | rfl | rfl | rfl | rfl | rfl | rfl | rfl | rfl <;> rfl) hcells hslots hd (fun q H1 hP1 hD1 hS1 => ?_)
  have hq : q ∉ L := va_pl_fresh2 (X := []) hD1
  refine kk q hq (X.make hq (va_D_last hD1)) ls H1 locs hL ?_ hS1
  rw [← pl_make (en := .inr (5, [.null, .null, .null, .int 0, .null, .int 0, .null, .int 0, .int 0, .int 0])) hq (by rw [ent_5 (by rw [va_up_self])]; simp [fl5, gi, gr, hz, va_up, va_rf])]
  exact hP1
theorem v_newa (X : Cx p s m c args cc nL Ts own A D cA L sh) {N : Nat} {n : Int32} (harr : (Cond.arrayClass .int).before args s = true) (hA : ∀ q, s.heap.size ≤ q → A q) (hn : ¬ n < 0) (hN : n.toNatClampNeg = N) (hb : N * 4 ≤ 536870912) (hcells : ce + 1 ≤ R.cells) (hslots : sl + N ≤ R.slots) (hd : decode cc pc = .ok (.newarray .int, 2)) (kk : ∀ q, q ∉ L → Cx p s m c args cc nL Ts own A D cA (L ++ [q]) (va_up sh q (7, N)) → V p l e R s m args below meth c Q A (ce + 1) (sl + N) D cA (L ++ [q]) (va_up sh q (7, N)) nL (hz h q) (pc + 2) lv (.ref q :: st)) : V p l e R s m args below meth c Q A ce sl D cA L sh nL h pc lv (.int n :: st) := fun ls H locs hL hP hS => by
  refine va_newa (atype := .int) (a0 := (N, .inl (fun _ => 0))) X.hx X.hb harr (ty := .int) rfl X.hK hP (X.hD _) hS hA (fun cA => by rw [vp_cell_i]; rfl) hn hN hb hcells hslots hd (fun q cA' H1 hK1 hP1 hD1 hS1 => ?_)
  have hc : cA' = cA 7 := by
    have h1 := (hK1.2 5 (cA', .int) rfl).2
    have h2 := (X.hK.2 0 (cA 7, .int) rfl).2
    exact Option.some.inj (h1.symm.trans h2)
  subst hc
  have hq : q ∉ L := va_pl_fresh2 (X := []) hD1
  refine kk q hq (X.make hq (va_D_last hD1)) ls H1 locs hL ?_ hS1
  rw [← pl_make (en := .inl (cA 7, N, .inl (fun _ => 0))) hq (by rw [ent_7 (by rw [va_up_self])]; simp [hz, va_up])]
  exact hP1
theorem v_newq_8 (X : Cx p s m c args cc nL Ts own A D cA L sh) {N index : Nat} {n : Int32} (hcl : (Cond.classLink own index RX0).before args s = true) (hA : ∀ q, s.heap.size ≤ q → A q) (hn : ¬ n < 0) (hN : n.toNatClampNeg = N) (hb : N * 4 ≤ 536870912) (hcells : ce + 1 ≤ R.cells) (hslots : sl + N ≤ R.slots) (hd : decode cc pc = .ok (.anewarray index, 3)) (kk : ∀ q, q ∉ L → Cx p s m c args cc nL Ts own A D cA (L ++ [q]) (va_up sh q (8, N)) → V p l e R s m args below meth c Q A (ce + 1) (sl + N) D cA (L ++ [q]) (va_up sh q (8, N)) nL (hz h q) (pc + 3) lv (.ref q :: st)) : V p l e R s m args below meth c Q A ce sl D cA L sh nL h pc lv (.int n :: st) := fun ls H locs hL hP hS => by
  refine va_newq X.hx X.hb X.ho hcl X.2.1.2.2.2.2.2.1 X.hK hP (X.hD _) hS hA hn hN hb hcells hslots hd (fun q cA' H1 hK1 hP1 hD1 hS1 => ?_)
  have hc : cA' = cA 8 := by
    obtain ⟨k1, c1, -, -, -, h1⟩ := (hK1.2 5 (cA', .object RX0) rfl).2
    obtain ⟨k2, c2, -, -, -, h2⟩ := (X.hK.2 1 (cA 8, .object RX0) rfl).2
    exact Option.some.inj (h1.symm.trans h2)
  subst hc
  have hq : q ∉ L := va_pl_fresh2 (X := []) hD1
  refine kk q hq (X.make hq (va_D_last hD1)) ls H1 locs hL ?_ hS1
  rw [← pl_make (en := .inl (cA 8, N, .inr (.inr (.inr (.inr (fun _ => none)))))) hq (by rw [ent_8 (by rw [va_up_self])]; simp [hz, va_up])]
  exact hP1
theorem v_newq_9 (X : Cx p s m c args cc nL Ts own A D cA L sh) {N index : Nat} {n : Int32} (hcl : (Cond.classLink own index RX1).before args s = true) (hA : ∀ q, s.heap.size ≤ q → A q) (hn : ¬ n < 0) (hN : n.toNatClampNeg = N) (hb : N * 4 ≤ 536870912) (hcells : ce + 1 ≤ R.cells) (hslots : sl + N ≤ R.slots) (hd : decode cc pc = .ok (.anewarray index, 3)) (kk : ∀ q, q ∉ L → Cx p s m c args cc nL Ts own A D cA (L ++ [q]) (va_up sh q (9, N)) → V p l e R s m args below meth c Q A (ce + 1) (sl + N) D cA (L ++ [q]) (va_up sh q (9, N)) nL (hz h q) (pc + 3) lv (.ref q :: st)) : V p l e R s m args below meth c Q A ce sl D cA L sh nL h pc lv (.int n :: st) := fun ls H locs hL hP hS => by
  refine va_newq X.hx X.hb X.ho hcl X.2.1.2.2.2.2.2.2.1 X.hK hP (X.hD _) hS hA hn hN hb hcells hslots hd (fun q cA' H1 hK1 hP1 hD1 hS1 => ?_)
  have hc : cA' = cA 9 := by
    obtain ⟨k1, c1, -, -, -, h1⟩ := (hK1.2 5 (cA', .object RX1) rfl).2
    obtain ⟨k2, c2, -, -, -, h2⟩ := (X.hK.2 2 (cA 9, .object RX1) rfl).2
    exact Option.some.inj (h1.symm.trans h2)
  subst hc
  have hq : q ∉ L := va_pl_fresh2 (X := []) hD1
  refine kk q hq (X.make hq (va_D_last hD1)) ls H1 locs hL ?_ hS1
  rw [← pl_make (en := .inl (cA 9, N, .inr (.inr (.inr (.inr (fun _ => none)))))) hq (by rw [ent_9 (by rw [va_up_self])]; simp [hz, va_up])]
  exact hP1
theorem v_newq_10 (X : Cx p s m c args cc nL Ts own A D cA L sh) {N index : Nat} {n : Int32} (hcl : (Cond.classLink own index RX2).before args s = true) (hA : ∀ q, s.heap.size ≤ q → A q) (hn : ¬ n < 0) (hN : n.toNatClampNeg = N) (hb : N * 4 ≤ 536870912) (hcells : ce + 1 ≤ R.cells) (hslots : sl + N ≤ R.slots) (hd : decode cc pc = .ok (.anewarray index, 3)) (kk : ∀ q, q ∉ L → Cx p s m c args cc nL Ts own A D cA (L ++ [q]) (va_up sh q (10, N)) → V p l e R s m args below meth c Q A (ce + 1) (sl + N) D cA (L ++ [q]) (va_up sh q (10, N)) nL (hz h q) (pc + 3) lv (.ref q :: st)) : V p l e R s m args below meth c Q A ce sl D cA L sh nL h pc lv (.int n :: st) := fun ls H locs hL hP hS => by
  refine va_newq X.hx X.hb X.ho hcl X.2.1.2.2.2.2.2.2.2.1 X.hK hP (X.hD _) hS hA hn hN hb hcells hslots hd (fun q cA' H1 hK1 hP1 hD1 hS1 => ?_)
  have hc : cA' = cA 10 := by
    obtain ⟨k1, c1, -, -, -, h1⟩ := (hK1.2 5 (cA', .object RX2) rfl).2
    obtain ⟨k2, c2, -, -, -, h2⟩ := (X.hK.2 3 (cA 10, .object RX2) rfl).2
    exact Option.some.inj (h1.symm.trans h2)
  subst hc
  have hq : q ∉ L := va_pl_fresh2 (X := []) hD1
  refine kk q hq (X.make hq (va_D_last hD1)) ls H1 locs hL ?_ hS1
  rw [← pl_make (en := .inl (cA 10, N, .inr (.inr (.inr (.inr (fun _ => none)))))) hq (by rw [ent_10 (by rw [va_up_self])]; simp [hz, va_up])]
  exact hP1
theorem v_newq_11 (X : Cx p s m c args cc nL Ts own A D cA L sh) {N index : Nat} {n : Int32} (hcl : (Cond.classLink own index RX4).before args s = true) (hA : ∀ q, s.heap.size ≤ q → A q) (hn : ¬ n < 0) (hN : n.toNatClampNeg = N) (hb : N * 4 ≤ 536870912) (hcells : ce + 1 ≤ R.cells) (hslots : sl + N ≤ R.slots) (hd : decode cc pc = .ok (.anewarray index, 3)) (kk : ∀ q, q ∉ L → Cx p s m c args cc nL Ts own A D cA (L ++ [q]) (va_up sh q (11, N)) → V p l e R s m args below meth c Q A (ce + 1) (sl + N) D cA (L ++ [q]) (va_up sh q (11, N)) nL (hz h q) (pc + 3) lv (.ref q :: st)) : V p l e R s m args below meth c Q A ce sl D cA L sh nL h pc lv (.int n :: st) := fun ls H locs hL hP hS => by
  refine va_newq X.hx X.hb X.ho hcl X.2.1.2.2.2.2.2.2.2.2 X.hK hP (X.hD _) hS hA hn hN hb hcells hslots hd (fun q cA' H1 hK1 hP1 hD1 hS1 => ?_)
  have hc : cA' = cA 11 := by
    obtain ⟨k1, c1, -, -, -, h1⟩ := (hK1.2 5 (cA', .object RX4) rfl).2
    obtain ⟨k2, c2, -, -, -, h2⟩ := (X.hK.2 4 (cA 11, .object RX4) rfl).2
    exact Option.some.inj (h1.symm.trans h2)
  subst hc
  have hq : q ∉ L := va_pl_fresh2 (X := []) hD1
  refine kk q hq (X.make hq (va_D_last hD1)) ls H1 locs hL ?_ hS1
  rw [← pl_make (en := .inl (cA 11, N, .inr (.inr (.inr (.inr (fun _ => none)))))) hq (by rw [ent_11 (by rw [va_up_self])]; simp [hz, va_up])]
  exact hP1
theorem v_putF (X : Cx p s m c args cc nL Ts own A D cA L sh) {a ci k index N : Nat} {T : u_T} {C : String} {fs : List Value} {v : Value} {h' : Hp} (ty0 : Nat → FieldType) (hty : ∀ k, k < N → parseFieldDescriptor (T k).2.2.1 = some (ty0 k)) (hnm : ∀ a, a < N → ∀ b, b < N → a ≠ b → (T a).2.1 ≠ (T b).2.1) (hin : ∀ w ∈ u_ws C T N, w ∈ Ts) (hc : vwCl[ci]? = some (C, T, N)) (hk : k < N) (hlink : (Cond.fieldLink own index (T k).1 (T k).2.1 (T k).2.2.1).before args s = true) (hc50 : ci < 50) (t : (sh a).1 = ci) (he : ent cA sh h a = .inr (ci, fs)) (hfin : (T k).2.2.2 = true) (hmn : meth.name = "<init>") (hdecl : (T k).1 = own) (hn : narrow (ty0 k) v = v) (hfit : fits (ty0 k) v = true) (hl : k < fs.length) (he' : ent cA sh h' a = .inr (ci, fs.set k v)) (hoff : ∀ b, b ≠ a → ent cA sh h' b = ent cA sh h b) (hd : decode cc pc = .ok (.putfield index, 3)) (kk : V p l e R s m args below meth c Q A ce sl D cA L sh nL h' (pc + 3) lv st) : V p l e R s m args below meth c Q A ce sl D cA L sh nL h pc lv (v :: .ref a :: st) := fun ls H locs hL hP hS => by
  have haL := X.hL t hc50
  obtain ⟨q0, hq0⟩ := va_pl_get (X := []) (f := ent cA sh h) haL
  have hq := hq0
  rw [he] at hq
  refine va_putF X.hx X.hb X.ht hin ty0 hty hnm X.ho X.hK hP (X.hD _) hS q0 hq hc k hk hlink (fun _ h9 => h9) hfin hmn hdecl (hty k hk) hn hfit hl hd (fun H1 locs1 hP1 hD1 hS1 => kk ls H1 locs1 hL ?_ hS1)
  have e2 := va_pl_set (X := []) (A := A) (L := L) (f := ent cA sh h) (a := a) (k := q0) (e := .inr (ci, fs.set k v)) (X.hD _) haL hq0
  have e3 : va_pl L (va_up (ent cA sh h) a (.inr (ci, fs.set k v))) = va_pl L (ent cA sh h') := va_pl_congr (fun b => by
    by_cases hb : b = a
    · subst hb; rw [va_up_self, he']
    · rw [va_up_ne _ _ hb, hoff b hb])
  rw [← e3]
  have e4 : (va_pl L (ent cA sh h)).set q0 (a, .inr (ci, fs.set k v)) = va_pl L (va_up (ent cA sh h) a (.inr (ci, fs.set k v))) := e2
  rw [← e4]
  exact hP1
theorem puF_1_7 (X : Cx p s m c args cc nL Ts own A D cA L sh) {a index q : Nat} {h' : Hp} (hin : ∀ w ∈ wsX10, w ∈ Ts) (hlink : (Cond.fieldLink own index "ShapeSessions$Session" "hand" "[LShapeSessions$Entry;").before args s = true) (hmn : meth.name = "<init>") (hdecl : "ShapeSessions$Session" = own) (t : (sh a).1 = 1) (eh : h' = sr h a 7 (some q)) (hd : decode cc pc = .ok (.putfield index, 3)) (kk : V p l e R s m args below meth c Q A ce sl D cA L sh nL h' (pc + 3) lv st) : V p l e R s m args below meth c Q A ce sl D cA L sh nL h pc lv (.ref q :: .ref a :: st) := v_putF X (ci := 1) (k := 7) (T := TX1) (C := RX1) (N := 9) tyX1 tyX1_ok nmX1 hin rfl (by decide) hlink (by decide) t (ent_1 t) rfl hmn hdecl rfl rfl (Nat.le_of_ble_eq_true rfl) (by rw [eh, ent_1 t]; simp [fl1, gi, gr, sr, va_up, va_rf]) (fun b hb => by rw [eh]; exact ent_off_r hb) hd kk
theorem puF_1_8 (X : Cx p s m c args cc nL Ts own A D cA L sh) {a index q : Nat} {h' : Hp} (hin : ∀ w ∈ wsX10, w ∈ Ts) (hlink : (Cond.fieldLink own index "ShapeSessions$Session" "works" "[LShapeSessions$Work;").before args s = true) (hmn : meth.name = "<init>") (hdecl : "ShapeSessions$Session" = own) (t : (sh a).1 = 1) (eh : h' = sr h a 8 (some q)) (hd : decode cc pc = .ok (.putfield index, 3)) (kk : V p l e R s m args below meth c Q A ce sl D cA L sh nL h' (pc + 3) lv st) : V p l e R s m args below meth c Q A ce sl D cA L sh nL h pc lv (.ref q :: .ref a :: st) := v_putF X (ci := 1) (k := 8) (T := TX1) (C := RX1) (N := 9) tyX1 tyX1_ok nmX1 hin rfl (by decide) hlink (by decide) t (ent_1 t) rfl hmn hdecl rfl rfl (Nat.le_of_ble_eq_true rfl) (by rw [eh, ent_1 t]; simp [fl1, gi, gr, sr, va_up, va_rf]) (fun b hb => by rw [eh]; exact ent_off_r hb) hd kk
theorem puF_2_3 (X : Cx p s m c args cc nL Ts own A D cA L sh) {a index q : Nat} {h' : Hp} (hin : ∀ w ∈ wsX20, w ∈ Ts) (hlink : (Cond.fieldLink own index "ShapeSessions$State" "version" "[I").before args s = true) (hmn : meth.name = "<init>") (hdecl : "ShapeSessions$State" = own) (t : (sh a).1 = 2) (eh : h' = sr h a 3 (some q)) (hd : decode cc pc = .ok (.putfield index, 3)) (kk : V p l e R s m args below meth c Q A ce sl D cA L sh nL h' (pc + 3) lv st) : V p l e R s m args below meth c Q A ce sl D cA L sh nL h pc lv (.ref q :: .ref a :: st) := v_putF X (ci := 2) (k := 3) (T := TX2) (C := RX2) (N := 12) tyX2 tyX2_ok nmX2 hin rfl (by decide) hlink (by decide) t (ent_2 t) rfl hmn hdecl rfl rfl (Nat.le_of_ble_eq_true rfl) (by rw [eh, ent_2 t]; simp [fl2, gi, gr, sr, va_up, va_rf]) (fun b hb => by rw [eh]; exact ent_off_r hb) hd kk
theorem puF_2_4 (X : Cx p s m c args cc nL Ts own A D cA L sh) {a index q : Nat} {h' : Hp} (hin : ∀ w ∈ wsX20, w ∈ Ts) (hlink : (Cond.fieldLink own index "ShapeSessions$State" "shape" "[I").before args s = true) (hmn : meth.name = "<init>") (hdecl : "ShapeSessions$State" = own) (t : (sh a).1 = 2) (eh : h' = sr h a 4 (some q)) (hd : decode cc pc = .ok (.putfield index, 3)) (kk : V p l e R s m args below meth c Q A ce sl D cA L sh nL h' (pc + 3) lv st) : V p l e R s m args below meth c Q A ce sl D cA L sh nL h pc lv (.ref q :: .ref a :: st) := v_putF X (ci := 2) (k := 4) (T := TX2) (C := RX2) (N := 12) tyX2 tyX2_ok nmX2 hin rfl (by decide) hlink (by decide) t (ent_2 t) rfl hmn hdecl rfl rfl (Nat.le_of_ble_eq_true rfl) (by rw [eh, ent_2 t]; simp [fl2, gi, gr, sr, va_up, va_rf]) (fun b hb => by rw [eh]; exact ent_off_r hb) hd kk
theorem puF_2_6 (X : Cx p s m c args cc nL Ts own A D cA L sh) {a index q : Nat} {h' : Hp} (hin : ∀ w ∈ wsX20, w ∈ Ts) (hlink : (Cond.fieldLink own index "ShapeSessions$State" "noticeTable" "[I").before args s = true) (hmn : meth.name = "<init>") (hdecl : "ShapeSessions$State" = own) (t : (sh a).1 = 2) (eh : h' = sr h a 6 (some q)) (hd : decode cc pc = .ok (.putfield index, 3)) (kk : V p l e R s m args below meth c Q A ce sl D cA L sh nL h' (pc + 3) lv st) : V p l e R s m args below meth c Q A ce sl D cA L sh nL h pc lv (.ref q :: .ref a :: st) := v_putF X (ci := 2) (k := 6) (T := TX2) (C := RX2) (N := 12) tyX2 tyX2_ok nmX2 hin rfl (by decide) hlink (by decide) t (ent_2 t) rfl hmn hdecl rfl rfl (Nat.le_of_ble_eq_true rfl) (by rw [eh, ent_2 t]; simp [fl2, gi, gr, sr, va_up, va_rf]) (fun b hb => by rw [eh]; exact ent_off_r hb) hd kk
theorem puF_2_7 (X : Cx p s m c args cc nL Ts own A D cA L sh) {a index q : Nat} {h' : Hp} (hin : ∀ w ∈ wsX20, w ∈ Ts) (hlink : (Cond.fieldLink own index "ShapeSessions$State" "noticeDue" "[I").before args s = true) (hmn : meth.name = "<init>") (hdecl : "ShapeSessions$State" = own) (t : (sh a).1 = 2) (eh : h' = sr h a 7 (some q)) (hd : decode cc pc = .ok (.putfield index, 3)) (kk : V p l e R s m args below meth c Q A ce sl D cA L sh nL h' (pc + 3) lv st) : V p l e R s m args below meth c Q A ce sl D cA L sh nL h pc lv (.ref q :: .ref a :: st) := v_putF X (ci := 2) (k := 7) (T := TX2) (C := RX2) (N := 12) tyX2 tyX2_ok nmX2 hin rfl (by decide) hlink (by decide) t (ent_2 t) rfl hmn hdecl rfl rfl (Nat.le_of_ble_eq_true rfl) (by rw [eh, ent_2 t]; simp [fl2, gi, gr, sr, va_up, va_rf]) (fun b hb => by rw [eh]; exact ent_off_r hb) hd kk
theorem puF_2_9 (X : Cx p s m c args cc nL Ts own A D cA L sh) {a index q : Nat} {h' : Hp} (hin : ∀ w ∈ wsX20, w ∈ Ts) (hlink : (Cond.fieldLink own index "ShapeSessions$State" "latestSession" "[I").before args s = true) (hmn : meth.name = "<init>") (hdecl : "ShapeSessions$State" = own) (t : (sh a).1 = 2) (eh : h' = sr h a 9 (some q)) (hd : decode cc pc = .ok (.putfield index, 3)) (kk : V p l e R s m args below meth c Q A ce sl D cA L sh nL h' (pc + 3) lv st) : V p l e R s m args below meth c Q A ce sl D cA L sh nL h pc lv (.ref q :: .ref a :: st) := v_putF X (ci := 2) (k := 9) (T := TX2) (C := RX2) (N := 12) tyX2 tyX2_ok nmX2 hin rfl (by decide) hlink (by decide) t (ent_2 t) rfl hmn hdecl rfl rfl (Nat.le_of_ble_eq_true rfl) (by rw [eh, ent_2 t]; simp [fl2, gi, gr, sr, va_up, va_rf]) (fun b hb => by rw [eh]; exact ent_off_r hb) hd kk
theorem puF_2_10 (X : Cx p s m c args cc nL Ts own A D cA L sh) {a index q : Nat} {h' : Hp} (hin : ∀ w ∈ wsX20, w ∈ Ts) (hlink : (Cond.fieldLink own index "ShapeSessions$State" "latestTables" "[I").before args s = true) (hmn : meth.name = "<init>") (hdecl : "ShapeSessions$State" = own) (t : (sh a).1 = 2) (eh : h' = sr h a 10 (some q)) (hd : decode cc pc = .ok (.putfield index, 3)) (kk : V p l e R s m args below meth c Q A ce sl D cA L sh nL h' (pc + 3) lv st) : V p l e R s m args below meth c Q A ce sl D cA L sh nL h pc lv (.ref q :: .ref a :: st) := v_putF X (ci := 2) (k := 10) (T := TX2) (C := RX2) (N := 12) tyX2 tyX2_ok nmX2 hin rfl (by decide) hlink (by decide) t (ent_2 t) rfl hmn hdecl rfl rfl (Nat.le_of_ble_eq_true rfl) (by rw [eh, ent_2 t]; simp [fl2, gi, gr, sr, va_up, va_rf]) (fun b hb => by rw [eh]; exact ent_off_r hb) hd kk
theorem puF_2_11 (X : Cx p s m c args cc nL Ts own A D cA L sh) {a index q : Nat} {h' : Hp} (hin : ∀ w ∈ wsX20, w ∈ Ts) (hlink : (Cond.fieldLink own index "ShapeSessions$State" "sessions" "[LShapeSessions$Session;").before args s = true) (hmn : meth.name = "<init>") (hdecl : "ShapeSessions$State" = own) (t : (sh a).1 = 2) (eh : h' = sr h a 11 (some q)) (hd : decode cc pc = .ok (.putfield index, 3)) (kk : V p l e R s m args below meth c Q A ce sl D cA L sh nL h' (pc + 3) lv st) : V p l e R s m args below meth c Q A ce sl D cA L sh nL h pc lv (.ref q :: .ref a :: st) := v_putF X (ci := 2) (k := 11) (T := TX2) (C := RX2) (N := 12) tyX2 tyX2_ok nmX2 hin rfl (by decide) hlink (by decide) t (ent_2 t) rfl hmn hdecl rfl rfl (Nat.le_of_ble_eq_true rfl) (by rw [eh, ent_2 t]; simp [fl2, gi, gr, sr, va_up, va_rf]) (fun b hb => by rw [eh]; exact ent_off_r hb) hd kk
theorem puF_3_0 (X : Cx p s m c args cc nL Ts own A D cA L sh) {a index q : Nat} {h' : Hp} (hin : ∀ w ∈ wsX30, w ∈ Ts) (hlink : (Cond.fieldLink own index "ShapeSessions$Text" "signs" "[I").before args s = true) (hmn : meth.name = "<init>") (hdecl : "ShapeSessions$Text" = own) (t : (sh a).1 = 3) (eh : h' = sr h a 0 (some q)) (hd : decode cc pc = .ok (.putfield index, 3)) (kk : V p l e R s m args below meth c Q A ce sl D cA L sh nL h' (pc + 3) lv st) : V p l e R s m args below meth c Q A ce sl D cA L sh nL h pc lv (.ref q :: .ref a :: st) := v_putF X (ci := 3) (k := 0) (T := TX3) (C := RX3) (N := 6) tyX3 tyX3_ok nmX3 hin rfl (by decide) hlink (by decide) t (ent_3 t) rfl hmn hdecl rfl rfl (Nat.le_of_ble_eq_true rfl) (by rw [eh, ent_3 t]; simp [fl3, gi, gr, sr, va_up, va_rf]) (fun b hb => by rw [eh]; exact ent_off_r hb) hd kk
theorem puF_4_3 (X : Cx p s m c args cc nL Ts own A D cA L sh) {a index q : Nat} {h' : Hp} (hin : ∀ w ∈ wsX40, w ∈ Ts) (hlink : (Cond.fieldLink own index "ShapeSessions$Work" "version" "[I").before args s = true) (hmn : meth.name = "<init>") (hdecl : "ShapeSessions$Work" = own) (t : (sh a).1 = 4) (eh : h' = sr h a 3 (some q)) (hd : decode cc pc = .ok (.putfield index, 3)) (kk : V p l e R s m args below meth c Q A ce sl D cA L sh nL h' (pc + 3) lv st) : V p l e R s m args below meth c Q A ce sl D cA L sh nL h pc lv (.ref q :: .ref a :: st) := v_putF X (ci := 4) (k := 3) (T := TX4) (C := RX4) (N := 4) tyX4 tyX4_ok nmX4 hin rfl (by decide) hlink (by decide) t (ent_4 t) rfl hmn hdecl rfl rfl (Nat.le_of_ble_eq_true rfl) (by rw [eh, ent_4 t]; simp [fl4, gi, gr, sr, va_up, va_rf]) (fun b hb => by rw [eh]; exact ent_off_r hb) hd kk
theorem puF_5_2 (X : Cx p s m c args cc nL Ts own A D cA L sh) {a index q : Nat} {h' : Hp} (hin : ∀ w ∈ wsX50, w ∈ Ts) (hlink : (Cond.fieldLink own index "ShapeSessions" "kept" "LShapeSessions$State;").before args s = true) (hmn : meth.name = "<init>") (hdecl : "ShapeSessions" = own) (t : (sh a).1 = 5) (eh : h' = sr h a 2 (some q)) (hd : decode cc pc = .ok (.putfield index, 3)) (kk : V p l e R s m args below meth c Q A ce sl D cA L sh nL h' (pc + 3) lv st) : V p l e R s m args below meth c Q A ce sl D cA L sh nL h pc lv (.ref q :: .ref a :: st) := v_putF X (ci := 5) (k := 2) (T := TX5) (C := RX5) (N := 10) tyX5 tyX5_ok nmX5 hin rfl (by decide) hlink (by decide) t (ent_5 t) rfl hmn hdecl rfl rfl (Nat.le_of_ble_eq_true rfl) (by rw [eh, ent_5 t]; simp [fl5, gi, gr, sr, va_up, va_rf]) (fun b hb => by rw [eh]; exact ent_off_r hb) hd kk
theorem puF_5_4 (X : Cx p s m c args cc nL Ts own A D cA L sh) {a index q : Nat} {h' : Hp} (hin : ∀ w ∈ wsX50, w ∈ Ts) (hlink : (Cond.fieldLink own index "ShapeSessions" "history" "[LShapeSessions$State;").before args s = true) (hmn : meth.name = "<init>") (hdecl : "ShapeSessions" = own) (t : (sh a).1 = 5) (eh : h' = sr h a 4 (some q)) (hd : decode cc pc = .ok (.putfield index, 3)) (kk : V p l e R s m args below meth c Q A ce sl D cA L sh nL h' (pc + 3) lv st) : V p l e R s m args below meth c Q A ce sl D cA L sh nL h pc lv (.ref q :: .ref a :: st) := v_putF X (ci := 5) (k := 4) (T := TX5) (C := RX5) (N := 10) tyX5 tyX5_ok nmX5 hin rfl (by decide) hlink (by decide) t (ent_5 t) rfl hmn hdecl rfl rfl (Nat.le_of_ble_eq_true rfl) (by rw [eh, ent_5 t]; simp [fl5, gi, gr, sr, va_up, va_rf]) (fun b hb => by rw [eh]; exact ent_off_r hb) hd kk
theorem puF_5_6 (X : Cx p s m c args cc nL Ts own A D cA L sh) {a index q : Nat} {h' : Hp} (hin : ∀ w ∈ wsX50, w ∈ Ts) (hlink : (Cond.fieldLink own index "ShapeSessions" "text" "LShapeSessions$Text;").before args s = true) (hmn : meth.name = "<init>") (hdecl : "ShapeSessions" = own) (t : (sh a).1 = 5) (eh : h' = sr h a 6 (some q)) (hd : decode cc pc = .ok (.putfield index, 3)) (kk : V p l e R s m args below meth c Q A ce sl D cA L sh nL h' (pc + 3) lv st) : V p l e R s m args below meth c Q A ce sl D cA L sh nL h pc lv (.ref q :: .ref a :: st) := v_putF X (ci := 5) (k := 6) (T := TX5) (C := RX5) (N := 10) tyX5 tyX5_ok nmX5 hin rfl (by decide) hlink (by decide) t (ent_5 t) rfl hmn hdecl rfl rfl (Nat.le_of_ble_eq_true rfl) (by rw [eh, ent_5 t]; simp [fl5, gi, gr, sr, va_up, va_rf]) (fun b hb => by rw [eh]; exact ent_off_r hb) hd kk
/-- a constructor's start and end -/
def PreN (D : va_G) (cA : Nat → ClassId) (L : List Nat) (sh : Sh) (h : Hp) (sz : Nat) (as : List Value) : Array Value → State → Prop := va_Pc as (fun U => U.heap.size = sz ∧ HW D cA L sh h U)
def HN (D : va_G) (cA : Nat → ClassId) (L : List Nat) (sz : Nat) (u : List Nat × Sh × Hp) (t : State) : Prop := va_P D vwCl (va_pl u.1 (ent cA u.2.1 u.2.2)) t.heap ∧ u.1.Nodup ∧ (∀ a, (u.2.1 a).1 < 50 → a ∈ u.1) ∧ ∀ a, a ∈ u.1 → a ∈ L ∨ sz ≤ a
abbrev QA (D : va_G) (cA : Nat → ClassId) (L : List Nat) (sz : Nat) (K : List Nat → Sh → Hp → Prop) : Array Value → State → Outcome → State → Prop := va_Qv (fun u : List Nat × Sh × Hp => K u.1 u.2.1 u.2.2) (HN D cA L sz) (fun q => q ∈ L ∨ sz ≤ q)
theorem blindN {D : va_G} {cA : Nat → ClassId} {L : List Nat} {sh : Sh} {h : Hp} {sz : Nat} {as : List Value} : FrameBlind (PreN D cA L sh h sz as) := fun a U g mk q => by
  obtain ⟨q0, qs, q1, q2, q3⟩ := q
  exact ⟨q0, qs, q1, KK.same (u := U) (U := U.calling g mk a) rfl q2, q3⟩
theorem v_preN (X : Cx p s m c args cc nL Ts own A D cA L sh) {as : List Value} {H : Heap} (hP : va_P D vwCl (va_pl L (ent cA sh h)) H) : ∀ U : State, U.heap = H → s.WarmedH U.vm → PreN D cA L sh h H.size as as.toArray U := fun U hU hW => ⟨rfl, by rw [hU], by rw [hU]; exact hP, KK.warm hW X.2.1, X.2.2.1, X.2.2.2.2⟩
theorem v_callI (X : Cx p s m c args cc nL Ts own A D cA L sh) {K : List Nat → Sh → Hp → Prop} {y : MethodName} {bytes : ByteArray} {maxL index b mc ms : Nat} {ws : List Cond} {rm : Room} {rest : List Value} (hM : ∀ sz, Met l y ws rm (PreN D cA L sh h sz [.ref b]) (QA D cA L sz K) mc ms (fun q => q ∈ L ∨ sz ≤ q)) (cw : CallB R s args own index y bytes maxL none ws rm mc ms 0 ∧ y.name = "<init>" ∧ (Cond.instanceMethod y).before args s = true) (hA : ∀ q, s.heap.size ≤ q → A q) (hst : st = .ref b :: rest) (hcat : (rest.map fun v => v.category).sum ≤ 8) (hroom : ce + mc ≤ R.cells ∧ sl + ms ≤ R.slots) (hd : decode cc pc = .ok (.invokespecial index, 3)) (kk : ∀ (L1 : List Nat) (sh1 : Sh) (h1 : Hp), K L1 sh1 h1 → Cx p s m c args cc nL Ts own A D cA L1 sh1 → V p l e R s m args below meth c Q A (ce + mc) (sl + ms) D cA L1 sh1 nL h1 (pc + 3) lv rest) : V p l e R s m args below meth c Q A ce sl D cA L sh nL h pc lv st := fun ls H locs hL hP hS => by
  subst hst
  refine va_callv (va_runI (As := []) (rest := rest) X.1 (hM H.size) cw ⟨blindN, v_preN X hP⟩ rfl rfl hL.1 rfl (lv_room hcat) hd hroom) hS (fun q h1 h2 => ?_) (fun q h2 => ?_) (fun u t H1 locs1 ht hvm hw hB hz1 hk1 hS1 => ?_)
  · rcases h2 with h2 | h2
    · exact X.2.2.2.1 q h2
    · exact absurd h1 (Nat.not_lt.mpr h2)
  · rcases h2 with h2 | h2
    · exact X.2.2.2.1 q h2
    · exact hA q (Nat.le_trans hS.1 h2)
  · obtain ⟨b1, b2, b3, b4⟩ := hB
    rw [ht] at b1
    exact kk u.1 u.2.1 u.2.2 hw ⟨X.1, X.2.1, b2, fun a ha => (b4 a ha).elim (X.2.2.2.1 a) (fun z => hA a (Nat.le_trans hS.1 z)), b3⟩ ls H1 locs1 hL b1 hS1
theorem v_callIN (X : Cx p s m c args cc nL Ts own A D cA L sh) {K : List Nat → Sh → Hp → Prop} {y : MethodName} {bytes : ByteArray} {maxL index b mc ms : Nat} {ws : List Cond} {rm : Room} {host : String} {rest : List Value} (hM : ∀ sz, Met l y ws rm (PreN D cA L sh h sz [.ref b]) (QA D cA L sz K) mc ms (fun q => q ∈ L ∨ sz ≤ q)) (cw : va_CN R s args own index y host bytes maxL none ws rm mc ms 0 ∧ y.name = "<init>" ∧ (Cond.instanceMethod y).before args s = true) (hA : ∀ q, s.heap.size ≤ q → A q) (hst : st = .ref b :: rest) (hcat : (rest.map fun v => v.category).sum ≤ 8) (hroom : ce + mc ≤ R.cells ∧ sl + ms ≤ R.slots) (hd : decode cc pc = .ok (.invokespecial index, 3)) (kk : ∀ (L1 : List Nat) (sh1 : Sh) (h1 : Hp), K L1 sh1 h1 → Cx p s m c args cc nL Ts own A D cA L1 sh1 → V p l e R s m args below meth c Q A (ce + mc) (sl + ms) D cA L1 sh1 nL h1 (pc + 3) lv rest) : V p l e R s m args below meth c Q A ce sl D cA L sh nL h pc lv st := fun ls H locs hL hP hS => by
  subst hst
  refine va_callv (va_runIN (As := []) (rest := rest) X.1 (hM H.size) cw ⟨blindN, v_preN X hP⟩ rfl rfl hL.1 rfl (lv_room hcat) hd hroom) hS (fun q h1 h2 => ?_) (fun q h2 => ?_) (fun u t H1 locs1 ht hvm hw hB hz1 hk1 hS1 => ?_)
  · rcases h2 with h2 | h2
    · exact X.2.2.2.1 q h2
    · exact absurd h1 (Nat.not_lt.mpr h2)
  · rcases h2 with h2 | h2
    · exact X.2.2.2.1 q h2
    · exact hA q (Nat.le_trans hS.1 h2)
  · obtain ⟨b1, b2, b3, b4⟩ := hB
    rw [ht] at b1
    exact kk u.1 u.2.1 u.2.2 hw ⟨X.1, X.2.1, b2, fun a ha => (b4 a ha).elim (X.2.2.2.1 a) (fun z => hA a (Nat.le_trans hS.1 z)), b3⟩ ls H1 locs1 hL b1 hS1
theorem v_vretN {L0 : List Nat} (X : Cx p s m c args cc nL Ts own (fun q => q ∈ L0 ∨ s.heap.size ≤ q) D cA L sh) {K : List Nat → Sh → Hp → Prop} (hr : meth.sig.returnType = none) (hlk : meth.locks = false) (hd : decode cc pc = .ok (.return_, 1)) (hK : K L sh h) : V p l e R s m args below meth c (MQ below (QA D cA L0 s.heap.size K) args s ce sl (fun q => q ∈ L0 ∨ s.heap.size ≤ q)) (fun q => q ∈ L0 ∨ s.heap.size ≤ q) ce sl D cA L sh nL h pc lv [] := fun ls H locs hL hP hS => W.vret X.hx X.hb hr (fun t ht hW => ⟨⟨(L, sh, h), rfl, hK, by rw [ht]; exact hP, X.2.2.1, X.2.2.2.2, X.2.2.2.1⟩, hS.F ht⟩) hS.2.2 hd hlk
end CROWS
theorem met_n {l : Launch} {y : MethodName} {ws ws' : List Cond} {rm : Room} {cc : ByteArray} {nL mc ms : Nat} {D : va_G} {cA : Nat → ClassId} {L : List Nat} {sh : Sh} {h : Hp} {sz : Nat} {as : List Value} {K : List Nat → Sh → Hp → Prop} (lv : List (Nat × Value)) (hy : plainName y.cls = true) (hyn : y.name = "<init>") (hw : ws = Cond.code y cc nL none :: ws') (hlen : (lg_sl as).length ≤ nL) (hlv : lv_args 0 as = lv)
    (body : ∀ (p : Program) (e : Env) (s : State) (m : MethodId) (below : List Frame) (meth : Method) (c : Code), Cx p s m c as.toArray cc nL ws y.cls (fun q => q ∈ L ∨ s.heap.size ≤ q) D cA L sh → meth.sig.returnType = none → meth.locks = false → meth.name = "<init>" → V p l e (headSpec ws rm).room s m as.toArray below meth c (MQ below (QA D cA L s.heap.size K) as.toArray s mc ms (fun q => q ∈ L ∨ s.heap.size ≤ q)) (fun q => q ∈ L ∨ s.heap.size ≤ q) 0 0 D cA L sh nL h 0 lv []) :
    Met l y ws rm (PreN D cA L sh h sz as) (QA D cA L sz K) mc ms (fun q => q ∈ L ∨ sz ≤ q) := by
  refine Met.ofW (cc := cc) (maxL := nL) (ret := none) hy hw ?_
  intro p e s m args below meth c s₁ B hml hv
  obtain ⟨rfl, hsz, hP, hK, hN, hI⟩ := hv
  subst hsz
  have hl := lv_entry as (n := nL) hlen
  rw [hlv] at hl
  rw [lg_entry_eq]
  exact body p e s m below meth c ⟨⟨B.exec, B.bytes, hml, findClass_of_methodNamed B.named, atoms_spec (ws := ws) B.pre⟩, hK, hN, fun _ h9 => Or.inl h9, hI⟩ B.returns B.notSynchronized ((name_of_methodNamed B.named B.method).1.trans hyn) _ _ _ hl hP va_S.rf

def f_X0_init (L : List Nat) (sh : Sh) (a0 : Nat) (h : Hp) (K : List Nat → Sh → Hp → Prop) : Prop :=
  K L sh h

set_option maxHeartbeats 4000000 in
set_option maxRecDepth 100000 in
theorem c_X0_init (l : Launch) (D : va_G) (cA : Nat → ClassId) (L : List Nat) (sh : Sh) (a0 : Nat) (h : Hp) (K : List Nat → Sh → Hp → Prop) (hf : f_X0_init L sh a0 h K) : ∀ sz, Met l yX0_init (wM yX0_init cX0_init 1 none) ({ frames := 1, cells := 0, slots := 0, locals := 20 } : Room) (PreN D cA L sh h sz [.ref a0]) (QA D cA L sz K) 0 0 (fun q => q ∈ L ∨ sz ≤ q) := by
  intro sz
  refine met_n (cc := cX0_init) (nL := 1) [(0, .ref a0)] (by decide) rfl rfl (Nat.le_of_ble_eq_true rfl) rfl ?_
  intro p e s m below meth c X hr hlk hmn
  have ko := X.ht _ (inM _ q_35)
  have koi := X.ht _ (inM _ q_14)
  have koc := X.ht _ (inM _ q_15)
  unfold f_X0_init at hf
  refine v_aload_n (pc := 0) X 0 dX0_init_0 rfl rfl ?_
  refine v_objInit (pc := 1) X ko koi koc (Nat.le_of_ble_eq_true rfl) (Nat.le_of_ble_eq_true rfl) dX0_init_1 ?_
  exact v_vretN (pc := 4) X hr hlk dX0_init_4 hf

def f_X4_init (L : List Nat) (sh : Sh) (a0 : Nat) (h : Hp) (K : List Nat → Sh → Hp → Prop) : Prop :=
  ty sh a0 4 <|
  pI h a0 0 (-1 : Int32) fun h2 =>
  nw L sh h2 7 6 fun q3 L4 s5 h6 =>
  ty s5 a0 4 <|
  pR h6 a0 3 q3 fun h9 =>
  K L4 s5 h9

set_option maxHeartbeats 4000000 in
set_option maxRecDepth 100000 in
theorem c_X4_init (l : Launch) (D : va_G) (cA : Nat → ClassId) (L : List Nat) (sh : Sh) (a0 : Nat) (h : Hp) (K : List Nat → Sh → Hp → Prop) (hf : f_X4_init L sh a0 h K) : ∀ sz, Met l yX4_init (wM yX4_init cX4_init 1 none) ({ frames := 1, cells := 1, slots := 6, locals := 20 } : Room) (PreN D cA L sh h sz [.ref a0]) (QA D cA L sz K) 1 6 (fun q => q ∈ L ∨ sz ≤ q) := by
  intro sz
  refine met_n (cc := cX4_init) (nL := 1) [(0, .ref a0)] (by decide) rfl rfl (Nat.le_of_ble_eq_true rfl) rfl ?_
  intro p e s m below meth c X hr hlk hmn
  have ko := X.ht _ (inM _ q_69)
  have koi := X.ht _ (inM _ q_14)
  have koc := X.ht _ (inM _ q_15)
  have k9 := X.ht _ (inM _ q_70)
  have ka := X.ht _ (inM _ q_62)
  have k15 := X.ht _ (inM _ q_80)
  unfold f_X4_init at hf
  refine v_aload_n (pc := 0) X 0 dX4_init_0 rfl rfl ?_
  refine v_objInit (pc := 1) X ko koi koc (Nat.le_of_ble_eq_true rfl) (Nat.le_of_ble_eq_true rfl) dX4_init_1 ?_
  refine v_aload_n (pc := 4) X 0 dX4_init_4 rfl rfl ?_
  refine v_iconst (pc := 5) X (v := (-1 : Int32)) dX4_init_5 (by decide) ?_
  obtain ⟨t1, hf⟩ := hf
  obtain ⟨h2, e_h2, hf⟩ := hf
  refine pu_4_0 (pc := 6) X (fun w h => inM w (inG4 w h)) k9 t1 e_h2 dX4_init_6 ?_
  refine v_aload_n (pc := 9) X 0 dX4_init_9 rfl rfl ?_
  refine v_bipush (pc := 10) X (v := (6 : Int32)) dX4_init_10 (by decide) ?_
  refine v_newa (pc := 12) X (N := 6) ka (fun _ z => Or.inr z) (by decide) (by decide) (Nat.le_of_ble_eq_true rfl) (Nat.le_of_ble_eq_true rfl) (Nat.le_of_ble_eq_true rfl) dX4_init_12 (fun q3 nq X7 => ?_)
  replace hf := hf q3 _ _ _ nq rfl rfl rfl
  obtain ⟨h6, e_h6⟩ : ∃ z, z = hz h2 q3 := ⟨_, rfl⟩
  rw [← e_h6] at hf ⊢
  obtain ⟨L4, e_L4⟩ : ∃ z, z = L ++ [q3] := ⟨_, rfl⟩
  rw [← e_L4] at hf X7 ⊢
  obtain ⟨s5, e_s5⟩ : ∃ z, z = va_up sh q3 (7, 6) := ⟨_, rfl⟩
  rw [← e_s5] at hf X7 ⊢
  obtain ⟨t8, hf⟩ := hf
  obtain ⟨h9, e_h9, hf⟩ := hf
  refine puF_4_3 (pc := 14) X7 (fun w h => inM w (inG4 w h)) k15 hmn rfl t8 e_h9 dX4_init_14 ?_
  exact v_vretN (pc := 17) X7 hr hlk dX4_init_17 hf

def f_X3_init (L : List Nat) (sh : Sh) (a0 : Nat) (h : Hp) (K : List Nat → Sh → Hp → Prop) : Prop :=
  nw L sh h 7 60 fun q1 L2 s3 h4 =>
  ty s3 a0 3 <|
  pR h4 a0 0 q1 fun h7 =>
  K L2 s3 h7

set_option maxHeartbeats 4000000 in
set_option maxRecDepth 100000 in
theorem c_X3_init (l : Launch) (D : va_G) (cA : Nat → ClassId) (L : List Nat) (sh : Sh) (a0 : Nat) (h : Hp) (K : List Nat → Sh → Hp → Prop) (hf : f_X3_init L sh a0 h K) : ∀ sz, Met l yX3_init (wM yX3_init cX3_init 1 none) ({ frames := 1, cells := 1, slots := 60, locals := 20 } : Room) (PreN D cA L sh h sz [.ref a0]) (QA D cA L sz K) 1 60 (fun q => q ∈ L ∨ sz ≤ q) := by
  intro sz
  refine met_n (cc := cX3_init) (nL := 1) [(0, .ref a0)] (by decide) rfl rfl (Nat.le_of_ble_eq_true rfl) rfl ?_
  intro p e s m below meth c X hr hlk hmn
  have ko := X.ht _ (inM _ q_164)
  have koi := X.ht _ (inM _ q_14)
  have koc := X.ht _ (inM _ q_15)
  have ka := X.ht _ (inM _ q_62)
  have k9 := X.ht _ (inM _ q_165)
  unfold f_X3_init at hf
  refine v_aload_n (pc := 0) X 0 dX3_init_0 rfl rfl ?_
  refine v_objInit (pc := 1) X ko koi koc (Nat.le_of_ble_eq_true rfl) (Nat.le_of_ble_eq_true rfl) dX3_init_1 ?_
  refine v_aload_n (pc := 4) X 0 dX3_init_4 rfl rfl ?_
  refine v_bipush (pc := 5) X (v := (60 : Int32)) dX3_init_5 (by decide) ?_
  refine v_newa (pc := 7) X (N := 60) ka (fun _ z => Or.inr z) (by decide) (by decide) (Nat.le_of_ble_eq_true rfl) (Nat.le_of_ble_eq_true rfl) (Nat.le_of_ble_eq_true rfl) dX3_init_7 (fun q1 nq X5 => ?_)
  replace hf := hf q1 _ _ _ nq rfl rfl rfl
  obtain ⟨h4, e_h4⟩ : ∃ z, z = hz h q1 := ⟨_, rfl⟩
  rw [← e_h4] at hf ⊢
  obtain ⟨L2, e_L2⟩ : ∃ z, z = L ++ [q1] := ⟨_, rfl⟩
  rw [← e_L2] at hf X5 ⊢
  obtain ⟨s3, e_s3⟩ : ∃ z, z = va_up sh q1 (7, 60) := ⟨_, rfl⟩
  rw [← e_s3] at hf X5 ⊢
  obtain ⟨t6, hf⟩ := hf
  obtain ⟨h7, e_h7, hf⟩ := hf
  refine puF_3_0 (pc := 9) X5 (fun w h => inM w (inG3 w h)) k9 hmn rfl t6 e_h7 dX3_init_9 ?_
  exact v_vretN (pc := 12) X5 hr hlk dX3_init_12 hf

def f_X1_init (L : List Nat) (sh : Sh) (a0 : Nat) (h : Hp) (K : List Nat → Sh → Hp → Prop) : Prop :=
  nw L sh h 8 8 fun q1 L2 s3 h4 =>
  ty s3 a0 1 <|
  pR h4 a0 7 q1 fun h7 =>
  gR h7 a0 7 fun q8 =>
  nw L2 s3 h7 0 0 fun q9 L10 s11 h12 =>
  f_X0_init L10 s11 q9 h12 fun L14 s15 h16 =>
  ty s15 q8 8 <|
  ty s15 q9 0 <|
  sR s15 h16 q8 (0 : Int32) q9 fun h20 =>
  ty s15 a0 1 <|
  gR h20 a0 7 fun q23 =>
  nw L14 s15 h20 0 0 fun q24 L25 s26 h27 =>
  f_X0_init L25 s26 q24 h27 fun L29 s30 h31 =>
  ty s30 q23 8 <|
  ty s30 q24 0 <|
  sR s30 h31 q23 (1 : Int32) q24 fun h35 =>
  ty s30 a0 1 <|
  gR h35 a0 7 fun q38 =>
  nw L29 s30 h35 0 0 fun q39 L40 s41 h42 =>
  f_X0_init L40 s41 q39 h42 fun L44 s45 h46 =>
  ty s45 q38 8 <|
  ty s45 q39 0 <|
  sR s45 h46 q38 (2 : Int32) q39 fun h50 =>
  ty s45 a0 1 <|
  gR h50 a0 7 fun q53 =>
  nw L44 s45 h50 0 0 fun q54 L55 s56 h57 =>
  f_X0_init L55 s56 q54 h57 fun L59 s60 h61 =>
  ty s60 q53 8 <|
  ty s60 q54 0 <|
  sR s60 h61 q53 (3 : Int32) q54 fun h65 =>
  ty s60 a0 1 <|
  gR h65 a0 7 fun q68 =>
  nw L59 s60 h65 0 0 fun q69 L70 s71 h72 =>
  f_X0_init L70 s71 q69 h72 fun L74 s75 h76 =>
  ty s75 q68 8 <|
  ty s75 q69 0 <|
  sR s75 h76 q68 (4 : Int32) q69 fun h80 =>
  ty s75 a0 1 <|
  gR h80 a0 7 fun q83 =>
  nw L74 s75 h80 0 0 fun q84 L85 s86 h87 =>
  f_X0_init L85 s86 q84 h87 fun L89 s90 h91 =>
  ty s90 q83 8 <|
  ty s90 q84 0 <|
  sR s90 h91 q83 (5 : Int32) q84 fun h95 =>
  ty s90 a0 1 <|
  gR h95 a0 7 fun q98 =>
  nw L89 s90 h95 0 0 fun q99 L100 s101 h102 =>
  f_X0_init L100 s101 q99 h102 fun L104 s105 h106 =>
  ty s105 q98 8 <|
  ty s105 q99 0 <|
  sR s105 h106 q98 (6 : Int32) q99 fun h110 =>
  ty s105 a0 1 <|
  gR h110 a0 7 fun q113 =>
  nw L104 s105 h110 0 0 fun q114 L115 s116 h117 =>
  f_X0_init L115 s116 q114 h117 fun L119 s120 h121 =>
  ty s120 q113 8 <|
  ty s120 q114 0 <|
  sR s120 h121 q113 (7 : Int32) q114 fun h125 =>
  nw L119 s120 h125 11 4 fun q127 L128 s129 h130 =>
  ty s129 a0 1 <|
  pR h130 a0 8 q127 fun h133 =>
  gR h133 a0 8 fun q134 =>
  nw L128 s129 h133 4 0 fun q135 L136 s137 h138 =>
  f_X4_init L136 s137 q135 h138 fun L140 s141 h142 =>
  ty s141 q134 11 <|
  ty s141 q135 4 <|
  sR s141 h142 q134 (0 : Int32) q135 fun h146 =>
  ty s141 a0 1 <|
  gR h146 a0 8 fun q149 =>
  nw L140 s141 h146 4 0 fun q150 L151 s152 h153 =>
  f_X4_init L151 s152 q150 h153 fun L155 s156 h157 =>
  ty s156 q149 11 <|
  ty s156 q150 4 <|
  sR s156 h157 q149 (1 : Int32) q150 fun h161 =>
  ty s156 a0 1 <|
  gR h161 a0 8 fun q164 =>
  nw L155 s156 h161 4 0 fun q165 L166 s167 h168 =>
  f_X4_init L166 s167 q165 h168 fun L170 s171 h172 =>
  ty s171 q164 11 <|
  ty s171 q165 4 <|
  sR s171 h172 q164 (2 : Int32) q165 fun h176 =>
  ty s171 a0 1 <|
  gR h176 a0 8 fun q179 =>
  nw L170 s171 h176 4 0 fun q180 L181 s182 h183 =>
  f_X4_init L181 s182 q180 h183 fun L185 s186 h187 =>
  ty s186 q179 11 <|
  ty s186 q180 4 <|
  sR s186 h187 q179 (3 : Int32) q180 fun h191 =>
  K L185 s186 h191

set_option maxHeartbeats 4000000 in
set_option maxRecDepth 100000 in
theorem c_X1_init (l : Launch) (D : va_G) (cA : Nat → ClassId) (L : List Nat) (sh : Sh) (a0 : Nat) (h : Hp) (K : List Nat → Sh → Hp → Prop) (hf : f_X1_init L sh a0 h K) : ∀ sz, Met l yX1_init (wM yX1_init cX1_init 2 none) ({ frames := 2, cells := 18, slots := 100, locals := 40 } : Room) (PreN D cA L sh h sz [.ref a0]) (QA D cA L sz K) 18 100 (fun q => q ∈ L ∨ sz ≤ q) := by
  intro sz
  refine met_n (cc := cX1_init) (nL := 2) [(0, .ref a0)] (by decide) rfl rfl (Nat.le_of_ble_eq_true rfl) rfl ?_
  intro p e s m below meth c X hr hlk hmn
  have ko := X.ht _ (inM _ q_28)
  have koi := X.ht _ (inM _ q_14)
  have koc := X.ht _ (inM _ q_15)
  have kc9 := X.ht _ (inM _ q_29)
  have k11 := X.ht _ (inM _ q_104)
  have ki0 := X.ht _ (inM _ q_31)
  have kn0 := X.ht _ (inM _ q_4)
  have kmX0_init := X.ht _ (inM _ q_33)
  have kc18 := X.ht _ (inM _ q_63)
  have k20 := X.ht _ (inM _ q_106)
  have ki4 := X.ht _ (inM _ q_65)
  have kn4 := X.ht _ (inM _ q_5)
  have kmX4_init := X.ht _ (inM _ q_67)
  have kl24 := X.ht _ (inM _ q_66)
  unfold f_X1_init at hf
  refine v_aload_n (pc := 0) X 0 dX1_init_0 rfl rfl ?_
  refine v_objInit (pc := 1) X ko koi koc (Nat.le_of_ble_eq_true rfl) (Nat.le_of_ble_eq_true rfl) dX1_init_1 ?_
  refine v_aload_n (pc := 4) X 0 dX1_init_4 rfl rfl ?_
  refine v_bipush (pc := 5) X (v := (8 : Int32)) dX1_init_5 (by decide) ?_
  refine v_newq_8 (pc := 7) X (N := 8) kc9 (fun _ z => Or.inr z) (by decide) (by decide) (Nat.le_of_ble_eq_true rfl) (Nat.le_of_ble_eq_true rfl) (Nat.le_of_ble_eq_true rfl) dX1_init_7 (fun q1 nq X5 => ?_)
  replace hf := hf q1 _ _ _ nq rfl rfl rfl
  obtain ⟨h4, e_h4⟩ : ∃ z, z = hz h q1 := ⟨_, rfl⟩
  rw [← e_h4] at hf ⊢
  obtain ⟨L2, e_L2⟩ : ∃ z, z = L ++ [q1] := ⟨_, rfl⟩
  rw [← e_L2] at hf X5 ⊢
  obtain ⟨s3, e_s3⟩ : ∃ z, z = va_up sh q1 (8, 8) := ⟨_, rfl⟩
  rw [← e_s3] at hf X5 ⊢
  obtain ⟨t6, hf⟩ := hf
  obtain ⟨h7, e_h7, hf⟩ := hf
  refine puF_1_7 (pc := 10) X5 (fun w h => inM w (inG1 w h)) k11 hmn rfl t6 e_h7 dX1_init_10 ?_
  refine v_iconst (pc := 13) X5 (v := (0 : Int32)) dX1_init_13 (by decide) ?_
  refine v_istore_n (pc := 14) X5 (i := 1) (lv' := [(1, .int (0 : Int32)), (0, .ref a0)]) dX1_init_14 rfl (Nat.le_of_ble_eq_true rfl) rfl ?_
  refine v_iload_n (pc := 15) X5 0 dX1_init_15 rfl rfl ?_
  refine v_bipush (pc := 16) X5 (v := (8 : Int32)) dX1_init_16 (by decide) ?_
  refine v_icmp_ge (pc := 18) X5 40 dX1_init_18 (by decide) (fun z => absurd z (by decide)) (fun _ => ?_)
  refine v_aload_n (pc := 21) X5 1 dX1_init_21 rfl rfl ?_
  obtain ⟨q8, e_q8, hf⟩ := hf
  refine ge_1_7 (pc := 22) X5 (fun w h => inM w (inG1 w h)) k11 t6 e_q8 dX1_init_22 ?_
  refine v_iload_n (pc := 25) X5 0 dX1_init_25 rfl rfl ?_
  refine v_new_0 (pc := 26) X5 (fun w h => inM w (inG0 w h)) kc9 ki0 kn0 (fun _ z => Or.inr z) (Nat.le_of_ble_eq_true rfl) (Nat.le_of_ble_eq_true rfl) dX1_init_26 (fun q9 nq X13 => ?_)
  replace hf := hf q9 _ _ _ nq rfl rfl rfl
  obtain ⟨h12, e_h12⟩ : ∃ z, z = hz h7 q9 := ⟨_, rfl⟩
  rw [← e_h12] at hf ⊢
  obtain ⟨L10, e_L10⟩ : ∃ z, z = L2 ++ [q9] := ⟨_, rfl⟩
  rw [← e_L10] at hf X13 ⊢
  obtain ⟨s11, e_s11⟩ : ∃ z, z = va_up s3 q9 (0, 0) := ⟨_, rfl⟩
  rw [← e_s11] at hf X13 ⊢
  refine v_dup (pc := 29) X13 dX1_init_29 rfl ?_
  refine v_callIN (pc := 30) X13 (rest := [.ref q9, .int (0 : Int32), .ref q8]) (c_X0_init l D cA L10 s11 q9 h12 _ hf) ⟨va_cnB 0 X.ht (good_wM inM q_34) rfl rfl rfl X.2.1.2.1 kn0 (by decide +kernel) ⟨Nat.le_of_ble_eq_true rfl, Nat.le_of_ble_eq_true rfl⟩, rfl, kmX0_init⟩ (fun _ z => Or.inr z) rfl (Nat.le_of_ble_eq_true rfl) ⟨Nat.le_of_ble_eq_true rfl, Nat.le_of_ble_eq_true rfl⟩ dX1_init_30 (fun L14 s15 h16 hf X17 => ?_)
  obtain ⟨t18, hf⟩ := hf
  obtain ⟨t19, hf⟩ := hf
  obtain ⟨b21, h20, e_h20, hf⟩ := hf
  refine v_aast_8 (pc := 33) X17 t18 t19 b21 e_h20 dX1_init_33 ?_
  refine v_iinc (pc := 34) X17 0 (v := (1 : Int32)) (lv' := [(1, .int (1 : Int32)), (0, .ref a0)]) dX1_init_34 rfl (by decide) (Nat.le_of_ble_eq_true rfl) rfl ?_
  refine v_goto (pc := 37) X17 15 dX1_init_37 (by decide) ?_
  refine v_iload_n (pc := 15) X17 0 dX1_init_15 rfl rfl ?_
  refine v_bipush (pc := 16) X17 (v := (8 : Int32)) dX1_init_16 (by decide) ?_
  refine v_icmp_ge (pc := 18) X17 40 dX1_init_18 (by decide) (fun z => absurd z (by decide)) (fun _ => ?_)
  refine v_aload_n (pc := 21) X17 1 dX1_init_21 rfl rfl ?_
  obtain ⟨t22, hf⟩ := hf
  obtain ⟨q23, e_q23, hf⟩ := hf
  refine ge_1_7 (pc := 22) X17 (fun w h => inM w (inG1 w h)) k11 t22 e_q23 dX1_init_22 ?_
  refine v_iload_n (pc := 25) X17 0 dX1_init_25 rfl rfl ?_
  refine v_new_0 (pc := 26) X17 (fun w h => inM w (inG0 w h)) kc9 ki0 kn0 (fun _ z => Or.inr z) (Nat.le_of_ble_eq_true rfl) (Nat.le_of_ble_eq_true rfl) dX1_init_26 (fun q24 nq X28 => ?_)
  replace hf := hf q24 _ _ _ nq rfl rfl rfl
  obtain ⟨h27, e_h27⟩ : ∃ z, z = hz h20 q24 := ⟨_, rfl⟩
  rw [← e_h27] at hf ⊢
  obtain ⟨L25, e_L25⟩ : ∃ z, z = L14 ++ [q24] := ⟨_, rfl⟩
  rw [← e_L25] at hf X28 ⊢
  obtain ⟨s26, e_s26⟩ : ∃ z, z = va_up s15 q24 (0, 0) := ⟨_, rfl⟩
  rw [← e_s26] at hf X28 ⊢
  refine v_dup (pc := 29) X28 dX1_init_29 rfl ?_
  refine v_callIN (pc := 30) X28 (rest := [.ref q24, .int (1 : Int32), .ref q23]) (c_X0_init l D cA L25 s26 q24 h27 _ hf) ⟨va_cnB 0 X.ht (good_wM inM q_34) rfl rfl rfl X.2.1.2.1 kn0 (by decide +kernel) ⟨Nat.le_of_ble_eq_true rfl, Nat.le_of_ble_eq_true rfl⟩, rfl, kmX0_init⟩ (fun _ z => Or.inr z) rfl (Nat.le_of_ble_eq_true rfl) ⟨Nat.le_of_ble_eq_true rfl, Nat.le_of_ble_eq_true rfl⟩ dX1_init_30 (fun L29 s30 h31 hf X32 => ?_)
  obtain ⟨t33, hf⟩ := hf
  obtain ⟨t34, hf⟩ := hf
  obtain ⟨b36, h35, e_h35, hf⟩ := hf
  refine v_aast_8 (pc := 33) X32 t33 t34 b36 e_h35 dX1_init_33 ?_
  refine v_iinc (pc := 34) X32 0 (v := (2 : Int32)) (lv' := [(1, .int (2 : Int32)), (0, .ref a0)]) dX1_init_34 rfl (by decide) (Nat.le_of_ble_eq_true rfl) rfl ?_
  refine v_goto (pc := 37) X32 15 dX1_init_37 (by decide) ?_
  refine v_iload_n (pc := 15) X32 0 dX1_init_15 rfl rfl ?_
  refine v_bipush (pc := 16) X32 (v := (8 : Int32)) dX1_init_16 (by decide) ?_
  refine v_icmp_ge (pc := 18) X32 40 dX1_init_18 (by decide) (fun z => absurd z (by decide)) (fun _ => ?_)
  refine v_aload_n (pc := 21) X32 1 dX1_init_21 rfl rfl ?_
  obtain ⟨t37, hf⟩ := hf
  obtain ⟨q38, e_q38, hf⟩ := hf
  refine ge_1_7 (pc := 22) X32 (fun w h => inM w (inG1 w h)) k11 t37 e_q38 dX1_init_22 ?_
  refine v_iload_n (pc := 25) X32 0 dX1_init_25 rfl rfl ?_
  refine v_new_0 (pc := 26) X32 (fun w h => inM w (inG0 w h)) kc9 ki0 kn0 (fun _ z => Or.inr z) (Nat.le_of_ble_eq_true rfl) (Nat.le_of_ble_eq_true rfl) dX1_init_26 (fun q39 nq X43 => ?_)
  replace hf := hf q39 _ _ _ nq rfl rfl rfl
  obtain ⟨h42, e_h42⟩ : ∃ z, z = hz h35 q39 := ⟨_, rfl⟩
  rw [← e_h42] at hf ⊢
  obtain ⟨L40, e_L40⟩ : ∃ z, z = L29 ++ [q39] := ⟨_, rfl⟩
  rw [← e_L40] at hf X43 ⊢
  obtain ⟨s41, e_s41⟩ : ∃ z, z = va_up s30 q39 (0, 0) := ⟨_, rfl⟩
  rw [← e_s41] at hf X43 ⊢
  refine v_dup (pc := 29) X43 dX1_init_29 rfl ?_
  refine v_callIN (pc := 30) X43 (rest := [.ref q39, .int (2 : Int32), .ref q38]) (c_X0_init l D cA L40 s41 q39 h42 _ hf) ⟨va_cnB 0 X.ht (good_wM inM q_34) rfl rfl rfl X.2.1.2.1 kn0 (by decide +kernel) ⟨Nat.le_of_ble_eq_true rfl, Nat.le_of_ble_eq_true rfl⟩, rfl, kmX0_init⟩ (fun _ z => Or.inr z) rfl (Nat.le_of_ble_eq_true rfl) ⟨Nat.le_of_ble_eq_true rfl, Nat.le_of_ble_eq_true rfl⟩ dX1_init_30 (fun L44 s45 h46 hf X47 => ?_)
  obtain ⟨t48, hf⟩ := hf
  obtain ⟨t49, hf⟩ := hf
  obtain ⟨b51, h50, e_h50, hf⟩ := hf
  refine v_aast_8 (pc := 33) X47 t48 t49 b51 e_h50 dX1_init_33 ?_
  refine v_iinc (pc := 34) X47 0 (v := (3 : Int32)) (lv' := [(1, .int (3 : Int32)), (0, .ref a0)]) dX1_init_34 rfl (by decide) (Nat.le_of_ble_eq_true rfl) rfl ?_
  refine v_goto (pc := 37) X47 15 dX1_init_37 (by decide) ?_
  refine v_iload_n (pc := 15) X47 0 dX1_init_15 rfl rfl ?_
  refine v_bipush (pc := 16) X47 (v := (8 : Int32)) dX1_init_16 (by decide) ?_
  refine v_icmp_ge (pc := 18) X47 40 dX1_init_18 (by decide) (fun z => absurd z (by decide)) (fun _ => ?_)
  refine v_aload_n (pc := 21) X47 1 dX1_init_21 rfl rfl ?_
  obtain ⟨t52, hf⟩ := hf
  obtain ⟨q53, e_q53, hf⟩ := hf
  refine ge_1_7 (pc := 22) X47 (fun w h => inM w (inG1 w h)) k11 t52 e_q53 dX1_init_22 ?_
  refine v_iload_n (pc := 25) X47 0 dX1_init_25 rfl rfl ?_
  refine v_new_0 (pc := 26) X47 (fun w h => inM w (inG0 w h)) kc9 ki0 kn0 (fun _ z => Or.inr z) (Nat.le_of_ble_eq_true rfl) (Nat.le_of_ble_eq_true rfl) dX1_init_26 (fun q54 nq X58 => ?_)
  replace hf := hf q54 _ _ _ nq rfl rfl rfl
  obtain ⟨h57, e_h57⟩ : ∃ z, z = hz h50 q54 := ⟨_, rfl⟩
  rw [← e_h57] at hf ⊢
  obtain ⟨L55, e_L55⟩ : ∃ z, z = L44 ++ [q54] := ⟨_, rfl⟩
  rw [← e_L55] at hf X58 ⊢
  obtain ⟨s56, e_s56⟩ : ∃ z, z = va_up s45 q54 (0, 0) := ⟨_, rfl⟩
  rw [← e_s56] at hf X58 ⊢
  refine v_dup (pc := 29) X58 dX1_init_29 rfl ?_
  refine v_callIN (pc := 30) X58 (rest := [.ref q54, .int (3 : Int32), .ref q53]) (c_X0_init l D cA L55 s56 q54 h57 _ hf) ⟨va_cnB 0 X.ht (good_wM inM q_34) rfl rfl rfl X.2.1.2.1 kn0 (by decide +kernel) ⟨Nat.le_of_ble_eq_true rfl, Nat.le_of_ble_eq_true rfl⟩, rfl, kmX0_init⟩ (fun _ z => Or.inr z) rfl (Nat.le_of_ble_eq_true rfl) ⟨Nat.le_of_ble_eq_true rfl, Nat.le_of_ble_eq_true rfl⟩ dX1_init_30 (fun L59 s60 h61 hf X62 => ?_)
  obtain ⟨t63, hf⟩ := hf
  obtain ⟨t64, hf⟩ := hf
  obtain ⟨b66, h65, e_h65, hf⟩ := hf
  refine v_aast_8 (pc := 33) X62 t63 t64 b66 e_h65 dX1_init_33 ?_
  refine v_iinc (pc := 34) X62 0 (v := (4 : Int32)) (lv' := [(1, .int (4 : Int32)), (0, .ref a0)]) dX1_init_34 rfl (by decide) (Nat.le_of_ble_eq_true rfl) rfl ?_
  refine v_goto (pc := 37) X62 15 dX1_init_37 (by decide) ?_
  refine v_iload_n (pc := 15) X62 0 dX1_init_15 rfl rfl ?_
  refine v_bipush (pc := 16) X62 (v := (8 : Int32)) dX1_init_16 (by decide) ?_
  refine v_icmp_ge (pc := 18) X62 40 dX1_init_18 (by decide) (fun z => absurd z (by decide)) (fun _ => ?_)
  refine v_aload_n (pc := 21) X62 1 dX1_init_21 rfl rfl ?_
  obtain ⟨t67, hf⟩ := hf
  obtain ⟨q68, e_q68, hf⟩ := hf
  refine ge_1_7 (pc := 22) X62 (fun w h => inM w (inG1 w h)) k11 t67 e_q68 dX1_init_22 ?_
  refine v_iload_n (pc := 25) X62 0 dX1_init_25 rfl rfl ?_
  refine v_new_0 (pc := 26) X62 (fun w h => inM w (inG0 w h)) kc9 ki0 kn0 (fun _ z => Or.inr z) (Nat.le_of_ble_eq_true rfl) (Nat.le_of_ble_eq_true rfl) dX1_init_26 (fun q69 nq X73 => ?_)
  replace hf := hf q69 _ _ _ nq rfl rfl rfl
  obtain ⟨h72, e_h72⟩ : ∃ z, z = hz h65 q69 := ⟨_, rfl⟩
  rw [← e_h72] at hf ⊢
  obtain ⟨L70, e_L70⟩ : ∃ z, z = L59 ++ [q69] := ⟨_, rfl⟩
  rw [← e_L70] at hf X73 ⊢
  obtain ⟨s71, e_s71⟩ : ∃ z, z = va_up s60 q69 (0, 0) := ⟨_, rfl⟩
  rw [← e_s71] at hf X73 ⊢
  refine v_dup (pc := 29) X73 dX1_init_29 rfl ?_
  refine v_callIN (pc := 30) X73 (rest := [.ref q69, .int (4 : Int32), .ref q68]) (c_X0_init l D cA L70 s71 q69 h72 _ hf) ⟨va_cnB 0 X.ht (good_wM inM q_34) rfl rfl rfl X.2.1.2.1 kn0 (by decide +kernel) ⟨Nat.le_of_ble_eq_true rfl, Nat.le_of_ble_eq_true rfl⟩, rfl, kmX0_init⟩ (fun _ z => Or.inr z) rfl (Nat.le_of_ble_eq_true rfl) ⟨Nat.le_of_ble_eq_true rfl, Nat.le_of_ble_eq_true rfl⟩ dX1_init_30 (fun L74 s75 h76 hf X77 => ?_)
  obtain ⟨t78, hf⟩ := hf
  obtain ⟨t79, hf⟩ := hf
  obtain ⟨b81, h80, e_h80, hf⟩ := hf
  refine v_aast_8 (pc := 33) X77 t78 t79 b81 e_h80 dX1_init_33 ?_
  refine v_iinc (pc := 34) X77 0 (v := (5 : Int32)) (lv' := [(1, .int (5 : Int32)), (0, .ref a0)]) dX1_init_34 rfl (by decide) (Nat.le_of_ble_eq_true rfl) rfl ?_
  refine v_goto (pc := 37) X77 15 dX1_init_37 (by decide) ?_
  refine v_iload_n (pc := 15) X77 0 dX1_init_15 rfl rfl ?_
  refine v_bipush (pc := 16) X77 (v := (8 : Int32)) dX1_init_16 (by decide) ?_
  refine v_icmp_ge (pc := 18) X77 40 dX1_init_18 (by decide) (fun z => absurd z (by decide)) (fun _ => ?_)
  refine v_aload_n (pc := 21) X77 1 dX1_init_21 rfl rfl ?_
  obtain ⟨t82, hf⟩ := hf
  obtain ⟨q83, e_q83, hf⟩ := hf
  refine ge_1_7 (pc := 22) X77 (fun w h => inM w (inG1 w h)) k11 t82 e_q83 dX1_init_22 ?_
  refine v_iload_n (pc := 25) X77 0 dX1_init_25 rfl rfl ?_
  refine v_new_0 (pc := 26) X77 (fun w h => inM w (inG0 w h)) kc9 ki0 kn0 (fun _ z => Or.inr z) (Nat.le_of_ble_eq_true rfl) (Nat.le_of_ble_eq_true rfl) dX1_init_26 (fun q84 nq X88 => ?_)
  replace hf := hf q84 _ _ _ nq rfl rfl rfl
  obtain ⟨h87, e_h87⟩ : ∃ z, z = hz h80 q84 := ⟨_, rfl⟩
  rw [← e_h87] at hf ⊢
  obtain ⟨L85, e_L85⟩ : ∃ z, z = L74 ++ [q84] := ⟨_, rfl⟩
  rw [← e_L85] at hf X88 ⊢
  obtain ⟨s86, e_s86⟩ : ∃ z, z = va_up s75 q84 (0, 0) := ⟨_, rfl⟩
  rw [← e_s86] at hf X88 ⊢
  refine v_dup (pc := 29) X88 dX1_init_29 rfl ?_
  refine v_callIN (pc := 30) X88 (rest := [.ref q84, .int (5 : Int32), .ref q83]) (c_X0_init l D cA L85 s86 q84 h87 _ hf) ⟨va_cnB 0 X.ht (good_wM inM q_34) rfl rfl rfl X.2.1.2.1 kn0 (by decide +kernel) ⟨Nat.le_of_ble_eq_true rfl, Nat.le_of_ble_eq_true rfl⟩, rfl, kmX0_init⟩ (fun _ z => Or.inr z) rfl (Nat.le_of_ble_eq_true rfl) ⟨Nat.le_of_ble_eq_true rfl, Nat.le_of_ble_eq_true rfl⟩ dX1_init_30 (fun L89 s90 h91 hf X92 => ?_)
  obtain ⟨t93, hf⟩ := hf
  obtain ⟨t94, hf⟩ := hf
  obtain ⟨b96, h95, e_h95, hf⟩ := hf
  refine v_aast_8 (pc := 33) X92 t93 t94 b96 e_h95 dX1_init_33 ?_
  refine v_iinc (pc := 34) X92 0 (v := (6 : Int32)) (lv' := [(1, .int (6 : Int32)), (0, .ref a0)]) dX1_init_34 rfl (by decide) (Nat.le_of_ble_eq_true rfl) rfl ?_
  refine v_goto (pc := 37) X92 15 dX1_init_37 (by decide) ?_
  refine v_iload_n (pc := 15) X92 0 dX1_init_15 rfl rfl ?_
  refine v_bipush (pc := 16) X92 (v := (8 : Int32)) dX1_init_16 (by decide) ?_
  refine v_icmp_ge (pc := 18) X92 40 dX1_init_18 (by decide) (fun z => absurd z (by decide)) (fun _ => ?_)
  refine v_aload_n (pc := 21) X92 1 dX1_init_21 rfl rfl ?_
  obtain ⟨t97, hf⟩ := hf
  obtain ⟨q98, e_q98, hf⟩ := hf
  refine ge_1_7 (pc := 22) X92 (fun w h => inM w (inG1 w h)) k11 t97 e_q98 dX1_init_22 ?_
  refine v_iload_n (pc := 25) X92 0 dX1_init_25 rfl rfl ?_
  refine v_new_0 (pc := 26) X92 (fun w h => inM w (inG0 w h)) kc9 ki0 kn0 (fun _ z => Or.inr z) (Nat.le_of_ble_eq_true rfl) (Nat.le_of_ble_eq_true rfl) dX1_init_26 (fun q99 nq X103 => ?_)
  replace hf := hf q99 _ _ _ nq rfl rfl rfl
  obtain ⟨h102, e_h102⟩ : ∃ z, z = hz h95 q99 := ⟨_, rfl⟩
  rw [← e_h102] at hf ⊢
  obtain ⟨L100, e_L100⟩ : ∃ z, z = L89 ++ [q99] := ⟨_, rfl⟩
  rw [← e_L100] at hf X103 ⊢
  obtain ⟨s101, e_s101⟩ : ∃ z, z = va_up s90 q99 (0, 0) := ⟨_, rfl⟩
  rw [← e_s101] at hf X103 ⊢
  refine v_dup (pc := 29) X103 dX1_init_29 rfl ?_
  refine v_callIN (pc := 30) X103 (rest := [.ref q99, .int (6 : Int32), .ref q98]) (c_X0_init l D cA L100 s101 q99 h102 _ hf) ⟨va_cnB 0 X.ht (good_wM inM q_34) rfl rfl rfl X.2.1.2.1 kn0 (by decide +kernel) ⟨Nat.le_of_ble_eq_true rfl, Nat.le_of_ble_eq_true rfl⟩, rfl, kmX0_init⟩ (fun _ z => Or.inr z) rfl (Nat.le_of_ble_eq_true rfl) ⟨Nat.le_of_ble_eq_true rfl, Nat.le_of_ble_eq_true rfl⟩ dX1_init_30 (fun L104 s105 h106 hf X107 => ?_)
  obtain ⟨t108, hf⟩ := hf
  obtain ⟨t109, hf⟩ := hf
  obtain ⟨b111, h110, e_h110, hf⟩ := hf
  refine v_aast_8 (pc := 33) X107 t108 t109 b111 e_h110 dX1_init_33 ?_
  refine v_iinc (pc := 34) X107 0 (v := (7 : Int32)) (lv' := [(1, .int (7 : Int32)), (0, .ref a0)]) dX1_init_34 rfl (by decide) (Nat.le_of_ble_eq_true rfl) rfl ?_
  refine v_goto (pc := 37) X107 15 dX1_init_37 (by decide) ?_
  refine v_iload_n (pc := 15) X107 0 dX1_init_15 rfl rfl ?_
  refine v_bipush (pc := 16) X107 (v := (8 : Int32)) dX1_init_16 (by decide) ?_
  refine v_icmp_ge (pc := 18) X107 40 dX1_init_18 (by decide) (fun z => absurd z (by decide)) (fun _ => ?_)
  refine v_aload_n (pc := 21) X107 1 dX1_init_21 rfl rfl ?_
  obtain ⟨t112, hf⟩ := hf
  obtain ⟨q113, e_q113, hf⟩ := hf
  refine ge_1_7 (pc := 22) X107 (fun w h => inM w (inG1 w h)) k11 t112 e_q113 dX1_init_22 ?_
  refine v_iload_n (pc := 25) X107 0 dX1_init_25 rfl rfl ?_
  refine v_new_0 (pc := 26) X107 (fun w h => inM w (inG0 w h)) kc9 ki0 kn0 (fun _ z => Or.inr z) (Nat.le_of_ble_eq_true rfl) (Nat.le_of_ble_eq_true rfl) dX1_init_26 (fun q114 nq X118 => ?_)
  replace hf := hf q114 _ _ _ nq rfl rfl rfl
  obtain ⟨h117, e_h117⟩ : ∃ z, z = hz h110 q114 := ⟨_, rfl⟩
  rw [← e_h117] at hf ⊢
  obtain ⟨L115, e_L115⟩ : ∃ z, z = L104 ++ [q114] := ⟨_, rfl⟩
  rw [← e_L115] at hf X118 ⊢
  obtain ⟨s116, e_s116⟩ : ∃ z, z = va_up s105 q114 (0, 0) := ⟨_, rfl⟩
  rw [← e_s116] at hf X118 ⊢
  refine v_dup (pc := 29) X118 dX1_init_29 rfl ?_
  refine v_callIN (pc := 30) X118 (rest := [.ref q114, .int (7 : Int32), .ref q113]) (c_X0_init l D cA L115 s116 q114 h117 _ hf) ⟨va_cnB 0 X.ht (good_wM inM q_34) rfl rfl rfl X.2.1.2.1 kn0 (by decide +kernel) ⟨Nat.le_of_ble_eq_true rfl, Nat.le_of_ble_eq_true rfl⟩, rfl, kmX0_init⟩ (fun _ z => Or.inr z) rfl (Nat.le_of_ble_eq_true rfl) ⟨Nat.le_of_ble_eq_true rfl, Nat.le_of_ble_eq_true rfl⟩ dX1_init_30 (fun L119 s120 h121 hf X122 => ?_)
  obtain ⟨t123, hf⟩ := hf
  obtain ⟨t124, hf⟩ := hf
  obtain ⟨b126, h125, e_h125, hf⟩ := hf
  refine v_aast_8 (pc := 33) X122 t123 t124 b126 e_h125 dX1_init_33 ?_
  refine v_iinc (pc := 34) X122 0 (v := (8 : Int32)) (lv' := [(1, .int (8 : Int32)), (0, .ref a0)]) dX1_init_34 rfl (by decide) (Nat.le_of_ble_eq_true rfl) rfl ?_
  refine v_goto (pc := 37) X122 15 dX1_init_37 (by decide) ?_
  refine v_iload_n (pc := 15) X122 0 dX1_init_15 rfl rfl ?_
  refine v_bipush (pc := 16) X122 (v := (8 : Int32)) dX1_init_16 (by decide) ?_
  refine v_icmp_ge (pc := 18) X122 40 dX1_init_18 (by decide) (fun _ => ?_) (fun z => absurd (by decide) z)
  refine v_aload_n (pc := 40) X122 1 dX1_init_40 rfl rfl ?_
  refine v_iconst (pc := 41) X122 (v := (4 : Int32)) dX1_init_41 (by decide) ?_
  refine v_newq_11 (pc := 42) X122 (N := 4) kc18 (fun _ z => Or.inr z) (by decide) (by decide) (Nat.le_of_ble_eq_true rfl) (Nat.le_of_ble_eq_true rfl) (Nat.le_of_ble_eq_true rfl) dX1_init_42 (fun q127 nq X131 => ?_)
  replace hf := hf q127 _ _ _ nq rfl rfl rfl
  obtain ⟨h130, e_h130⟩ : ∃ z, z = hz h125 q127 := ⟨_, rfl⟩
  rw [← e_h130] at hf ⊢
  obtain ⟨L128, e_L128⟩ : ∃ z, z = L119 ++ [q127] := ⟨_, rfl⟩
  rw [← e_L128] at hf X131 ⊢
  obtain ⟨s129, e_s129⟩ : ∃ z, z = va_up s120 q127 (11, 4) := ⟨_, rfl⟩
  rw [← e_s129] at hf X131 ⊢
  obtain ⟨t132, hf⟩ := hf
  obtain ⟨h133, e_h133, hf⟩ := hf
  refine puF_1_8 (pc := 45) X131 (fun w h => inM w (inG1 w h)) k20 hmn rfl t132 e_h133 dX1_init_45 ?_
  refine v_iconst (pc := 48) X131 (v := (0 : Int32)) dX1_init_48 (by decide) ?_
  refine v_istore_n (pc := 49) X131 (i := 1) (lv' := [(1, .int (0 : Int32)), (0, .ref a0)]) dX1_init_49 rfl (Nat.le_of_ble_eq_true rfl) rfl ?_
  refine v_iload_n (pc := 50) X131 0 dX1_init_50 rfl rfl ?_
  refine v_iconst (pc := 51) X131 (v := (4 : Int32)) dX1_init_51 (by decide) ?_
  refine v_icmp_ge (pc := 52) X131 74 dX1_init_52 (by decide) (fun z => absurd z (by decide)) (fun _ => ?_)
  refine v_aload_n (pc := 55) X131 1 dX1_init_55 rfl rfl ?_
  obtain ⟨q134, e_q134, hf⟩ := hf
  refine ge_1_8 (pc := 56) X131 (fun w h => inM w (inG1 w h)) k20 t132 e_q134 dX1_init_56 ?_
  refine v_iload_n (pc := 59) X131 0 dX1_init_59 rfl rfl ?_
  refine v_new_4 (pc := 60) X131 (fun w h => inM w (inG4 w h)) kc18 ki4 kn4 (fun _ z => Or.inr z) (Nat.le_of_ble_eq_true rfl) (Nat.le_of_ble_eq_true rfl) dX1_init_60 (fun q135 nq X139 => ?_)
  replace hf := hf q135 _ _ _ nq rfl rfl rfl
  obtain ⟨h138, e_h138⟩ : ∃ z, z = hz h133 q135 := ⟨_, rfl⟩
  rw [← e_h138] at hf ⊢
  obtain ⟨L136, e_L136⟩ : ∃ z, z = L128 ++ [q135] := ⟨_, rfl⟩
  rw [← e_L136] at hf X139 ⊢
  obtain ⟨s137, e_s137⟩ : ∃ z, z = va_up s129 q135 (4, 0) := ⟨_, rfl⟩
  rw [← e_s137] at hf X139 ⊢
  refine v_dup (pc := 63) X139 dX1_init_63 rfl ?_
  refine v_callI (pc := 64) X139 (rest := [.ref q135, .int (0 : Int32), .ref q134]) (c_X4_init l D cA L136 s137 q135 h138 _ hf) (cwI 0 X.ht (good_wM inM q_68) rfl rfl rfl kn4 kl24 kmX4_init rfl (by decide +kernel) ⟨Nat.le_of_ble_eq_true rfl, Nat.le_of_ble_eq_true rfl⟩) (fun _ z => Or.inr z) rfl (Nat.le_of_ble_eq_true rfl) ⟨Nat.le_of_ble_eq_true rfl, Nat.le_of_ble_eq_true rfl⟩ dX1_init_64 (fun L140 s141 h142 hf X143 => ?_)
  obtain ⟨t144, hf⟩ := hf
  obtain ⟨t145, hf⟩ := hf
  obtain ⟨b147, h146, e_h146, hf⟩ := hf
  refine v_aast_11 (pc := 67) X143 t144 t145 b147 e_h146 dX1_init_67 ?_
  refine v_iinc (pc := 68) X143 0 (v := (1 : Int32)) (lv' := [(1, .int (1 : Int32)), (0, .ref a0)]) dX1_init_68 rfl (by decide) (Nat.le_of_ble_eq_true rfl) rfl ?_
  refine v_goto (pc := 71) X143 50 dX1_init_71 (by decide) ?_
  refine v_iload_n (pc := 50) X143 0 dX1_init_50 rfl rfl ?_
  refine v_iconst (pc := 51) X143 (v := (4 : Int32)) dX1_init_51 (by decide) ?_
  refine v_icmp_ge (pc := 52) X143 74 dX1_init_52 (by decide) (fun z => absurd z (by decide)) (fun _ => ?_)
  refine v_aload_n (pc := 55) X143 1 dX1_init_55 rfl rfl ?_
  obtain ⟨t148, hf⟩ := hf
  obtain ⟨q149, e_q149, hf⟩ := hf
  refine ge_1_8 (pc := 56) X143 (fun w h => inM w (inG1 w h)) k20 t148 e_q149 dX1_init_56 ?_
  refine v_iload_n (pc := 59) X143 0 dX1_init_59 rfl rfl ?_
  refine v_new_4 (pc := 60) X143 (fun w h => inM w (inG4 w h)) kc18 ki4 kn4 (fun _ z => Or.inr z) (Nat.le_of_ble_eq_true rfl) (Nat.le_of_ble_eq_true rfl) dX1_init_60 (fun q150 nq X154 => ?_)
  replace hf := hf q150 _ _ _ nq rfl rfl rfl
  obtain ⟨h153, e_h153⟩ : ∃ z, z = hz h146 q150 := ⟨_, rfl⟩
  rw [← e_h153] at hf ⊢
  obtain ⟨L151, e_L151⟩ : ∃ z, z = L140 ++ [q150] := ⟨_, rfl⟩
  rw [← e_L151] at hf X154 ⊢
  obtain ⟨s152, e_s152⟩ : ∃ z, z = va_up s141 q150 (4, 0) := ⟨_, rfl⟩
  rw [← e_s152] at hf X154 ⊢
  refine v_dup (pc := 63) X154 dX1_init_63 rfl ?_
  refine v_callI (pc := 64) X154 (rest := [.ref q150, .int (1 : Int32), .ref q149]) (c_X4_init l D cA L151 s152 q150 h153 _ hf) (cwI 0 X.ht (good_wM inM q_68) rfl rfl rfl kn4 kl24 kmX4_init rfl (by decide +kernel) ⟨Nat.le_of_ble_eq_true rfl, Nat.le_of_ble_eq_true rfl⟩) (fun _ z => Or.inr z) rfl (Nat.le_of_ble_eq_true rfl) ⟨Nat.le_of_ble_eq_true rfl, Nat.le_of_ble_eq_true rfl⟩ dX1_init_64 (fun L155 s156 h157 hf X158 => ?_)
  obtain ⟨t159, hf⟩ := hf
  obtain ⟨t160, hf⟩ := hf
  obtain ⟨b162, h161, e_h161, hf⟩ := hf
  refine v_aast_11 (pc := 67) X158 t159 t160 b162 e_h161 dX1_init_67 ?_
  refine v_iinc (pc := 68) X158 0 (v := (2 : Int32)) (lv' := [(1, .int (2 : Int32)), (0, .ref a0)]) dX1_init_68 rfl (by decide) (Nat.le_of_ble_eq_true rfl) rfl ?_
  refine v_goto (pc := 71) X158 50 dX1_init_71 (by decide) ?_
  refine v_iload_n (pc := 50) X158 0 dX1_init_50 rfl rfl ?_
  refine v_iconst (pc := 51) X158 (v := (4 : Int32)) dX1_init_51 (by decide) ?_
  refine v_icmp_ge (pc := 52) X158 74 dX1_init_52 (by decide) (fun z => absurd z (by decide)) (fun _ => ?_)
  refine v_aload_n (pc := 55) X158 1 dX1_init_55 rfl rfl ?_
  obtain ⟨t163, hf⟩ := hf
  obtain ⟨q164, e_q164, hf⟩ := hf
  refine ge_1_8 (pc := 56) X158 (fun w h => inM w (inG1 w h)) k20 t163 e_q164 dX1_init_56 ?_
  refine v_iload_n (pc := 59) X158 0 dX1_init_59 rfl rfl ?_
  refine v_new_4 (pc := 60) X158 (fun w h => inM w (inG4 w h)) kc18 ki4 kn4 (fun _ z => Or.inr z) (Nat.le_of_ble_eq_true rfl) (Nat.le_of_ble_eq_true rfl) dX1_init_60 (fun q165 nq X169 => ?_)
  replace hf := hf q165 _ _ _ nq rfl rfl rfl
  obtain ⟨h168, e_h168⟩ : ∃ z, z = hz h161 q165 := ⟨_, rfl⟩
  rw [← e_h168] at hf ⊢
  obtain ⟨L166, e_L166⟩ : ∃ z, z = L155 ++ [q165] := ⟨_, rfl⟩
  rw [← e_L166] at hf X169 ⊢
  obtain ⟨s167, e_s167⟩ : ∃ z, z = va_up s156 q165 (4, 0) := ⟨_, rfl⟩
  rw [← e_s167] at hf X169 ⊢
  refine v_dup (pc := 63) X169 dX1_init_63 rfl ?_
  refine v_callI (pc := 64) X169 (rest := [.ref q165, .int (2 : Int32), .ref q164]) (c_X4_init l D cA L166 s167 q165 h168 _ hf) (cwI 0 X.ht (good_wM inM q_68) rfl rfl rfl kn4 kl24 kmX4_init rfl (by decide +kernel) ⟨Nat.le_of_ble_eq_true rfl, Nat.le_of_ble_eq_true rfl⟩) (fun _ z => Or.inr z) rfl (Nat.le_of_ble_eq_true rfl) ⟨Nat.le_of_ble_eq_true rfl, Nat.le_of_ble_eq_true rfl⟩ dX1_init_64 (fun L170 s171 h172 hf X173 => ?_)
  obtain ⟨t174, hf⟩ := hf
  obtain ⟨t175, hf⟩ := hf
  obtain ⟨b177, h176, e_h176, hf⟩ := hf
  refine v_aast_11 (pc := 67) X173 t174 t175 b177 e_h176 dX1_init_67 ?_
  refine v_iinc (pc := 68) X173 0 (v := (3 : Int32)) (lv' := [(1, .int (3 : Int32)), (0, .ref a0)]) dX1_init_68 rfl (by decide) (Nat.le_of_ble_eq_true rfl) rfl ?_
  refine v_goto (pc := 71) X173 50 dX1_init_71 (by decide) ?_
  refine v_iload_n (pc := 50) X173 0 dX1_init_50 rfl rfl ?_
  refine v_iconst (pc := 51) X173 (v := (4 : Int32)) dX1_init_51 (by decide) ?_
  refine v_icmp_ge (pc := 52) X173 74 dX1_init_52 (by decide) (fun z => absurd z (by decide)) (fun _ => ?_)
  refine v_aload_n (pc := 55) X173 1 dX1_init_55 rfl rfl ?_
  obtain ⟨t178, hf⟩ := hf
  obtain ⟨q179, e_q179, hf⟩ := hf
  refine ge_1_8 (pc := 56) X173 (fun w h => inM w (inG1 w h)) k20 t178 e_q179 dX1_init_56 ?_
  refine v_iload_n (pc := 59) X173 0 dX1_init_59 rfl rfl ?_
  refine v_new_4 (pc := 60) X173 (fun w h => inM w (inG4 w h)) kc18 ki4 kn4 (fun _ z => Or.inr z) (Nat.le_of_ble_eq_true rfl) (Nat.le_of_ble_eq_true rfl) dX1_init_60 (fun q180 nq X184 => ?_)
  replace hf := hf q180 _ _ _ nq rfl rfl rfl
  obtain ⟨h183, e_h183⟩ : ∃ z, z = hz h176 q180 := ⟨_, rfl⟩
  rw [← e_h183] at hf ⊢
  obtain ⟨L181, e_L181⟩ : ∃ z, z = L170 ++ [q180] := ⟨_, rfl⟩
  rw [← e_L181] at hf X184 ⊢
  obtain ⟨s182, e_s182⟩ : ∃ z, z = va_up s171 q180 (4, 0) := ⟨_, rfl⟩
  rw [← e_s182] at hf X184 ⊢
  refine v_dup (pc := 63) X184 dX1_init_63 rfl ?_
  refine v_callI (pc := 64) X184 (rest := [.ref q180, .int (3 : Int32), .ref q179]) (c_X4_init l D cA L181 s182 q180 h183 _ hf) (cwI 0 X.ht (good_wM inM q_68) rfl rfl rfl kn4 kl24 kmX4_init rfl (by decide +kernel) ⟨Nat.le_of_ble_eq_true rfl, Nat.le_of_ble_eq_true rfl⟩) (fun _ z => Or.inr z) rfl (Nat.le_of_ble_eq_true rfl) ⟨Nat.le_of_ble_eq_true rfl, Nat.le_of_ble_eq_true rfl⟩ dX1_init_64 (fun L185 s186 h187 hf X188 => ?_)
  obtain ⟨t189, hf⟩ := hf
  obtain ⟨t190, hf⟩ := hf
  obtain ⟨b192, h191, e_h191, hf⟩ := hf
  refine v_aast_11 (pc := 67) X188 t189 t190 b192 e_h191 dX1_init_67 ?_
  refine v_iinc (pc := 68) X188 0 (v := (4 : Int32)) (lv' := [(1, .int (4 : Int32)), (0, .ref a0)]) dX1_init_68 rfl (by decide) (Nat.le_of_ble_eq_true rfl) rfl ?_
  refine v_goto (pc := 71) X188 50 dX1_init_71 (by decide) ?_
  refine v_iload_n (pc := 50) X188 0 dX1_init_50 rfl rfl ?_
  refine v_iconst (pc := 51) X188 (v := (4 : Int32)) dX1_init_51 (by decide) ?_
  refine v_icmp_ge (pc := 52) X188 74 dX1_init_52 (by decide) (fun _ => ?_) (fun z => absurd (by decide) z)
  exact v_vretN (pc := 74) X188 hr hlk dX1_init_74 hf

def f_X2_init (L : List Nat) (sh : Sh) (a0 : Nat) (h : Hp) (K : List Nat → Sh → Hp → Prop) : Prop :=
  nw L sh h 7 6 fun q1 L2 s3 h4 =>
  ty s3 a0 2 <|
  pR h4 a0 3 q1 fun h7 =>
  nw L2 s3 h7 7 6 fun q8 L9 s10 h11 =>
  ty s10 a0 2 <|
  pR h11 a0 4 q8 fun h14 =>
  nw L9 s10 h14 7 100 fun q15 L16 s17 h18 =>
  ty s17 a0 2 <|
  pR h18 a0 6 q15 fun h21 =>
  nw L16 s17 h21 7 100 fun q22 L23 s24 h25 =>
  ty s24 a0 2 <|
  pR h25 a0 7 q22 fun h28 =>
  nw L23 s24 h28 7 12 fun q29 L30 s31 h32 =>
  ty s31 a0 2 <|
  pR h32 a0 9 q29 fun h35 =>
  nw L30 s31 h35 7 12 fun q36 L37 s38 h39 =>
  ty s38 a0 2 <|
  pR h39 a0 10 q36 fun h42 =>
  nw L37 s38 h42 9 4 fun q43 L44 s45 h46 =>
  ty s45 a0 2 <|
  pR h46 a0 11 q43 fun h49 =>
  gR h49 a0 11 fun q50 =>
  nw L44 s45 h49 1 0 fun q51 L52 s53 h54 =>
  f_X1_init L52 s53 q51 h54 fun L56 s57 h58 =>
  ty s57 q50 9 <|
  ty s57 q51 1 <|
  sR s57 h58 q50 (0 : Int32) q51 fun h62 =>
  ty s57 a0 2 <|
  gR h62 a0 11 fun q65 =>
  nw L56 s57 h62 1 0 fun q66 L67 s68 h69 =>
  f_X1_init L67 s68 q66 h69 fun L71 s72 h73 =>
  ty s72 q65 9 <|
  ty s72 q66 1 <|
  sR s72 h73 q65 (1 : Int32) q66 fun h77 =>
  ty s72 a0 2 <|
  gR h77 a0 11 fun q80 =>
  nw L71 s72 h77 1 0 fun q81 L82 s83 h84 =>
  f_X1_init L82 s83 q81 h84 fun L86 s87 h88 =>
  ty s87 q80 9 <|
  ty s87 q81 1 <|
  sR s87 h88 q80 (2 : Int32) q81 fun h92 =>
  ty s87 a0 2 <|
  gR h92 a0 11 fun q95 =>
  nw L86 s87 h92 1 0 fun q96 L97 s98 h99 =>
  f_X1_init L97 s98 q96 h99 fun L101 s102 h103 =>
  ty s102 q95 9 <|
  ty s102 q96 1 <|
  sR s102 h103 q95 (3 : Int32) q96 fun h107 =>
  K L101 s102 h107

set_option maxHeartbeats 4000000 in
set_option maxRecDepth 100000 in
theorem c_X2_init (l : Launch) (D : va_G) (cA : Nat → ClassId) (L : List Nat) (sh : Sh) (a0 : Nat) (h : Hp) (K : List Nat → Sh → Hp → Prop) (hf : f_X2_init L sh a0 h K) : ∀ sz, Met l yX2_init (wM yX2_init cX2_init 2 none) ({ frames := 3, cells := 83, slots := 676, locals := 61 } : Room) (PreN D cA L sh h sz [.ref a0]) (QA D cA L sz K) 83 676 (fun q => q ∈ L ∨ sz ≤ q) := by
  intro sz
  refine met_n (cc := cX2_init) (nL := 2) [(0, .ref a0)] (by decide) rfl rfl (Nat.le_of_ble_eq_true rfl) rfl ?_
  intro p e s m below meth c X hr hlk hmn
  have ko := X.ht _ (inM _ q_21)
  have koi := X.ht _ (inM _ q_14)
  have koc := X.ht _ (inM _ q_15)
  have ka := X.ht _ (inM _ q_62)
  have k9 := X.ht _ (inM _ q_122)
  have k15 := X.ht _ (inM _ q_124)
  have k18 := X.ht _ (inM _ q_128)
  have k21 := X.ht _ (inM _ q_129)
  have k24 := X.ht _ (inM _ q_132)
  have k27 := X.ht _ (inM _ q_134)
  have kc30 := X.ht _ (inM _ q_22)
  have k32 := X.ht _ (inM _ q_136)
  have ki1 := X.ht _ (inM _ q_24)
  have kn1 := X.ht _ (inM _ q_3)
  have kmX1_init := X.ht _ (inM _ q_26)
  have kl36 := X.ht _ (inM _ q_25)
  unfold f_X2_init at hf
  refine v_aload_n (pc := 0) X 0 dX2_init_0 rfl rfl ?_
  refine v_objInit (pc := 1) X ko koi koc (Nat.le_of_ble_eq_true rfl) (Nat.le_of_ble_eq_true rfl) dX2_init_1 ?_
  refine v_aload_n (pc := 4) X 0 dX2_init_4 rfl rfl ?_
  refine v_bipush (pc := 5) X (v := (6 : Int32)) dX2_init_5 (by decide) ?_
  refine v_newa (pc := 7) X (N := 6) ka (fun _ z => Or.inr z) (by decide) (by decide) (Nat.le_of_ble_eq_true rfl) (Nat.le_of_ble_eq_true rfl) (Nat.le_of_ble_eq_true rfl) dX2_init_7 (fun q1 nq X5 => ?_)
  replace hf := hf q1 _ _ _ nq rfl rfl rfl
  obtain ⟨h4, e_h4⟩ : ∃ z, z = hz h q1 := ⟨_, rfl⟩
  rw [← e_h4] at hf ⊢
  obtain ⟨L2, e_L2⟩ : ∃ z, z = L ++ [q1] := ⟨_, rfl⟩
  rw [← e_L2] at hf X5 ⊢
  obtain ⟨s3, e_s3⟩ : ∃ z, z = va_up sh q1 (7, 6) := ⟨_, rfl⟩
  rw [← e_s3] at hf X5 ⊢
  obtain ⟨t6, hf⟩ := hf
  obtain ⟨h7, e_h7, hf⟩ := hf
  refine puF_2_3 (pc := 9) X5 (fun w h => inM w (inG2 w h)) k9 hmn rfl t6 e_h7 dX2_init_9 ?_
  refine v_aload_n (pc := 12) X5 0 dX2_init_12 rfl rfl ?_
  refine v_bipush (pc := 13) X5 (v := (6 : Int32)) dX2_init_13 (by decide) ?_
  refine v_newa (pc := 15) X5 (N := 6) ka (fun _ z => Or.inr z) (by decide) (by decide) (Nat.le_of_ble_eq_true rfl) (Nat.le_of_ble_eq_true rfl) (Nat.le_of_ble_eq_true rfl) dX2_init_15 (fun q8 nq X12 => ?_)
  replace hf := hf q8 _ _ _ nq rfl rfl rfl
  obtain ⟨h11, e_h11⟩ : ∃ z, z = hz h7 q8 := ⟨_, rfl⟩
  rw [← e_h11] at hf ⊢
  obtain ⟨L9, e_L9⟩ : ∃ z, z = L2 ++ [q8] := ⟨_, rfl⟩
  rw [← e_L9] at hf X12 ⊢
  obtain ⟨s10, e_s10⟩ : ∃ z, z = va_up s3 q8 (7, 6) := ⟨_, rfl⟩
  rw [← e_s10] at hf X12 ⊢
  obtain ⟨t13, hf⟩ := hf
  obtain ⟨h14, e_h14, hf⟩ := hf
  refine puF_2_4 (pc := 17) X12 (fun w h => inM w (inG2 w h)) k15 hmn rfl t13 e_h14 dX2_init_17 ?_
  refine v_aload_n (pc := 20) X12 0 dX2_init_20 rfl rfl ?_
  refine v_bipush (pc := 21) X12 (v := (100 : Int32)) dX2_init_21 (by decide) ?_
  refine v_newa (pc := 23) X12 (N := 100) ka (fun _ z => Or.inr z) (by decide) (by decide) (Nat.le_of_ble_eq_true rfl) (Nat.le_of_ble_eq_true rfl) (Nat.le_of_ble_eq_true rfl) dX2_init_23 (fun q15 nq X19 => ?_)
  replace hf := hf q15 _ _ _ nq rfl rfl rfl
  obtain ⟨h18, e_h18⟩ : ∃ z, z = hz h14 q15 := ⟨_, rfl⟩
  rw [← e_h18] at hf ⊢
  obtain ⟨L16, e_L16⟩ : ∃ z, z = L9 ++ [q15] := ⟨_, rfl⟩
  rw [← e_L16] at hf X19 ⊢
  obtain ⟨s17, e_s17⟩ : ∃ z, z = va_up s10 q15 (7, 100) := ⟨_, rfl⟩
  rw [← e_s17] at hf X19 ⊢
  obtain ⟨t20, hf⟩ := hf
  obtain ⟨h21, e_h21, hf⟩ := hf
  refine puF_2_6 (pc := 25) X19 (fun w h => inM w (inG2 w h)) k18 hmn rfl t20 e_h21 dX2_init_25 ?_
  refine v_aload_n (pc := 28) X19 0 dX2_init_28 rfl rfl ?_
  refine v_bipush (pc := 29) X19 (v := (100 : Int32)) dX2_init_29 (by decide) ?_
  refine v_newa (pc := 31) X19 (N := 100) ka (fun _ z => Or.inr z) (by decide) (by decide) (Nat.le_of_ble_eq_true rfl) (Nat.le_of_ble_eq_true rfl) (Nat.le_of_ble_eq_true rfl) dX2_init_31 (fun q22 nq X26 => ?_)
  replace hf := hf q22 _ _ _ nq rfl rfl rfl
  obtain ⟨h25, e_h25⟩ : ∃ z, z = hz h21 q22 := ⟨_, rfl⟩
  rw [← e_h25] at hf ⊢
  obtain ⟨L23, e_L23⟩ : ∃ z, z = L16 ++ [q22] := ⟨_, rfl⟩
  rw [← e_L23] at hf X26 ⊢
  obtain ⟨s24, e_s24⟩ : ∃ z, z = va_up s17 q22 (7, 100) := ⟨_, rfl⟩
  rw [← e_s24] at hf X26 ⊢
  obtain ⟨t27, hf⟩ := hf
  obtain ⟨h28, e_h28, hf⟩ := hf
  refine puF_2_7 (pc := 33) X26 (fun w h => inM w (inG2 w h)) k21 hmn rfl t27 e_h28 dX2_init_33 ?_
  refine v_aload_n (pc := 36) X26 0 dX2_init_36 rfl rfl ?_
  refine v_bipush (pc := 37) X26 (v := (12 : Int32)) dX2_init_37 (by decide) ?_
  refine v_newa (pc := 39) X26 (N := 12) ka (fun _ z => Or.inr z) (by decide) (by decide) (Nat.le_of_ble_eq_true rfl) (Nat.le_of_ble_eq_true rfl) (Nat.le_of_ble_eq_true rfl) dX2_init_39 (fun q29 nq X33 => ?_)
  replace hf := hf q29 _ _ _ nq rfl rfl rfl
  obtain ⟨h32, e_h32⟩ : ∃ z, z = hz h28 q29 := ⟨_, rfl⟩
  rw [← e_h32] at hf ⊢
  obtain ⟨L30, e_L30⟩ : ∃ z, z = L23 ++ [q29] := ⟨_, rfl⟩
  rw [← e_L30] at hf X33 ⊢
  obtain ⟨s31, e_s31⟩ : ∃ z, z = va_up s24 q29 (7, 12) := ⟨_, rfl⟩
  rw [← e_s31] at hf X33 ⊢
  obtain ⟨t34, hf⟩ := hf
  obtain ⟨h35, e_h35, hf⟩ := hf
  refine puF_2_9 (pc := 41) X33 (fun w h => inM w (inG2 w h)) k24 hmn rfl t34 e_h35 dX2_init_41 ?_
  refine v_aload_n (pc := 44) X33 0 dX2_init_44 rfl rfl ?_
  refine v_bipush (pc := 45) X33 (v := (12 : Int32)) dX2_init_45 (by decide) ?_
  refine v_newa (pc := 47) X33 (N := 12) ka (fun _ z => Or.inr z) (by decide) (by decide) (Nat.le_of_ble_eq_true rfl) (Nat.le_of_ble_eq_true rfl) (Nat.le_of_ble_eq_true rfl) dX2_init_47 (fun q36 nq X40 => ?_)
  replace hf := hf q36 _ _ _ nq rfl rfl rfl
  obtain ⟨h39, e_h39⟩ : ∃ z, z = hz h35 q36 := ⟨_, rfl⟩
  rw [← e_h39] at hf ⊢
  obtain ⟨L37, e_L37⟩ : ∃ z, z = L30 ++ [q36] := ⟨_, rfl⟩
  rw [← e_L37] at hf X40 ⊢
  obtain ⟨s38, e_s38⟩ : ∃ z, z = va_up s31 q36 (7, 12) := ⟨_, rfl⟩
  rw [← e_s38] at hf X40 ⊢
  obtain ⟨t41, hf⟩ := hf
  obtain ⟨h42, e_h42, hf⟩ := hf
  refine puF_2_10 (pc := 49) X40 (fun w h => inM w (inG2 w h)) k27 hmn rfl t41 e_h42 dX2_init_49 ?_
  refine v_aload_n (pc := 52) X40 0 dX2_init_52 rfl rfl ?_
  refine v_iconst (pc := 53) X40 (v := (4 : Int32)) dX2_init_53 (by decide) ?_
  refine v_newq_9 (pc := 54) X40 (N := 4) kc30 (fun _ z => Or.inr z) (by decide) (by decide) (Nat.le_of_ble_eq_true rfl) (Nat.le_of_ble_eq_true rfl) (Nat.le_of_ble_eq_true rfl) dX2_init_54 (fun q43 nq X47 => ?_)
  replace hf := hf q43 _ _ _ nq rfl rfl rfl
  obtain ⟨h46, e_h46⟩ : ∃ z, z = hz h42 q43 := ⟨_, rfl⟩
  rw [← e_h46] at hf ⊢
  obtain ⟨L44, e_L44⟩ : ∃ z, z = L37 ++ [q43] := ⟨_, rfl⟩
  rw [← e_L44] at hf X47 ⊢
  obtain ⟨s45, e_s45⟩ : ∃ z, z = va_up s38 q43 (9, 4) := ⟨_, rfl⟩
  rw [← e_s45] at hf X47 ⊢
  obtain ⟨t48, hf⟩ := hf
  obtain ⟨h49, e_h49, hf⟩ := hf
  refine puF_2_11 (pc := 57) X47 (fun w h => inM w (inG2 w h)) k32 hmn rfl t48 e_h49 dX2_init_57 ?_
  refine v_iconst (pc := 60) X47 (v := (0 : Int32)) dX2_init_60 (by decide) ?_
  refine v_istore_n (pc := 61) X47 (i := 1) (lv' := [(1, .int (0 : Int32)), (0, .ref a0)]) dX2_init_61 rfl (Nat.le_of_ble_eq_true rfl) rfl ?_
  refine v_iload_n (pc := 62) X47 0 dX2_init_62 rfl rfl ?_
  refine v_iconst (pc := 63) X47 (v := (4 : Int32)) dX2_init_63 (by decide) ?_
  refine v_icmp_ge (pc := 64) X47 86 dX2_init_64 (by decide) (fun z => absurd z (by decide)) (fun _ => ?_)
  refine v_aload_n (pc := 67) X47 1 dX2_init_67 rfl rfl ?_
  obtain ⟨q50, e_q50, hf⟩ := hf
  refine ge_2_11 (pc := 68) X47 (fun w h => inM w (inG2 w h)) k32 t48 e_q50 dX2_init_68 ?_
  refine v_iload_n (pc := 71) X47 0 dX2_init_71 rfl rfl ?_
  refine v_new_1 (pc := 72) X47 (fun w h => inM w (inG1 w h)) kc30 ki1 kn1 (fun _ z => Or.inr z) (Nat.le_of_ble_eq_true rfl) (Nat.le_of_ble_eq_true rfl) dX2_init_72 (fun q51 nq X55 => ?_)
  replace hf := hf q51 _ _ _ nq rfl rfl rfl
  obtain ⟨h54, e_h54⟩ : ∃ z, z = hz h49 q51 := ⟨_, rfl⟩
  rw [← e_h54] at hf ⊢
  obtain ⟨L52, e_L52⟩ : ∃ z, z = L44 ++ [q51] := ⟨_, rfl⟩
  rw [← e_L52] at hf X55 ⊢
  obtain ⟨s53, e_s53⟩ : ∃ z, z = va_up s45 q51 (1, 0) := ⟨_, rfl⟩
  rw [← e_s53] at hf X55 ⊢
  refine v_dup (pc := 75) X55 dX2_init_75 rfl ?_
  refine v_callI (pc := 76) X55 (rest := [.ref q51, .int (0 : Int32), .ref q50]) (c_X1_init l D cA L52 s53 q51 h54 _ hf) (cwI 0 X.ht (good_wM inM q_27) rfl rfl rfl kn1 kl36 kmX1_init rfl (by decide +kernel) ⟨Nat.le_of_ble_eq_true rfl, Nat.le_of_ble_eq_true rfl⟩) (fun _ z => Or.inr z) rfl (Nat.le_of_ble_eq_true rfl) ⟨Nat.le_of_ble_eq_true rfl, Nat.le_of_ble_eq_true rfl⟩ dX2_init_76 (fun L56 s57 h58 hf X59 => ?_)
  obtain ⟨t60, hf⟩ := hf
  obtain ⟨t61, hf⟩ := hf
  obtain ⟨b63, h62, e_h62, hf⟩ := hf
  refine v_aast_9 (pc := 79) X59 t60 t61 b63 e_h62 dX2_init_79 ?_
  refine v_iinc (pc := 80) X59 0 (v := (1 : Int32)) (lv' := [(1, .int (1 : Int32)), (0, .ref a0)]) dX2_init_80 rfl (by decide) (Nat.le_of_ble_eq_true rfl) rfl ?_
  refine v_goto (pc := 83) X59 62 dX2_init_83 (by decide) ?_
  refine v_iload_n (pc := 62) X59 0 dX2_init_62 rfl rfl ?_
  refine v_iconst (pc := 63) X59 (v := (4 : Int32)) dX2_init_63 (by decide) ?_
  refine v_icmp_ge (pc := 64) X59 86 dX2_init_64 (by decide) (fun z => absurd z (by decide)) (fun _ => ?_)
  refine v_aload_n (pc := 67) X59 1 dX2_init_67 rfl rfl ?_
  obtain ⟨t64, hf⟩ := hf
  obtain ⟨q65, e_q65, hf⟩ := hf
  refine ge_2_11 (pc := 68) X59 (fun w h => inM w (inG2 w h)) k32 t64 e_q65 dX2_init_68 ?_
  refine v_iload_n (pc := 71) X59 0 dX2_init_71 rfl rfl ?_
  refine v_new_1 (pc := 72) X59 (fun w h => inM w (inG1 w h)) kc30 ki1 kn1 (fun _ z => Or.inr z) (Nat.le_of_ble_eq_true rfl) (Nat.le_of_ble_eq_true rfl) dX2_init_72 (fun q66 nq X70 => ?_)
  replace hf := hf q66 _ _ _ nq rfl rfl rfl
  obtain ⟨h69, e_h69⟩ : ∃ z, z = hz h62 q66 := ⟨_, rfl⟩
  rw [← e_h69] at hf ⊢
  obtain ⟨L67, e_L67⟩ : ∃ z, z = L56 ++ [q66] := ⟨_, rfl⟩
  rw [← e_L67] at hf X70 ⊢
  obtain ⟨s68, e_s68⟩ : ∃ z, z = va_up s57 q66 (1, 0) := ⟨_, rfl⟩
  rw [← e_s68] at hf X70 ⊢
  refine v_dup (pc := 75) X70 dX2_init_75 rfl ?_
  refine v_callI (pc := 76) X70 (rest := [.ref q66, .int (1 : Int32), .ref q65]) (c_X1_init l D cA L67 s68 q66 h69 _ hf) (cwI 0 X.ht (good_wM inM q_27) rfl rfl rfl kn1 kl36 kmX1_init rfl (by decide +kernel) ⟨Nat.le_of_ble_eq_true rfl, Nat.le_of_ble_eq_true rfl⟩) (fun _ z => Or.inr z) rfl (Nat.le_of_ble_eq_true rfl) ⟨Nat.le_of_ble_eq_true rfl, Nat.le_of_ble_eq_true rfl⟩ dX2_init_76 (fun L71 s72 h73 hf X74 => ?_)
  obtain ⟨t75, hf⟩ := hf
  obtain ⟨t76, hf⟩ := hf
  obtain ⟨b78, h77, e_h77, hf⟩ := hf
  refine v_aast_9 (pc := 79) X74 t75 t76 b78 e_h77 dX2_init_79 ?_
  refine v_iinc (pc := 80) X74 0 (v := (2 : Int32)) (lv' := [(1, .int (2 : Int32)), (0, .ref a0)]) dX2_init_80 rfl (by decide) (Nat.le_of_ble_eq_true rfl) rfl ?_
  refine v_goto (pc := 83) X74 62 dX2_init_83 (by decide) ?_
  refine v_iload_n (pc := 62) X74 0 dX2_init_62 rfl rfl ?_
  refine v_iconst (pc := 63) X74 (v := (4 : Int32)) dX2_init_63 (by decide) ?_
  refine v_icmp_ge (pc := 64) X74 86 dX2_init_64 (by decide) (fun z => absurd z (by decide)) (fun _ => ?_)
  refine v_aload_n (pc := 67) X74 1 dX2_init_67 rfl rfl ?_
  obtain ⟨t79, hf⟩ := hf
  obtain ⟨q80, e_q80, hf⟩ := hf
  refine ge_2_11 (pc := 68) X74 (fun w h => inM w (inG2 w h)) k32 t79 e_q80 dX2_init_68 ?_
  refine v_iload_n (pc := 71) X74 0 dX2_init_71 rfl rfl ?_
  refine v_new_1 (pc := 72) X74 (fun w h => inM w (inG1 w h)) kc30 ki1 kn1 (fun _ z => Or.inr z) (Nat.le_of_ble_eq_true rfl) (Nat.le_of_ble_eq_true rfl) dX2_init_72 (fun q81 nq X85 => ?_)
  replace hf := hf q81 _ _ _ nq rfl rfl rfl
  obtain ⟨h84, e_h84⟩ : ∃ z, z = hz h77 q81 := ⟨_, rfl⟩
  rw [← e_h84] at hf ⊢
  obtain ⟨L82, e_L82⟩ : ∃ z, z = L71 ++ [q81] := ⟨_, rfl⟩
  rw [← e_L82] at hf X85 ⊢
  obtain ⟨s83, e_s83⟩ : ∃ z, z = va_up s72 q81 (1, 0) := ⟨_, rfl⟩
  rw [← e_s83] at hf X85 ⊢
  refine v_dup (pc := 75) X85 dX2_init_75 rfl ?_
  refine v_callI (pc := 76) X85 (rest := [.ref q81, .int (2 : Int32), .ref q80]) (c_X1_init l D cA L82 s83 q81 h84 _ hf) (cwI 0 X.ht (good_wM inM q_27) rfl rfl rfl kn1 kl36 kmX1_init rfl (by decide +kernel) ⟨Nat.le_of_ble_eq_true rfl, Nat.le_of_ble_eq_true rfl⟩) (fun _ z => Or.inr z) rfl (Nat.le_of_ble_eq_true rfl) ⟨Nat.le_of_ble_eq_true rfl, Nat.le_of_ble_eq_true rfl⟩ dX2_init_76 (fun L86 s87 h88 hf X89 => ?_)
  obtain ⟨t90, hf⟩ := hf
  obtain ⟨t91, hf⟩ := hf
  obtain ⟨b93, h92, e_h92, hf⟩ := hf
  refine v_aast_9 (pc := 79) X89 t90 t91 b93 e_h92 dX2_init_79 ?_
  refine v_iinc (pc := 80) X89 0 (v := (3 : Int32)) (lv' := [(1, .int (3 : Int32)), (0, .ref a0)]) dX2_init_80 rfl (by decide) (Nat.le_of_ble_eq_true rfl) rfl ?_
  refine v_goto (pc := 83) X89 62 dX2_init_83 (by decide) ?_
  refine v_iload_n (pc := 62) X89 0 dX2_init_62 rfl rfl ?_
  refine v_iconst (pc := 63) X89 (v := (4 : Int32)) dX2_init_63 (by decide) ?_
  refine v_icmp_ge (pc := 64) X89 86 dX2_init_64 (by decide) (fun z => absurd z (by decide)) (fun _ => ?_)
  refine v_aload_n (pc := 67) X89 1 dX2_init_67 rfl rfl ?_
  obtain ⟨t94, hf⟩ := hf
  obtain ⟨q95, e_q95, hf⟩ := hf
  refine ge_2_11 (pc := 68) X89 (fun w h => inM w (inG2 w h)) k32 t94 e_q95 dX2_init_68 ?_
  refine v_iload_n (pc := 71) X89 0 dX2_init_71 rfl rfl ?_
  refine v_new_1 (pc := 72) X89 (fun w h => inM w (inG1 w h)) kc30 ki1 kn1 (fun _ z => Or.inr z) (Nat.le_of_ble_eq_true rfl) (Nat.le_of_ble_eq_true rfl) dX2_init_72 (fun q96 nq X100 => ?_)
  replace hf := hf q96 _ _ _ nq rfl rfl rfl
  obtain ⟨h99, e_h99⟩ : ∃ z, z = hz h92 q96 := ⟨_, rfl⟩
  rw [← e_h99] at hf ⊢
  obtain ⟨L97, e_L97⟩ : ∃ z, z = L86 ++ [q96] := ⟨_, rfl⟩
  rw [← e_L97] at hf X100 ⊢
  obtain ⟨s98, e_s98⟩ : ∃ z, z = va_up s87 q96 (1, 0) := ⟨_, rfl⟩
  rw [← e_s98] at hf X100 ⊢
  refine v_dup (pc := 75) X100 dX2_init_75 rfl ?_
  refine v_callI (pc := 76) X100 (rest := [.ref q96, .int (3 : Int32), .ref q95]) (c_X1_init l D cA L97 s98 q96 h99 _ hf) (cwI 0 X.ht (good_wM inM q_27) rfl rfl rfl kn1 kl36 kmX1_init rfl (by decide +kernel) ⟨Nat.le_of_ble_eq_true rfl, Nat.le_of_ble_eq_true rfl⟩) (fun _ z => Or.inr z) rfl (Nat.le_of_ble_eq_true rfl) ⟨Nat.le_of_ble_eq_true rfl, Nat.le_of_ble_eq_true rfl⟩ dX2_init_76 (fun L101 s102 h103 hf X104 => ?_)
  obtain ⟨t105, hf⟩ := hf
  obtain ⟨t106, hf⟩ := hf
  obtain ⟨b108, h107, e_h107, hf⟩ := hf
  refine v_aast_9 (pc := 79) X104 t105 t106 b108 e_h107 dX2_init_79 ?_
  refine v_iinc (pc := 80) X104 0 (v := (4 : Int32)) (lv' := [(1, .int (4 : Int32)), (0, .ref a0)]) dX2_init_80 rfl (by decide) (Nat.le_of_ble_eq_true rfl) rfl ?_
  refine v_goto (pc := 83) X104 62 dX2_init_83 (by decide) ?_
  refine v_iload_n (pc := 62) X104 0 dX2_init_62 rfl rfl ?_
  refine v_iconst (pc := 63) X104 (v := (4 : Int32)) dX2_init_63 (by decide) ?_
  refine v_icmp_ge (pc := 64) X104 86 dX2_init_64 (by decide) (fun _ => ?_) (fun z => absurd (by decide) z)
  exact v_vretN (pc := 86) X104 hr hlk dX2_init_86 hf

def f_X5_init (L : List Nat) (sh : Sh) (a0 : Nat) (h : Hp) (K : List Nat → Sh → Hp → Prop) : Prop :=
  nw L sh h 2 0 fun q1 L2 s3 h4 =>
  f_X2_init L2 s3 q1 h4 fun L6 s7 h8 =>
  ty s7 a0 5 <|
  pR h8 a0 0 q1 fun h11 =>
  gR h11 a0 0 fun q12 =>
  ty s7 q12 2 <|
  f_X2_clear s7 q12 h11 fun h14 =>
  nw L6 s7 h14 2 0 fun q15 L16 s17 h18 =>
  f_X2_init L16 s17 q15 h18 fun L20 s21 h22 =>
  ty s21 a0 5 <|
  pR h22 a0 1 q15 fun h25 =>
  nw L20 s21 h25 2 0 fun q26 L27 s28 h29 =>
  f_X2_init L27 s28 q26 h29 fun L31 s32 h33 =>
  ty s32 a0 5 <|
  pR h33 a0 2 q26 fun h36 =>
  pI h36 a0 3 (0 : Int32) fun h37 =>
  nw L31 s32 h37 10 4 fun q38 L39 s40 h41 =>
  ty s40 a0 5 <|
  pR h41 a0 4 q38 fun h44 =>
  gR h44 a0 4 fun q45 =>
  nw L39 s40 h44 2 0 fun q46 L47 s48 h49 =>
  f_X2_init L47 s48 q46 h49 fun L51 s52 h53 =>
  ty s52 q45 10 <|
  ty s52 q46 2 <|
  sR s52 h53 q45 (0 : Int32) q46 fun h57 =>
  ty s52 a0 5 <|
  gR h57 a0 4 fun q60 =>
  nw L51 s52 h57 2 0 fun q61 L62 s63 h64 =>
  f_X2_init L62 s63 q61 h64 fun L66 s67 h68 =>
  ty s67 q60 10 <|
  ty s67 q61 2 <|
  sR s67 h68 q60 (1 : Int32) q61 fun h72 =>
  ty s67 a0 5 <|
  gR h72 a0 4 fun q75 =>
  nw L66 s67 h72 2 0 fun q76 L77 s78 h79 =>
  f_X2_init L77 s78 q76 h79 fun L81 s82 h83 =>
  ty s82 q75 10 <|
  ty s82 q76 2 <|
  sR s82 h83 q75 (2 : Int32) q76 fun h87 =>
  ty s82 a0 5 <|
  gR h87 a0 4 fun q90 =>
  nw L81 s82 h87 2 0 fun q91 L92 s93 h94 =>
  f_X2_init L92 s93 q91 h94 fun L96 s97 h98 =>
  ty s97 q90 10 <|
  ty s97 q91 2 <|
  sR s97 h98 q90 (3 : Int32) q91 fun h102 =>
  ty s97 a0 5 <|
  pI h102 a0 5 (0 : Int32) fun h105 =>
  nw L96 s97 h105 3 0 fun q106 L107 s108 h109 =>
  f_X3_init L107 s108 q106 h109 fun L111 s112 h113 =>
  ty s112 a0 5 <|
  pR h113 a0 6 q106 fun h116 =>
  pI h116 a0 7 (0 : Int32) fun h117 =>
  pI h117 a0 8 (0 : Int32) fun h118 =>
  pI h118 a0 9 (0 : Int32) fun h119 =>
  K L111 s112 h119

set_option maxHeartbeats 4000000 in
set_option maxRecDepth 100000 in
theorem c_X5_init (l : Launch) (D : va_G) (cA : Nat → ClassId) (L : List Nat) (sh : Sh) (a0 : Nat) (h : Hp) (K : List Nat → Sh → Hp → Prop) (hf : f_X5_init L sh a0 h K) : ∀ sz, Met l yX5_init (wM yX5_init cX5_init 2 none) ({ frames := 4, cells := 591, slots := 4886, locals := 82 } : Room) (PreN D cA L sh h sz [.ref a0]) (QA D cA L sz K) 591 4886 (fun q => q ∈ L ∨ sz ≤ q) := by
  intro sz
  refine met_n (cc := cX5_init) (nL := 2) [(0, .ref a0)] (by decide) rfl rfl (Nat.le_of_ble_eq_true rfl) rfl ?_
  intro p e s m below meth c X hr hlk hmn
  have ko := X.ht _ (inM _ q_13)
  have koi := X.ht _ (inM _ q_14)
  have koc := X.ht _ (inM _ q_15)
  have kc7 := X.ht _ (inM _ q_16)
  have ki2 := X.ht _ (inM _ q_17)
  have kn2 := X.ht _ (inM _ q_2)
  have kmX2_init := X.ht _ (inM _ q_19)
  have kl9 := X.ht _ (inM _ q_18)
  have k10 := X.ht _ (inM _ q_173)
  have k19 := X.ht _ (inM _ q_174)
  have k22 := X.ht _ (inM _ q_175)
  have k25 := X.ht _ (inM _ q_176)
  have k29 := X.ht _ (inM _ q_177)
  have k33 := X.ht _ (inM _ q_178)
  have kc37 := X.ht _ (inM _ q_159)
  have ki3 := X.ht _ (inM _ q_160)
  have kn3 := X.ht _ (inM _ q_6)
  have kmX3_init := X.ht _ (inM _ q_162)
  have kl39 := X.ht _ (inM _ q_161)
  have k40 := X.ht _ (inM _ q_179)
  have k44 := X.ht _ (inM _ q_180)
  have k47 := X.ht _ (inM _ q_181)
  have k50 := X.ht _ (inM _ q_182)
  unfold f_X5_init at hf
  refine v_aload_n (pc := 0) X 0 dX5_init_0 rfl rfl ?_
  refine v_objInit (pc := 1) X ko koi koc (Nat.le_of_ble_eq_true rfl) (Nat.le_of_ble_eq_true rfl) dX5_init_1 ?_
  refine v_aload_n (pc := 4) X 0 dX5_init_4 rfl rfl ?_
  refine v_new_2 (pc := 5) X (fun w h => inM w (inG2 w h)) kc7 ki2 kn2 (fun _ z => Or.inr z) (Nat.le_of_ble_eq_true rfl) (Nat.le_of_ble_eq_true rfl) dX5_init_5 (fun q1 nq X5 => ?_)
  replace hf := hf q1 _ _ _ nq rfl rfl rfl
  obtain ⟨h4, e_h4⟩ : ∃ z, z = hz h q1 := ⟨_, rfl⟩
  rw [← e_h4] at hf ⊢
  obtain ⟨L2, e_L2⟩ : ∃ z, z = L ++ [q1] := ⟨_, rfl⟩
  rw [← e_L2] at hf X5 ⊢
  obtain ⟨s3, e_s3⟩ : ∃ z, z = va_up sh q1 (2, 0) := ⟨_, rfl⟩
  rw [← e_s3] at hf X5 ⊢
  refine v_dup (pc := 8) X5 dX5_init_8 rfl ?_
  refine v_callI (pc := 9) X5 (rest := [.ref q1, .ref a0]) (c_X2_init l D cA L2 s3 q1 h4 _ hf) (cwI 0 X.ht (good_wM inM q_20) rfl rfl rfl kn2 kl9 kmX2_init rfl (by decide +kernel) ⟨Nat.le_of_ble_eq_true rfl, Nat.le_of_ble_eq_true rfl⟩) (fun _ z => Or.inr z) rfl (Nat.le_of_ble_eq_true rfl) ⟨Nat.le_of_ble_eq_true rfl, Nat.le_of_ble_eq_true rfl⟩ dX5_init_9 (fun L6 s7 h8 hf X9 => ?_)
  obtain ⟨t10, hf⟩ := hf
  obtain ⟨h11, e_h11, hf⟩ := hf
  refine pu_5_0 (pc := 12) X9 (fun w h => inM w (inG5 w h)) k10 t10 e_h11 dX5_init_12 ?_
  refine v_aload_n (pc := 15) X9 0 dX5_init_15 rfl rfl ?_
  obtain ⟨q12, e_q12, hf⟩ := hf
  refine ge_5_0 (pc := 16) X9 (fun w h => inM w (inG5 w h)) k10 t10 e_q12 dX5_init_16 ?_
  obtain ⟨t13, hf⟩ := hf
  refine v_callVV (pc := 19) X9 (As := []) (rest := []) (c_X2_clear l D cA L6 s7 q12 h11 _ hf) (cwV 0 X.ht (gwV inM q_150 q_151 q_152 q_2 q_153) rfl rfl rfl (by decide +kernel) ⟨Nat.le_of_ble_eq_true rfl, Nat.le_of_ble_eq_true rfl⟩) rfl (by decide) t13 (ent_2 t13) rfl rfl (Nat.le_of_ble_eq_true rfl) ⟨Nat.le_of_ble_eq_true rfl, Nat.le_of_ble_eq_true rfl⟩ dX5_init_19 (fun h14 hf => ?_)
  refine v_aload_n (pc := 22) X9 0 dX5_init_22 rfl rfl ?_
  refine v_new_2 (pc := 23) X9 (fun w h => inM w (inG2 w h)) kc7 ki2 kn2 (fun _ z => Or.inr z) (Nat.le_of_ble_eq_true rfl) (Nat.le_of_ble_eq_true rfl) dX5_init_23 (fun q15 nq X19 => ?_)
  replace hf := hf q15 _ _ _ nq rfl rfl rfl
  obtain ⟨h18, e_h18⟩ : ∃ z, z = hz h14 q15 := ⟨_, rfl⟩
  rw [← e_h18] at hf ⊢
  obtain ⟨L16, e_L16⟩ : ∃ z, z = L6 ++ [q15] := ⟨_, rfl⟩
  rw [← e_L16] at hf X19 ⊢
  obtain ⟨s17, e_s17⟩ : ∃ z, z = va_up s7 q15 (2, 0) := ⟨_, rfl⟩
  rw [← e_s17] at hf X19 ⊢
  refine v_dup (pc := 26) X19 dX5_init_26 rfl ?_
  refine v_callI (pc := 27) X19 (rest := [.ref q15, .ref a0]) (c_X2_init l D cA L16 s17 q15 h18 _ hf) (cwI 0 X.ht (good_wM inM q_20) rfl rfl rfl kn2 kl9 kmX2_init rfl (by decide +kernel) ⟨Nat.le_of_ble_eq_true rfl, Nat.le_of_ble_eq_true rfl⟩) (fun _ z => Or.inr z) rfl (Nat.le_of_ble_eq_true rfl) ⟨Nat.le_of_ble_eq_true rfl, Nat.le_of_ble_eq_true rfl⟩ dX5_init_27 (fun L20 s21 h22 hf X23 => ?_)
  obtain ⟨t24, hf⟩ := hf
  obtain ⟨h25, e_h25, hf⟩ := hf
  refine pu_5_1 (pc := 30) X23 (fun w h => inM w (inG5 w h)) k19 t24 e_h25 dX5_init_30 ?_
  refine v_aload_n (pc := 33) X23 0 dX5_init_33 rfl rfl ?_
  refine v_new_2 (pc := 34) X23 (fun w h => inM w (inG2 w h)) kc7 ki2 kn2 (fun _ z => Or.inr z) (Nat.le_of_ble_eq_true rfl) (Nat.le_of_ble_eq_true rfl) dX5_init_34 (fun q26 nq X30 => ?_)
  replace hf := hf q26 _ _ _ nq rfl rfl rfl
  obtain ⟨h29, e_h29⟩ : ∃ z, z = hz h25 q26 := ⟨_, rfl⟩
  rw [← e_h29] at hf ⊢
  obtain ⟨L27, e_L27⟩ : ∃ z, z = L20 ++ [q26] := ⟨_, rfl⟩
  rw [← e_L27] at hf X30 ⊢
  obtain ⟨s28, e_s28⟩ : ∃ z, z = va_up s21 q26 (2, 0) := ⟨_, rfl⟩
  rw [← e_s28] at hf X30 ⊢
  refine v_dup (pc := 37) X30 dX5_init_37 rfl ?_
  refine v_callI (pc := 38) X30 (rest := [.ref q26, .ref a0]) (c_X2_init l D cA L27 s28 q26 h29 _ hf) (cwI 0 X.ht (good_wM inM q_20) rfl rfl rfl kn2 kl9 kmX2_init rfl (by decide +kernel) ⟨Nat.le_of_ble_eq_true rfl, Nat.le_of_ble_eq_true rfl⟩) (fun _ z => Or.inr z) rfl (Nat.le_of_ble_eq_true rfl) ⟨Nat.le_of_ble_eq_true rfl, Nat.le_of_ble_eq_true rfl⟩ dX5_init_38 (fun L31 s32 h33 hf X34 => ?_)
  obtain ⟨t35, hf⟩ := hf
  obtain ⟨h36, e_h36, hf⟩ := hf
  refine puF_5_2 (pc := 41) X34 (fun w h => inM w (inG5 w h)) k22 hmn rfl t35 e_h36 dX5_init_41 ?_
  refine v_aload_n (pc := 44) X34 0 dX5_init_44 rfl rfl ?_
  refine v_iconst (pc := 45) X34 (v := (0 : Int32)) dX5_init_45 (by decide) ?_
  obtain ⟨h37, e_h37, hf⟩ := hf
  refine pu_5_3 (pc := 46) X34 (fun w h => inM w (inG5 w h)) k25 t35 (by decide) e_h37 dX5_init_46 ?_
  refine v_aload_n (pc := 49) X34 0 dX5_init_49 rfl rfl ?_
  refine v_iconst (pc := 50) X34 (v := (4 : Int32)) dX5_init_50 (by decide) ?_
  refine v_newq_10 (pc := 51) X34 (N := 4) kc7 (fun _ z => Or.inr z) (by decide) (by decide) (Nat.le_of_ble_eq_true rfl) (Nat.le_of_ble_eq_true rfl) (Nat.le_of_ble_eq_true rfl) dX5_init_51 (fun q38 nq X42 => ?_)
  replace hf := hf q38 _ _ _ nq rfl rfl rfl
  obtain ⟨h41, e_h41⟩ : ∃ z, z = hz h37 q38 := ⟨_, rfl⟩
  rw [← e_h41] at hf ⊢
  obtain ⟨L39, e_L39⟩ : ∃ z, z = L31 ++ [q38] := ⟨_, rfl⟩
  rw [← e_L39] at hf X42 ⊢
  obtain ⟨s40, e_s40⟩ : ∃ z, z = va_up s32 q38 (10, 4) := ⟨_, rfl⟩
  rw [← e_s40] at hf X42 ⊢
  obtain ⟨t43, hf⟩ := hf
  obtain ⟨h44, e_h44, hf⟩ := hf
  refine puF_5_4 (pc := 54) X42 (fun w h => inM w (inG5 w h)) k29 hmn rfl t43 e_h44 dX5_init_54 ?_
  refine v_iconst (pc := 57) X42 (v := (0 : Int32)) dX5_init_57 (by decide) ?_
  refine v_istore_n (pc := 58) X42 (i := 1) (lv' := [(1, .int (0 : Int32)), (0, .ref a0)]) dX5_init_58 rfl (Nat.le_of_ble_eq_true rfl) rfl ?_
  refine v_iload_n (pc := 59) X42 0 dX5_init_59 rfl rfl ?_
  refine v_iconst (pc := 60) X42 (v := (4 : Int32)) dX5_init_60 (by decide) ?_
  refine v_icmp_ge (pc := 61) X42 83 dX5_init_61 (by decide) (fun z => absurd z (by decide)) (fun _ => ?_)
  refine v_aload_n (pc := 64) X42 1 dX5_init_64 rfl rfl ?_
  obtain ⟨q45, e_q45, hf⟩ := hf
  refine ge_5_4 (pc := 65) X42 (fun w h => inM w (inG5 w h)) k29 t43 e_q45 dX5_init_65 ?_
  refine v_iload_n (pc := 68) X42 0 dX5_init_68 rfl rfl ?_
  refine v_new_2 (pc := 69) X42 (fun w h => inM w (inG2 w h)) kc7 ki2 kn2 (fun _ z => Or.inr z) (Nat.le_of_ble_eq_true rfl) (Nat.le_of_ble_eq_true rfl) dX5_init_69 (fun q46 nq X50 => ?_)
  replace hf := hf q46 _ _ _ nq rfl rfl rfl
  obtain ⟨h49, e_h49⟩ : ∃ z, z = hz h44 q46 := ⟨_, rfl⟩
  rw [← e_h49] at hf ⊢
  obtain ⟨L47, e_L47⟩ : ∃ z, z = L39 ++ [q46] := ⟨_, rfl⟩
  rw [← e_L47] at hf X50 ⊢
  obtain ⟨s48, e_s48⟩ : ∃ z, z = va_up s40 q46 (2, 0) := ⟨_, rfl⟩
  rw [← e_s48] at hf X50 ⊢
  refine v_dup (pc := 72) X50 dX5_init_72 rfl ?_
  refine v_callI (pc := 73) X50 (rest := [.ref q46, .int (0 : Int32), .ref q45]) (c_X2_init l D cA L47 s48 q46 h49 _ hf) (cwI 0 X.ht (good_wM inM q_20) rfl rfl rfl kn2 kl9 kmX2_init rfl (by decide +kernel) ⟨Nat.le_of_ble_eq_true rfl, Nat.le_of_ble_eq_true rfl⟩) (fun _ z => Or.inr z) rfl (Nat.le_of_ble_eq_true rfl) ⟨Nat.le_of_ble_eq_true rfl, Nat.le_of_ble_eq_true rfl⟩ dX5_init_73 (fun L51 s52 h53 hf X54 => ?_)
  obtain ⟨t55, hf⟩ := hf
  obtain ⟨t56, hf⟩ := hf
  obtain ⟨b58, h57, e_h57, hf⟩ := hf
  refine v_aast_10 (pc := 76) X54 t55 t56 b58 e_h57 dX5_init_76 ?_
  refine v_iinc (pc := 77) X54 0 (v := (1 : Int32)) (lv' := [(1, .int (1 : Int32)), (0, .ref a0)]) dX5_init_77 rfl (by decide) (Nat.le_of_ble_eq_true rfl) rfl ?_
  refine v_goto (pc := 80) X54 59 dX5_init_80 (by decide) ?_
  refine v_iload_n (pc := 59) X54 0 dX5_init_59 rfl rfl ?_
  refine v_iconst (pc := 60) X54 (v := (4 : Int32)) dX5_init_60 (by decide) ?_
  refine v_icmp_ge (pc := 61) X54 83 dX5_init_61 (by decide) (fun z => absurd z (by decide)) (fun _ => ?_)
  refine v_aload_n (pc := 64) X54 1 dX5_init_64 rfl rfl ?_
  obtain ⟨t59, hf⟩ := hf
  obtain ⟨q60, e_q60, hf⟩ := hf
  refine ge_5_4 (pc := 65) X54 (fun w h => inM w (inG5 w h)) k29 t59 e_q60 dX5_init_65 ?_
  refine v_iload_n (pc := 68) X54 0 dX5_init_68 rfl rfl ?_
  refine v_new_2 (pc := 69) X54 (fun w h => inM w (inG2 w h)) kc7 ki2 kn2 (fun _ z => Or.inr z) (Nat.le_of_ble_eq_true rfl) (Nat.le_of_ble_eq_true rfl) dX5_init_69 (fun q61 nq X65 => ?_)
  replace hf := hf q61 _ _ _ nq rfl rfl rfl
  obtain ⟨h64, e_h64⟩ : ∃ z, z = hz h57 q61 := ⟨_, rfl⟩
  rw [← e_h64] at hf ⊢
  obtain ⟨L62, e_L62⟩ : ∃ z, z = L51 ++ [q61] := ⟨_, rfl⟩
  rw [← e_L62] at hf X65 ⊢
  obtain ⟨s63, e_s63⟩ : ∃ z, z = va_up s52 q61 (2, 0) := ⟨_, rfl⟩
  rw [← e_s63] at hf X65 ⊢
  refine v_dup (pc := 72) X65 dX5_init_72 rfl ?_
  refine v_callI (pc := 73) X65 (rest := [.ref q61, .int (1 : Int32), .ref q60]) (c_X2_init l D cA L62 s63 q61 h64 _ hf) (cwI 0 X.ht (good_wM inM q_20) rfl rfl rfl kn2 kl9 kmX2_init rfl (by decide +kernel) ⟨Nat.le_of_ble_eq_true rfl, Nat.le_of_ble_eq_true rfl⟩) (fun _ z => Or.inr z) rfl (Nat.le_of_ble_eq_true rfl) ⟨Nat.le_of_ble_eq_true rfl, Nat.le_of_ble_eq_true rfl⟩ dX5_init_73 (fun L66 s67 h68 hf X69 => ?_)
  obtain ⟨t70, hf⟩ := hf
  obtain ⟨t71, hf⟩ := hf
  obtain ⟨b73, h72, e_h72, hf⟩ := hf
  refine v_aast_10 (pc := 76) X69 t70 t71 b73 e_h72 dX5_init_76 ?_
  refine v_iinc (pc := 77) X69 0 (v := (2 : Int32)) (lv' := [(1, .int (2 : Int32)), (0, .ref a0)]) dX5_init_77 rfl (by decide) (Nat.le_of_ble_eq_true rfl) rfl ?_
  refine v_goto (pc := 80) X69 59 dX5_init_80 (by decide) ?_
  refine v_iload_n (pc := 59) X69 0 dX5_init_59 rfl rfl ?_
  refine v_iconst (pc := 60) X69 (v := (4 : Int32)) dX5_init_60 (by decide) ?_
  refine v_icmp_ge (pc := 61) X69 83 dX5_init_61 (by decide) (fun z => absurd z (by decide)) (fun _ => ?_)
  refine v_aload_n (pc := 64) X69 1 dX5_init_64 rfl rfl ?_
  obtain ⟨t74, hf⟩ := hf
  obtain ⟨q75, e_q75, hf⟩ := hf
  refine ge_5_4 (pc := 65) X69 (fun w h => inM w (inG5 w h)) k29 t74 e_q75 dX5_init_65 ?_
  refine v_iload_n (pc := 68) X69 0 dX5_init_68 rfl rfl ?_
  refine v_new_2 (pc := 69) X69 (fun w h => inM w (inG2 w h)) kc7 ki2 kn2 (fun _ z => Or.inr z) (Nat.le_of_ble_eq_true rfl) (Nat.le_of_ble_eq_true rfl) dX5_init_69 (fun q76 nq X80 => ?_)
  replace hf := hf q76 _ _ _ nq rfl rfl rfl
  obtain ⟨h79, e_h79⟩ : ∃ z, z = hz h72 q76 := ⟨_, rfl⟩
  rw [← e_h79] at hf ⊢
  obtain ⟨L77, e_L77⟩ : ∃ z, z = L66 ++ [q76] := ⟨_, rfl⟩
  rw [← e_L77] at hf X80 ⊢
  obtain ⟨s78, e_s78⟩ : ∃ z, z = va_up s67 q76 (2, 0) := ⟨_, rfl⟩
  rw [← e_s78] at hf X80 ⊢
  refine v_dup (pc := 72) X80 dX5_init_72 rfl ?_
  refine v_callI (pc := 73) X80 (rest := [.ref q76, .int (2 : Int32), .ref q75]) (c_X2_init l D cA L77 s78 q76 h79 _ hf) (cwI 0 X.ht (good_wM inM q_20) rfl rfl rfl kn2 kl9 kmX2_init rfl (by decide +kernel) ⟨Nat.le_of_ble_eq_true rfl, Nat.le_of_ble_eq_true rfl⟩) (fun _ z => Or.inr z) rfl (Nat.le_of_ble_eq_true rfl) ⟨Nat.le_of_ble_eq_true rfl, Nat.le_of_ble_eq_true rfl⟩ dX5_init_73 (fun L81 s82 h83 hf X84 => ?_)
  obtain ⟨t85, hf⟩ := hf
  obtain ⟨t86, hf⟩ := hf
  obtain ⟨b88, h87, e_h87, hf⟩ := hf
  refine v_aast_10 (pc := 76) X84 t85 t86 b88 e_h87 dX5_init_76 ?_
  refine v_iinc (pc := 77) X84 0 (v := (3 : Int32)) (lv' := [(1, .int (3 : Int32)), (0, .ref a0)]) dX5_init_77 rfl (by decide) (Nat.le_of_ble_eq_true rfl) rfl ?_
  refine v_goto (pc := 80) X84 59 dX5_init_80 (by decide) ?_
  refine v_iload_n (pc := 59) X84 0 dX5_init_59 rfl rfl ?_
  refine v_iconst (pc := 60) X84 (v := (4 : Int32)) dX5_init_60 (by decide) ?_
  refine v_icmp_ge (pc := 61) X84 83 dX5_init_61 (by decide) (fun z => absurd z (by decide)) (fun _ => ?_)
  refine v_aload_n (pc := 64) X84 1 dX5_init_64 rfl rfl ?_
  obtain ⟨t89, hf⟩ := hf
  obtain ⟨q90, e_q90, hf⟩ := hf
  refine ge_5_4 (pc := 65) X84 (fun w h => inM w (inG5 w h)) k29 t89 e_q90 dX5_init_65 ?_
  refine v_iload_n (pc := 68) X84 0 dX5_init_68 rfl rfl ?_
  refine v_new_2 (pc := 69) X84 (fun w h => inM w (inG2 w h)) kc7 ki2 kn2 (fun _ z => Or.inr z) (Nat.le_of_ble_eq_true rfl) (Nat.le_of_ble_eq_true rfl) dX5_init_69 (fun q91 nq X95 => ?_)
  replace hf := hf q91 _ _ _ nq rfl rfl rfl
  obtain ⟨h94, e_h94⟩ : ∃ z, z = hz h87 q91 := ⟨_, rfl⟩
  rw [← e_h94] at hf ⊢
  obtain ⟨L92, e_L92⟩ : ∃ z, z = L81 ++ [q91] := ⟨_, rfl⟩
  rw [← e_L92] at hf X95 ⊢
  obtain ⟨s93, e_s93⟩ : ∃ z, z = va_up s82 q91 (2, 0) := ⟨_, rfl⟩
  rw [← e_s93] at hf X95 ⊢
  refine v_dup (pc := 72) X95 dX5_init_72 rfl ?_
  refine v_callI (pc := 73) X95 (rest := [.ref q91, .int (3 : Int32), .ref q90]) (c_X2_init l D cA L92 s93 q91 h94 _ hf) (cwI 0 X.ht (good_wM inM q_20) rfl rfl rfl kn2 kl9 kmX2_init rfl (by decide +kernel) ⟨Nat.le_of_ble_eq_true rfl, Nat.le_of_ble_eq_true rfl⟩) (fun _ z => Or.inr z) rfl (Nat.le_of_ble_eq_true rfl) ⟨Nat.le_of_ble_eq_true rfl, Nat.le_of_ble_eq_true rfl⟩ dX5_init_73 (fun L96 s97 h98 hf X99 => ?_)
  obtain ⟨t100, hf⟩ := hf
  obtain ⟨t101, hf⟩ := hf
  obtain ⟨b103, h102, e_h102, hf⟩ := hf
  refine v_aast_10 (pc := 76) X99 t100 t101 b103 e_h102 dX5_init_76 ?_
  refine v_iinc (pc := 77) X99 0 (v := (4 : Int32)) (lv' := [(1, .int (4 : Int32)), (0, .ref a0)]) dX5_init_77 rfl (by decide) (Nat.le_of_ble_eq_true rfl) rfl ?_
  refine v_goto (pc := 80) X99 59 dX5_init_80 (by decide) ?_
  refine v_iload_n (pc := 59) X99 0 dX5_init_59 rfl rfl ?_
  refine v_iconst (pc := 60) X99 (v := (4 : Int32)) dX5_init_60 (by decide) ?_
  refine v_icmp_ge (pc := 61) X99 83 dX5_init_61 (by decide) (fun _ => ?_) (fun z => absurd (by decide) z)
  refine v_aload_n (pc := 83) X99 1 dX5_init_83 rfl rfl ?_
  refine v_iconst (pc := 84) X99 (v := (0 : Int32)) dX5_init_84 (by decide) ?_
  obtain ⟨t104, hf⟩ := hf
  obtain ⟨h105, e_h105, hf⟩ := hf
  refine pu_5_5 (pc := 85) X99 (fun w h => inM w (inG5 w h)) k33 t104 e_h105 dX5_init_85 ?_
  refine v_aload_n (pc := 88) X99 1 dX5_init_88 rfl rfl ?_
  refine v_new_3 (pc := 89) X99 (fun w h => inM w (inG3 w h)) kc37 ki3 kn3 (fun _ z => Or.inr z) (Nat.le_of_ble_eq_true rfl) (Nat.le_of_ble_eq_true rfl) dX5_init_89 (fun q106 nq X110 => ?_)
  replace hf := hf q106 _ _ _ nq rfl rfl rfl
  obtain ⟨h109, e_h109⟩ : ∃ z, z = hz h105 q106 := ⟨_, rfl⟩
  rw [← e_h109] at hf ⊢
  obtain ⟨L107, e_L107⟩ : ∃ z, z = L96 ++ [q106] := ⟨_, rfl⟩
  rw [← e_L107] at hf X110 ⊢
  obtain ⟨s108, e_s108⟩ : ∃ z, z = va_up s97 q106 (3, 0) := ⟨_, rfl⟩
  rw [← e_s108] at hf X110 ⊢
  refine v_dup (pc := 92) X110 dX5_init_92 rfl ?_
  refine v_callI (pc := 93) X110 (rest := [.ref q106, .ref a0]) (c_X3_init l D cA L107 s108 q106 h109 _ hf) (cwI 0 X.ht (good_wM inM q_163) rfl rfl rfl kn3 kl39 kmX3_init rfl (by decide +kernel) ⟨Nat.le_of_ble_eq_true rfl, Nat.le_of_ble_eq_true rfl⟩) (fun _ z => Or.inr z) rfl (Nat.le_of_ble_eq_true rfl) ⟨Nat.le_of_ble_eq_true rfl, Nat.le_of_ble_eq_true rfl⟩ dX5_init_93 (fun L111 s112 h113 hf X114 => ?_)
  obtain ⟨t115, hf⟩ := hf
  obtain ⟨h116, e_h116, hf⟩ := hf
  refine puF_5_6 (pc := 96) X114 (fun w h => inM w (inG5 w h)) k40 hmn rfl t115 e_h116 dX5_init_96 ?_
  refine v_aload_n (pc := 99) X114 1 dX5_init_99 rfl rfl ?_
  refine v_iconst (pc := 100) X114 (v := (0 : Int32)) dX5_init_100 (by decide) ?_
  obtain ⟨h117, e_h117, hf⟩ := hf
  refine pu_5_7 (pc := 101) X114 (fun w h => inM w (inG5 w h)) k44 t115 e_h117 dX5_init_101 ?_
  refine v_aload_n (pc := 104) X114 1 dX5_init_104 rfl rfl ?_
  refine v_iconst (pc := 105) X114 (v := (0 : Int32)) dX5_init_105 (by decide) ?_
  obtain ⟨h118, e_h118, hf⟩ := hf
  refine pu_5_8 (pc := 106) X114 (fun w h => inM w (inG5 w h)) k47 t115 e_h118 dX5_init_106 ?_
  refine v_aload_n (pc := 109) X114 1 dX5_init_109 rfl rfl ?_
  refine v_iconst (pc := 110) X114 (v := (0 : Int32)) dX5_init_110 (by decide) ?_
  obtain ⟨h119, e_h119, hf⟩ := hf
  refine pu_5_9 (pc := 111) X114 (fun w h => inM w (inG5 w h)) k50 t115 e_h119 dX5_init_111 ?_
  exact v_vretN (pc := 114) X114 hr hlk dX5_init_114 hf

/-! the constructor of the class -/
/-- the states: that at 1 cleared, others at bs in order -/
def CB (L : List Nat) (bs : List Nat) (W : Slots) (Lr : Ring) (sh : Sh) (h : Hp) : Prop := L.Nodup ∧ (85 ≤ L.length ∧ TK sh (ex L) 1 ∧ CT h (ex L) 1 0 g00 S00 W Lr) ∧ ∀ B ∈ bs, B + 84 ≤ L.length ∧ TK sh (ex L) B ∧ TG h (ex L) B
/-- the object itself -/
def OF (L : List Nat) (a0 : Nat) (sh : Sh) (h : Hp) (rs : List (Nat × Nat)) (zs : List Nat) : Prop := 1 ≤ L.length ∧ ex L 0 = a0 ∧ (sh a0).1 = 5 ∧ (∀ r ∈ rs, r.2 < L.length ∧ gr h a0 r.1 = some (ex L r.2)) ∧ ∀ k ∈ zs, gi h a0 k = 0
def b0 : Nat → Nat := fun i => match i with | 0 => 1 | 1 => 85 | 2 => 254 | 3 => 338 | 4 => 422 | _ => 506
/-- the row of the history, its first j states made -/
def HF (L : List Nat) (sh : Sh) (h : Hp) (j : Nat) : Prop := 254 ≤ L.length ∧ sh (ex L 253) = (10, 4) ∧ ∀ i, i < j → gr h (ex L 253) i = some (ex L (b0 (2 + i)))
section YE
variable {L M bs : List Nat} {W : Slots} {Lr : Ring} {sh sh' sh'' : Sh} {h h' h'' : Hp} {B n p a0 j k f : Nat} {rs : List (Nat × Nat)} {zs : List Nat}
theorem SM_new (fr : Fr M sh h sh' h') (hN : (L ++ M).Nodup) (hB : B + n ≤ L.length) : SM n (ex L) B sh h (ex (L ++ M)) B sh' h' := fun j hj => by
  have hlt : B + j < L.length := by omega
  obtain ⟨o1, o2, o3⟩ := fr _ (nd_x hN (ex_mem hlt))
  exact ⟨ex_app1 hlt, o1, o2, o3⟩
theorem SM_own (hN : L.Nodup) (fr : Fr [ex L p] sh h sh' h') (hp : p < B ∨ B + n ≤ p) : SM n (ex L) B sh h (ex L) B sh' h' := fun j hj => by
  have ne : ex L (B + j) ∉ [ex L p] := fun z => by
    have := ex_inj hN _ _ (List.mem_singleton.mp z)
    omega
  obtain ⟨o1, o2, o3⟩ := fr _ ne
  exact ⟨rfl, o1, o2, o3⟩
theorem CB_new (c : CB L bs W Lr sh h) (fr : Fr M sh h sh' h') (hN : (L ++ M).Nodup) : CB (L ++ M) bs W Lr sh' h' := by
  obtain ⟨c1, ⟨c2, c3, c4⟩, c5⟩ := c
  refine ⟨hN, ⟨by rw [List.length_append]; omega, TK_SM (SM_new fr hN (by omega)) c3, CT_SM (SM_new fr hN (by omega)) c4⟩, fun B hB => ?_⟩
  obtain ⟨d1, d2, d3⟩ := c5 B hB
  exact ⟨by rw [List.length_append]; omega, TK_SM (SM_new fr hN d1) d2, TG_SM (SM_new fr hN d1) d3⟩
theorem CB_own (c : CB L bs W Lr sh h) (fr : Fr [ex L p] sh h sh' h') (hp : p < 1 ∨ 85 ≤ p) (hb : ∀ B ∈ bs, p < B ∨ B + 84 ≤ p) : CB L bs W Lr sh' h' := by
  obtain ⟨c1, ⟨c2, c3, c4⟩, c5⟩ := c
  refine ⟨c1, ⟨c2, TK_SM (SM_own c1 fr (by omega)) c3, CT_SM (SM_own c1 fr (by omega)) c4⟩, fun B hB => ?_⟩
  obtain ⟨d1, d2, d3⟩ := c5 B hB
  exact ⟨d1, TK_SM (SM_own c1 fr (hb B hB)) d2, TG_SM (SM_own c1 fr (hb B hB)) d3⟩
theorem SM_app (hl : M.length = n) : SM n (ex M) 0 sh h (ex (L ++ M)) L.length sh h := fun j hj => by
  rw [Nat.zero_add]
  exact ⟨ex_app2 (by omega), rfl, rfl, rfl⟩
theorem CB_addS (c : CB L bs W Lr sh h) (fr : Fr M sh h sh' h') (hN : (L ++ M).Nodup) (hl : M.length = 84) (t1 : TK sh' (ex M) 0) (t2 : TG h' (ex M) 0) : CB (L ++ M) (L.length :: bs) W Lr sh' h' := by
  obtain ⟨c1, c2, c3⟩ := CB_new c fr hN
  refine ⟨c1, c2, fun B hB => ?_⟩
  rcases List.mem_cons.mp hB with z | z
  · subst z
    exact ⟨by rw [List.length_append]; omega, TK_SM (SM_app (sh := sh') (h := h') hl) t1, TG_SM (SM_app (sh := sh') (h := h') hl) t2⟩
  · exact c3 B z
theorem OF_new (o : OF L a0 sh h rs zs) (fr : Fr M sh h sh' h') (hN : (L ++ M).Nodup) : OF (L ++ M) a0 sh' h' rs zs := by
  obtain ⟨o1, o2, o3, o4, o5⟩ := o
  obtain ⟨e1, e2, e3⟩ := fr a0 (by rw [← o2]; exact nd_x hN (ex_mem (by omega)))
  refine ⟨by rw [List.length_append]; omega, by rw [ex_app1 (by omega)]; exact o2, by rw [e1]; exact o3, fun r hr => ?_, fun k hk => ?_⟩
  · obtain ⟨q1, q2⟩ := o4 r hr
    rw [ex_app1 q1]
    exact ⟨by rw [List.length_append]; omega, by show h'.2 a0 _ = _; rw [e3]; exact q2⟩
  · show h'.1 a0 k = _; rw [e2]; exact o5 k hk
theorem OF_oth (o : OF L a0 sh h rs zs) (hN : L.Nodup) (fr : Fr [ex L p] sh h sh' h') (hp : p ≠ 0) : OF L a0 sh' h' rs zs := by
  obtain ⟨o1, o2, o3, o4, o5⟩ := o
  obtain ⟨e1, e2, e3⟩ := fr a0 (fun z => hp ((ex_inj hN) _ _ (by rw [o2]; exact (List.mem_singleton.mp z).symm)))
  refine ⟨o1, o2, by rw [e1]; exact o3, fun r hr => ⟨(o4 r hr).1, ?_⟩, fun k hk => ?_⟩
  · show h'.2 a0 _ = _; rw [e3]; exact (o4 r hr).2
  · show h'.1 a0 k = _; rw [e2]; exact o5 k hk
theorem OF_r (o : OF L a0 sh h rs zs) (hp : p < L.length) (hf : ∀ r ∈ rs, r.1 ≠ f) : OF L a0 sh (sr h a0 f (some (ex L p))) ((f, p) :: rs) zs := by
  obtain ⟨o1, o2, o3, o4, o5⟩ := o
  refine ⟨o1, o2, o3, fun r hr => ?_, o5⟩
  rw [sr_at]
  rcases List.mem_cons.mp hr with z | z
  · subst z
    rw [if_pos rfl]; exact ⟨hp, rfl⟩
  · rw [if_neg (hf r z)]; exact o4 r z
theorem OF_i (o : OF L a0 sh h rs zs) : OF L a0 sh (si h a0 k 0) rs (k :: zs) := by
  obtain ⟨o1, o2, o3, o4, o5⟩ := o
  refine ⟨o1, o2, o3, o4, fun g hg => ?_⟩
  by_cases c : g = k
  · subst c; rw [gi_si]
  · rw [gi_si_k c]
    rcases List.mem_cons.mp hg with z | z
    · exact absurd z c
    · exact o5 g z
theorem HF_new (o : HF L sh h j) (fr : Fr M sh h sh' h') (hN : (L ++ M).Nodup) (hl : ∀ i, i < j → b0 (2 + i) < L.length) : HF (L ++ M) sh' h' j := by
  obtain ⟨o1, o2, o3⟩ := o
  obtain ⟨e1, e2, e3⟩ := fr (ex L 253) (nd_x hN (ex_mem (by omega)))
  refine ⟨by rw [List.length_append]; omega, by rw [ex_app1 (by omega), e1]; exact o2, fun i hi => ?_⟩
  rw [ex_app1 (by omega), ex_app1 (hl i hi)]
  show h'.2 _ i = _; rw [e3]; exact o3 i hi
theorem HF_oth (o : HF L sh h j) (hN : L.Nodup) (fr : Fr [ex L p] sh h sh' h') (hp : p ≠ 253) : HF L sh' h' j := by
  obtain ⟨o1, o2, o3⟩ := o
  obtain ⟨e1, e2, e3⟩ := fr (ex L 253) (fun z => hp ((ex_inj hN) _ _ (List.mem_singleton.mp z)).symm)
  refine ⟨o1, by rw [e1]; exact o2, fun i hi => ?_⟩
  show h'.2 _ i = _; rw [e3]; exact o3 i hi
theorem HF_add (o : HF L sh h j) : HF L sh (sr h (ex L 253) j (some (ex L (b0 (2 + j))))) (j + 1) := by
  obtain ⟨o1, o2, o3⟩ := o
  refine ⟨o1, o2, fun i hi => ?_⟩
  rw [sr_at]
  by_cases c : i = j
  · rw [if_pos c, c]
  · rw [if_neg c]; exact o3 i (by omega)
theorem sRl {a q : Nat} {x : Int32} {C : Hp → Prop} (e : x = nI k) (hk : k < (sh a).2) (hn : (sh a).2 < 2 ^ 31) : sR sh h a x q C = C (sr h a k (some q)) := by rw [e]; exact sR_t hk hn
/-- one more state made -/
theorem mkSt (hN : L.Nodup) {C : Nat → List Nat → Sh → Hp → Prop} (hk : ∀ ms sh' h', (L ++ ms).Nodup → ms.length = 84 → TK sh' (ex ms) 0 → TG h' (ex ms) 0 → Fr ms sh h sh' h' → C (ex (L ++ ms) L.length) (L ++ ms) sh' h') :
    nw L sh h 2 0 fun q L2 s h4 => f_X2_init L2 s q h4 fun L6 s7 h8 => C q L6 s7 h8 := by
  refine nw_i (fun q hq => ?_)
  refine k_X2 (nd_app hN hq) (by rw [va_up_self]) (fun ms sh' h' n1 n2 n3 n4 n5 fr => ?_)
  have qm : q ∈ ms := by rw [← n3]; exact ex_mem (by omega)
  have f1 : Fr ms sh h (va_up sh q (2, 0)) (hz h q) := Fr_new.mo (fun a ha => by rw [List.mem_singleton.mp ha]; exact qm)
  have := hk ms sh' h' n1 n2 n4 n5 (f1.tr fr)
  have e : ex (L ++ ms) L.length = q := by
    have := ex_app2 (m := L) (m2 := ms) (k := 0) (by omega)
    rw [Nat.add_zero] at this
    rw [this, n3]
  rw [e] at this
  exact this
/-- the class's object as it is made -/
def XF (L : List Nat) (sh : Sh) (h : Hp) : Prop := L.length = 592 ∧ ∃ W Lr, CB L [506, 422, 338, 254, 169, 85] W Lr sh h ∧ OF L (ex L 0) sh h [(6, 590), (4, 253), (2, 169), (1, 85), (0, 1)] [9, 8, 7, 5, 3] ∧ HF L sh h 4 ∧ ((sh (ex L 590)).1 = 3 ∧ sh (ex L 591) = (7, 60) ∧ gr h (ex L 590) 0 = some (ex L 591) ∧ gi h (ex L 590) 1 = 0) ∧ ∀ n, n < 4 → ∀ j, j < 4 → W n j 0 = -1
theorem k_X5 (hs : (sh a0).1 = 5) {K : List Nat → Sh → Hp → Prop} (hk : ∀ L sh' h', ex L 0 = a0 → XF L sh' h' → K L sh' h') : f_X5_init [a0] sh a0 h K := by
  unfold f_X5_init
  have N0 : [a0].Nodup := by simp
  have O0 : OF [a0] a0 sh h [] [] := ⟨Nat.le_refl _, rfl, hs, fun r hr => absurd hr List.not_mem_nil, fun r hr => absurd hr List.not_mem_nil⟩
  -- the present state, cleared
  refine mkSt N0 (fun m1 s1 h1 N1 l1 T1 G1 F1 => ?_)
  have O1 := OF_new O0 F1 N1
  have L1 : ([a0] ++ m1).length = 85 := by rw [List.length_append, l1]; rfl
  have T1' : TK s1 (ex ([a0] ++ m1)) 1 := TK_SM (SM_app (L := [a0]) (sh := s1) (h := h1) l1) T1
  have G1' : TG h1 (ex ([a0] ++ m1)) 1 := TG_SM (SM_app (L := [a0]) (sh := s1) (h := h1) l1) G1
  show ty s1 a0 5 <| pR h1 a0 0 (ex ([a0] ++ m1) 1) fun h11 => _
  clear O0 N0 F1 T1 G1 l1 hs
  generalize [a0] ++ m1 = La at N1 O1 L1 T1' G1' ⊢
  have iL := ex_inj N1
  rw [ty_t O1.2.2.1, pR_t]
  have O2 := OF_r (f := 0) (p := 1) O1 (by omega) (fun r hr => absurd hr List.not_mem_nil)
  have G2 : TG (sr h1 a0 0 (some (ex La 1))) (ex La) 1 := TG_SM (SM_own (sh := s1) (p := 0) N1 (by rw [O1.2.1]; exact Fr_sr) (by omega)) G1'
  generalize sr h1 a0 0 (some (ex La 1)) = h2 at O2 G2 ⊢
  rw [gR_t (O2.2.2.2.1 (0, 1) List.mem_cons_self).2, ct_t0 T1']
  refine c_clearT T1' iL G2 (fun h3 W Lr hW ct fb => ?_)
  have C3 : CB La [] W Lr s1 h3 := ⟨N1, ⟨by omega, T1', ct⟩, fun B hB => absurd hB List.not_mem_nil⟩
  have O3 : OF La a0 s1 h3 [(0, 1)] [] := by
    obtain ⟨o1, o2, o3, o4, o5⟩ := O2
    have e := fb a0 (fun j hj z => by
      rw [← o2] at z
      have := iL _ _ z
      omega)
    exact ⟨o1, o2, o3, fun r hr => ⟨(o4 r hr).1, (show h3.2 a0 r.1 = h2.2 a0 r.1 by rw [e.2]).trans (o4 r hr).2⟩, fun k hk => absurd hk List.not_mem_nil⟩
  clear O2 G2 fb ct iL O1 G1' T1'
  -- the trial
  refine mkSt N1 (fun m2 s4 h4 N2 l2 T2 G2 F2 => ?_)
  have C4 := CB_addS C3 F2 N2 l2 T2 G2
  have O4 := OF_new O3 F2 N2
  rw [L1] at C4 ⊢
  have L2 : (La ++ m2).length = 169 := by rw [List.length_append]; omega
  clear F2 T2 G2 l2 C3 O3 N1 L1
  generalize La ++ m2 = Lb at N2 C4 O4 L2 ⊢
  rw [ty_t O4.2.2.1, pR_t]
  have O5 := OF_r (f := 1) (p := 85) O4 (by omega) (by decide)
  have C5 : CB Lb [85] W Lr s4 (sr h4 a0 1 (some (ex Lb 85))) := CB_own (p := 0) C4 (by rw [O4.2.1]; exact Fr_sr) (by omega) (by decide)
  generalize sr h4 a0 1 (some (ex Lb 85)) = h5 at O5 C5 ⊢
  clear C4 O4
  -- the snapshot
  refine mkSt N2 (fun m3 s6 h6 N3 l3 T3 G3 F3 => ?_)
  have C6 := CB_addS C5 F3 N3 l3 T3 G3
  have O6 := OF_new O5 F3 N3
  rw [L2] at C6 ⊢
  have L3 : (Lb ++ m3).length = 253 := by rw [List.length_append]; omega
  clear F3 T3 G3 l3 C5 O5 N2 L2
  generalize Lb ++ m3 = Lc at N3 C6 O6 L3 ⊢
  rw [ty_t O6.2.2.1, pR_t, pI_t]
  have O7 := OF_i (k := 3) (OF_r (f := 2) (p := 169) O6 (by omega) (by decide))
  have C7 : CB Lc [169, 85] W Lr s6 (si (sr h6 a0 2 (some (ex Lc 169))) a0 3 0) := CB_own (p := 0) (CB_own (p := 0) (h' := sr h6 a0 2 (some (ex Lc 169))) (sh' := s6) C6 (by rw [O6.2.1]; exact Fr_sr) (by omega) (by decide)) (by rw [O6.2.1]; exact Fr_si) (by omega) (by decide)
  generalize si (sr h6 a0 2 (some (ex Lc 169))) a0 3 0 = h7 at O7 C7 ⊢
  clear C6 O6
  -- the history's row
  refine nw_i (fun w hw => ?_)
  have N4 := nd_app N3 hw
  have C8 := CB_new C7 (Fr_new (kn := (10, 4)) (q := w)) N4
  have O8 := OF_new O7 (Fr_new (kn := (10, 4)) (q := w)) N4
  have L4 : (Lc ++ [w]).length = 254 := by rw [List.length_append, L3]; rfl
  have ew : ex (Lc ++ [w]) 253 = w := by rw [← L3]; exact ex_last
  have sw : (va_up s6 w (10, 4)) (ex (Lc ++ [w]) 253) = (10, 4) := by rw [ew, va_up_self]
  show ty (va_up s6 w (10, 4)) a0 5 <| pR (hz h7 w) a0 4 w fun h44 => _
  rw [show (pR (hz h7 w) a0 4 w) = (pR (hz h7 w) a0 4 (ex (Lc ++ [w]) 253)) by rw [ew]]
  clear ew
  generalize va_up s6 w (10, 4) = s8 at C8 O8 sw ⊢
  generalize hz h7 w = h8 at C8 O8 ⊢
  clear C7 O7 N3 L3 hw
  generalize Lc ++ [w] = Ld at N4 C8 O8 L4 sw ⊢
  rw [ty_t O8.2.2.1, pR_t]
  have O9 := OF_r (f := 4) (p := 253) O8 (by omega) (by decide)
  have C9 : CB Ld [169, 85] W Lr s8 (sr h8 a0 4 (some (ex Ld 253))) := CB_own (p := 0) C8 (by rw [O8.2.1]; exact Fr_sr) (by omega) (by decide)
  have H9 : HF Ld s8 (sr h8 a0 4 (some (ex Ld 253))) 0 := ⟨by omega, sw, fun i hi => by omega⟩
  generalize sr h8 a0 4 (some (ex Ld 253)) = h9 at O9 C9 H9 ⊢
  clear C8 O8 sw
  rw [gR_t (O9.2.2.2.1 (4, 253) (by decide)).2]
  refine mkSt N4 (fun m10 s10 g10 N10 l10 T10 G10 F10 => ?_)
  have X10 := CB_addS C9 F10 N10 l10 T10 G10
  have Y10 := OF_new O9 F10 N10
  have Z10 := HF_new H9 F10 N10 (by rw [L4]; decide)
  have e10 : ex Ld 253 = ex (Ld ++ m10) 253 := (ex_app1 (by omega)).symm
  rw [L4] at X10 ⊢
  rw [e10]
  have K10 : (Ld ++ m10).length = 338 := by rw [List.length_append]; omega
  clear F10 T10 G10 l10 C9 O9 H9 e10 N4 L4
  generalize Ld ++ m10 = L10 at N10 X10 Y10 Z10 K10 ⊢
  rw [ty_t (by rw [Z10.2.1]), ty_t (X10.2.2 254 (by decide)).2.1.1, sRl (k := 0) (x := (0 : Int32)) rfl (by rw [Z10.2.1]; decide) (by rw [Z10.2.1]; decide)]
  have O10 := OF_oth Y10 N10 (Fr_sr (h := g10) (sh := s10) (q := ex L10 253) (k := 0) (v := some (ex L10 254))) (by omega)
  have C10 := CB_own X10 (Fr_sr (h := g10) (sh := s10) (q := ex L10 253) (k := 0) (v := some (ex L10 254))) (by omega) (by decide)
  have H10 := HF_add Z10
  have eb : b0 (2 + 0) = 254 := rfl
  rw [eb] at H10
  clear eb
  generalize sr g10 (ex L10 253) 0 (some (ex L10 254)) = h10 at O10 C10 H10 ⊢
  clear X10 Y10 Z10
  rw [ty_t O10.2.2.1]
  rw [gR_t (O10.2.2.2.1 (4, 253) (by decide)).2]
  refine mkSt N10 (fun m11 s11 g11 N11 l11 T11 G11 F11 => ?_)
  have X11 := CB_addS C10 F11 N11 l11 T11 G11
  have Y11 := OF_new O10 F11 N11
  have Z11 := HF_new H10 F11 N11 (by rw [K10]; decide)
  have e11 : ex L10 253 = ex (L10 ++ m11) 253 := (ex_app1 (by omega)).symm
  rw [K10] at X11 ⊢
  rw [e11]
  have K11 : (L10 ++ m11).length = 422 := by rw [List.length_append]; omega
  clear F11 T11 G11 l11 C10 O10 H10 e11 N10 K10
  generalize L10 ++ m11 = L11 at N11 X11 Y11 Z11 K11 ⊢
  rw [ty_t (by rw [Z11.2.1]), ty_t (X11.2.2 338 (by decide)).2.1.1, sRl (k := 1) (x := (1 : Int32)) rfl (by rw [Z11.2.1]; decide) (by rw [Z11.2.1]; decide)]
  have O11 := OF_oth Y11 N11 (Fr_sr (h := g11) (sh := s11) (q := ex L11 253) (k := 1) (v := some (ex L11 338))) (by omega)
  have C11 := CB_own X11 (Fr_sr (h := g11) (sh := s11) (q := ex L11 253) (k := 1) (v := some (ex L11 338))) (by omega) (by decide)
  have H11 := HF_add Z11
  have eb : b0 (2 + 1) = 338 := rfl
  rw [eb] at H11
  clear eb
  generalize sr g11 (ex L11 253) 1 (some (ex L11 338)) = h11 at O11 C11 H11 ⊢
  clear X11 Y11 Z11
  rw [ty_t O11.2.2.1]
  rw [gR_t (O11.2.2.2.1 (4, 253) (by decide)).2]
  refine mkSt N11 (fun m12 s12 g12 N12 l12 T12 G12 F12 => ?_)
  have X12 := CB_addS C11 F12 N12 l12 T12 G12
  have Y12 := OF_new O11 F12 N12
  have Z12 := HF_new H11 F12 N12 (by rw [K11]; decide)
  have e12 : ex L11 253 = ex (L11 ++ m12) 253 := (ex_app1 (by omega)).symm
  rw [K11] at X12 ⊢
  rw [e12]
  have K12 : (L11 ++ m12).length = 506 := by rw [List.length_append]; omega
  clear F12 T12 G12 l12 C11 O11 H11 e12 N11 K11
  generalize L11 ++ m12 = L12 at N12 X12 Y12 Z12 K12 ⊢
  rw [ty_t (by rw [Z12.2.1]), ty_t (X12.2.2 422 (by decide)).2.1.1, sRl (k := 2) (x := (2 : Int32)) rfl (by rw [Z12.2.1]; decide) (by rw [Z12.2.1]; decide)]
  have O12 := OF_oth Y12 N12 (Fr_sr (h := g12) (sh := s12) (q := ex L12 253) (k := 2) (v := some (ex L12 422))) (by omega)
  have C12 := CB_own X12 (Fr_sr (h := g12) (sh := s12) (q := ex L12 253) (k := 2) (v := some (ex L12 422))) (by omega) (by decide)
  have H12 := HF_add Z12
  have eb : b0 (2 + 2) = 422 := rfl
  rw [eb] at H12
  clear eb
  generalize sr g12 (ex L12 253) 2 (some (ex L12 422)) = h12 at O12 C12 H12 ⊢
  clear X12 Y12 Z12
  rw [ty_t O12.2.2.1]
  rw [gR_t (O12.2.2.2.1 (4, 253) (by decide)).2]
  refine mkSt N12 (fun m13 s13 g13 N13 l13 T13 G13 F13 => ?_)
  have X13 := CB_addS C12 F13 N13 l13 T13 G13
  have Y13 := OF_new O12 F13 N13
  have Z13 := HF_new H12 F13 N13 (by rw [K12]; decide)
  have e13 : ex L12 253 = ex (L12 ++ m13) 253 := (ex_app1 (by omega)).symm
  rw [K12] at X13 ⊢
  rw [e13]
  have K13 : (L12 ++ m13).length = 590 := by rw [List.length_append]; omega
  clear F13 T13 G13 l13 C12 O12 H12 e13 N12 K12
  generalize L12 ++ m13 = L13 at N13 X13 Y13 Z13 K13 ⊢
  rw [ty_t (by rw [Z13.2.1]), ty_t (X13.2.2 506 (by decide)).2.1.1, sRl (k := 3) (x := (3 : Int32)) rfl (by rw [Z13.2.1]; decide) (by rw [Z13.2.1]; decide)]
  have O13 := OF_oth Y13 N13 (Fr_sr (h := g13) (sh := s13) (q := ex L13 253) (k := 3) (v := some (ex L13 506))) (by omega)
  have C13 := CB_own X13 (Fr_sr (h := g13) (sh := s13) (q := ex L13 253) (k := 3) (v := some (ex L13 506))) (by omega) (by decide)
  have H13 := HF_add Z13
  have eb : b0 (2 + 3) = 506 := rfl
  rw [eb] at H13
  clear eb
  generalize sr g13 (ex L13 253) 3 (some (ex L13 506)) = h13 at O13 C13 H13 ⊢
  clear X13 Y13 Z13
  rw [ty_t O13.2.2.1]
  -- the text
  rw [pI_t]
  have O20 := OF_i (k := 5) O13
  have C20 : CB L13 [506, 422, 338, 254, 169, 85] W Lr s13 (si h13 a0 5 0) := CB_own (p := 0) C13 (by rw [O13.2.1]; exact Fr_si) (by omega) (by decide)
  have H20 : HF L13 s13 (si h13 a0 5 0) 4 := HF_oth (p := 0) H13 N13 (by rw [O13.2.1]; exact Fr_si) (by omega)
  generalize si h13 a0 5 0 = h20 at O20 C20 H20 ⊢
  refine nw_i (fun w hw => ?_)
  have N21 := nd_app N13 hw
  refine k_X3 N21 (by rw [va_up_self]) (fun r s22 h22 N22 t1 t2 t3 t4 fr => ?_)
  have f1 : Fr [w, r] s13 h20 (va_up s13 w (3, 0)) (hz h20 w) := Fr_new.mo (fun a ha => by rw [List.mem_singleton.mp ha]; exact List.mem_cons_self)
  have f2 := f1.tr fr
  have C22 := CB_new C20 f2 N22
  have O22 := OF_new O20 f2 N22
  have H22 := HF_new H20 f2 N22 (by rw [K13]; decide)
  have K22 : (L13 ++ [w, r]).length = 592 := by rw [List.length_append, K13]; rfl
  have ew : ex (L13 ++ [w, r]) 590 = w := by
    have := ex_app2 (m := L13) (m2 := [w, r]) (k := 0) (Nat.zero_lt_succ 1)
    rw [K13] at this; exact this
  have er : ex (L13 ++ [w, r]) 591 = r := by
    have := ex_app2 (m := L13) (m2 := [w, r]) (k := 1) (Nat.lt_succ_self 1)
    rw [K13] at this; exact this
  have w1 : gi h22 w 1 = 0 := by show h22.1 w 1 = 0; rw [t4]; exact gi_hz0
  have nw0 : w ≠ a0 := fun z => hw (by rw [z, ← O13.2.1]; exact ex_mem (by omega))
  replace t3 : gr h22 (ex (L13 ++ [w, r]) 590) 0 = some (ex (L13 ++ [w, r]) 591) := by rw [ew, er]; exact t3
  rw [← ew] at t1 w1 nw0
  rw [← er] at t2
  rw [show (pR h22 a0 6 w) = (pR h22 a0 6 (ex (L13 ++ [w, r]) 590)) by rw [ew]]
  clear ew er f1 fr f2 t4 hw N21 C20 O20 H20
  generalize L13 ++ [w, r] = Le at N22 C22 O22 H22 K22 t1 t2 t3 w1 nw0 ⊢
  rw [ty_t O22.2.2.1, pR_t, pI_t, pI_t, pI_t]
  have O23 := OF_i (k := 9) (OF_i (k := 8) (OF_i (k := 7) (OF_r (f := 6) (p := 590) O22 (by omega) (by decide))))
  have fs : ∀ {hh : Hp} {k : Nat}, Fr [ex Le 0] s22 hh s22 (si hh a0 k 0) := by rw [O22.2.1]; exact Fr_si
  have fr0 : ∀ {hh : Hp} {k : Nat} {v : Option Nat}, Fr [ex Le 0] s22 hh s22 (sr hh a0 k v) := by rw [O22.2.1]; exact Fr_sr
  have ff := ((fr0 (hh := h22) (k := 6) (v := some (ex Le 590))).tr (fs (k := 7))).tr ((fs (k := 8)).tr (fs (k := 9)))
  have C23 := CB_own (p := 0) C22 ff (by omega) (by decide)
  have H23 := HF_oth (p := 0) H22 N22 ff (by omega)
  refine hk Le _ _ O22.2.1 ⟨K22, W, Lr, C23, by rw [O22.2.1]; exact O23, H23, ⟨t1, t2, ?_, ?_⟩, hW⟩
  · show (sr h22 a0 6 _).2 _ _ = _
    show va_up h22.2 a0 _ (ex Le 590) 0 = _
    rw [va_up_off nw0]; exact t3
  · show va_up (va_up (va_up h22.1 a0 _) a0 _) a0 _ (ex Le 590) 1 = _
    rw [va_up_off nw0, va_up_off nw0, va_up_off nw0]; exact w1
end YE

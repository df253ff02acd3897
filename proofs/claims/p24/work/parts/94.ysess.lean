/-! the constructors: a place of a statement, the text, a session -/
def Fr (M : List Nat) (sh : Sh) (h : Hp) (sh' : Sh) (h' : Hp) : Prop := ∀ a, a ∉ M → sh' a = sh a ∧ h'.1 a = h.1 a ∧ h'.2 a = h.2 a
section YB
variable {P m M M' : List Nat} {sh sh' sh'' sh0 : Sh} {h h' h'' h0 : Hp} {a q a0 k n j : Nat}
theorem Fr.rf : Fr M sh h sh h := fun _ _ => ⟨rfl, rfl, rfl⟩
theorem Fr.tr (x : Fr M sh h sh' h') (y : Fr M sh' h' sh'' h'') : Fr M sh h sh'' h'' := fun a ha => ⟨(y a ha).1.trans (x a ha).1, (y a ha).2.1.trans (x a ha).2.1, (y a ha).2.2.trans (x a ha).2.2⟩
theorem Fr.mo (x : Fr M sh h sh' h') (y : ∀ a ∈ M, a ∈ M') : Fr M' sh h sh' h' := fun a ha => x a (fun z => ha (y a z))
theorem Fr_new {kn : Nat × Nat} : Fr [q] sh h (va_up sh q kn) (hz h q) := fun a ha => by
  have : a ≠ q := fun z => ha (by rw [z]; exact List.mem_cons_self)
  exact ⟨va_up_off this, va_up_off this, va_up_off this⟩
theorem Fr_sr {v : Option Nat} : Fr [q] sh h sh (sr h q k v) := fun a ha => by
  have : a ≠ q := fun z => ha (by rw [z]; exact List.mem_cons_self)
  exact ⟨rfl, rfl, va_up_off this⟩
theorem Fr_si {v : Int32} : Fr [q] sh h sh (si h q k v) := fun a ha => by
  have : a ≠ q := fun z => ha (by rw [z]; exact List.mem_cons_self)
  exact ⟨rfl, va_up_off this, rfl⟩
theorem gr_hz (e : a ≠ q) : gr (hz h q) a k = gr h a k := by show va_up h.2 q _ a k = _; rw [va_up_off e]; rfl
theorem gi_hz (e : a ≠ q) : gi (hz h q) a k = gi h a k := by show va_up h.1 q _ a k = _; rw [va_up_off e]; rfl
theorem gi_hz0 : gi (hz h q) q k = 0 := by show va_up h.1 q _ q k = _; rw [va_up_self]
theorem nw_i {L : List Nat} {kind n : Nat} {K : Nat → List Nat → Sh → Hp → Prop} (hk : ∀ q, q ∉ L → K q (L ++ [q]) (va_up sh q (kind, n)) (hz h q)) : nw L sh h kind n K := by
  intro q L' sh' h' hq e1 e2 e3
  subst e1; subst e2; subst e3
  exact hk q hq
theorem nd_app (hN : P.Nodup) (hq : q ∉ P) : (P ++ [q]).Nodup := List.nodup_append.mpr ⟨hN, by simp, fun a ha b hb => by
  rw [List.mem_singleton.mp hb]
  exact fun z => hq (z ▸ ha)⟩
theorem nd_r (hN : (P ++ m).Nodup) : m.Nodup := (List.nodup_append.mp hN).2.1
theorem nd_l (hN : (P ++ m).Nodup) : P.Nodup := (List.nodup_append.mp hN).1
theorem nd_x (hN : (P ++ m).Nodup) (hp : a ∈ P) : a ∉ m := fun z => (List.nodup_append.mp hN).2.2 a hp a z rfl
theorem mem_last : a ∈ P ++ [a] := List.mem_append_right _ List.mem_cons_self
theorem k_X4 (hN : (P ++ [a0]).Nodup) (hs : (sh a0).1 = 4) {K : List Nat → Sh → Hp → Prop} (hk : ∀ q sh' h', (P ++ [a0, q]).Nodup → (sh' a0).1 = 4 → sh' q = (7, 6) → gr h' a0 3 = some q → Fr [a0, q] sh h sh' h' → K (P ++ [a0, q]) sh' h') : f_X4_init (P ++ [a0]) sh a0 h K := by
  unfold f_X4_init
  rw [ty_t hs, pI_t]
  refine nw_i (fun q hq => ?_)
  have ne : a0 ≠ q := fun z => hq (by rw [← z]; exact mem_last)
  have hs' : ((va_up sh q (7, 6)) a0).1 = 4 := by rw [va_up_off ne]; exact hs
  have hN' := nd_app hN hq
  rw [ty_t hs', pR_t]
  rw [List.append_assoc] at hN' ⊢
  refine hk q _ _ hN' hs' (va_up_self _ _ _) (by rw [sr_at, if_pos rfl]) ?_
  have f1 : Fr [a0, q] sh h sh (si h a0 0 (-1)) := Fr_si.mo (fun a ha => by rw [List.mem_singleton.mp ha]; exact List.mem_cons_self)
  have f2 : Fr [a0, q] sh (si h a0 0 (-1)) (va_up sh q (7, 6)) (hz (si h a0 0 (-1)) q) := Fr_new.mo (fun a ha => by rw [List.mem_singleton.mp ha]; exact List.mem_cons_of_mem _ List.mem_cons_self)
  have f3 : Fr [a0, q] (va_up sh q (7, 6)) (hz (si h a0 0 (-1)) q) (va_up sh q (7, 6)) (sr (hz (si h a0 0 (-1)) q) a0 3 (some q)) := Fr_sr.mo (fun a ha => by rw [List.mem_singleton.mp ha]; exact List.mem_cons_self)
  exact (f1.tr f2).tr f3
theorem k_X3 (hN : (P ++ [a0]).Nodup) (hs : (sh a0).1 = 3) {K : List Nat → Sh → Hp → Prop} (hk : ∀ q sh' h', (P ++ [a0, q]).Nodup → (sh' a0).1 = 3 → sh' q = (7, 60) → gr h' a0 0 = some q → h'.1 a0 = h.1 a0 → Fr [a0, q] sh h sh' h' → K (P ++ [a0, q]) sh' h') : f_X3_init (P ++ [a0]) sh a0 h K := by
  unfold f_X3_init
  refine nw_i (fun q hq => ?_)
  have ne : a0 ≠ q := fun z => hq (by rw [← z]; exact mem_last)
  have hs' : ((va_up sh q (7, 60)) a0).1 = 3 := by rw [va_up_off ne]; exact hs
  have hN' := nd_app hN hq
  rw [ty_t hs', pR_t]
  rw [List.append_assoc] at hN' ⊢
  refine hk q _ _ hN' hs' (va_up_self _ _ _) (by rw [sr_at, if_pos rfl]) (va_up_off ne) ?_
  have f2 : Fr [a0, q] sh h (va_up sh q (7, 60)) (hz h q) := Fr_new.mo (fun a ha => by rw [List.mem_singleton.mp ha]; exact List.mem_cons_of_mem _ List.mem_cons_self)
  have f3 : Fr [a0, q] (va_up sh q (7, 60)) (hz h q) (va_up sh q (7, 60)) (sr (hz h q) a0 0 (some q)) := Fr_sr.mo (fun a ha => by rw [List.mem_singleton.mp ha]; exact List.mem_cons_self)
  exact f2.tr f3
/-- a session, its first j entries made -/
def EB (P m : List Nat) (a0 : Nat) (sh0 : Sh) (h0 : Hp) (sh : Sh) (h : Hp) (j : Nat) : Prop :=
  (P ++ m).Nodup ∧ m.length = 2 + j ∧ ex m 0 = a0 ∧ (sh a0).1 = 1 ∧ sh (ex m 1) = (8, 8) ∧ gr h a0 7 = some (ex m 1) ∧ (∀ i, i < j → (sh (ex m (2 + i))).1 = 0 ∧ gr h (ex m 1) i = some (ex m (2 + i))) ∧ Fr m sh0 h0 sh h
theorem e_X1 (I : EB P m a0 sh0 h0 sh h j) (hj : j < 8) {C : List Nat → Sh → Hp → Prop} (hk : ∀ q sh' h', EB P (m ++ [q]) a0 sh0 h0 sh' h' (j + 1) → C (P ++ (m ++ [q])) sh' h') :
    gR h a0 7 fun q8 => nw (P ++ m) sh h 0 0 fun q9 L10 s11 h12 => f_X0_init L10 s11 q9 h12 fun L14 s15 h16 => ty s15 q8 8 <| ty s15 q9 0 <| sR s15 h16 q8 (nI j) q9 fun h20 => C L14 s15 h20 := by
  obtain ⟨hN, hl, ea, i1, i2, i3, i4, i5⟩ := I
  have hi := ex_inj (nd_r hN)
  rw [gR_t i3]
  refine nw_i (fun q hq => ?_)
  unfold f_X0_init
  dsimp only
  have hN' := nd_app hN hq
  have ne : ∀ i, i < m.length → ex m i ≠ q := fun i hi z => hq (List.mem_append_right _ (by rw [← z]; exact ex_mem hi))
  have xx : ∀ i, i < m.length → ex (m ++ [q]) i = ex m i := fun i hi => ex_app1 hi
  have xq : ex (m ++ [q]) (2 + j) = q := by rw [← hl]; exact ex_last
  have ne0 : a0 ≠ q := by rw [← ea]; exact ne 0 (by omega)
  have s1 : (va_up sh q (0, 0)) (ex m 1) = (8, 8) := by rw [va_up_off (ne 1 (by omega))]; exact i2
  have s2 : ((va_up sh q (0, 0)) q).1 = 0 := by rw [va_up_self]
  rw [ty_t (by rw [s1]), ty_t s2, sR_t (by rw [s1]; exact hj) (by rw [s1]; decide)]
  rw [List.append_assoc] at hN' ⊢
  have n01 : a0 ≠ ex m 1 := by rw [← ea]; exact fun z => absurd (hi _ _ z) (by omega)
  refine hk q _ _ ⟨hN', by rw [List.length_append, hl]; rfl, by rw [xx 0 (by omega)]; exact ea, by rw [va_up_off ne0]; exact i1, by rw [xx 1 (by omega)]; exact s1, by rw [xx 1 (by omega), sr_off n01, gr_hz ne0]; exact i3, fun i hi' => ?_, ?_⟩
  · rw [xx 1 (by omega)]
    by_cases c : i = j
    · subst c
      rw [xq, sr_at, if_pos rfl]
      exact ⟨s2, rfl⟩
    · rw [xx (2 + i) (by omega), va_up_off (ne (2 + i) (by omega)), sr_at, if_neg c, gr_hz (ne 1 (by omega))]
      exact i4 i (by omega)
  · have f1 : Fr (m ++ [q]) sh0 h0 sh h := i5.mo (fun a ha => List.mem_append_left _ ha)
    have f2 : Fr (m ++ [q]) sh h (va_up sh q (0, 0)) (hz h q) := Fr_new.mo (fun a ha => List.mem_append_right _ ha)
    have f3 : Fr (m ++ [q]) (va_up sh q (0, 0)) (hz h q) (va_up sh q (0, 0)) (sr (hz h q) (ex m 1) j (some q)) := Fr_sr.mo (fun a ha => by rw [List.mem_singleton.mp ha]; exact List.mem_append_left _ (ex_mem (by omega)))
    exact (f1.tr f2).tr f3
/-- a session, its first j places of statements made -/
def WB (P m : List Nat) (a0 : Nat) (sh0 : Sh) (h0 : Hp) (sh : Sh) (h : Hp) (j : Nat) : Prop :=
  (P ++ m).Nodup ∧ m.length = 11 + 2 * j ∧ ex m 0 = a0 ∧ (sh a0).1 = 1 ∧ sh (ex m 1) = (8, 8) ∧ gr h a0 7 = some (ex m 1) ∧ (∀ i, i < 8 → (sh (ex m (2 + i))).1 = 0 ∧ gr h (ex m 1) i = some (ex m (2 + i))) ∧ sh (ex m 10) = (11, 4) ∧ gr h a0 8 = some (ex m 10) ∧ (∀ i, i < j → (sh (ex m (11 + 2 * i))).1 = 4 ∧ sh (ex m (12 + 2 * i)) = (7, 6) ∧ gr h (ex m 10) i = some (ex m (11 + 2 * i)) ∧ gr h (ex m (11 + 2 * i)) 3 = some (ex m (12 + 2 * i))) ∧ Fr m sh0 h0 sh h
theorem w_X1 (I : WB P m a0 sh0 h0 sh h j) (hj : j < 4) {C : List Nat → Sh → Hp → Prop} (hk : ∀ q r sh' h', WB P (m ++ [q, r]) a0 sh0 h0 sh' h' (j + 1) → C (P ++ (m ++ [q, r])) sh' h') :
    gR h a0 8 fun q134 => nw (P ++ m) sh h 4 0 fun q135 L136 s137 h138 => f_X4_init L136 s137 q135 h138 fun L140 s141 h142 => ty s141 q134 11 <| ty s141 q135 4 <| sR s141 h142 q134 (nI j) q135 fun h146 => C L140 s141 h146 := by
  obtain ⟨hN, hl, ea, i1, i2, i3, i4, i6, i7, i8, i5⟩ := I
  have hi := ex_inj (nd_r hN)
  rw [gR_t i7]
  refine nw_i (fun q hq => ?_)
  have hN' := nd_app hN hq
  refine k_X4 hN' (by rw [va_up_self]) (fun r sh' h' hN2 s1 s2 g1 fr => ?_)
  have eL : (P ++ m) ++ [q, r] = P ++ (m ++ [q, r]) := List.append_assoc _ _ _
  rw [eL] at hN2 ⊢
  have nd := nd_r hN2
  have nqr : ∀ i, i < m.length → ex m i ∉ [q, r] := fun i hi' => nd_x nd (ex_mem hi')
  have neq : ∀ i, i < m.length → ex m i ≠ q := fun i hi' z => nqr i hi' (by rw [z]; exact List.mem_cons_self)
  have xx : ∀ i, i < m.length → ex (m ++ [q, r]) i = ex m i := fun i hi => ex_app1 hi
  have xq : ex (m ++ [q, r]) (11 + 2 * j) = q := by
    have := ex_app2 (m := m) (m2 := [q, r]) (k := 0) (Nat.zero_lt_succ 1)
    rw [hl] at this
    rw [show 11 + 2 * j = 11 + 2 * j + 0 from rfl, this]; rfl
  have xr : ex (m ++ [q, r]) (12 + 2 * j) = r := by
    have := ex_app2 (m := m) (m2 := [q, r]) (k := 1) (Nat.lt_succ_self 1)
    rw [hl] at this
    rw [show 12 + 2 * j = 11 + 2 * j + 1 by omega, this]; rfl
  have old : ∀ i, i < m.length → sh' (ex m i) = sh (ex m i) ∧ h'.1 (ex m i) = h.1 (ex m i) ∧ h'.2 (ex m i) = h.2 (ex m i) := fun i hi' => by
    obtain ⟨o1, o2, o3⟩ := fr _ (nqr i hi')
    refine ⟨by rw [o1, va_up_off (neq i hi')], by rw [o2]; exact va_up_off (neq i hi'), by rw [o3]; exact va_up_off (neq i hi')⟩
  have og : ∀ i k, i < m.length → gr h' (ex m i) k = gr h (ex m i) k := fun i k hi' => by show h'.2 _ _ = h.2 _ _; rw [(old i hi').2.2]
  have s10 : sh' (ex m 10) = (11, 4) := by rw [(old 10 (by omega)).1]; exact i6
  rw [ty_t (by rw [s10]), ty_t s1, sR_t (by rw [s10]; exact hj) (by rw [s10]; decide)]
  have oa := old 0 (by omega)
  rw [ea] at oa
  have n : ∀ i, i < m.length → i ≠ 10 → ex m i ≠ ex m 10 := fun i _ h2 z => h2 (hi _ _ z)
  have n0 : a0 ≠ ex m 10 := by rw [← ea]; exact n 0 (by omega) (by omega)
  have nq10 : q ≠ ex m 10 := Ne.symm (neq 10 (by omega))
  refine hk q r _ _ ⟨hN2, by rw [List.length_append, hl, show [q, r].length = 2 from rfl]; omega, by rw [xx 0 (by omega)]; exact ea, by rw [oa.1]; exact i1, by rw [xx 1 (by omega), (old 1 (by omega)).1]; exact i2, ?_, fun i hi' => ?_, by rw [xx 10 (by omega)]; exact s10, ?_, fun i hi' => ?_, ?_⟩
  · rw [xx 1 (by omega), sr_off n0, ← ea, og 0 7 (by omega), ea]; exact i3
  · rw [xx 1 (by omega), xx (2 + i) (by omega), (old (2 + i) (by omega)).1, sr_off (n 1 (by omega) (by omega)), og 1 i (by omega)]; exact i4 i hi'
  · rw [xx 10 (by omega), sr_off n0, ← ea, og 0 8 (by omega), ea]; exact i7
  · rw [xx 10 (by omega)]
    by_cases c : i = j
    · subst c
      rw [xq, xr, sr_at, if_pos rfl, sr_off nq10]
      exact ⟨s1, s2, rfl, g1⟩
    · rw [xx (11 + 2 * i) (by omega), xx (12 + 2 * i) (by omega), (old (11 + 2 * i) (by omega)).1, (old (12 + 2 * i) (by omega)).1, sr_at, if_neg c, og 10 i (by omega), sr_off (n (11 + 2 * i) (by omega) (by omega)), og (11 + 2 * i) 3 (by omega)]
      exact i8 i (by omega)
  · have f1 : Fr (m ++ [q, r]) sh0 h0 sh h := i5.mo (fun a ha => List.mem_append_left _ ha)
    have f2 : Fr (m ++ [q, r]) sh h (va_up sh q (4, 0)) (hz h q) := Fr_new.mo (fun a ha => by rw [List.mem_singleton.mp ha]; exact List.mem_append_right _ List.mem_cons_self)
    have f3 : Fr (m ++ [q, r]) (va_up sh q (4, 0)) (hz h q) sh' h' := fr.mo (fun a ha => List.mem_append_right _ ha)
    have f4 : Fr (m ++ [q, r]) sh' h' sh' (sr h' (ex m 10) j (some q)) := Fr_sr.mo (fun a ha => by rw [List.mem_singleton.mp ha]; exact List.mem_append_left _ (ex_mem (by omega)))
    exact ((f1.tr f2).tr f3).tr f4
theorem WB_fin (I : WB P m a0 sh0 h0 sh h 4) : SK sh (ex m) 0 ∧ CG h (ex m) 0 := by
  obtain ⟨hN, hl, ea, i1, i2, i3, i4, i6, i7, i8, i5⟩ := I
  have z : ∀ k j, 0 + k + j = k + j := fun k j => by omega
  refine ⟨⟨by rw [ea]; exact i1, i2, fun j hj => ?_, i6, fun j hj => ⟨?_, ?_⟩⟩, ⟨⟨by rw [ea]; exact i3, by rw [ea]; exact i7, fun j hj => ⟨?_, ?_⟩⟩, id, fun j hj => hj, fun i j _ _ e => e, fun j hj => ?_⟩⟩
  · rw [z]; exact (i4 j hj).1
  · rw [z]; exact (i8 j hj).1
  · rw [z]; exact (i8 j hj).2.1
  · rw [z]; exact (i8 j hj).2.2.1
  · rw [z, z]; exact (i8 j hj).2.2.2
  · show _ = some (ex m (0 + 2 + j))
    rw [z]; exact (i4 j hj).2
theorem k_X1 (hN : (P ++ [a0]).Nodup) (hs : (sh a0).1 = 1) {K : List Nat → Sh → Hp → Prop} (hk : ∀ m sh' h', (P ++ m).Nodup → m.length = 19 → ex m 0 = a0 → SK sh' (ex m) 0 → CG h' (ex m) 0 → Fr m sh h sh' h' → K (P ++ m) sh' h') : f_X1_init (P ++ [a0]) sh a0 h K := by
  unfold f_X1_init
  refine nw_i (fun q hq => ?_)
  have ne : a0 ≠ q := fun z => hq (by rw [← z]; exact mem_last)
  have hs' : ((va_up sh q (8, 8)) a0).1 = 1 := by rw [va_up_off ne]; exact hs
  have hN' := nd_app hN hq
  rw [ty_t hs', pR_t]
  rw [List.append_assoc] at hN' ⊢
  have E0 : EB P [a0, q] a0 sh h (va_up sh q (8, 8)) (sr (hz h q) a0 7 (some q)) 0 := by
    refine ⟨hN', rfl, rfl, hs', va_up_self _ _ _, by rw [sr_at, if_pos rfl]; rfl, fun i hi => by omega, ?_⟩
    have f2 : Fr [a0, q] sh h (va_up sh q (8, 8)) (hz h q) := Fr_new.mo (fun a ha => by rw [List.mem_singleton.mp ha]; exact List.mem_cons_of_mem _ List.mem_cons_self)
    have f3 : Fr [a0, q] (va_up sh q (8, 8)) (hz h q) (va_up sh q (8, 8)) (sr (hz h q) a0 7 (some q)) := Fr_sr.mo (fun a ha => by rw [List.mem_singleton.mp ha]; exact List.mem_cons_self)
    exact f2.tr f3
  refine e_X1 E0 (by omega) (fun e0 s1 h1 E1 => ?_)
  rw [ty_t E1.2.2.2.1]
  refine e_X1 E1 (by omega) (fun e1 s2 h2 E2 => ?_)
  rw [ty_t E2.2.2.2.1]
  refine e_X1 E2 (by omega) (fun e2 s3 h3 E3 => ?_)
  rw [ty_t E3.2.2.2.1]
  refine e_X1 E3 (by omega) (fun e3 s4 h4 E4 => ?_)
  rw [ty_t E4.2.2.2.1]
  refine e_X1 E4 (by omega) (fun e4 s5 h5 E5 => ?_)
  rw [ty_t E5.2.2.2.1]
  refine e_X1 E5 (by omega) (fun e5 s6 h6 E6 => ?_)
  rw [ty_t E6.2.2.2.1]
  refine e_X1 E6 (by omega) (fun e6 s7 h7 E7 => ?_)
  rw [ty_t E7.2.2.2.1]
  refine e_X1 E7 (by omega) (fun e7 s8 h8 E8 => ?_)
  generalize [a0, q] ++ [e0] ++ [e1] ++ [e2] ++ [e3] ++ [e4] ++ [e5] ++ [e6] ++ [e7] = m at E8 ⊢
  obtain ⟨hN8, hl, ea, i1, i2, i3, i4, i5⟩ := E8
  refine nw_i (fun w hw => ?_)
  have hN9 := nd_app hN8 hw
  rw [List.append_assoc] at hN9 ⊢
  have new : ∀ i, i < m.length → ex m i ≠ w := fun i hi z => hw (List.mem_append_right _ (by rw [← z]; exact ex_mem hi))
  have ne0 : a0 ≠ w := by rw [← ea]; exact new 0 (by omega)
  have hs9 : ((va_up s8 w (11, 4)) a0).1 = 1 := by rw [va_up_off ne0]; exact i1
  rw [ty_t hs9, pR_t]
  have hi := ex_inj (nd_r hN8)
  have n10 : ex m 1 ≠ a0 := by rw [← ea]; exact fun z => absurd (hi _ _ z) (by omega)
  have xx : ∀ i, i < m.length → ex (m ++ [w]) i = ex m i := fun i hi => ex_app1 hi
  have xw : ex (m ++ [w]) 10 = w := by rw [show 10 = m.length by omega]; exact ex_last
  have W0 : WB P (m ++ [w]) a0 sh h (va_up s8 w (11, 4)) (sr (hz h8 w) a0 8 (some w)) 0 := by
    refine ⟨hN9, by rw [List.length_append, hl]; rfl, by rw [xx 0 (by omega)]; exact ea, hs9, by rw [xx 1 (by omega), va_up_off (new 1 (by omega))]; exact i2, by rw [xx 1 (by omega), sr_at, if_neg (by decide), gr_hz ne0]; exact i3, fun i hi' => ?_, by rw [xw]; exact va_up_self _ _ _, by rw [xw, sr_at, if_pos rfl], fun i hi => by omega, ?_⟩
    · rw [xx 1 (by omega), xx (2 + i) (by omega), va_up_off (new (2 + i) (by omega)), sr_off n10, gr_hz (new 1 (by omega))]
      exact i4 i hi'
    · have f1 : Fr (m ++ [w]) sh h s8 h8 := i5.mo (fun a ha => List.mem_append_left _ ha)
      have f2 : Fr (m ++ [w]) s8 h8 (va_up s8 w (11, 4)) (hz h8 w) := Fr_new.mo (fun a ha => List.mem_append_right _ ha)
      have f3 : Fr (m ++ [w]) (va_up s8 w (11, 4)) (hz h8 w) (va_up s8 w (11, 4)) (sr (hz h8 w) a0 8 (some w)) := Fr_sr.mo (fun a ha => by rw [List.mem_singleton.mp ha]; exact List.mem_append_left _ (by rw [← ea]; exact ex_mem (by omega)))
      exact (f1.tr f2).tr f3
  refine w_X1 W0 (by omega) (fun p1 r1 t1 k1 W1 => ?_)
  rw [ty_t W1.2.2.2.1]
  refine w_X1 W1 (by omega) (fun p2 r2 t2 k2 W2 => ?_)
  rw [ty_t W2.2.2.2.1]
  refine w_X1 W2 (by omega) (fun p3 r3 t3 k3 W3 => ?_)
  rw [ty_t W3.2.2.2.1]
  refine w_X1 W3 (by omega) (fun p4 r4 t4 k4 W4 => ?_)
  obtain ⟨c1, c2⟩ := WB_fin W4
  exact hk _ _ _ W4.1 W4.2.1 W4.2.2.1 c1 c2 W4.2.2.2.2.2.2.2.2.2.2
end YB

/-! the constructors: an owner and its rows; a state -/
/-- the owner is the first of the places; behind it its rows -/
def AB (P m : List Nat) (a0 ko : Nat) (kd : Nat → Nat × Nat) (sh0 : Sh) (h0 : Hp) (sh : Sh) (h : Hp) (F : Nat → Option Nat) : Prop :=
  (P ++ m).Nodup ∧ 1 ≤ m.length ∧ ex m 0 = a0 ∧ (sh a0).1 = ko ∧ (∀ k, 1 ≤ k → k < m.length → sh (ex m k) = kd k ∧ ∀ j, gi h (ex m k) j = 0) ∧ (∀ f, gr h a0 f = F f) ∧ h.1 a0 = h0.1 a0 ∧ Fr m sh0 h0 sh h
section YC
variable {P m : List Nat} {sh sh' sh0 : Sh} {h h' h0 : Hp} {a q a0 ko k n i f : Nat} {kd : Nat → Nat × Nat} {F : Nat → Option Nat}
theorem mkA (I : AB P m a0 ko kd sh0 h0 sh h F) (hkd : kd m.length = (k, n)) {C : List Nat → Sh → Hp → Prop} (hk : ∀ q sh' h', AB P (m ++ [q]) a0 ko kd sh0 h0 sh' h' (va_up F f (some q)) → C (P ++ (m ++ [q])) sh' h') :
    nw (P ++ m) sh h k n fun q L s h4 => ty s a0 ko <| pR h4 a0 f q fun h7 => C L s h7 := by
  obtain ⟨hN, hl, ea, i1, i2, i3, i4, i5⟩ := I
  refine nw_i (fun q hq => ?_)
  have hN' := nd_app hN hq
  have ne : ∀ i, i < m.length → ex m i ≠ q := fun i hi z => hq (List.mem_append_right _ (by rw [← z]; exact ex_mem hi))
  have xx : ∀ i, i < m.length → ex (m ++ [q]) i = ex m i := fun i hi => ex_app1 hi
  have ne0 : a0 ≠ q := by rw [← ea]; exact ne 0 (by omega)
  have hs' : ((va_up sh q (k, n)) a0).1 = ko := by rw [va_up_off ne0]; exact i1
  rw [ty_t hs', pR_t, List.append_assoc]
  rw [List.append_assoc] at hN'
  refine hk q _ _ ⟨hN', by rw [List.length_append]; omega, by rw [xx 0 (by omega)]; exact ea, hs', fun p p1 p2 => ?_, fun g => ?_, ?_, ?_⟩
  · rw [List.length_append, List.length_singleton] at p2
    by_cases c : p = m.length
    · subst c
      rw [ex_last, va_up_self, hkd]
      exact ⟨rfl, fun j => gi_hz0⟩
    · rw [xx p (by omega), va_up_off (ne p (by omega))]
      exact ⟨(i2 p p1 (by omega)).1, fun j => (gi_hz (ne p (by omega))).trans ((i2 p p1 (by omega)).2 j)⟩
  · rw [sr_at]
    by_cases c : g = f
    · rw [if_pos c, c, va_up_self]
    · rw [if_neg c, va_up_off c, gr_hz ne0]
      exact i3 g
  · show va_up h.1 q _ a0 = _
    rw [va_up_off ne0]; exact i4
  · have f1 : Fr (m ++ [q]) sh0 h0 sh h := i5.mo (fun a ha => List.mem_append_left _ ha)
    have f2 : Fr (m ++ [q]) sh h (va_up sh q (k, n)) (hz h q) := Fr_new.mo (fun a ha => List.mem_append_right _ ha)
    have f3 : Fr (m ++ [q]) (va_up sh q (k, n)) (hz h q) (va_up sh q (k, n)) (sr (hz h q) a0 f (some q)) := Fr_sr.mo (fun a ha => by rw [List.mem_singleton.mp ha]; exact List.mem_append_left _ (by rw [← ea]; exact ex_mem (by omega)))
    exact (f1.tr f2).tr f3
def kd2 : Nat → Nat × Nat := fun k => match k with | 1 => (7, 6) | 2 => (7, 6) | 3 => (7, 100) | 4 => (7, 100) | 5 => (7, 12) | 6 => (7, 12) | _ => (9, 4)
/-- a state, its first i sessions made -/
def SB (P m : List Nat) (a0 : Nat) (sh0 : Sh) (h0 : Hp) (sh : Sh) (h : Hp) (i : Nat) : Prop :=
  (P ++ m).Nodup ∧ m.length = 8 + 19 * i ∧ ex m 0 = a0 ∧ (sh a0).1 = 2 ∧ (∀ k, 1 ≤ k → k < 8 → sh (ex m k) = kd2 k) ∧ (gr h a0 3 = some (ex m 1) ∧ gr h a0 4 = some (ex m 2) ∧ gr h a0 6 = some (ex m 3) ∧ gr h a0 7 = some (ex m 4) ∧ gr h a0 9 = some (ex m 5) ∧ gr h a0 10 = some (ex m 6) ∧ gr h a0 11 = some (ex m 7)) ∧ (∀ p, p < i → SK sh (ex m) (8 + 19 * p) ∧ CG h (ex m) (8 + 19 * p) ∧ gr h (ex m 7) p = some (ex m (8 + 19 * p))) ∧ Fr m sh0 h0 sh h
theorem s_X2 (I : SB P m a0 sh0 h0 sh h i) (hi4 : i < 4) {C : List Nat → Sh → Hp → Prop} (hk : ∀ m' sh' h', SB P m' a0 sh0 h0 sh' h' (i + 1) → C (P ++ m') sh' h') :
    gR h a0 11 fun q50 => nw (P ++ m) sh h 1 0 fun q51 L52 s53 h54 => f_X1_init L52 s53 q51 h54 fun L56 s57 h58 => ty s57 q50 9 <| ty s57 q51 1 <| sR s57 h58 q50 (nI i) q51 fun h62 => C L56 s57 h62 := by
  obtain ⟨hN, hl, ea, i1, i2, ⟨g3, g4, g6, g7, g9, g10, g11⟩, i4, i5⟩ := I
  have hi := ex_inj (nd_r hN)
  rw [gR_t g11]
  refine nw_i (fun q hq => ?_)
  have hN' := nd_app hN hq
  refine k_X1 hN' (by rw [va_up_self]) (fun ms sh' h' hN2 l19 e0 sk cg fr => ?_)
  rw [List.append_assoc] at hN2 ⊢
  have nd := nd_r hN2
  have qm : q ∈ ms := by rw [← e0]; exact ex_mem (by omega)
  have nm : ∀ k, k < m.length → ex m k ∉ ms := fun k hk' => nd_x nd (ex_mem hk')
  have neq : ∀ k, k < m.length → ex m k ≠ q := fun k hk' z => nm k hk' (by rw [z]; exact qm)
  have xx : ∀ k, k < m.length → ex (m ++ ms) k = ex m k := fun k hk' => ex_app1 hk'
  have xs : ∀ k, k < 19 → ex (m ++ ms) (8 + 19 * i + k) = ex ms k := fun k hk' => by rw [← hl]; exact ex_app2 (by omega)
  have old : ∀ k, k < m.length → sh' (ex m k) = sh (ex m k) ∧ h'.1 (ex m k) = h.1 (ex m k) ∧ h'.2 (ex m k) = h.2 (ex m k) := fun k hk' => by
    obtain ⟨o1, o2, o3⟩ := fr _ (nm k hk')
    exact ⟨by rw [o1, va_up_off (neq k hk')], by rw [o2]; exact va_up_off (neq k hk'), by rw [o3]; exact va_up_off (neq k hk')⟩
  have s7 : sh' (ex m 7) = (9, 4) := by rw [(old 7 (by omega)).1]; exact i2 7 (by omega) (by omega)
  have sq : (sh' q).1 = 1 := by rw [← e0]; exact sk.1
  rw [ty_t (by rw [s7]), ty_t sq, sR_t (by rw [s7]; exact hi4) (by rw [s7]; decide)]
  have oa := old 0 (by omega)
  rw [ea] at oa
  have n7 : ∀ k, k < m.length → k ≠ 7 → ex m k ≠ ex m 7 := fun k _ h2 z => h2 (hi _ _ z)
  have n0 : a0 ≠ ex m 7 := by rw [← ea]; exact n7 0 (by omega) (by omega)
  have og : ∀ k, gr (sr h' (ex m 7) i (some q)) a0 k = gr h a0 k := fun k => by
    rw [sr_off n0]
    show h'.2 _ _ = h.2 _ _
    rw [oa.2.2]
  have sm1 : ∀ p, p < i → SM 19 (ex m) (8 + 19 * p) sh h (ex (m ++ ms)) (8 + 19 * p) sh' (sr h' (ex m 7) i (some q)) := fun p hp j hj => by
    have hlt : 8 + 19 * p + j < m.length := by omega
    have o := old _ hlt
    exact ⟨xx _ hlt, o.1, o.2.1, (va_up_off (n7 _ hlt (by omega))).trans o.2.2⟩
  have sm2 : SM 19 (ex ms) 0 sh' h' (ex (m ++ ms)) (8 + 19 * i) sh' (sr h' (ex m 7) i (some q)) := fun j hj => by
    rw [Nat.zero_add]
    exact ⟨xs j hj, rfl, rfl, va_up_off (fun z => nm 7 (by omega) (by rw [← z]; exact ex_mem (by omega)))⟩
  refine hk (m ++ ms) _ _ ⟨hN2, by rw [List.length_append]; omega, by rw [xx 0 (by omega)]; exact ea, by rw [oa.1]; exact i1, fun k k1 k2 => by rw [xx k (by omega), (old k (by omega)).1]; exact i2 k k1 k2, ⟨by rw [og, xx 1 (by omega)]; exact g3, by rw [og, xx 2 (by omega)]; exact g4, by rw [og, xx 3 (by omega)]; exact g6, by rw [og, xx 4 (by omega)]; exact g7, by rw [og, xx 5 (by omega)]; exact g9, by rw [og, xx 6 (by omega)]; exact g10, by rw [og, xx 7 (by omega)]; exact g11⟩, fun p hp => ?_, ?_⟩
  · rw [xx 7 (by omega), sr_at]
    by_cases c : p = i
    · subst c
      have := xs 0 (by omega)
      rw [Nat.add_zero, e0] at this
      rw [if_pos rfl, this]
      exact ⟨SK_SM sm2 sk, CG_SM sm2 cg, rfl⟩
    · obtain ⟨c1, c2, c3⟩ := i4 p (by omega)
      rw [if_neg c, xx (8 + 19 * p) (by omega)]
      refine ⟨SK_SM (sm1 p (by omega)) c1, CG_SM (sm1 p (by omega)) c2, ?_⟩
      show h'.2 _ _ = _
      rw [(old 7 (by omega)).2.2]
      exact c3
  · have f1 : Fr (m ++ ms) sh0 h0 sh h := i5.mo (fun a ha => List.mem_append_left _ ha)
    have f2 : Fr (m ++ ms) sh h (va_up sh q (1, 0)) (hz h q) := Fr_new.mo (fun a ha => by rw [List.mem_singleton.mp ha]; exact List.mem_append_right _ qm)
    have f3 : Fr (m ++ ms) (va_up sh q (1, 0)) (hz h q) sh' h' := fr.mo (fun a ha => List.mem_append_right _ ha)
    have f4 : Fr (m ++ ms) sh' h' sh' (sr h' (ex m 7) i (some q)) := Fr_sr.mo (fun a ha => by rw [List.mem_singleton.mp ha]; exact List.mem_append_left _ (ex_mem (by omega)))
    exact ((f1.tr f2).tr f3).tr f4
theorem SB_fin (I : SB P m a0 sh0 h0 sh h 4) : TK sh (ex m) 0 ∧ TG h (ex m) 0 := by
  obtain ⟨hN, hl, ea, i1, i2, ⟨g3, g4, g6, g7, g9, g10, g11⟩, i4, i5⟩ := I
  have z : ∀ k j, 0 + k + j = k + j := fun k j => by omega
  refine ⟨⟨by rw [ea]; exact i1, i2 1 (by omega) (by omega), i2 2 (by omega) (by omega), i2 3 (by omega) (by omega), i2 4 (by omega) (by omega), i2 5 (by omega) (by omega), i2 6 (by omega) (by omega), i2 7 (by omega) (by omega), fun p hp => ?_⟩, ⟨by rw [ea]; exact g3, by rw [ea]; exact g4, by rw [ea]; exact g6, by rw [ea]; exact g7, by rw [ea]; exact g9, by rw [ea]; exact g10, by rw [ea]; exact g11, fun p hp => ?_⟩, fun p hp => ?_⟩
  · rw [z]; exact (i4 p hp).1
  · rw [z]; exact (i4 p hp).2.2
  · rw [z]; exact (i4 p hp).2.1
theorem AB_0 (hN : (P ++ [a0]).Nodup) (hs : (sh a0).1 = ko) : AB P [a0] a0 ko kd sh h sh h (fun f => gr h a0 f) :=
  ⟨hN, Nat.le_refl _, rfl, hs, fun k k1 k2 => by rw [List.length_singleton] at k2; omega, fun _ => rfl, rfl, Fr.rf⟩
theorem k_X2 (hN : (P ++ [a0]).Nodup) (hs : (sh a0).1 = 2) {K : List Nat → Sh → Hp → Prop} (hk : ∀ m sh' h', (P ++ m).Nodup → m.length = 84 → ex m 0 = a0 → TK sh' (ex m) 0 → TG h' (ex m) 0 → Fr m sh h sh' h' → K (P ++ m) sh' h') : f_X2_init (P ++ [a0]) sh a0 h K := by
  unfold f_X2_init
  refine mkA (kd := kd2) (AB_0 hN hs) rfl (fun q1 s1 h1 A1 => ?_)
  refine mkA A1 rfl (fun q2 s2 h2 A2 => ?_)
  refine mkA A2 rfl (fun q3 s3 h3 A3 => ?_)
  refine mkA A3 rfl (fun q4 s4 h4 A4 => ?_)
  refine mkA A4 rfl (fun q5 s5 h5 A5 => ?_)
  refine mkA A5 rfl (fun q6 s6 h6 A6 => ?_)
  refine mkA A6 rfl (fun q7 s7 h7 A7 => ?_)
  have S0 : SB P ([a0] ++ [q1] ++ [q2] ++ [q3] ++ [q4] ++ [q5] ++ [q6] ++ [q7]) a0 sh h s7 h7 0 := by
    obtain ⟨n1, n2, n3, n4, n5, n6, -, n7⟩ := A7
    exact ⟨n1, rfl, n3, n4, fun k k1 k2 => (n5 k k1 k2).1, ⟨n6 3, n6 4, n6 6, n6 7, n6 9, n6 10, n6 11⟩, fun p hp => by omega, n7⟩
  generalize [a0] ++ [q1] ++ [q2] ++ [q3] ++ [q4] ++ [q5] ++ [q6] ++ [q7] = m at S0 ⊢
  refine s_X2 S0 (by omega) (fun m1 t1 k1 S1 => ?_)
  rw [ty_t S1.2.2.2.1]
  refine s_X2 S1 (by omega) (fun m2 t2 k2 S2 => ?_)
  rw [ty_t S2.2.2.2.1]
  refine s_X2 S2 (by omega) (fun m3 t3 k3 S3 => ?_)
  rw [ty_t S3.2.2.2.1]
  refine s_X2 S3 (by omega) (fun m4 t4 k4 S4 => ?_)
  obtain ⟨c1, c2⟩ := SB_fin S4
  exact hk _ _ _ S4.1 S4.2.1 S4.2.2.1 c1 c2 S4.2.2.2.2.2.2.2
/-- the reference's object -/
def kd6 : Nat → Nat × Nat := fun k => match k with | 1 => (7, 623) | 2 => (7, 623) | 3 => (7, 2492) | 4 => (7, 623) | 5 => (7, 60) | 6 => (7, 32) | 7 => (7, 32) | _ => (7, 4)
end YC

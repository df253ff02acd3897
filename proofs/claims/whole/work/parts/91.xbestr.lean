/-! the best room: the reference's loops -/
section XY
variable {sh : Sh} {ad ma : Nat → Nat} {h h' h'' : Hp} {b : Nat → Nat} {m len T : Nat} {A : Nat → AS} {kp : Option AS} {tx : Nat → Int32} {n k rm : Nat} {g : Nat → Int32} {rc : List (Int32 × Int32)}
theorem mx_l1 (X : MX sh ma h) {k : Nat} {h' : Hp} {K : Int32 → Prop} (hk : k < 623) : lI sh h' (ma 1) (nI k) K = K (gi h' (ma 1) k) := lI_t (by rw [X.2.2.1]; exact hk) (by rw [X.2.2.1]; decide)
theorem HM_p (X : MX sh ma h) (a : HM ma h h') {p : Nat} (hp : p < 6) : gi h' (ma p) = gi h (ma p) := by
  funext k; show h'.1 _ _ = h.1 _ _; rw [a.2 _ (mx_ne X (by omega)) (mx_ne X (by omega)) (mx_ne X (by omega))]
theorem r_tabs (hn : n < 4) (hk : k < 12) (hrm : 1 ≤ rm ∧ rm ≤ 8) (hz : gz g) (hg4 : g 4 = nI rm) {set : Int32} {Xc K : Int32 → Hp → Prop} :
    ∀ (d tt : Nat) (c : Nat → Int32) (l : List En) (w : Int32) (h : Hp), tt + d = 6 → MX sh ma h → gi h (ma 1) (599 + 2 * k) = nI n → gi h (ma 1) (599 + 2 * k + 1) = set → RS h ma n l → BL g rm k tt l →
      (uAll g (nI k) set d tt c l = none → ∀ h', HM ma h h' → K (-1) h') →
      (∀ r j h', uAll g (nI k) set d tt c l = some r → r.1 2 = c 2 + nI j → HM ma h h' → HO ma n h h' → RS h' ma n r.2.1 → Xc (w + nI j) h') →
      lp (b_X6_loadsBy_39 sh (ma 0) (nI rm) (nI k) Xc K) (d + 1) (w, nI tt) h := by
  intro d
  induction d with
  | zero =>
    intro tt c l w h ht X e1 e2 hR hB k0 k1
    have : tt = 6 := by omega
    subst this
    show b_X6_loadsBy_39 sh (ma 0) (nI rm) (nI k) Xc K (lp (b_X6_loadsBy_39 sh (ma 0) (nI rm) (nI k) Xc K) 0) (w, nI 6) h
    unfold b_X6_loadsBy_39
    rw [if_pos ge6]
    have := k1 _ 0 h rfl (Int32.add_zero _).symm HM.rf HO.rf hR
    rw [show w + nI 0 = w from Int32.add_zero _] at this
    exact this
  | succ d ih =>
    intro tt c l w h ht X e1 e2 hR hB k0 k1
    have htt : tt < 6 := by omega
    show b_X6_loadsBy_39 sh (ma 0) (nI rm) (nI k) Xc K (lp (b_X6_loadsBy_39 sh (ma 0) (nI rm) (nI k) Xc K) (d + 1)) (w, nI tt) h
    revert ih
    generalize lp (b_X6_loadsBy_39 sh (ma 0) (nI rm) (nI k) Xc K) (d + 1) = rec
    intro ih
    unfold b_X6_loadsBy_39
    dsimp only
    rw [if_neg (lt6 htt), mx_m X, mx_q0 X, mx_t1 X, i599, i2, nI_mul, nI_add, nI_1, mx_l1 X (by omega), e2]
    by_cases hb : ((set >>> (nI tt &&& 31)) &&& 1) = 1
    · rw [if_pos hb, mx_q0 X, mx_t1 X, mx_l1 X (by omega), e1]
      refine r_use X hn (by omega) htt hrm hz hB hR (c := c) (sp := g (11 + tt)) (fun e => ?_) (fun r v h' e hm ho hr hc hv => ?_)
      · refine if_n (by decide) (k0 ?_ h HM.rf)
        unfold uAll
        rw [if_pos hb, hg4, e]
      · refine if_y (by rcases hv with z | z <;> (rw [z]; decide)) ?_
        rw [nI_1]
        have X' := HM_MX X hm
        obtain ⟨hB', -⟩ := BL_next hz hB hrm htt (by omega) e
        have e1' : gi h' (ma 1) (599 + 2 * k) = nI n := by rw [HM_p (p := 1) X hm (by omega)]; exact e1
        have e2' : gi h' (ma 1) (599 + 2 * k + 1) = set := by rw [HM_p (p := 1) X hm (by omega)]; exact e2
        have ih' := ih (tt + 1) r.1 r.2.1 (w + v) h' (by omega) X' e1' e2' hr hB'
        refine ih' (fun eu h'' hm' => k0 ?_ h'' (hm.tr hm')) (fun r2 j h'' eu hj hm' ho' hr' => ?_)
        · unfold uAll
          rw [if_pos hb, hg4, e]
          dsimp only
          rw [eu]
        · have eo : uAll g (nI k) set (d + 1) tt c l = some (r2.1, r2.2.1, va_up r2.2.2 tt r.2.2) := by
            unfold uAll
            rw [if_pos hb, hg4, e]
            dsimp only
            rw [eu]
          rcases hv with z | z
          · rw [z, Int32.add_zero]
            refine k1 _ j h'' eo ?_ (hm.tr hm') (ho.tr ho') hr'
            dsimp only
            rw [hj, hc, z, Int32.add_zero]
          · rw [z, Int32.add_assoc, show (1 : Int32) = nI 1 from rfl, nI_add]
            refine k1 _ (1 + j) h'' eo ?_ (hm.tr hm') (ho.tr ho') hr'
            dsimp only
            rw [hj, hc, z, Int32.add_assoc, show (1 : Int32) = nI 1 from rfl, nI_add]
    · rw [if_neg hb, nI_1]
      have eq : uAll g (nI k) set (d + 1) tt c l = uAll g (nI k) set d (tt + 1) c l := by
        conv => lhs; unfold uAll
        rw [if_neg hb]
      rw [eq] at k0 k1
      exact ih (tt + 1) c l w h (by omega) X e1 e2 hR (BL_skip hB htt) k0 k1
theorem drop_rcd {k : Nat} (hk : k < rc.length) : rc.drop k = rcd rc k :: rc.drop (k + 1) := by
  rw [List.drop_eq_getElem_cons hk]
  congr 1
  unfold rcd
  rw [List.getD_eq_getElem?_getD, List.getElem?_eq_getElem hk]; rfl
theorem r_latest (hrm : 1 ≤ rm ∧ rm ≤ 8) (hr : ∀ p, p < rc.length → (∃ n, n < 4 ∧ (rcd rc p).1 = nI n) ∧ ∃ s, 1 ≤ s ∧ s ≤ 63 ∧ (rcd rc p).2 = nI s) (hl : rc.length ≤ 12) {K : Int32 → Hp → Prop} :
    ∀ (d k : Nat) (a : AQ) (h : Hp), k + d = rc.length → MX sh ma h → gi h (ma 1) 598 = nI rc.length → (∀ p, p < rc.length → gi h (ma 1) (599 + 2 * p) = (rcd rc p).1 ∧ gi h (ma 1) (599 + 2 * p + 1) = (rcd rc p).2) → BR rm k a → (∀ n, n < 4 → RS h ma n (a.2.1 n).2) → (∀ h', HM ma h h' → K (bres (brun (rc.drop k) a)) h') →
      lp (b_X6_loadsBy_24 sh (ma 0) (nI rm) (fun y h => K y h) K) (d + 1) (ldN a.2.1 4, nI k) h := by
  intro d
  induction d with
  | zero =>
    intro k a h hk X e0 e1 hB hR hK
    show b_X6_loadsBy_24 sh (ma 0) (nI rm) (fun y h => K y h) K (lp (b_X6_loadsBy_24 sh (ma 0) (nI rm) (fun y h => K y h) K) 0) (ldN a.2.1 4, nI k) h
    unfold b_X6_loadsBy_24
    dsimp only
    rw [mx_m X, mx_q0 X, mx_t1 X, i598, mx_l1 X (by omega), e0, if_pos (nI_le (by omega) (by omega))]
    have := hK h HM.rf
    rw [List.drop_eq_nil_of_le (by omega)] at this
    exact this
  | succ d ih =>
    intro k a h hk X e0 e1 hB hR hK
    show b_X6_loadsBy_24 sh (ma 0) (nI rm) (fun y h => K y h) K (lp (b_X6_loadsBy_24 sh (ma 0) (nI rm) (fun y h => K y h) K) (d + 1)) (ldN a.2.1 4, nI k) h
    revert ih
    generalize lp (b_X6_loadsBy_24 sh (ma 0) (nI rm) (fun y h => K y h) K) (d + 1) = rec
    intro ih
    unfold b_X6_loadsBy_24
    dsimp only
    rw [mx_m X, mx_q0 X, mx_t1 X, i598, mx_l1 X (by omega), e0, if_neg (nI_ge (by omega) (by omega))]
    obtain ⟨⟨n, hn, f1⟩, s, s1, s2, f2⟩ := hr k (by omega)
    obtain ⟨y1, y2⟩ := e1 k (by omega)
    obtain ⟨hz, g4, -, -, -, hBL⟩ := BR_BL hB hrm (by omega) hn
    rw [drop_rcd (by omega), show rcd rc k = (nI n, nI s) from Prod.ext f1 f2] at hK
    refine ⟨7, r_tabs hn (by omega) hrm hz g4 (set := nI s) 6 0 (va_up (a.2.1 n).1 0 (nI 0)) (a.2.1 n).2 _ h rfl X (y1.trans f1) (y2.trans f2) (hR n hn) hBL (fun eu h' hm => ?_) (fun r j h' eu hj hm ho hr' => ?_)⟩
    · have := hK h' hm
      unfold brun at this
      rw [(bstep_none hB hrm (by omega) hn ⟨s1, s2⟩ eu).2] at this
      exact this
    · obtain ⟨-, -, a', x, l'', b1, -, b2, b3, b4, b5⟩ := bstep_some hB hrm (by omega) hn ⟨s1, s2⟩ eu
      have el : ldN a'.2.1 4 = ldN a.2.1 4 + nI j := by
        rw [b3]
        exact ldN_up hn (by rw [va_up_off (by decide), hj, va_up_off (by decide)])
      rw [nI_1, ← el]
      refine ih (k + 1) a' h' (by omega) (HM_MX X hm) (by rw [HM_p (p := 1) X hm (by omega)]; exact e0) (fun p hp => by rw [HM_p (p := 1) X hm (by omega)]; exact e1 p hp) b2 (fun n' hn' => ?_) (fun h'' hm' => ?_)
      · rw [b3]
        by_cases c : n' = n
        · subst c
          rw [va_up_self]
          exact ⟨by dsimp only; rw [b4]; exact hr'.1, RH_list hr'.2 b4 b5⟩
        · rw [va_up_off c]
          have := (BR_BL hB hrm (by omega) hn').2.2.2.2.2.2.2
          exact RS_HO (hR n' hn') (by omega) c ho
      · have := hK h'' (hm.tr hm')
        unfold brun at this
        rw [b1] at this
        exact this
theorem r_loadsBy (X : MX sh ma h) (hrm : 1 ≤ rm ∧ rm ≤ 8) (hr : ∀ p, p < rc.length → (∃ n, n < 4 ∧ (rcd rc p).1 = nI n) ∧ ∃ s, 1 ≤ s ∧ s ≤ 63 ∧ (rcd rc p).2 = nI s) (hl : rc.length ≤ 12) (e0 : gi h (ma 1) 598 = nI rc.length) (e1 : ∀ p, p < rc.length → gi h (ma 1) (599 + 2 * p) = (rcd rc p).1 ∧ gi h (ma 1) (599 + 2 * p + 1) = (rcd rc p).2) {K : Int32 → Hp → Prop} (hK : ∀ h', HM ma h h' → K (bres (brun rc (aB rm))) h') : f_X6_loadsBy sh (ma 0) (nI rm) h K := by
  unfold f_X6_loadsBy
  refine lo_ind (fun d s h' => ∃ i, i + d = 5 ∧ i ≤ 4 ∧ s = nI i ∧ HM ma h h' ∧ ∀ q, q < i → gi h' (ma 8) q = 0) ?_ ?_ (d := 5) ⟨0, by omega, by omega, rfl, HM.rf, fun q hq => by omega⟩
  · rintro s h' ⟨i, h1, h2, -⟩
    omega
  · rintro d rec hrec s h' ⟨i, h1, h2, rfl, hm, h3⟩
    have X' := HM_MX X hm
    unfold b_X6_loadsBy_4
    by_cases hzz : i = 4
    · subst hzz
      rw [if_pos ge4]
      refine ⟨rc.length + 1, r_latest hrm hr hl rc.length 0 (aB rm) h' (by omega) X' (by rw [HM_p (p := 1) X hm (by omega)]; exact e0) (fun p hp => by rw [HM_p (p := 1) X hm (by omega)]; exact e1 p hp) (BR_0 hrm) (fun n hn => ⟨h3 n hn, fun i hi => absurd hi (Nat.not_lt_zero i), fun e he => absurd he List.not_mem_nil, fun i j hi => absurd hi (Nat.not_lt_zero i)⟩) (fun h'' hm' => hK h'' (hm.tr hm'))⟩
    · have hi4 : i < 4 := by omega
      rw [if_neg (lt4 hi4), mx_m X', mx_q10 X', mx_t8 X', mx_s8 X' hi4, nI_1]
      refine hrec _ _ ⟨i + 1, by omega, by omega, rfl, hm.tr ⟨rfl, fun a a6 a7 a8 => ?_⟩, fun q hq => ?_⟩
      · show va_up h'.1 _ _ a = h'.1 a
        rw [va_up_off a8]
      · by_cases c : q = i
        · subst c; exact gi_si
        · rw [gi_si_k c]; exact h3 q (by omega)
theorem RX_HM (r : RX sh ma m A kp len tx h) (f : HM ma h h') : RX sh ma m A kp len tx h' := by
  obtain ⟨r1, r2, r3, r4, r5, r6, r7⟩ := r
  have o : ∀ p, p < 6 → gi h' (ma p) = gi h (ma p) := fun p hp => HM_p r1 f hp
  refine ⟨HM_MX r1 f, by rw [o 0 (by omega)]; exact r2, by rw [o 1 (by omega)]; exact r3, fun i hi => by rw [o 3 (by omega)]; exact r4 i hi, ?_, by rw [o 0 (by omega)]; exact r6, fun i hi => by rw [o 5 (by omega)]; exact r7 i hi⟩
  rcases r5 with ⟨z1, z2⟩ | ⟨a, z1, z2, z3⟩
  · exact Or.inl ⟨z1, by rw [o 0 (by omega)]; exact z2⟩
  · exact Or.inr ⟨a, z1, by rw [o 0 (by omega)]; exact z2, by rw [o 4 (by omega)]; exact z3⟩
theorem HM_EQa (X : WK sh ad ma) (f : HM ma h h') : EQa ad h h' := fun q => ⟨f.2 _ (X.2.1 q 6) (X.2.1 q 7) (X.2.1 q 8), by rw [f.1]⟩
end XY

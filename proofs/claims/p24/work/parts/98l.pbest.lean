/-! the best room: it lies in 1 to 8, and loads at least one shape -/
section PBR
variable {sh : Sh} {ad ma : Nat → Nat} {h : Hp} {b : Nat → Nat} {m len T : Nat} {A : Nat → AS} {kp : Option AS} {tx : Nat → Int32} {rm : Nat}
theorem y_lwr (X : WK sh ad ma) (cI : CI ad b m A kp len tx h) (hm : m ≤ 4) (hp : PA T (A 0)) (hrm : 1 ≤ rm ∧ rm ≤ 8) {K : Int32 → Hp → Prop} (hk : ∀ h', EQm ma h h' → CI ad b m A kp len tx h' → K (bres (brun (A 0).2.2.1.2 (aB rm))) h') : f_X5_loadsWithRoom sh (ad 0) (nI rm) h K := by
  have hi := X.1
  have hb := cI.1
  have hT1 := x_T X hb (i := 1) (by omega)
  obtain ⟨tk, rm0, st, hI, hRW, hRL⟩ := hp
  obtain ⟨⟨-, -, -, -, ⟨hst, hst9⟩, -⟩, -, -, hRI⟩ := hI
  unfold f_X5_loadsWithRoom
  rw [x_t0 X, gR_t cI.2.1.2.1, x_tb X hb (by omega)]
  refine c_clearT hT1 hi cI.2.2.2.2.1 (fun h2 W' L' hw ct fb => ?_)
  have cI2 := CI_trial X cI fb (CT_G ct) hm
  rw [gR_t cI2.2.1.2.1, x_tb X hb (by omega), pI_t]
  have ct3 := CT_room hi ct (v := nI rm)
  have fb3 : FB ad h2 (si h2 (ad (b 1)) 2 (nI rm)) (b 1) := FB_si0
  have cI3 := CI_trial X cI2 fb3 (CT_G ct3) hm
  generalize si h2 (ad (b 1)) 2 (nI rm) = h3 at ct3 fb3 cI3 ⊢
  rw [gR_t cI3.2.1.1, x_tb X hb (by omega), gI_t, cI3.2.2.2.1.2.1.2.2.2.2, hst, ev_t, ev12 (by omega)]
  have nq : nQ (aB rm) = 0 := by
    show (gB rm 1).toNatClampNeg = 0
    rw [gB_z (by omega)]; rfl
  have cq : CQ h3 ad (b 1) (aB rm) := by
    refine ⟨W', L', by rw [nq]; exact ct3, ⟨fun o ho => absurd ho List.not_mem_nil, fun n j hn hj => Or.inl (hw n hn j hj), fun n j n' j' hn hj _ _ _ z => absurd (hw n hn j hj) z, fun n hn => ?_⟩, fun p hp => absurd hp (Nat.not_lt_zero p)⟩
    show 0 = cntW (W' n) 4
    have neg : ∀ j, j < 4 → W' n j 0 < 0 := fun j hj => by rw [hw n hn j hj]; decide
    rw [cntW_s, if_pos (neg 3 (by omega)), cntW_s, if_pos (neg 2 (by omega)), cntW_s, if_pos (neg 1 (by omega)), cntW_s, if_pos (neg 0 (by omega))]
    rfl
  have hl := hRI.1
  have := c_latest X hm hrm hst hst9 hRL hRI (K := K) (kp := kp) (len := len) (tx := tx) (b := b) (A := A) (A 0).2.2.1.2.length 0 (aB rm) h3 (by omega) cI3 cq (BR_0 hrm) (fun h' em c' => hk h' (((FB_EQm X fb).tr (FB_EQm X fb3)).tr em) c')
  rw [show st - (A 0).2.2.1.2.length + 0 = st - 12 by omega] at this
  exact ⟨_, this⟩
theorem y_best31 (X : WK sh ad ma) (hm : m ≤ 4) (hp : PA T (A 0)) {x1 : Int32} {Xc : Int32 → Int32 → Hp → Prop} :
    ∀ (d r : Nat) (x f : Int32) (h : Hp), r + d = 9 → 1 ≤ r → CI ad b m A kp len tx h → (∀ h', EQm ma h h' → CI ad b m A kp len tx h' → Xc (bstv (fun q => bres (brun (A 0).2.2.1.2 (aB q))) d r (x, f)).1 (bstv (fun q => bres (brun (A 0).2.2.1.2 (aB q))) d r (x, f)).2 h') →
      lp (b_X5_bestRoom_31 sh (ad 0) x1 Xc) (d + 1) (x, f, nI r) h := by
  intro d
  induction d with
  | zero =>
    intro r x f h hr hr1 cI hK
    have : r = 9 := by omega
    subst this
    show b_X5_bestRoom_31 sh (ad 0) x1 Xc (lp (b_X5_bestRoom_31 sh (ad 0) x1 Xc) 0) (x, f, nI 9) h
    unfold b_X5_bestRoom_31
    rw [if_pos (show (8 : Int32) < nI 9 by decide)]
    exact hK h EQm.rf cI
  | succ d ih =>
    intro r x f h hr hr1 cI hK
    show b_X5_bestRoom_31 sh (ad 0) x1 Xc (lp (b_X5_bestRoom_31 sh (ad 0) x1 Xc) (d + 1)) (x, f, nI r) h
    revert ih
    generalize lp (b_X5_bestRoom_31 sh (ad 0) x1 Xc) (d + 1) = rec
    intro ih
    unfold b_X5_bestRoom_31
    dsimp only
    rw [if_neg (fun z => by rw [show (8 : Int32) = nI 8 from rfl, nI_ltI (by omega) (by omega)] at z; omega), x_t0 X]
    refine y_lwr X cI hm hp (by omega) (fun h' em cI' => ?_)
    unfold bstv at hK
    dsimp only at hK
    rw [nI_1]
    by_cases c : bres (brun (A 0).2.2.1.2 (aB r)) < 0
    · rw [if_pos c] at hK ⊢
      exact ih (r + 1) x f h' (by omega) (by omega) cI' (fun h'' em' c' => hK h'' (em.tr em') c')
    · rw [if_neg c] at hK ⊢
      by_cases c2 : f < 0
      · rw [if_pos c2] at hK ⊢
        exact ih (r + 1) _ _ h' (by omega) (by omega) cI' (fun h'' em' c' => hK h'' (em.tr em') c')
      · rw [if_neg c2] at hK ⊢
        by_cases c3 : f ≤ bres (brun (A 0).2.2.1.2 (aB r))
        · rw [if_pos c3] at hK ⊢
          exact ih (r + 1) x f h' (by omega) (by omega) cI' (fun h'' em' c' => hK h'' (em.tr em') c')
        · rw [if_neg c3] at hK ⊢
          exact ih (r + 1) _ _ h' (by omega) (by omega) cI' (fun h'' em' c' => hK h'' (em.tr em') c')
end PBR
theorem u1_c2 {rm num t v sp : Int32} {c : Nat → Int32} {l : List En} {r : (Nat → Int32) × List En × Int32} (h : u1 rm num t v sp c l = some r) : r.1 2 = c 2 ∨ r.1 2 = c 2 + 1 := by
  unfold u1 at h
  split at h
  · cases h; exact Or.inl (va_up_off (f := c) (k := 1) (j := 2) (v := c 1 + 1) (by decide))
  · split at h
    · cases h
      right
      show va_up (va_up c 3 (c 3 + nI (shr (rm - 1) l.length l).2)) 2 (c 2 + 1) 2 = _
      rw [va_up_self]
    · cases h
theorem uAll_c2 {g : Nat → Int32} {num set : Int32} : ∀ (d k : Nat) (c : Nat → Int32) (l : List En) (r : (Nat → Int32) × List En × (Nat → Int32)), uAll g num set d k c l = some r → ∃ j, j ≤ d ∧ r.1 2 = c 2 + nI j := by
  intro d
  induction d with
  | zero =>
    intro k c l r he
    unfold uAll at he
    cases he
    exact ⟨0, Nat.le_refl _, by rw [nI_0, Int32.add_zero]⟩
  | succ d ih =>
    intro k c l r he
    unfold uAll at he
    split at he
    · split at he
      · cases he
      · next r1 e1 =>
        split at he
        · cases he
        · next q e2 =>
          cases he
          obtain ⟨j, j1, j2⟩ := ih _ _ _ _ e2
          rcases u1_c2 e1 with z | z
          · exact ⟨j, by omega, by rw [← z]; exact j2⟩
          · refine ⟨j + 1, by omega, ?_⟩
            show q.1 2 = _
            rw [j2, z, Int32.add_assoc, show (1 : Int32) = nI 1 from rfl, nI_add, Nat.add_comm 1]
    · obtain ⟨j, j1, j2⟩ := ih _ _ _ _ he
      exact ⟨j, by omega, j2⟩
/-- where the hand is empty the first table is loaded -/
theorem uAll_ld {g : Nat → Int32} {num set : Int32} : ∀ (d k : Nat) (c : Nat → Int32) (r : (Nat → Int32) × List En × (Nat → Int32)), 1 ≤ bitsN set d k → uAll g num set d k c [] = some r → ∃ j, 1 ≤ j ∧ j ≤ d ∧ r.1 2 = c 2 + nI j := by
  intro d
  induction d with
  | zero => intro k c r h; exact absurd h (by show ¬ 1 ≤ 0; decide)
  | succ d ih =>
    intro k c r h he
    unfold uAll at he
    unfold bitsN at h
    by_cases hb : ((set >>> (nI k &&& 31)) &&& 1) = 1
    · rw [if_pos hb] at he
      split at he
      · cases he
      · next r1 e1 =>
        split at he
        · cases he
        · next q e2 =>
          cases he
          obtain ⟨j, j1, j2⟩ := uAll_c2 _ _ _ _ _ e2
          have z : r1.1 2 = c 2 + 1 := by
            unfold u1 at e1
            have l0 : ¬ (0 : Int32) ≤ lastI (fun e => e 0 = nI k ∧ e 5 = 0) ([] : List En) := show ¬ (0 : Int32) ≤ -1 by decide
            rw [if_neg l0] at e1
            split at e1
            · cases e1
              show va_up (va_up c 3 (c 3 + nI (shr (g 4 - 1) ([] : List En).length []).2)) 2 (c 2 + 1) 2 = _
              rw [va_up_self]
            · cases e1
          refine ⟨j + 1, by omega, by omega, ?_⟩
          show q.1 2 = _
          rw [j2, z, Int32.add_assoc, show (1 : Int32) = nI 1 from rfl, nI_add, Nat.add_comm 1]
    · rw [if_neg hb] at he h
      obtain ⟨j, j1, j2, j3⟩ := ih (k + 1) c r (by omega) he
      exact ⟨j, j1, by omega, j3⟩
theorem bits_1 : ∀ s : Fin 64, s.val ≠ 0 → 1 ≤ bitsN (nI s.val) 6 0 := by decide +kernel
section PBX
variable {rm k n s : Nat} {a : AQ}
theorem bstep_x (h : BR rm k a) (hrm : 1 ≤ rm ∧ rm ≤ 8) (hk : k < 100) (hn : n < 4) (hs : 1 ≤ s ∧ s ≤ 63) : bstep a (nI n, nI s) = none ∨ ∃ a' j, bstep a (nI n, nI s) = some a' ∧ BR rm (k + 1) a' ∧ j ≤ 6 ∧ ldN a'.2.1 4 = ldN a.2.1 4 + nI j ∧ ((a.2.1 n).2 = [] → 1 ≤ j) := by
  cases eu : uAll a.1 (nI k) (nI s) 6 0 (va_up (a.2.1 n).1 0 (nI 0)) (a.2.1 n).2 with
  | none => exact Or.inl (bstep_none h hrm hk hn hs eu).2
  | some r =>
    right
    obtain ⟨-, -, a', x, l'', b2, -, b4, b5, -⟩ := bstep_some h hrm hk hn hs eu
    have c2 : va_up (a.2.1 n).1 0 (nI 0) 2 = (a.2.1 n).1 2 := va_up_off (by decide)
    have r3 : va_up r.1 3 x 2 = r.1 2 := va_up_off (by decide)
    by_cases e : (a.2.1 n).2 = []
    · rw [e] at eu
      obtain ⟨j, j1, j2, j3⟩ := uAll_ld 6 0 _ r (bits_1 ⟨s, by omega⟩ (by show s ≠ 0; omega)) eu
      refine ⟨a', j, b2, b4, j2, ?_, fun _ => j1⟩
      rw [b5]
      exact ldN_up hn (by rw [r3, j3, c2])
    · obtain ⟨j, j2, j3⟩ := uAll_c2 6 0 _ _ r eu
      refine ⟨a', j, b2, b4, j2, ?_, fun z => absurd z e⟩
      rw [b5]
      exact ldN_up hn (by rw [r3, j3, c2])
theorem brun_ge (hrm : 1 ≤ rm ∧ rm ≤ 8) {rc : List (Int32 × Int32)} (hr : ∀ p, p < rc.length → (∃ n, n < 4 ∧ (rcd rc p).1 = nI n) ∧ ∃ s, 1 ≤ s ∧ s ≤ 63 ∧ (rcd rc p).2 = nI s) : ∀ (d k : Nat) (a : AQ) (m : Nat), k + d = rc.length → rc.length ≤ 12 → BR rm k a → ldN a.2.1 4 = nI m → m ≤ 6 * k → ¬ bres (brun (rc.drop k) a) < 0 → ∃ m', m ≤ m' ∧ m' ≤ 72 ∧ bres (brun (rc.drop k) a) = nI m' := by
  intro d
  induction d with
  | zero =>
    intro k a m hk hl h hm1 hm2 _
    have : rc.drop k = [] := List.drop_eq_nil_of_le (by omega)
    rw [this]
    exact ⟨m, Nat.le_refl _, by omega, hm1⟩
  | succ d ih =>
    intro k a m hk hl h hm1 hm2 hneg
    obtain ⟨⟨n, hn, e1⟩, s, s1, s2, e2⟩ := hr k (by omega)
    have ed : rc.drop k = (nI n, nI s) :: rc.drop (k + 1) := by
      rw [drop_rcd (by omega), show rcd rc k = (nI n, nI s) from Prod.ext e1 e2]
    rw [ed] at hneg ⊢
    unfold brun at hneg ⊢
    rcases bstep_x h hrm (by omega) hn ⟨s1, s2⟩ with z | ⟨a', j, z1, z2, z3, z4, -⟩
    · rw [z] at hneg
      exact absurd (show (-1 : Int32) < 0 by decide) hneg
    · rw [z1] at hneg ⊢
      obtain ⟨m', q1, q2, q3⟩ := ih (k + 1) a' (m + j) (by omega) hl z2 (by rw [z4, hm1, nI_add]) (by omega) hneg
      exact ⟨m', by omega, q2, q3⟩
theorem brun_1 (hrm : 1 ≤ rm ∧ rm ≤ 8) {rc : List (Int32 × Int32)} (hr : ∀ p, p < rc.length → (∃ n, n < 4 ∧ (rcd rc p).1 = nI n) ∧ ∃ s, 1 ≤ s ∧ s ≤ 63 ∧ (rcd rc p).2 = nI s) (h1 : 1 ≤ rc.length) (hl : rc.length ≤ 12) (hneg : ¬ bres (brun rc (aB rm)) < 0) : ∃ m', 1 ≤ m' ∧ m' ≤ 72 ∧ bres (brun rc (aB rm)) = nI m' := by
  obtain ⟨⟨n, hn, e1⟩, s, s1, s2, e2⟩ := hr 0 (by omega)
  have ed : rc = (nI n, nI s) :: rc.drop 1 := by
    have := drop_rcd (rc := rc) (k := 0) (by omega)
    rw [List.drop_zero] at this
    rw [show (nI n, nI s) = rcd rc 0 from (Prod.ext e1 e2).symm]
    exact this
  rcases bstep_x (BR_0 hrm) hrm (by omega) hn ⟨s1, s2⟩ with z | ⟨a', j, z1, z2, z3, z4, z5⟩
  · rw [ed] at hneg
    unfold brun at hneg
    rw [z] at hneg
    exact absurd (show (-1 : Int32) < 0 by decide) hneg
  · have eb : brun rc (aB rm) = brun (rc.drop 1) a' := by
      conv => lhs; rw [ed]
      unfold brun
      rw [z1]
      cases rc.drop 1 <;> rfl
    rw [eb] at hneg ⊢
    have l0 : ldN (aB rm).2.1 4 = nI 0 := rfl
    obtain ⟨m', q1, q2, q3⟩ := brun_ge hrm hr (rc.length - 1) 1 a' j (by omega) hl z2 (by rw [z4, l0, nI_add, Nat.zero_add]) (by omega) hneg
    exact ⟨m', by have := z5 rfl; omega, q2, q3⟩
def bG (x f : Int32) : Prop := ∃ p q, 1 ≤ p ∧ p ≤ 8 ∧ x = nI p ∧ 1 ≤ q ∧ q ≤ 72 ∧ f = nI q
theorem bstv_G {v : Nat → Int32} (hv : ∀ r, 1 ≤ r → r ≤ 8 → ¬ v r < 0 → ∃ q, 1 ≤ q ∧ q ≤ 72 ∧ v r = nI q) : ∀ (d r : Nat) (x f : Int32), r + d = 9 → 1 ≤ r → (f < 0 ∧ (∃ q, r ≤ q ∧ q < r + d ∧ ¬ v q < 0) ∨ bG x f) → bG (bstv v d r (x, f)).1 (bstv v d r (x, f)).2 := by
  intro d
  induction d with
  | zero =>
    intro r x f hr h1 h
    rcases h with ⟨-, q, q1, q2, -⟩ | h
    · omega
    · exact h
  | succ d ih =>
    intro r x f hr h1 h
    unfold bstv
    dsimp only
    by_cases c : v r < 0
    · rw [if_pos c]
      refine ih (r + 1) x f (by omega) (by omega) (h.imp (fun ⟨z, q, q1, q2, q3⟩ => ⟨z, q, ?_, by omega, q3⟩) id)
      by_cases e : q = r
      · subst e; exact absurd c q3
      · omega
    · rw [if_neg c]
      have hg : bG (nI r) (v r) := by
        obtain ⟨q, q1, q2, q3⟩ := hv r h1 (by omega) c
        exact ⟨r, q, h1, by omega, rfl, q1, q2, q3⟩
      by_cases c2 : f < 0
      · rw [if_pos c2]
        exact ih (r + 1) _ _ (by omega) (by omega) (Or.inr hg)
      · rw [if_neg c2]
        have hx : bG x f := h.elim (fun z => absurd z.1 c2) id
        by_cases c3 : f ≤ v r
        · rw [if_pos c3]
          exact ih (r + 1) _ _ (by omega) (by omega) (Or.inr hx)
        · rw [if_neg c3]
          exact ih (r + 1) _ _ (by omega) (by omega) (Or.inr hg)
end PBX
theorem t_best {sh : Sh} {ad ma : Nat → Nat} {h : Hp} {m T : Nat} {a : AS} {K : Int32 → Hp → Prop} (X : WK sh ad ma) (I : MJ ad T m a h) (hs : ¬ a.1 2 = 0) {q : Nat} (hq : q ≤ 1) (hk : ∀ x f h', bG x f → MJ ad T m a h' → K (if nI q = 0 then x else f) h') : f_X5_bestRoom sh (ad 0) (nI q) h K := by
  obtain ⟨b, A, kp, len, tx, cI, hm, pI, rfl⟩ := I
  have hb := cI.1
  have hp := pI 0 (by omega)
  obtain ⟨tk, rm0, st, hI, -⟩ := pI 0 (by omega)
  obtain ⟨⟨-, -, -, -, ⟨hst, hst9⟩, -⟩, -, -, hRI⟩ := hI
  have hl : (A 0).2.2.1.2.length ≤ 12 := by have := hRI.1; omega
  have st0 : st ≠ 0 := fun z => hs (by rw [hst, z]; rfl)
  have h1 : 1 ≤ (A 0).2.2.1.2.length := by have := hRI.1; omega
  unfold f_X5_bestRoom
  rw [if_neg (nI_pos (by omega)), if_pos (by rw [show (1 : Int32) = nI 1 from rfl, nI_leI (by omega) (by omega)]; exact hq), x_t0 X, gR_t cI.2.1.1, x_tb X hb (by omega), gI_t, cI.2.2.2.1.2.1.2.2.2.2, hst]
  refine if_n (fun z => st0 (nI_inj (b := 0) (by omega) (by omega) z)) ?_
  refine ⟨9, y_best31 X hm (PB_A hp) 8 1 (-1) (-1) h (by omega) (by omega) cI (fun h1' em cI1 => ?_)⟩
  have hG := bstv_G (v := fun q => bres (brun (A 0).2.2.1.2 (aB q))) (fun r r1 r8 hneg => brun_1 ⟨r1, r8⟩ hRI.2 h1 hl hneg) 8 1 (-1) (-1) (by omega) (by omega) (Or.inl ⟨by decide, 8, by omega, by omega, brun_8 hRI.2 (A 0).2.2.1.2.length 0 (aB 8) (by omega) hl (BR_0 (by omega))⟩)
  have fin := hk _ _ h1' hG ⟨b, A, kp, len, tx, cI1, hm, pI, rfl⟩
  by_cases c : nI q = 0
  · rw [if_pos c] at fin ⊢
    exact fin
  · rw [if_neg c] at fin ⊢
    exact fin

/-! the class's states: a table changes; commands; who stands in the way -/
theorem tgood_alt {g : Nat → Int32} {N t j : Nat} (ht : tgood g N) (hN : N < 100) (ht6 : t < 6) : tgood (altG g t j N) (N + 1) := by
  obtain ⟨t1, t2, t3⟩ := ht
  have tl : tlg (altG g t j N) N = t := by
    unfold tlg altG
    simp (disch := omega) only [va_up_off, va_up_self, nI_clamp]
  refine ⟨by omega, va_up_self _ _ _, fun k hk => ?_⟩
  by_cases e : k = N
  · subst e
    rw [tl]
    refine ⟨ht6, ?_⟩
    unfold altG
    simp (disch := omega) only [va_up_off, va_up_self]
  · have ek : altG g t j N (17 + k) = g (17 + k) := by
      unfold altG
      simp (disch := omega) only [va_up_off]
    unfold tlg
    rw [ek]
    exact t3 k (by omega)
section CG3
variable {sh : Sh} {ad : Nat → Nat} {h h' h'' : Hp} {B N : Nat} {g : Nat → Int32} {S : Nat → Ses} {W : Slots} {L : Ring}
theorem CT_alt (hi : inj ad) (hm : CT h ad B N g S W L) {t j : Nat} (hN : N < 100) (ht6 : t < 6) : CT (si (si (si (si (si h (ad (B + 2)) t (g (11 + t) ^^^ ((1 : Int32) <<< (nI j &&& 31)))) (ad (B + 1)) t (g (5 + t) + 1)) (ad (B + 3)) N (nI t)) (ad (B + 4)) N (g 0 + g 3)) (ad B) 5 (nI (N + 1))) ad B (N + 1) (altG g t j N) S W L := by
  obtain ⟨t1, ⟨a1, a2, a3, a4, a5⟩, t3, t4, t5, t6⟩ := hm
  have o : ∀ k, k ≠ 11 + t → k ≠ 5 + t → k ≠ 17 + N → k ≠ 117 + N → k ≠ 1 → altG g t j N k = g k := fun k k1 k2 k3 k4 k5 => by
    unfold altG
    rw [va_up_off k5, va_up_off k4, va_up_off k3, va_up_off k2, va_up_off k1]
  refine ⟨t1, ⟨?_, ?_, ?_, ?_, ?_⟩, fun u hu => ⟨?_, ?_⟩, fun k hk => ⟨?_, ?_⟩, fun q hq => ?_, fun i hi4 => ?_⟩
  · rw [gi_si_k (by decide), gi_ad hi (by omega), gi_ad hi (by omega), gi_ad hi (by omega), gi_ad hi (by omega), a1, o 0 (by omega) (by omega) (by omega) (by omega) (by omega)]
  · rw [gi_si_k (by decide), gi_ad hi (by omega), gi_ad hi (by omega), gi_ad hi (by omega), gi_ad hi (by omega), a2, o 3 (by omega) (by omega) (by omega) (by omega) (by omega)]
  · rw [gi_si_k (by decide), gi_ad hi (by omega), gi_ad hi (by omega), gi_ad hi (by omega), gi_ad hi (by omega), a3, o 4 (by omega) (by omega) (by omega) (by omega) (by omega)]
  · rw [gi_si]; unfold altG; rw [va_up_self]
  · rw [gi_si_k (by decide), gi_ad hi (by omega), gi_ad hi (by omega), gi_ad hi (by omega), gi_ad hi (by omega), a5, o 2 (by omega) (by omega) (by omega) (by omega) (by omega)]
  · rw [gi_ad hi (by omega), gi_ad hi (by omega), gi_ad hi (by omega)]
    by_cases e : u = t
    · subst e
      rw [gi_si]; unfold altG; rw [va_up_off (by omega), va_up_off (by omega), va_up_off (by omega), va_up_self]
    · rw [gi_si_k e, gi_ad hi (by omega), (t3 u hu).1, o (5 + u) (by omega) (by omega) (by omega) (by omega) (by omega)]
  · rw [gi_ad hi (by omega), gi_ad hi (by omega), gi_ad hi (by omega), gi_ad hi (by omega)]
    by_cases e : u = t
    · subst e
      rw [gi_si]; unfold altG; rw [va_up_off (by omega), va_up_off (by omega), va_up_off (by omega), va_up_off (by omega), va_up_self]
    · rw [gi_si_k e, (t3 u hu).2, o (11 + u) (by omega) (by omega) (by omega) (by omega) (by omega)]
  · rw [gi_ad hi (by omega), gi_ad hi (by omega)]
    by_cases e : k = N
    · subst e
      rw [gi_si]; unfold altG; rw [va_up_off (by omega), va_up_off (by omega), va_up_self]
    · rw [gi_si_k e, gi_ad hi (by omega), gi_ad hi (by omega), (t4 k (by omega)).1, o (17 + k) (by omega) (by omega) (by omega) (by omega) (by omega)]
  · rw [gi_ad hi (by omega)]
    by_cases e : k = N
    · subst e
      rw [gi_si]; unfold altG; rw [va_up_off (by omega), va_up_self]
    · rw [gi_si_k e, gi_ad hi (by omega), gi_ad hi (by omega), gi_ad hi (by omega), (t4 k (by omega)).2, o (117 + k) (by omega) (by omega) (by omega) (by omega) (by omega)]
  · rw [gi_ad hi (by omega), gi_ad hi (by omega), gi_ad hi (by omega), gi_ad hi (by omega), gi_ad hi (by omega), gi_ad hi (by omega), gi_ad hi (by omega), gi_ad hi (by omega), gi_ad hi (by omega), gi_ad hi (by omega)]; exact t5 q hq
  · exact CS_Q (((((QS_si hi (p := 2) (by omega)).tr (QS_si hi (p := 1) (by omega))).tr (QS_si hi (p := 3) (by omega))).tr (QS_si hi (p := 4) (by omega))).tr (QS_si hi (p := 0) (by omega))) (t6 i hi4)
theorem c_change (T : TK sh ad B) (hi : inj ad) (hm : CT h ad B N g S W L) (ht : tgood g N) (hs : sgood N S) (hv : ∀ t, t < 6 → ∀ n, n < 4 → vsrt (nI t) (S n).2) {x y : Int32} {K : Int32 → Hp → Prop}
    (k0 : ¬ ((∃ t, t < 6 ∧ x = nI t) ∧ ∃ j, j < 8 ∧ y = nI j) → K (-1) h)
    (k1 : ∀ t j, t < 6 → x = nI t → j < 8 → y = nI j → ((∃ e, pinE S (nI t) 4 e ∧ ¬ g (5 + t) ≤ e 1) ∨ g (11 + t) = (1 : Int32) <<< (nI j &&& 31)) → K (-2) h)
    (k2 : ∀ t j, t < 6 → x = nI t → j < 8 → y = nI j → (∀ e, pinE S (nI t) 4 e → g (5 + t) ≤ e 1) → g (11 + t) ≠ (1 : Int32) <<< (nI j &&& 31) → N = 100 → K (-3) h)
    (k3 : ∀ t j h', t < 6 → x = nI t → j < 8 → y = nI j → (∀ e, pinE S (nI t) 4 e → g (5 + t) ≤ e 1) → g (11 + t) ≠ (1 : Int32) <<< (nI j &&& 31) → N < 100 → CT h' ad B (N + 1) (altG g t j N) (if g 3 = 0 then comeN (altG g t j N) N S 4 else S) W L → FB ad h h' B → K (g (5 + t) + 1) h') :
    f_X2_changeTable sh (ad B) x y h K := by
  obtain ⟨t1, t2, t3⟩ := ht
  unfold f_X2_changeTable
  rcases rng x (a := 0) (b := 5) (by omega) (by omega) with ⟨t, -, u2, rfl⟩ | z | ⟨z1, z2⟩
  · have ht6 : t < 6 := by omega
    rw [if_neg (nI_pos (by omega)), if_neg (lt6 ht6)]
    rcases rng y (a := 0) (b := 7) (by omega) (by omega) with ⟨j, -, s2, rfl⟩ | z | ⟨z1, z2⟩
    · rw [if_neg (nI_pos (by omega)), if_pos (by rw [show (8 : Int32) = nI 8 from rfl, nI_ltI (by omega) (by omega)]; omega), ct_t0 T, gR_t hm.1.2.1, ct_t2 T, ct_l2 T ht6, (hm.2.2.1 t ht6).2]
      by_cases c0 : (g (11 + t) ^^^ ((1 : Int32) <<< (nI j &&& 31))) = 0
      · rw [if_pos c0]
        exact k1 t j ht6 rfl (by omega) rfl (Or.inr (Int32.xor_eq_zero_iff.mp c0))
      · have c0' : g (11 + t) ≠ (1 : Int32) <<< (nI j &&& 31) := fun z => c0 (Int32.xor_eq_zero_iff.mpr z)
        rw [if_neg c0]
        refine c_canChange T hm ht6 (hv t ht6) (fun zc => ?_) (fun zc => ?_)
        · rw [if_neg (by decide), gI_t, hm.2.1.2.2.2.1, t2]
          by_cases cN : N = 100
          · rw [if_neg (fun z => by rw [show (100 : Int32) = nI 100 from rfl, nI_ltI (by omega) (by omega)] at z; omega)]
            exact k2 t j ht6 rfl (by omega) rfl zc c0' cN
          · have hN : N < 100 := by omega
            rw [if_pos (by rw [show (100 : Int32) = nI 100 from rfl, nI_ltI (by omega) (by omega)]; exact hN), gR_t hm.1.2.1, ct_t2 T, ct_s2 T ht6, gR_s hm.1.1, ct_t1 T, ct_l1 T ht6, gi_ad hi (by omega), (hm.2.2.1 t ht6).1, ct_s1 T ht6]
            rw [gR_t (h := si (si h (ad (B + 2)) t _) (ad (B + 1)) t _) hm.1.2.2.1, gI_t, gi_ad hi (by omega), gi_ad hi (by omega), hm.2.1.2.2.2.1, t2, ct_t3 T, ct_s3 T hN]
            rw [gR_t (h := si (si (si h (ad (B + 2)) t _) (ad (B + 1)) t _) (ad (B + 3)) N _) hm.1.2.2.2.1, gI_t, gi_ad hi (by omega), gi_ad hi (by omega), gi_ad hi (by omega), hm.2.1.2.2.2.1, t2, gI_t, gi_ad hi (by omega), gi_ad hi (by omega), gi_ad hi (by omega), hm.2.1.1, gI_t, gi_ad hi (by omega), gi_ad hi (by omega), gi_ad hi (by omega), hm.2.1.2.1, ct_t4 T, ct_s4 T hN]
            rw [gI_t, gi_ad hi (by omega), gi_ad hi (by omega), gi_ad hi (by omega), gi_ad hi (by omega), hm.2.1.2.2.2.1, t2, nI_1, pI_t]
            have m2 := CT_alt (j := j) hi hm hN ht6
            have F0 : FB ad h (si (si (si (si (si h (ad (B + 2)) t (g (11 + t) ^^^ ((1 : Int32) <<< (nI j &&& 31)))) (ad (B + 1)) t (g (5 + t) + 1)) (ad (B + 3)) N (nI t)) (ad (B + 4)) N (g 0 + g 3)) (ad B) 5 (nI (N + 1))) B := ((((FB_si (by omega)).tr (FB_si (by omega))).tr (FB_si (by omega))).tr (FB_si (by omega))).tr FB_si0
            generalize si (si (si (si (si h (ad (B + 2)) t (g (11 + t) ^^^ ((1 : Int32) <<< (nI j &&& 31)))) (ad (B + 1)) t (g (5 + t) + 1)) (ad (B + 3)) N (nI t)) (ad (B + 4)) N (g 0 + g 3)) (ad B) 5 (nI (N + 1)) = h2 at m2 F0 ⊢
            have g3 : altG g t j N 3 = g 3 := by unfold altG; rw [va_up_off (by omega), va_up_off (by omega), va_up_off (by omega), va_up_off (by omega), va_up_off (by omega)]
            have g5 : altG g t j N (5 + t) = g (5 + t) + 1 := by unfold altG; rw [va_up_off (by omega), va_up_off (by omega), va_up_off (by omega), va_up_self]
            have g1 : altG g t j N 1 = nI (N + 1) := va_up_self _ _ _
            rw [gI_t, m2.2.1.2.1, g3]
            have k3 := fun h' => k3 t j h' ht6 rfl (by omega) rfl zc c0' hN
            by_cases c3 : g 3 = 0
            · rw [if_pos c3] at k3 ⊢
              rw [gI_t, m2.2.1.2.2.2.1, g1, show (1 : Int32) = nI 1 from rfl, nI_sub (by omega), Nat.add_sub_cancel]
              refine c_arrive T hi m2 (tgood_alt ⟨t1, t2, t3⟩ hN ht6) (fun n hn => ?_) (by omega) (fun h3 h4 h5 => ?_)
              · obtain ⟨q1, q2, q3, q4⟩ := hs n hn
                exact ⟨q1, q2, by omega, q4⟩
              · rw [gR_t h4.1.1, ct_t1 T, ct_l1 T ht6, (h4.2.2.1 t ht6).1, g5]
                exact k3 h3 h4 (F0.tr h5)
            · rw [if_neg c3] at k3 ⊢
              rw [gR_t m2.1.1, ct_t1 T, ct_l1 T ht6, (m2.2.2.1 t ht6).1, g5]
              exact k3 h2 m2 F0
        · rw [if_pos rfl]
          exact k1 t j ht6 rfl (by omega) rfl (Or.inl zc)
    · refine if_y z ?_
      refine k0 (fun q => ?_)
      obtain ⟨-, s, s1, rfl⟩ := q
      exact nI_pos (by omega) z
    · refine if_n z1 (if_n (fun q => ?_) ?_)
      · rw [Int32.lt_iff_toInt_lt] at q z2
        rw [nI_toInt (by omega)] at z2
        have : (8 : Int32).toInt = 8 := by decide
        omega
      · refine k0 (fun q => ?_)
        obtain ⟨-, s, s1, rfl⟩ := q
        rw [nI_ltI (by omega) (by omega)] at z2; omega
  · refine if_y z ?_
    refine k0 (fun q => ?_)
    obtain ⟨⟨n, n1, rfl⟩, -⟩ := q
    exact nI_pos (by omega) z
  · refine if_n z1 (if_y ?_ ?_)
    · rw [Int32.le_iff_toInt_le]; rw [Int32.lt_iff_toInt_lt, nI_toInt (by omega)] at z2
      have : (6 : Int32).toInt = 6 := by decide
      omega
    refine k0 (fun q => ?_)
    obtain ⟨⟨n, n1, rfl⟩, -⟩ := q
    rw [nI_ltI (by omega) (by omega)] at z2; omega
end CG3

/-! the reference: what goes, what is there, what comes in, what is learned -/
section M3
variable {sh : Sh} {ma : Nat → Nat} {h : Hp} {f : Nat → Int32} {n : Nat} {c : Nat → Int32} {l : List En}
theorem shr_len (most : Int32) : ∀ (k : Nat) (l : List En), l.length ≤ 8 → (shr most k l).1.length + (shr most k l).2 = l.length := by
  intro k
  induction k with
  | zero => intro l _; rfl
  | succ k ih =>
    intro l hl
    unfold shr
    split
    · next hc =>
      rcases oldN_lt l l.length hl with e | ⟨j, j1, j2, -⟩
      · exact absurd (by show oldN l l.length < 0; rw [e]; decide) hc.2
      · have hj : (oldI l).toNatClampNeg = j := by
          show (oldN l l.length).toNatClampNeg = j
          rw [j2, nI_clamp (by omega)]
        rw [hj]
        have h1 := len_erase j1
        have := ih (l.eraseIdx j) (by omega)
        dsimp only
        omega
    · rfl
/-- shrink: the loop's count is s, what is still to go is in the measure -/
theorem m_shrink (X : MX sh ma h) (hn : n < 4) (hm : MS f n c l) {most : Int32} {K : Int32 → Hp → Prop} (hk : ∀ g, MS g n (va_up c 3 (c 3 + nI (shr most l.length l).2)) (shr most l.length l).1 → Out f g n → K (nI (shr most l.length l).2) (hset h (ma 1) g)) : f_X6_shrink sh (ma 0) (nI n) most (hset h (ma 1) f) K := by
  unfold f_X6_shrink
  refine lo_ind (fun d s h' => ∃ k g l' c', d = l'.length + 1 ∧ s = nI k ∧ h' = hset h (ma 1) g ∧ MS g n c' l' ∧ Out f g n ∧ (∀ g', MS g' n (va_up c' 3 (c' 3 + nI (shr most l'.length l').2)) (shr most l'.length l').1 → Out f g' n → K (nI (k + (shr most l'.length l').2)) (hset h (ma 1) g'))) ?_ ?_ (d := l.length + 1) ⟨0, f, l, c, rfl, rfl, rfl, hm, Out.rf, fun g' h1 h2 => by rw [Nat.zero_add]; exact hk g' h1 h2⟩
  · rintro s h' ⟨k, g, l', c', h1, -⟩
    omega
  · rintro d rec hrec s h' ⟨k, g, l', c', h1, rfl, rfl, h3, h4, h5⟩
    have hl8 := h3.lenle
    have e6 := h3.2.1
    unfold b_X6_shrink_2
    simp (disch := omega) only [i1, i2, i3, i4, i5, i6, i7, i8, i9, i10, i11, i12, i17, i20, i21, i22, i23, i26, i32, i44, i48, i55, i57, i59, i60, i63, i99, i100, i101, i115, i116, i117, i126, i217, i437, i438, i598, i599, i623, i999, i1869, mx_m X, mx_r0 X, mx_t1 X, of_t, ofE_t, ofO_t, mx_ld X, mx_st X, gI_t, pI_t, ev_t, nI_add, nI_leI, nI_ltI, e6]
    have stop : (shr most l'.length l') = (l', 0) → K (nI k) (hset h (ma 1) g) := fun e => by
      rw [e] at h5
      have := h5 g (by
        have e3 : va_up c' 3 (c' 3 + nI 0) = c' := by
          rw [nI_0, Int32.add_zero]; funext j; simp only [va_up]; split
          · subst_vars; rfl
          · rfl
        dsimp only
        rw [e3]; exact h3) h4
      exact this
    by_cases hc : nI l'.length ≤ most
    · rw [if_pos hc]
      refine stop ?_
      cases hl : l'.length with
      | zero => rfl
      | succ m =>
        unfold shr
        rw [if_neg (fun z => by
          have z1 := z.1
          rw [Int32.lt_iff_toInt_lt] at z1
          rw [Int32.le_iff_toInt_le] at hc
          omega)]
    · rw [if_neg hc]
      refine m_oldest X hn h3 ?_
      by_cases ho : oldI l' < 0
      · rw [if_pos ho]
        refine stop ?_
        cases hl : l'.length with
        | zero => rfl
        | succ m =>
          unfold shr
          rw [if_neg (fun z => z.2 ho)]
      · rw [if_neg ho]
        refine m_oldest X hn h3 ?_
        rcases oldN_lt l' l'.length hl8 with e | ⟨j, j1, j2, -⟩
        · exact absurd (by show oldN l' l'.length < 0; rw [e]; decide) ho
        · have hj : oldI l' = nI j := j2
          rw [hj]
          refine m_remove X hn h3 j1 (fun g2 g3 g4 => ?_)
          have e3 := g3.1 3 (by omega)
          simp (disch := omega) only [i1, i2, i3, i4, i5, i6, i7, i8, i9, i10, i11, i12, i17, i20, i21, i22, i23, i26, i32, i44, i48, i55, i57, i59, i60, i63, i99, i100, i101, i115, i116, i117, i126, i217, i437, i438, i598, i599, i623, i999, i1869, mx_m X, mx_r0 X, mx_t1 X, of_t, ofE_t, ofO_t, mx_ld X, mx_st X, gI_t, pI_t, ev_t, nI_add, nI_leI, nI_ltI, e3]
          have hle := len_erase j1
          refine hrec _ _ ⟨k + 1, va_up g2 (217 + 55 * n + 3) (c' 3 + nI 1), l'.eraseIdx j, va_up c' 3 (c' 3 + nI 1), by omega, rfl, rfl, MS_c g3 (by omega), (h4.tr g4).tr (Out_set (by omega) (by omega)), fun g' h1' h2' => ?_⟩
          have es : shr most l'.length l' = ((shr most (l'.eraseIdx j).length (l'.eraseIdx j)).1, (shr most (l'.eraseIdx j).length (l'.eraseIdx j)).2 + 1) := by
            obtain ⟨m, hm2⟩ : ∃ m, l'.length = m + 1 := ⟨l'.length - 1, by omega⟩
            rw [hle, hm2, Nat.add_sub_cancel]
            conv => lhs; unfold shr
            rw [if_pos ⟨by
              rw [Int32.lt_iff_toInt_lt]; rw [Int32.le_iff_toInt_le] at hc; omega, ho⟩, hj, nI_clamp (by omega)]
          rw [es] at h5
          have := h5 g' (by
            dsimp only
            have ec : va_up c' 3 (c' 3 + nI ((shr most (l'.eraseIdx j).length (l'.eraseIdx j)).2 + 1)) = va_up (va_up c' 3 (c' 3 + nI 1)) 3 ((va_up c' 3 (c' 3 + nI 1)) 3 + nI (shr most (l'.eraseIdx j).length (l'.eraseIdx j)).2) := by
              funext q
              simp only [va_up]
              split
              · rw [if_pos trivial, Int32.add_assoc, nI_add, Nat.add_comm 1]
              · rfl
            rw [ec]; exact h1') h2'
          dsimp only at this
          rw [show k + 1 + (shr most (l'.eraseIdx j).length (l'.eraseIdx j)).2 = k + ((shr most (l'.eraseIdx j).length (l'.eraseIdx j)).2 + 1) by omega]
          exact this
/-- the place of the last entry of which p holds, among the first n -/
def lastN (p : En → Prop) [DecidablePred p] (l : List En) : Nat → Int32
  | 0 => -1
  | n + 1 => if p (hd l n) then nI n else lastN p l n
def lastI (p : En → Prop) [DecidablePred p] (l : List En) : Int32 := lastN p l l.length
/-- entryOf, by a version that isn't below 0 -/
theorem m_entryOfV (X : MX sh ma h) (hn : n < 4) (hm : MS f n c l) {t v : Int32} (hv : 0 ≤ v) {K : Int32 → Hp → Prop} (hk : K (lastI (fun e => e 0 = t ∧ e 1 = v) l) (hset h (ma 1) f)) : f_X6_entryOf sh (ma 0) (nI n) t v (hset h (ma 1) f) K := by
  obtain ⟨m1, m2, m3, m4⟩ := hm
  unfold f_X6_entryOf
  refine lo_ind (fun d s h' => ∃ k, k + d = l.length + 1 ∧ k ≤ l.length ∧ s = (lastN (fun e => e 0 = t ∧ e 1 = v) l k, nI k) ∧ h' = hset h (ma 1) f) ?_ ?_ (d := l.length + 1) ⟨0, by omega, by omega, rfl, rfl⟩
  · rintro s h' ⟨k, hk, hk2, -⟩
    omega
  · rintro d rec hrec s h' ⟨k, hkd, hkl, rfl, rfl⟩
    have nx := fun z : k < l.length => hrec _ _ ⟨k + 1, by omega, z, rfl, rfl⟩
    have e0 : (0 : Int32) = nI 0 := rfl
    unfold b_X6_entryOf_6
    simp (disch := omega) only [i1, i2, i3, i4, i5, i6, i7, i8, i9, i10, i11, i12, i17, i20, i21, i22, i23, i26, i32, i44, i48, i55, i57, i59, i60, i63, i99, i100, i101, i115, i116, i117, i126, i217, i437, i438, i598, i599, i623, i999, i1869, mx_m X, mx_r0 X, mx_t1 X, of_t, ofE_t, ofO_t, mx_ld X, mx_st X, gI_t, pI_t, ev_t, nI_add, nI_leI, nI_ltI, m2]
    by_cases hz : k = l.length
    · rw [if_pos (by omega), hz]
      exact hk
    · rw [if_neg (by omega), if_pos hv]
      replace nx := nx (by omega)
      unfold lastN at nx
      simp (disch := omega) only [i1, i2, i3, i4, i5, i6, i7, i8, i9, i10, i11, i12, i17, i20, i21, i22, i23, i26, i32, i44, i48, i55, i57, i59, i60, i63, i99, i100, i101, i115, i116, i117, i126, i217, i437, i438, i598, i599, i623, i999, i1869, mx_m X, mx_r0 X, mx_t1 X, of_t, ofE_t, ofO_t, mx_ld X, mx_st X, gI_t, pI_t, ev_t, nI_add, nI_leI, nI_ltI, m4, e0]
      by_cases h1 : hd l k 1 = v
      · rw [if_pos h1]
        by_cases h0 : hd l k 0 = t
        · rw [if_pos h0]
          rw [if_pos ⟨h0, h1⟩] at nx
          exact nx
        · rw [if_neg h0]
          rw [if_neg (fun z => h0 z.1)] at nx
          exact nx
      · rw [if_neg h1]
        rw [if_neg (fun z => h1 z.2)] at nx
        exact nx
theorem m_entryOfF (X : MX sh ma h) (hn : n < 4) (hm : MS f n c l) {t : Int32} {K : Int32 → Hp → Prop} (hk : K (lastI (fun e => e 0 = t ∧ e 5 = 0) l) (hset h (ma 1) f)) : f_X6_entryOf sh (ma 0) (nI n) t (-1) (hset h (ma 1) f) K := by
  obtain ⟨m1, m2, m3, m4⟩ := hm
  unfold f_X6_entryOf
  refine lo_ind (fun d s h' => ∃ k, k + d = l.length + 1 ∧ k ≤ l.length ∧ s = (lastN (fun e => e 0 = t ∧ e 5 = 0) l k, nI k) ∧ h' = hset h (ma 1) f) ?_ ?_ (d := l.length + 1) ⟨0, by omega, by omega, rfl, rfl⟩
  · rintro s h' ⟨k, hk, hk2, -⟩
    omega
  · rintro d rec hrec s h' ⟨k, hkd, hkl, rfl, rfl⟩
    have nx := fun z : k < l.length => hrec _ _ ⟨k + 1, by omega, z, rfl, rfl⟩
    have e0 : (0 : Int32) = nI 0 := rfl
    unfold b_X6_entryOf_6
    simp (disch := omega) only [i1, i2, i3, i4, i5, i6, i7, i8, i9, i10, i11, i12, i17, i20, i21, i22, i23, i26, i32, i44, i48, i55, i57, i59, i60, i63, i99, i100, i101, i115, i116, i117, i126, i217, i437, i438, i598, i599, i623, i999, i1869, mx_m X, mx_r0 X, mx_t1 X, of_t, ofE_t, ofO_t, mx_ld X, mx_st X, gI_t, pI_t, ev_t, nI_add, nI_leI, nI_ltI, m2]
    by_cases hz : k = l.length
    · rw [if_pos (by omega), hz]
      exact hk
    · rw [if_neg (by omega), if_neg (show ¬ (0 : Int32) ≤ -nI 1 by decide)]
      replace nx := nx (by omega)
      unfold lastN at nx
      simp (disch := omega) only [i1, i2, i3, i4, i5, i6, i7, i8, i9, i10, i11, i12, i17, i20, i21, i22, i23, i26, i32, i44, i48, i55, i57, i59, i60, i63, i99, i100, i101, i115, i116, i117, i126, i217, i437, i438, i598, i599, i623, i999, i1869, mx_m X, mx_r0 X, mx_t1 X, of_t, ofE_t, ofO_t, mx_ld X, mx_st X, gI_t, pI_t, ev_t, nI_add, nI_leI, nI_ltI, m4, e0]
      by_cases h1 : hd l k 5 = nI 0
      · rw [if_pos h1]
        by_cases h0 : hd l k 0 = t
        · rw [if_pos h0]
          rw [if_pos ⟨h0, h1⟩] at nx
          exact nx
        · rw [if_neg h0]
          rw [if_neg (fun z => h0 z.1)] at nx
          exact nx
      · rw [if_neg h1]
        rw [if_neg (fun z => h1 z.2)] at nx
        exact nx
end M3

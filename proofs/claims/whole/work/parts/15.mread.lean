/-! the reference's whole state, and what it tells of it -/
def rcd (rc : List (Int32 × Int32)) (p : Nat) : Int32 × Int32 := rc.getD p (0, 0)
/-- the row of numbers f holds: globals g, the sessions S, the open statements os, the latest ones rc -/
def MA (f g : Nat → Int32) (S : Nat → (Nat → Int32) × List En) (os : List En) (rc : List (Int32 × Int32)) : Prop :=
  (∀ k, k < 217 → f k = g k) ∧ (∀ n, n < 4 → MS f n (S n).1 (S n).2) ∧ (f 437 = nI os.length ∧ os.length ≤ 16 ∧ ∀ p, p < os.length → ∀ k, k < 10 → f (438 + 10 * p + k) = hd os p k) ∧
  f 598 = nI rc.length ∧ rc.length ≤ 12 ∧ ∀ p, p < rc.length → f (599 + 2 * p) = (rcd rc p).1 ∧ f (600 + 2 * p) = (rcd rc p).2
/-- does a set have a table -/
def bitp (x : Int32) (t : Nat) : Prop := ((x >>> (nI t &&& 31)) &&& 1) = 1
/-- r is the least value of those with P, or d where there is none -/
def isMin (P : En → Prop) (val : En → Int32) (d : Int32) (l : List En) (r : Int32) : Prop := (r = d ∧ ∀ o ∈ l, ¬ P o) ∨ ((∃ o ∈ l, P o ∧ val o = r) ∧ ∀ o ∈ l, P o → r ≤ val o)
theorem isMin_nil {P : En → Prop} {val : En → Int32} {d : Int32} : isMin P val d [] d := Or.inl ⟨rfl, fun _ h => absurd h List.not_mem_nil⟩
theorem isMin_skip {P : En → Prop} {val : En → Int32} {d r : Int32} {l : List En} {o : En} (h : isMin P val d l r) (ho : ¬ P o) : isMin P val d (l ++ [o]) r := by
  rcases h with ⟨h1, h2⟩ | ⟨⟨o1, a1, a2, a3⟩, h2⟩
  · refine Or.inl ⟨h1, fun q hq => ?_⟩
    rcases List.mem_append.mp hq with z | z
    · exact h2 q z
    · rw [List.mem_singleton.mp z]; exact ho
  · refine Or.inr ⟨⟨o1, List.mem_append_left _ a1, a2, a3⟩, fun q hq hP => ?_⟩
    rcases List.mem_append.mp hq with z | z
    · exact h2 q z hP
    · rw [List.mem_singleton.mp z] at hP; exact absurd hP ho
theorem isMin_first {P : En → Prop} {val : En → Int32} {d r : Int32} {l : List En} {o : En} (h : isMin P val d l r) (hr : r = d) (hd : ∀ q ∈ l, P q → val q ≠ d) (ho : P o) : isMin P val d (l ++ [o]) (val o) := by
  rcases h with ⟨h1, h2⟩ | ⟨⟨o1, a1, a2, a3⟩, h2⟩
  · refine Or.inr ⟨⟨o, List.mem_append_right _ (List.mem_singleton.mpr rfl), ho, rfl⟩, fun q hq hP => ?_⟩
    rcases List.mem_append.mp hq with z | z
    · exact absurd hP (h2 q z)
    · rw [List.mem_singleton.mp z]; exact Int32.le_refl _
  · exact absurd (a3.trans hr) (hd o1 a1 a2)
theorem isMin_more {P : En → Prop} {val : En → Int32} {d r : Int32} {l : List En} {o : En} (h : isMin P val d l r) (hr : r ≠ d) (ho : P o) (hle : r ≤ val o) : isMin P val d (l ++ [o]) r := by
  rcases h with ⟨h1, h2⟩ | ⟨⟨o1, a1, a2, a3⟩, h2⟩
  · exact absurd h1 hr
  · refine Or.inr ⟨⟨o1, List.mem_append_left _ a1, a2, a3⟩, fun q hq hP => ?_⟩
    rcases List.mem_append.mp hq with z | z
    · exact h2 q z hP
    · rw [List.mem_singleton.mp z]; exact hle
theorem isMin_less {P : En → Prop} {val : En → Int32} {d r : Int32} {l : List En} {o : En} (h : isMin P val d l r) (hr : r ≠ d) (ho : P o) (hle : ¬ r ≤ val o) : isMin P val d (l ++ [o]) (val o) := by
  rcases h with ⟨h1, h2⟩ | ⟨⟨o1, a1, a2, a3⟩, h2⟩
  · exact absurd h1 hr
  · refine Or.inr ⟨⟨o, List.mem_append_right _ (List.mem_singleton.mpr rfl), ho, rfl⟩, fun q hq hP => ?_⟩
    rcases List.mem_append.mp hq with z | z
    · have := h2 q z hP
      rw [Int32.le_iff_toInt_le] at this hle ⊢
      omega
    · rw [List.mem_singleton.mp z]; exact Int32.le_refl _
theorem isMin_uniq {P : En → Prop} {val : En → Int32} {d r r' : Int32} {l : List En} (h : isMin P val d l r) (h' : isMin P val d l r') : r = r' := by
  rcases h with ⟨h1, h2⟩ | ⟨⟨o1, a1, a2, a3⟩, h2⟩ <;> rcases h' with ⟨k1, k2⟩ | ⟨⟨o2, b1, b2, b3⟩, k2⟩
  · rw [h1, k1]
  · exact absurd b2 (h2 o2 b1)
  · exact absurd a2 (k2 o1 a1)
  · have z1 := h2 o2 b1 b2
    have z2 := k2 o1 a1 a2
    rw [b3] at z1
    rw [a3] at z2
    exact Int32.le_antisymm z1 z2
theorem take_hd {l : List En} {k : Nat} (h : k < l.length) : l.take (k + 1) = l.take k ++ [hd l k] := by
  rw [List.take_succ_eq_append_getElem h, hd_lt h]
def cntN (l : List En) (p : En → Prop) [DecidablePred p] : Nat → Nat
  | 0 => 0
  | k + 1 => if p (hd l k) then cntN l p k + 1 else cntN l p k
def sum5 (l : List En) : Nat → Int32
  | 0 => 0
  | k + 1 => sum5 l k + hd l k 5
section M6
variable {sh : Sh} {ma : Nat → Nat} {h : Hp} {f g : Nat → Int32} {S : Nat → (Nat → Int32) × List En} {os : List En} {rc : List (Int32 × Int32)}
theorem m_inWay (X : MX sh ma h) (hm : MA f g S os rc) {t : Nat} (ht : t < 6) (hnn : ∀ o ∈ os, o 0 ≠ -4) {K : Int32 → Hp → Prop} (hk : ∀ r, isMin (fun o => bitp (o 2) t ∧ ¬ g (5 + t) ≤ o (4 + t)) (fun o => o 0) (-4) os r → K r (hset h (ma 1) f)) : f_X6_inWay sh (ma 0) (nI t) (hset h (ma 1) f) K := by
  obtain ⟨a1, a2, ⟨a3, a4, a5⟩, a6⟩ := hm
  unfold f_X6_inWay
  refine lo_ind (fun d s h' => ∃ k r, k + d = os.length + 1 ∧ k ≤ os.length ∧ s = (r, nI k) ∧ h' = hset h (ma 1) f ∧ isMin (fun o => bitp (o 2) t ∧ ¬ g (5 + t) ≤ o (4 + t)) (fun o => o 0) (-4) (os.take k) r) ?_ ?_ (d := os.length + 1) ⟨0, -4, by omega, by omega, rfl, rfl, isMin_nil⟩
  · rintro s h' ⟨k, r, h1, h2, -⟩
    omega
  · rintro d rec hrec s h' ⟨k, r, h1, h2, rfl, rfl, h3⟩
    have nx := fun (r' : Int32) (z : k < os.length) z2 => hrec (r', nI (k + 1)) _ ⟨k + 1, r', by omega, z, rfl, rfl, z2⟩
    have e0 : (0 : Int32) = nI 0 := rfl
    unfold b_X6_inWay_5
    simp (disch := omega) only [i1, i2, i3, i4, i5, i6, i7, i8, i9, i10, i11, i12, i17, i20, i21, i22, i23, i26, i32, i44, i48, i55, i57, i59, i60, i63, i99, i100, i101, i115, i116, i117, i126, i217, i437, i438, i598, i599, i623, i999, i1869, mx_m X, mx_r0 X, mx_t1 X, of_t, ofE_t, ofO_t, mx_ld X, mx_st X, gI_t, pI_t, ev_t, nI_add, nI_leI, nI_ltI, a3]
    by_cases hz : k = os.length
    · rw [if_pos (by omega)]
      rw [hz, List.take_length] at h3
      exact hk r h3
    · rw [if_neg (by omega)]
      have hkl : k < os.length := by omega
      rw [show (4 : Nat) + t = 4 + t from rfl]
      have b0 := a5 k hkl 0 (by omega)
      have b2 := a5 k hkl 2 (by omega)
      have b4 := a5 k hkl (4 + t) (by omega)
      have bg := a1 (5 + t) (by omega)
      simp (disch := omega) only [i1, i2, i3, i4, i5, i6, i7, i8, i9, i10, i11, i12, i17, i20, i21, i22, i23, i26, i32, i44, i48, i55, i57, i59, i60, i63, i99, i100, i101, i115, i116, i117, i126, i217, i437, i438, i598, i599, i623, i999, i1869, mx_m X, mx_r0 X, mx_t1 X, of_t, ofE_t, ofO_t, mx_ld X, mx_st X, gI_t, pI_t, ev_t, nI_add, nI_leI, nI_ltI, e0, b0, b2, b4, bg]
      by_cases hb : bitp (hd os k 2) t
      · have hb' := hb
        unfold bitp at hb'
        rw [if_pos (by exact hb')]
        by_cases hv : g (5 + t) ≤ hd os k (4 + t)
        · rw [if_pos hv]
          exact nx r hkl (by rw [take_hd hkl]; exact isMin_skip h3 (fun z => z.2 hv))
        · rw [if_neg hv]
          have hP : (fun o : En => bitp (o 2) t ∧ ¬ g (5 + t) ≤ o (4 + t)) (hd os k) := ⟨hb, hv⟩
          by_cases hr : r = -4
          · rw [if_pos (by exact hr)]
            exact nx _ hkl (by rw [take_hd hkl]; exact isMin_first h3 hr (fun q hq _ => hnn q (List.mem_of_mem_take hq)) hP)
          · rw [if_neg (by exact hr)]
            by_cases hle : r ≤ hd os k 0
            · rw [if_pos hle]
              exact nx r hkl (by rw [take_hd hkl]; exact isMin_more h3 hr hP hle)
            · rw [if_neg hle]
              exact nx _ hkl (by rw [take_hd hkl]; exact isMin_less h3 hr hP hle)
      · rw [if_neg (by exact hb)]
        exact nx r hkl (by rw [take_hd hkl]; exact isMin_skip h3 (fun z => hb z.1))
theorem m_leastVersion (X : MX sh ma h) (hm : MA f g S os rc) {t : Nat} (ht : t < 6) (hnn : ∀ o ∈ os, bitp (o 2) t → o (4 + t) ≠ -4) {K : Int32 → Hp → Prop} (hk : ∀ r, isMin (fun o => bitp (o 2) t) (fun o => o (4 + t)) (-4) os r → K r (hset h (ma 1) f)) : f_X6_leastVersion sh (ma 0) (nI t) (hset h (ma 1) f) K := by
  obtain ⟨a1, a2, ⟨a3, a4, a5⟩, a6⟩ := hm
  unfold f_X6_leastVersion
  refine lo_ind (fun d s h' => ∃ k r, k + d = os.length + 1 ∧ k ≤ os.length ∧ s = (r, nI k) ∧ h' = hset h (ma 1) f ∧ isMin (fun o => bitp (o 2) t) (fun o => o (4 + t)) (-4) (os.take k) r) ?_ ?_ (d := os.length + 1) ⟨0, -4, by omega, by omega, rfl, rfl, isMin_nil⟩
  · rintro s h' ⟨k, r, h1, h2, -⟩
    omega
  · rintro d rec hrec s h' ⟨k, r, h1, h2, rfl, rfl, h3⟩
    have nx := fun (r' : Int32) (z : k < os.length) z2 => hrec (r', nI (k + 1)) _ ⟨k + 1, r', by omega, z, rfl, rfl, z2⟩
    unfold b_X6_leastVersion_5
    simp (disch := omega) only [i1, i2, i3, i4, i5, i6, i7, i8, i9, i10, i11, i12, i17, i20, i21, i22, i23, i26, i32, i44, i48, i55, i57, i59, i60, i63, i99, i100, i101, i115, i116, i117, i126, i217, i437, i438, i598, i599, i623, i999, i1869, mx_m X, mx_r0 X, mx_t1 X, of_t, ofE_t, ofO_t, mx_ld X, mx_st X, gI_t, pI_t, ev_t, nI_add, nI_leI, nI_ltI, a3]
    by_cases hz : k = os.length
    · rw [if_pos (by omega)]
      rw [hz, List.take_length] at h3
      exact hk r h3
    · rw [if_neg (by omega)]
      have hkl : k < os.length := by omega
      have b2 := a5 k hkl 2 (by omega)
      have b4 := a5 k hkl (4 + t) (by omega)
      simp (disch := omega) only [i1, i2, i3, i4, i5, i6, i7, i8, i9, i10, i11, i12, i17, i20, i21, i22, i23, i26, i32, i44, i48, i55, i57, i59, i60, i63, i99, i100, i101, i115, i116, i117, i126, i217, i437, i438, i598, i599, i623, i999, i1869, mx_m X, mx_r0 X, mx_t1 X, of_t, ofE_t, ofO_t, mx_ld X, mx_st X, gI_t, pI_t, ev_t, nI_add, nI_leI, nI_ltI, b2, b4]
      by_cases hb : bitp (hd os k 2) t
      · rw [if_pos (by exact hb)]
        by_cases hr : r = -4
        · rw [if_pos (by exact hr)]
          exact nx _ hkl (by rw [take_hd hkl]; exact isMin_first (val := fun o => o (4 + t)) h3 hr (fun q hq z => hnn q (List.mem_of_mem_take hq) z) hb)
        · rw [if_neg (by exact hr)]
          by_cases hle : r ≤ hd os k (4 + t)
          · rw [if_pos hle]
            exact nx r hkl (by rw [take_hd hkl]; exact isMin_more h3 hr hb hle)
          · rw [if_neg hle]
            exact nx _ hkl (by rw [take_hd hkl]; exact isMin_less (val := fun o => o (4 + t)) h3 hr hb hle)
      · rw [if_neg (by exact hb)]
        exact nx r hkl (by rw [take_hd hkl]; exact isMin_skip h3 hb)
theorem m_opensOf (X : MX sh ma h) (hm : MA f g S os rc) {x : Int32} {K : Int32 → Hp → Prop} (hk : K (nI (cntN os (fun o => o 1 = x) os.length)) (hset h (ma 1) f)) : f_X6_opensOf sh (ma 0) x (hset h (ma 1) f) K := by
  obtain ⟨a1, a2, ⟨a3, a4, a5⟩, a6⟩ := hm
  unfold f_X6_opensOf
  refine lo_ind (fun d s h' => ∃ k, k + d = os.length + 1 ∧ k ≤ os.length ∧ s = (nI (cntN os (fun o => o 1 = x) k), nI k) ∧ h' = hset h (ma 1) f) ?_ ?_ (d := os.length + 1) ⟨0, by omega, by omega, rfl, rfl⟩
  · rintro s h' ⟨k, h1, h2, -⟩
    omega
  · rintro d rec hrec s h' ⟨k, h1, h2, rfl, rfl⟩
    have nx := fun (z : k < os.length) => hrec _ _ ⟨k + 1, by omega, z, rfl, rfl⟩
    unfold b_X6_opensOf_4
    simp (disch := omega) only [i1, i2, i3, i4, i5, i6, i7, i8, i9, i10, i11, i12, i17, i20, i21, i22, i23, i26, i32, i44, i48, i55, i57, i59, i60, i63, i99, i100, i101, i115, i116, i117, i126, i217, i437, i438, i598, i599, i623, i999, i1869, mx_m X, mx_r0 X, mx_t1 X, of_t, ofE_t, ofO_t, mx_ld X, mx_st X, gI_t, pI_t, ev_t, nI_add, nI_leI, nI_ltI, a3]
    by_cases hz : k = os.length
    · rw [if_pos (by omega), hz]
      exact hk
    · rw [if_neg (by omega)]
      have hkl : k < os.length := by omega
      have b1 := a5 k hkl 1 (by omega)
      simp (disch := omega) only [i1, i2, i3, i4, i5, i6, i7, i8, i9, i10, i11, i12, i17, i20, i21, i22, i23, i26, i32, i44, i48, i55, i57, i59, i60, i63, i99, i100, i101, i115, i116, i117, i126, i217, i437, i438, i598, i599, i623, i999, i1869, mx_m X, mx_r0 X, mx_t1 X, of_t, ofE_t, ofO_t, mx_ld X, mx_st X, gI_t, pI_t, ev_t, nI_add, nI_leI, nI_ltI, b1]
      have nx := nx hkl
      unfold cntN at nx
      by_cases hx : hd os k 1 = x
      · rw [if_pos hx] at nx ⊢
        exact nx
      · rw [if_neg hx] at nx ⊢
        rw [Int32.add_zero]
        exact nx
/-- placeOf: the first with that number -/
theorem m_placeOf (X : MX sh ma h) (hm : MA f g S os rc) {x : Int32} {K : Int32 → Hp → Prop} (hk1 : ∀ p, p < os.length → hd os p 0 = x → (∀ j, j < p → hd os j 0 ≠ x) → K (nI p) (hset h (ma 1) f)) (hk2 : (∀ j, j < os.length → hd os j 0 ≠ x) → K (-1) (hset h (ma 1) f)) : f_X6_placeOf sh (ma 0) x (hset h (ma 1) f) K := by
  obtain ⟨a1, a2, ⟨a3, a4, a5⟩, a6⟩ := hm
  unfold f_X6_placeOf
  refine lo_ind (fun d s h' => ∃ k, k + d = os.length + 1 ∧ k ≤ os.length ∧ s = nI k ∧ h' = hset h (ma 1) f ∧ ∀ j, j < k → hd os j 0 ≠ x) ?_ ?_ (d := os.length + 1) ⟨0, by omega, by omega, rfl, rfl, fun j hj => by omega⟩
  · rintro s h' ⟨k, h1, h2, -⟩
    omega
  · rintro d rec hrec s h' ⟨k, h1, h2, rfl, rfl, h3⟩
    have e0 : (0 : Int32) = nI 0 := rfl
    unfold b_X6_placeOf_2
    simp (disch := omega) only [i1, i2, i3, i4, i5, i6, i7, i8, i9, i10, i11, i12, i17, i20, i21, i22, i23, i26, i32, i44, i48, i55, i57, i59, i60, i63, i99, i100, i101, i115, i116, i117, i126, i217, i437, i438, i598, i599, i623, i999, i1869, mx_m X, mx_r0 X, mx_t1 X, of_t, ofE_t, ofO_t, mx_ld X, mx_st X, gI_t, pI_t, ev_t, nI_add, nI_leI, nI_ltI, a3]
    by_cases hz : k = os.length
    · rw [if_pos (by omega)]
      exact hk2 (by rw [← hz]; exact h3)
    · rw [if_neg (by omega)]
      have hkl : k < os.length := by omega
      have b0 := a5 k hkl 0 (by omega)
      simp (disch := omega) only [i1, i2, i3, i4, i5, i6, i7, i8, i9, i10, i11, i12, i17, i20, i21, i22, i23, i26, i32, i44, i48, i55, i57, i59, i60, i63, i99, i100, i101, i115, i116, i117, i126, i217, i437, i438, i598, i599, i623, i999, i1869, mx_m X, mx_r0 X, mx_t1 X, of_t, ofE_t, ofO_t, mx_ld X, mx_st X, gI_t, pI_t, ev_t, nI_add, nI_leI, nI_ltI, e0, b0]
      by_cases hx : hd os k 0 = x
      · rw [if_pos hx]
        exact hk1 k hkl hx h3
      · rw [if_neg hx]
        refine hrec _ _ ⟨k + 1, by omega, by omega, rfl, rfl, fun j hj => ?_⟩
        by_cases e : j = k
        · rw [e]; exact hx
        · exact h3 j (by omega)
theorem m_stale (X : MX sh ma h) {n : Nat} (hn : n < 4) {c : Nat → Int32} {l : List En} (hm : MS f n c l) {K : Int32 → Hp → Prop} (hk : K (sum5 l l.length) (hset h (ma 1) f)) : f_X6_stale sh (ma 0) (nI n) (hset h (ma 1) f) K := by
  obtain ⟨m1, m2, m3, m4⟩ := hm
  unfold f_X6_stale
  refine lo_ind (fun d s h' => ∃ k, k + d = l.length + 1 ∧ k ≤ l.length ∧ s = (sum5 l k, nI k) ∧ h' = hset h (ma 1) f) ?_ ?_ (d := l.length + 1) ⟨0, by omega, by omega, rfl, rfl⟩
  · rintro s h' ⟨k, h1, h2, -⟩
    omega
  · rintro d rec hrec s h' ⟨k, h1, h2, rfl, rfl⟩
    have nx := fun (z : k < l.length) => hrec _ _ ⟨k + 1, by omega, z, rfl, rfl⟩
    unfold b_X6_stale_4
    simp (disch := omega) only [i1, i2, i3, i4, i5, i6, i7, i8, i9, i10, i11, i12, i17, i20, i21, i22, i23, i26, i32, i44, i48, i55, i57, i59, i60, i63, i99, i100, i101, i115, i116, i117, i126, i217, i437, i438, i598, i599, i623, i999, i1869, mx_m X, mx_r0 X, mx_t1 X, of_t, ofE_t, ofO_t, mx_ld X, mx_st X, gI_t, pI_t, ev_t, nI_add, nI_leI, nI_ltI, m2]
    by_cases hz : k = l.length
    · rw [if_pos (by omega), hz]
      exact hk
    · rw [if_neg (by omega)]
      have b5 := m4 k (by omega) 5 (by omega)
      simp (disch := omega) only [i1, i2, i3, i4, i5, i6, i7, i8, i9, i10, i11, i12, i17, i20, i21, i22, i23, i26, i32, i44, i48, i55, i57, i59, i60, i63, i99, i100, i101, i115, i116, i117, i126, i217, i437, i438, i598, i599, i623, i999, i1869, mx_m X, mx_r0 X, mx_t1 X, of_t, ofE_t, ofO_t, mx_ld X, mx_st X, gI_t, pI_t, ev_t, nI_add, nI_leI, nI_ltI, b5]
      exact nx (by omega)
end M6

/-! the reference: a statement ends -/
/-- one statement less works by the entries of a row, from table k on -/
noncomputable def relA (o : En) : Nat → Nat → List En → List En
  | 0, _, l => l
  | d + 1, k, l => relA o d (k + 1) (if ((o 2 >>> (nI k &&& 31)) &&& 1) = 1 then l.set (lastI (fun e => e 0 = nI k ∧ e 1 = o (4 + k)) l).toNatClampNeg (va_up (hd l (lastI (fun e => e 0 = nI k ∧ e 1 = o (4 + k)) l).toNatClampNeg) 3 (hd l (lastI (fun e => e 0 = nI k ∧ e 1 = o (4 + k)) l).toNatClampNeg 3 - 1)) else l)
/-- the row's entries are there -/
def pins (o : En) (l : List En) : Prop := ∀ t, t < 6 → bitp (o 2) t → 0 ≤ o (4 + t) ∧ ∃ i, i < l.length ∧ hd l i 0 = nI t ∧ hd l i 1 = o (4 + t)
theorem lastN_has {p : En → Prop} [DecidablePred p] {l : List En} {i : Nat} : ∀ n, i < n → n < 2 ^ 31 → p (hd l i) → ∃ j, j < n ∧ lastN p l n = nI j ∧ p (hd l j) := by
  intro n hi hn hp
  induction n with
  | zero => omega
  | succ n ih =>
    unfold lastN
    by_cases e : p (hd l n)
    · rw [if_pos e]; exact ⟨n, by omega, rfl, e⟩
    · rw [if_neg e]
      have : i ≠ n := fun z => e (z ▸ hp)
      obtain ⟨j, j1, j2⟩ := ih (by omega) (by omega)
      exact ⟨j, by omega, j2⟩
theorem pins_set {o : En} {l : List En} {j : Nat} {v : Int32} (h : pins o l) (hj : j < l.length) : pins o (l.set j (va_up (hd l j) 3 v)) := by
  intro t ht hb
  obtain ⟨h0, i, i1, i2, i3⟩ := h t ht hb
  refine ⟨h0, i, by rw [List.length_set]; exact i1, ?_, ?_⟩
  · rw [hd_set hj]
    by_cases e : i = j
    · subst e; rw [if_pos rfl, va_up_off (by decide)]; exact i2
    · rw [if_neg e]; exact i2
  · rw [hd_set hj]
    by_cases e : i = j
    · subst e; rw [if_pos rfl, va_up_off (by decide)]; exact i3
    · rw [if_neg e]; exact i3
section ME
variable {sh : Sh} {ma : Nat → Nat} {h : Hp} {f g : Nat → Int32} {S : Nat → Ses} {os : List En} {rc : List (Int32 × Int32)}
theorem m_ends20 (X : MX sh ma h) {n p : Nat} (hn : n < 4) (hp : p < os.length) {c : Nat → Int32} {l : List En} (hm : MA f g (va_up S n (c, l)) os rc) (hpin : pins (hd os p) l) {K : Hp → Prop} (hk : ∀ f', MA f' g (va_up S n (c, relA (hd os p) 6 0 l)) os rc → K (hset h (ma 1) f')) : lo (b_X6_ends_20 sh (ma 0) (nI p) (nI n) (fun h => K h)) (0 : Int32) (hset h (ma 1) f) := by
  obtain ⟨R, hR⟩ : ∃ R, R = relA (hd os p) 6 0 l := ⟨_, rfl⟩
  rw [← hR] at hk
  refine lo_ind (fun d s h' => ∃ k f' l', d + k = 7 ∧ k ≤ 6 ∧ s = nI k ∧ h' = hset h (ma 1) f' ∧ MA f' g (va_up S n (c, l')) os rc ∧ pins (hd os p) l' ∧ relA (hd os p) (6 - k) k l' = R) ?_ ?_ (d := 7) ⟨0, f, l, by omega, by omega, rfl, rfl, hm, hpin, hR.symm⟩
  · rintro s h' ⟨k, f', l', h1, h2, -⟩
    omega
  · rintro d rec hrec s h' ⟨k, f', l', h1, h2, rfl, rfl, h3, h4, h5⟩
    have hp16 := h3.2.2.1.2.1
    unfold b_X6_ends_20
    by_cases hz : k = 6
    · rw [if_pos (by subst hz; decide)]
      subst hz
      rw [← h5] at hk
      exact hk f' h3
    · have hk6 : k < 6 := by omega
      rw [if_neg (fun z => by rw [show (6 : Int32) = nI 6 from rfl, nI_leI (by omega) (by omega)] at z; omega)]
      obtain ⟨d', hd'⟩ : ∃ d', 6 - k = d' + 1 := ⟨5 - k, by omega⟩
      have hd2 : 6 - (k + 1) = d' := by omega
      rw [hd'] at h5
      unfold relA at h5
      have o2 := h3.2.2.1.2.2 p hp 2 (by omega)
      have o4 := h3.2.2.1.2.2 p hp (4 + k) (by omega)
      simp (disch := omega) only [i1, i2, i4, mx_m X, mx_r0 X, mx_t1 X, ofO_t, mx_ld X, nI_add, o2]
      by_cases hb : ((hd os p 2 >>> (nI k &&& 31)) &&& 1) = 1
      · rw [if_pos (by exact hb)]
        rw [if_pos hb] at h5
        obtain ⟨hv, i, q1, q2, q3⟩ := h4 k hk6 hb
        have hms := h3.2.1 n hn
        rw [va_up_self] at hms
        have hl8 : l'.length ≤ 8 := hms.lenle
        simp (disch := omega) only [i1, i2, i4, mx_m X, mx_r0 X, mx_t1 X, ofO_t, mx_ld X, nI_add, o4]
        refine m_entryOfV X hn hms hv ?_
        obtain ⟨j, j1, j2, j3⟩ := lastN_has (p := fun e => e 0 = nI k ∧ e 1 = hd os p (4 + k)) l'.length q1 (by omega) ⟨q2, q3⟩
        have hlast : lastI (fun e => e 0 = nI k ∧ e 1 = hd os p (4 + k)) l' = nI j := j2
        rw [hlast, nI_clamp (by omega)] at h5
        have a3 := hms.2.2.2 j j1 3 (by omega)
        dsimp only
        rw [hlast]
        simp (disch := omega) only [i1, i3, mx_m X, mx_r0 X, mx_t1 X, ofE_t, mx_ld X, mx_st X, a3]
        have r1 := MS_set (v := hd l' j 3 - nI 1) hms j1 (k := 3) (by omega)
        have r2 := MA_sess h3 hn r1 (Out_set (by omega) (by omega))
        rw [show va_up (va_up S n (c, l')) n (c, l'.set j (va_up (hd l' j) 3 (hd l' j 3 - nI 1))) = va_up S n (c, l'.set j (va_up (hd l' j) 3 (hd l' j 3 - nI 1))) from by
          funext q; simp only [va_up]; split <;> rfl] at r2
        exact hrec _ _ ⟨k + 1, _, _, by omega, by omega, rfl, rfl, r2, pins_set h4 j1, by rw [hd2]; exact h5⟩
      · rw [if_neg (by exact hb)]
        rw [if_neg hb] at h5
        exact hrec _ _ ⟨k + 1, f', l', by omega, by omega, rfl, rfl, h3, h4, by rw [hd2]; exact h5⟩
theorem m_ends (X : MX sh ma h) (hm : MA f g S os rc) {n p : Nat} (hn : n < 4) (hp : p < os.length) {x : Int32} (hx : hd os p 0 = x) (hx2 : ∀ j, j < p → hd os j 0 ≠ x) (ho1 : hd os p 1 = nI n) (hpin : pins (hd os p) (S n).2) {K : Int32 → Hp → Prop}
    (hk : ∀ f', MA f' g (va_up S n (va_up (S n).1 3 ((S n).1 3 + nI (shr (g 4) ((relA (hd os p) 6 0 (S n).2).filterMap liveE).length ((relA (hd os p) 6 0 (S n).2).filterMap liveE)).2), (shr (g 4) ((relA (hd os p) 6 0 (S n).2).filterMap liveE).length ((relA (hd os p) 6 0 (S n).2).filterMap liveE)).1)) (os.eraseIdx p) rc → K (nI ((relA (hd os p) 6 0 (S n).2).length - ((relA (hd os p) 6 0 (S n).2).filterMap liveE).length) + nI (shr (g 4) ((relA (hd os p) 6 0 (S n).2).filterMap liveE).length ((relA (hd os p) 6 0 (S n).2).filterMap liveE)).2) (hset h (ma 1) f')) :
    f_X6_ends sh (ma 0) x (hset h (ma 1) f) K := by
  have hp16 := hm.2.2.1.2.1
  have e0 : (0 : Int32) = nI 0 := rfl
  unfold f_X6_ends
  rw [mx_m X]
  refine m_placeOf X hm (fun q q1 q2 q3 => ?_) (fun z => absurd hx (z p hp))
  have hqp : q = p := by
    rcases Nat.lt_trichotomy q p with z | z | z
    · exact absurd q2 (hx2 q z)
    · exact z
    · exact absurd hx (q3 p z)
  subst hqp
  have o1 := hm.2.2.1.2.2 q hp 1 (by omega)
  rw [ho1] at o1
  simp (disch := omega) only [i1, mx_m X, mx_r0 X, mx_t1 X, ofO_t, mx_ld X, o1]
  refine m_ends20 X hn hp (c := (S n).1) (l := (S n).2) (by rw [show ((S n).1, (S n).2) = S n from rfl, va_up_id rfl]; exact hm) hpin (fun f1 h1 => ?_)
  generalize hl1 : relA (hd os q) 6 0 (S n).2 = l1 at h1 hk
  have o3 := h1.2.2.1.1
  rw [e0]
  simp (disch := omega) only [i1, i437, mx_m X, mx_r0 X, mx_t1 X, ofO_t, mx_ld X, mx_st X, o3, nI_sub, Nat.add_zero]
  refine lo_ind (fun d s h' => ∃ k f', d + k = 438 + 10 * (os.length - 1) + 1 ∧ 438 + 10 * q ≤ k ∧ k ≤ 438 + 10 * (os.length - 1) ∧ s = nI k ∧ h' = hset h (ma 1) f' ∧ f' 437 = nI (os.length - 1) ∧ (∀ j, 438 + 10 * q ≤ j → j < k → f' j = f1 (j + 10)) ∧ (∀ j, j ≠ 437 → (j < 438 + 10 * q ∨ k ≤ j) → f' j = f1 j)) ?_ ?_ (d := 10 * (os.length - 1 - q) + 1) ⟨438 + 10 * q, va_up f1 437 (nI (os.length - 1)), by omega, by omega, by omega, rfl, rfl, va_up_self _ _ _, fun j j1 j2 => by omega, fun j j1 _ => va_up_off j1⟩
  · rintro s h' ⟨k, f', z1, z2, z3, -⟩
    omega
  · rintro d rec hrec s h' ⟨k, f', z1, z2, z3, rfl, rfl, z4, z5, z6⟩
    unfold b_X6_ends_105
    rw [e0]
    simp (disch := omega) only [i1, i10, i437, mx_m X, mx_r0 X, mx_t1 X, ofO_t, mx_ld X, z4, nI_leI, Nat.add_zero]
    by_cases hz : k = 438 + 10 * (os.length - 1)
    · rw [if_pos (by omega)]
      have hme : MA f' g (va_up S n ((S n).1, l1)) (os.eraseIdx q) rc := by
        obtain ⟨a1, a2, ⟨a3, a4, a5⟩, a6, a7, a8⟩ := h1
        have hle : (os.eraseIdx q).length = os.length - 1 := len_erase hp
        refine ⟨fun j hj => by rw [z6 _ (by omega) (by omega)]; exact a1 j hj, fun m hmm => ?_, ⟨by rw [hle]; exact z4, by omega, fun j hj w hw => ?_⟩, by rw [z6 _ (by omega) (by omega)]; exact a6, a7, fun j hj => ⟨by rw [z6 _ (by omega) (by omega)]; exact (a8 j hj).1, by rw [z6 _ (by omega) (by omega)]; exact (a8 j hj).2⟩⟩
        · obtain ⟨m1, m2, m3, m4⟩ := a2 m hmm
          exact ⟨fun w hw => by rw [z6 _ (by omega) (by omega)]; exact m1 w hw, by rw [z6 _ (by omega) (by omega)]; exact m2, m3, fun i hi w hw => by rw [z6 _ (by omega) (by omega)]; exact m4 i hi w hw⟩
        · rw [hle] at hj
          rw [hd_erase]
          by_cases hjq : j < q
          · rw [if_pos hjq, z6 _ (by omega) (by omega)]; exact a5 j (by omega) w hw
          · rw [if_neg hjq, z5 _ (by omega) (by omega), ← a5 (j + 1) (by omega) w hw]
            congr 1
            omega
      have hms := hme.2.1 n hn
      rw [va_up_self] at hms
      refine m_clean X hn hms (fun f2 f3 f4 => ?_)
      have b4 : f2 4 = g 4 := by rw [f4 _ (by omega)]; exact hme.1 4 (by omega)
      simp (disch := omega) only [i4, mx_m X, mx_r0 X, mx_t1 X, mx_ld X, b4]
      refine m_shrink X hn f3 (fun f5 f6 f7 => ?_)
      refine hk f5 ?_
      have r := MA_sess hme hn f6 (f4.tr f7)
      rw [show va_up (va_up S n ((S n).1, l1)) n (va_up (S n).1 3 ((S n).1 3 + nI (shr (g 4) (l1.filterMap liveE).length (l1.filterMap liveE)).2), (shr (g 4) (l1.filterMap liveE).length (l1.filterMap liveE)).1) = va_up S n (va_up (S n).1 3 ((S n).1 3 + nI (shr (g 4) (l1.filterMap liveE).length (l1.filterMap liveE)).2), (shr (g 4) (l1.filterMap liveE).length (l1.filterMap liveE)).1) from by
        funext w; simp only [va_up]; split <;> rfl] at r
      exact r
    · rw [if_neg (by omega)]
      have e := z6 (k + 10) (by omega) (by omega)
      simp (disch := omega) only [i1, i10, mx_m X, mx_r0 X, mx_t1 X, mx_ld X, mx_st X, nI_add, e]
      refine hrec _ _ ⟨k + 1, _, by omega, by omega, by omega, rfl, rfl, by rw [va_up_off (by omega)]; exact z4, fun j j1 j2 => ?_, fun j j1 j2 => by rw [va_up_off (by omega)]; exact z6 j j1 (by omega)⟩
      by_cases ej : j = k
      · subst ej; rw [va_up_self]
      · rw [va_up_off ej]; exact z5 j j1 (by omega)
/-- which error an end has -/
theorem m_endFault (X : MX sh ma h) (hm : MA f g S os rc) {x : Int32} {K : Int32 → Hp → Prop} (k1 : ¬ 0 ≤ x → K (-1) (hset h (ma 1) f)) (k2 : 0 ≤ x → (∀ j, j < os.length → hd os j 0 ≠ x) → K (-2) (hset h (ma 1) f)) (k3 : 0 ≤ x → ∀ p, p < os.length → hd os p 0 = x → (∀ j, j < p → hd os j 0 ≠ x) → K 0 (hset h (ma 1) f)) : f_X6_endFault sh (ma 0) x (hset h (ma 1) f) K := by
  have hp16 := hm.2.2.1.2.1
  unfold f_X6_endFault
  by_cases c : 0 ≤ x
  · rw [if_pos c, mx_m X]
    refine m_placeOf X hm (fun p p1 p2 p3 => ?_) (fun z => ?_)
    · refine if_y (nI_pos' (by omega)) ?_
      exact k3 c p p1 p2 p3
    · refine if_n (by decide) ?_
      exact k2 c z
  · rw [if_neg c]
    exact k1 c
end ME

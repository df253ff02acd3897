/-! the class's methods on a session -/
def CSp (h : Hp) (ad : Nat → Nat) (s : Nat) (c : Nat → Int32) (l : List En) (w : Nat → En) (pm : Nat → Nat) : Prop :=
  SP h ad s ∧ (∀ k, k < 6 → gi h (ad s) k = c k) ∧ gi h (ad s) 6 = nI l.length ∧ l.length ≤ 8 ∧ HP h ad s pm ∧ (∀ j, j < l.length → ∀ k, k < 6 → gi h (ad (s + 2 + pm j)) k = hd l j k) ∧ WP h ad s w
section CB2
variable {sh : Sh} {ad : Nat → Nat} {h : Hp} {s : Nat} {c : Nat → Int32} {l : List En} {w : Nat → En} {pm : Nat → Nat}
theorem CS_p (hm : CS h ad s c l w) : ∃ pm, CSp h ad s c l w pm := by
  obtain ⟨p, m1, m6, m8, ⟨pm, q, q4⟩, m9⟩ := hm
  exact ⟨pm, p, m1, m6, m8, q, q4, m9⟩
theorem CSp_cs (hm : CSp h ad s c l w pm) : CS h ad s c l w := by
  obtain ⟨p, m1, m6, m8, q, q4, m9⟩ := hm
  exact ⟨p, m1, m6, m8, ⟨pm, q, q4⟩, m9⟩
theorem CSp_c (hi : inj ad) (hm : CSp h ad s c l w pm) {k : Nat} (hk : k < 6) {v : Int32} : CSp (si h (ad s) k v) ad s (va_up c k v) l w pm := by
  obtain ⟨p, m1, m6, m8, q, q4, m9⟩ := hm
  refine ⟨p, fun j hj => ?_, by rw [gi_si_k (by omega)]; exact m6, m8, q, fun j hj k' hk' => by have := q.1 j (by omega); rw [gi_ad hi (by omega)]; exact q4 j hj k' hk', fun j hj => ⟨fun k' hk' => by rw [gi_ad hi (by omega)]; exact (m9 j hj).1 k' hk', fun t ht => by rw [gi_ad hi (by omega)]; exact (m9 j hj).2 t ht⟩⟩
  by_cases e : j = k
  · subst e; rw [gi_si, va_up_self]
  · rw [gi_si_k e, va_up_off e]; exact m1 j hj
theorem CSp_e (hi : inj ad) (hm : CSp h ad s c l w pm) {i k : Nat} (hil : i < l.length) (hk : k < 6) {v : Int32} : CSp (si h (ad (s + 2 + pm i)) k v) ad s c (l.set i (va_up (hd l i) k v)) w pm := by
  obtain ⟨p, m1, m6, m8, q, q4, m9⟩ := hm
  have hpi := q.1 i (by omega)
  refine ⟨p, fun j hj => by rw [gi_ad hi (by omega)]; exact m1 j hj, by rw [gi_ad hi (by omega), List.length_set]; exact m6, by rw [List.length_set]; exact m8, q, fun j hj k' hk' => ?_, fun j hj => ⟨fun k' hk' => by rw [gi_ad hi (by omega)]; exact (m9 j hj).1 k' hk', fun t ht => by rw [gi_ad hi (by omega)]; exact (m9 j hj).2 t ht⟩⟩
  rw [List.length_set] at hj
  rw [hd_set hil]
  by_cases e : j = i
  · subst e
    rw [if_pos rfl]
    by_cases e2 : k' = k
    · subst e2; rw [gi_si, va_up_self]
    · rw [gi_si_k e2, va_up_off e2]; exact q4 j hj k' hk'
  · rw [if_neg e, gi_ad hi (fun z => e (q.2.1 j i (by omega) (by omega) (by omega)))]
    exact q4 j hj k' hk'
theorem CSp_w (hi : inj ad) (hm : CSp h ad s c l w pm) {i k : Nat} (hi4 : i < 4) (hk : k < 3) {v : Int32} : CSp (si h (ad (s + 11 + 2 * i)) k v) ad s c l (va_up w i (va_up (w i) k v)) pm := by
  obtain ⟨p, m1, m6, m8, q, q4, m9⟩ := hm
  refine ⟨p, fun j hj => by rw [gi_ad hi (by omega)]; exact m1 j hj, by rw [gi_ad hi (by omega)]; exact m6, m8, q, fun j hj k' hk' => by have := q.1 j (by omega); rw [gi_ad hi (by omega)]; exact q4 j hj k' hk', fun j hj => ⟨fun k' hk' => ?_, fun t ht => ?_⟩⟩
  · by_cases e : j = i
    · subst e
      rw [va_up_self]
      by_cases e2 : k' = k
      · subst e2; rw [gi_si, va_up_self]
      · rw [gi_si_k e2, va_up_off e2]; exact (m9 j hj).1 k' hk'
    · rw [va_up_off e, gi_ad hi (by omega)]; exact (m9 j hj).1 k' hk'
  · rw [gi_ad hi (by omega)]
    by_cases e : j = i
    · subst e; rw [va_up_self, va_up_off (by omega)]; exact (m9 j hj).2 t ht
    · rw [va_up_off e]; exact (m9 j hj).2 t ht
theorem CSp_v (hi : inj ad) (hm : CSp h ad s c l w pm) {i t : Nat} (hi4 : i < 4) (ht : t < 6) {v : Int32} : CSp (si h (ad (s + 12 + 2 * i)) t v) ad s c l (va_up w i (va_up (w i) (3 + t) v)) pm := by
  obtain ⟨p, m1, m6, m8, q, q4, m9⟩ := hm
  refine ⟨p, fun j hj => by rw [gi_ad hi (by omega)]; exact m1 j hj, by rw [gi_ad hi (by omega)]; exact m6, m8, q, fun j hj k' hk' => by have := q.1 j (by omega); rw [gi_ad hi (by omega)]; exact q4 j hj k' hk', fun j hj => ⟨fun k' hk' => ?_, fun t' ht' => ?_⟩⟩
  · rw [gi_ad hi (by omega)]
    by_cases e : j = i
    · subst e; rw [va_up_self, va_up_off (by omega)]; exact (m9 j hj).1 k' hk'
    · rw [va_up_off e]; exact (m9 j hj).1 k' hk'
  · by_cases e : j = i
    · subst e
      rw [va_up_self]
      by_cases e2 : t' = t
      · subst e2; rw [gi_si, va_up_self]
      · rw [gi_si_k e2, va_up_off (by omega)]; exact (m9 j hj).2 t' ht'
    · rw [va_up_off e, gi_ad hi (by omega)]; exact (m9 j hj).2 t' ht'
theorem CSp_ext (hm : CSp h ad s c l w pm) {i : Nat} (hil : i < l.length) {e : En} (he : ∀ k, k < 6 → hd l i k = e k) : CSp h ad s c (l.set i e) w pm := by
  obtain ⟨p, m1, m6, m8, q, q4, m9⟩ := hm
  refine ⟨p, m1, by rw [List.length_set]; exact m6, by rw [List.length_set]; exact m8, q, fun j hj k hk => ?_, m9⟩
  rw [List.length_set] at hj
  rw [hd_set hil]
  by_cases e1 : j = i
  · subst e1; rw [if_pos rfl, ← he k hk]; exact q4 j hj k hk
  · rw [if_neg e1]; exact q4 j hj k hk
/-- shrinkTo -/
theorem c_shrink (X : SK sh ad s) (hi : inj ad) (hm : CS h ad s c l w) {most : Int32} {K : Hp → Prop} (hk : ∀ h', CS h' ad s (va_up c 3 (c 3 + nI (shr most l.length l).2)) (shr most l.length l).1 w → FS ad h h' s → K h') : f_X1_shrinkTo sh (ad s) most h K := by
  have h6 := hm.2.2.1
  unfold f_X1_shrinkTo
  rw [cs_t0 X, gI_t, h6]
  refine lo_ind (fun d s' h' => ∃ l' c', d = l'.length + 1 ∧ s' = nI l'.length ∧ CS h' ad s c' l' w ∧ FS ad h h' s ∧ (∀ h2, CS h2 ad s (va_up c' 3 (c' 3 + nI (shr most l'.length l').2)) (shr most l'.length l').1 w → FS ad h h2 s → K h2)) ?_ ?_ (d := l.length + 1) ⟨l, c, rfl, rfl, hm, FS.rf, hk⟩
  · rintro s' h' ⟨l', c', h1, -⟩
    omega
  · rintro d rec hrec s' h' ⟨l', c', h1, rfl, h3, h4, h5⟩
    have hl8 := h3.2.2.2.1
    unfold b_X1_shrinkTo_5
    have stop : (shr most l'.length l') = (l', 0) → K h' := fun e => by
      rw [e] at h5
      exact h5 h' (by
        have e3 : va_up c' 3 (c' 3 + nI 0) = c' := va_up_id (by rw [nI_0, Int32.add_zero])
        dsimp only
        rw [e3]; exact h3) h4
    by_cases hc : nI l'.length ≤ most
    · rw [if_pos hc]
      refine stop ?_
      cases hl : l'.length with
      | zero => rfl
      | succ m =>
        unfold shr
        rw [if_neg (fun z => by
          have z1 := z.1
          rw [Int32.lt_iff_toInt_lt] at z1
          rw [Int32.le_iff_toInt_le] at hc
          omega)]
    · rw [if_neg hc, cs_t0 X]
      refine c_longest X h3 ?_
      by_cases ho : oldI l' < 0
      · refine if_n (fun z => ?_) (stop ?_)
        · rw [Int32.le_iff_toInt_le] at z; rw [Int32.lt_iff_toInt_lt] at ho; omega
        · cases hl : l'.length with
          | zero => rfl
          | succ m =>
            unfold shr
            rw [if_neg (fun z => z.2 ho)]
      · refine if_y (by rw [Int32.lt_iff_toInt_lt] at ho; rw [Int32.le_iff_toInt_le]; omega) ?_
        rcases oldN_lt l' l'.length hl8 with e | ⟨j, j1, j2, -⟩
        · exact absurd (by show oldN l' l'.length < 0; rw [e]; decide) ho
        · have hj : oldI l' = nI j := j2
          rw [hj]
          refine c_takeOut X hi h3 j1 (fun h6 h7 h8 => ?_)
          have e3 := h7.2.1 3 (by omega)
          rw [gI_t, pI_t, e3]
          have hle := len_erase j1
          obtain ⟨pm, h9⟩ := CS_p h7
          refine hrec _ _ ⟨l'.eraseIdx j, va_up c' 3 (c' 3 + 1), by omega, ?_, CSp_cs (CSp_c hi h9 (by omega)), (h4.tr h8).tr FS_si0, fun g' h1' h2' => ?_⟩
          · rw [show (-1 : Int32) = -nI 1 from rfl, nI_dec (by omega), hle]
          have es : shr most l'.length l' = ((shr most (l'.eraseIdx j).length (l'.eraseIdx j)).1, (shr most (l'.eraseIdx j).length (l'.eraseIdx j)).2 + 1) := by
            obtain ⟨m, hm2⟩ : ∃ m, l'.length = m + 1 := ⟨l'.length - 1, by omega⟩
            rw [hle, hm2, Nat.add_sub_cancel]
            conv => lhs; unfold shr
            rw [if_pos ⟨by
              rw [Int32.lt_iff_toInt_lt]; rw [Int32.le_iff_toInt_le] at hc; omega, ho⟩, hj, nI_clamp (by omega)]
          rw [es] at h5
          refine h5 g' ?_ h2'
          dsimp only
          have ec : va_up c' 3 (c' 3 + nI ((shr most (l'.eraseIdx j).length (l'.eraseIdx j)).2 + 1)) = va_up (va_up c' 3 (c' 3 + 1)) 3 ((va_up c' 3 (c' 3 + 1)) 3 + nI (shr most (l'.eraseIdx j).length (l'.eraseIdx j)).2) := by
            funext q
            simp only [va_up]
            split
            · rw [if_pos trivial, Int32.add_assoc, show (1 : Int32) = nI 1 from rfl, nI_add, Nat.add_comm 1]
            · rfl
          rw [ec]; exact h1'
/-- the first entry of a table that isn't stale: with one of them at most it is the last one too -/
def uniqF (t : Int32) (l : List En) : Prop := ∀ i j, i < l.length → j < l.length → hd l i 0 = t → hd l i 5 = 0 → hd l j 0 = t → hd l j 5 = 0 → i = j
theorem c_fresh (X : SK sh ad s) (hm : CS h ad s c l w) {t : Int32} (hu : uniqF t l) {K : Int32 → Hp → Prop} (hk : K (lastI (fun e => e 0 = t ∧ e 5 = 0) l) h) : f_X1_freshEntryOf sh (ad s) t h K := by
  obtain ⟨⟨p7, p8, p10⟩, m1, m6, m8, ⟨pm, ⟨q1, q2, q3⟩, q4⟩, m9⟩ := hm
  unfold f_X1_freshEntryOf
  refine lo_ind (fun d s' h' => ∃ k, k + d = l.length + 1 ∧ k ≤ l.length ∧ s' = nI k ∧ h' = h ∧ ∀ i, i < k → ¬ (hd l i 0 = t ∧ hd l i 5 = 0)) ?_ ?_ (d := l.length + 1) ⟨0, by omega, by omega, rfl, rfl, fun i hi => by omega⟩
  · rintro s' h' ⟨k, hk, hk2, -⟩
    omega
  · rintro d rec hrec s' h' ⟨k, hkd, hkl, rfl, rfl, hno⟩
    unfold b_X1_freshEntryOf_2
    rw [cs_t0 X, gI_t, m6]
    by_cases hz : k = l.length
    · rw [if_pos (nI_le (by omega) (by omega))]
      rcases lastN_lt (fun e => e 0 = t ∧ e 5 = 0) l l.length with e | ⟨j, j1, j2, j3⟩
      · have : lastI (fun e => e 0 = t ∧ e 5 = 0) l = -1 := e
        rw [this] at hk
        exact hk
      · exact absurd j3 (hno j (by omega))
    · rw [if_neg (nI_ge (by omega) (by omega)), gR_t p7, cs_t1 X, cs_lR1 X (by omega) (q3 k (by omega)), cs_t2 X (q1 k (by omega)), gI_t, q4 k (by omega) 0 (by omega)]
      have go : ¬ (hd l k 0 = t ∧ hd l k 5 = 0) → rec (nI k + 1) h' := fun z => by
        rw [nI_1]
        refine hrec _ _ ⟨k + 1, by omega, by omega, rfl, rfl, fun i hi => ?_⟩
        by_cases e : i = k
        · subst e; exact z
        · exact hno i (by omega)
      by_cases c0 : hd l k 0 = t
      · rw [if_pos c0, gR_t p7, cs_t1 X, cs_lR1 X (by omega) (q3 k (by omega)), cs_t2 X (q1 k (by omega)), gI_t, q4 k (by omega) 5 (by omega)]
        by_cases c5 : hd l k 5 = 0
        · rw [if_pos c5]
          obtain ⟨j, j1, j2, j3⟩ := lastN_has (p := fun e => e 0 = t ∧ e 5 = 0) (i := k) l.length (by omega) (by omega) ⟨c0, c5⟩
          have : lastI (fun e => e 0 = t ∧ e 5 = 0) l = nI j := j2
          rw [this, ← hu k j (by omega) j1 c0 c5 j3.1 j3.2] at hk
          exact hk
        · rw [if_neg c5]
          exact go (fun z => c5 z.2)
      · rw [if_neg c0]
        exact go (fun z => c0 z.1)
theorem c_behind (X : SK sh ad s) {j : Nat} (hj : j < 8) {t v : Int32} {K : Int32 → Hp → Prop} (k1 : (t < gi h (ad (s + 2 + j)) 0 ∨ gi h (ad (s + 2 + j)) 0 = t ∧ v < gi h (ad (s + 2 + j)) 1) → K 1 h) (k0 : ¬ (t < gi h (ad (s + 2 + j)) 0 ∨ gi h (ad (s + 2 + j)) 0 = t ∧ v < gi h (ad (s + 2 + j)) 1) → K 0 h) : f_X0_comesBehind sh (ad (s + 2 + j)) t v h K := by
  unfold f_X0_comesBehind
  rw [cs_t2 X hj, gI_t]
  by_cases c0 : t < gi h (ad (s + 2 + j)) 0
  · rw [if_pos c0]; exact k1 (Or.inl c0)
  · rw [if_neg c0, gI_t]
    by_cases c1 : gi h (ad (s + 2 + j)) 0 = t
    · rw [if_pos c1, gI_t]
      by_cases c2 : gi h (ad (s + 2 + j)) 1 ≤ v
      · rw [if_pos c2]
        refine k0 (fun z => z.elim c0 (fun z => ?_))
        have := z.2
        rw [Int32.lt_iff_toInt_lt] at this
        rw [Int32.le_iff_toInt_le] at c2
        omega
      · rw [if_neg c2]
        refine k1 (Or.inr ⟨c1, ?_⟩)
        rw [Int32.lt_iff_toInt_lt]
        rw [Int32.le_iff_toInt_le] at c2
        omega
    · rw [if_neg c1]
      exact k0 (fun z => z.elim c0 (fun z => c1 z.1))
/-- putIn: all fields but the last use are told -/
theorem c_putIn (X : SK sh ad s) (hi : inj ad) (hm : CS h ad s c l w) (hl : l.length < 8) {t v sp : Int32} (hv : ∀ i, i < l.length → hd l i 0 = t → ¬ v < hd l i 1) {K : Int32 → Hp → Prop} (hk : ∀ h' e, e 0 = t → e 1 = v → e 2 = sp → e 3 = 0 → e 5 = 0 → CS h' ad s c (l.insertIdx (insN t l l.length) e) w → FS ad h h' s → K (nI (insN t l l.length)) h') : f_X1_putIn sh (ad s) t v sp h K := by
  obtain ⟨⟨p7, p8, p10⟩, m1, m6, m8, ⟨pm, ⟨q1, q2, q3⟩, q4⟩, m9⟩ := hm
  have hne1 : ad (s + 1) ≠ ad s := ad_ne hi (by omega)
  have hpl := q1 l.length hl
  unfold f_X1_putIn
  rw [cs_t0 X, gR_t p7, gI_t, cs_t1 X, m6, cs_lR1 X (by omega) (q3 l.length (by omega)), gI_t, m6]
  refine lo_ind (fun d s' h' => ∃ k f, d = k + 1 ∧ k ≤ l.length ∧ s' = nI k ∧ h' = rset h (ad (s + 1)) f ∧ insN t l k = insN t l l.length ∧ (∀ j, k < j → j ≤ l.length → f j = some (ad (s + 2 + pm (j - 1)))) ∧ (∀ j, j < 8 → (j < k ∨ l.length < j) → f j = some (ad (s + 2 + pm j)))) ?_ ?_ (d := l.length + 1) ⟨l.length, gr h (ad (s + 1)), rfl, Nat.le_refl _, rfl, rset_self.symm, rfl, fun j j1 j2 => by omega, fun j j1 _ => q3 j j1⟩
  · rintro s' h' ⟨k, f, h1, -⟩
    omega
  · rintro d rec hrec s' h' ⟨k, f, h1, h2, rfl, rfl, h3, h4, h5⟩
    have g7 : gr (rset h (ad (s + 1)) f) (ad s) 7 = some (ad (s + 1)) := by rw [gr_rset_ne (Ne.symm hne1)]; exact p7
    have leave : insN t l l.length = k → (gR (rset h (ad (s + 1)) f) (ad s) 7 fun q27 => ty sh q27 8 <| ty sh (ad (s + 2 + pm l.length)) 0 <| sR sh (rset h (ad (s + 1)) f) q27 (nI k) (ad (s + 2 + pm l.length)) fun h30 => pI h30 (ad (s + 2 + pm l.length)) 0 t fun h32 => pI h32 (ad (s + 2 + pm l.length)) 1 v fun h33 => pI h33 (ad (s + 2 + pm l.length)) 2 sp fun h34 => pI h34 (ad (s + 2 + pm l.length)) 3 (0 : Int32) fun h35 => pI h35 (ad (s + 2 + pm l.length)) 5 (0 : Int32) fun h36 => gI h36 (ad s) 6 fun v37 => pI h36 (ad s) 6 (v37 + (1 : Int32)) fun h38 => K (nI k) h38) := by
      intro ek
      rw [gR_t g7, cs_t1 X, cs_t2 X hpl, cs_sR1 X (by omega), sr_rset]
      simp only [pI_t, gI_t]
      generalize hh : rset h (ad (s + 1)) (va_up f k (some (ad (s + 2 + pm l.length)))) = h30
      have gi30 : ∀ a q, gi h30 a q = gi h a q := fun a q => by rw [← hh]; rfl
      have gr30 : ∀ a q, a ≠ ad (s + 1) → gr h30 a q = gr h a q := fun a q ha => by rw [← hh]; exact gr_rset_ne ha
      have gr31 : ∀ q, gr h30 (ad (s + 1)) q = va_up f k (some (ad (s + 2 + pm l.length))) q := fun q => by rw [← hh]; exact gr_rset
      have e6 : gi (si (si (si (si (si h30 (ad (s + 2 + pm l.length)) 0 t) (ad (s + 2 + pm l.length)) 1 v) (ad (s + 2 + pm l.length)) 2 sp) (ad (s + 2 + pm l.length)) 3 0) (ad (s + 2 + pm l.length)) 5 0) (ad s) 6 = nI l.length := by
        rw [gi_ad hi (by omega), gi_ad hi (by omega), gi_ad hi (by omega), gi_ad hi (by omega), gi_ad hi (by omega), gi30]; exact m6
      rw [e6, nI_1]
      have old : ∀ p, p ≠ s + 2 + pm l.length → p ≠ s → ∀ q, gi (si (si (si (si (si (si h30 (ad (s + 2 + pm l.length)) 0 t) (ad (s + 2 + pm l.length)) 1 v) (ad (s + 2 + pm l.length)) 2 sp) (ad (s + 2 + pm l.length)) 3 0) (ad (s + 2 + pm l.length)) 5 0) (ad s) 6 (nI (l.length + 1))) (ad p) q = gi h (ad p) q := fun p hp hp2 q => by
        rw [gi_ad hi hp2, gi_ad hi hp, gi_ad hi hp, gi_ad hi hp, gi_ad hi hp, gi_ad hi hp, gi30]
      have new : ∀ q, q < 6 → gi (si (si (si (si (si (si h30 (ad (s + 2 + pm l.length)) 0 t) (ad (s + 2 + pm l.length)) 1 v) (ad (s + 2 + pm l.length)) 2 sp) (ad (s + 2 + pm l.length)) 3 0) (ad (s + 2 + pm l.length)) 5 0) (ad s) 6 (nI (l.length + 1))) (ad (s + 2 + pm l.length)) q = (fun q : Nat => match q with | 0 => t | 1 => v | 2 => sp | 3 => (0 : Int32) | 4 => gi h (ad (s + 2 + pm l.length)) 4 | _ => 0) q := fun q hq => by
        rw [gi_ad hi (by omega)]
        match q, hq with
        | 0, _ => rw [gi_si_k (by decide), gi_si_k (by decide), gi_si_k (by decide), gi_si_k (by decide), gi_si]; rfl
        | 1, _ => rw [gi_si_k (by decide), gi_si_k (by decide), gi_si_k (by decide), gi_si]; rfl
        | 2, _ => rw [gi_si_k (by decide), gi_si_k (by decide), gi_si]; rfl
        | 3, _ => rw [gi_si_k (by decide), gi_si]; rfl
        | 4, _ => rw [gi_si_k (by decide), gi_si_k (by decide), gi_si_k (by decide), gi_si_k (by decide), gi_si_k (by decide), gi30]; rfl
        | 5, _ => rw [gi_si]; rfl
      have := hk (si (si (si (si (si (si h30 (ad (s + 2 + pm l.length)) 0 t) (ad (s + 2 + pm l.length)) 1 v) (ad (s + 2 + pm l.length)) 2 sp) (ad (s + 2 + pm l.length)) 3 0) (ad (s + 2 + pm l.length)) 5 0) (ad s) 6 (nI (l.length + 1))) (fun q : Nat => match q with | 0 => t | 1 => v | 2 => sp | 3 => (0 : Int32) | 4 => gi h (ad (s + 2 + pm l.length)) 4 | _ => 0) rfl rfl rfl rfl rfl ?_ ?_
      · rw [ek] at this; exact this
      · rw [ek]
        refine ⟨⟨?_, ?_, fun j hj => ⟨?_, ?_⟩⟩, fun q hq => ?_, ?_, by rw [len_ins h2]; omega, ⟨fun j => if j < k then pm j else if j = k then pm l.length else if j ≤ l.length then pm (j - 1) else pm j, ⟨fun j hj => ?_, fun a b ha hb hab => ?_, fun j hj => ?_⟩, fun j hj q hq => ?_⟩, fun j hj => ⟨fun q hq => ?_, fun t' ht' => ?_⟩⟩
        · show gr h30 (ad s) 7 = _; rw [gr30 _ _ (Ne.symm hne1)]; exact p7
        · show gr h30 (ad s) 8 = _; rw [gr30 _ _ (Ne.symm hne1)]; exact p8
        · show gr h30 (ad (s + 10)) j = _; rw [gr30 _ _ (ad_ne hi (by omega))]; exact (p10 j hj).1
        · show gr h30 (ad (s + 11 + 2 * j)) 3 = _; rw [gr30 _ _ (ad_ne hi (by omega))]; exact (p10 j hj).2
        · rw [gi_si_k (by omega), gi_ad hi (by omega), gi_ad hi (by omega), gi_ad hi (by omega), gi_ad hi (by omega), gi_ad hi (by omega), gi30]; exact m1 q hq
        · rw [gi_si, len_ins h2]
        · dsimp only
          split
          · exact q1 j hj
          · split
            · exact hpl
            · split
              · exact q1 _ (by omega)
              · exact q1 j hj
        · dsimp only at hab
          split at hab <;> split at hab <;> (try split at hab) <;> (try split at hab) <;> (try split at hab) <;> (try split at hab) <;> (have := q2 _ _ (by omega) (by omega) hab; omega)
        · show gr h30 (ad (s + 1)) j = _
          rw [gr31]
          dsimp only
          by_cases e1 : j = k
          · rw [va_up_at e1, if_neg (by omega), if_pos e1]
          · rw [va_up_off e1]
            by_cases e2 : j < k
            · rw [if_pos e2]; exact h5 j hj (Or.inl e2)
            · rw [if_neg e2, if_neg e1]
              by_cases e3 : j ≤ l.length
              · rw [if_pos e3]; exact h4 j (by omega) e3
              · rw [if_neg e3]; exact h5 j hj (Or.inr (by omega))
        · rw [len_ins h2] at hj
          rw [hd_ins h2]
          dsimp only
          by_cases e2 : j < k
          · have := q2 j l.length (by omega) hl
            have := q1 j (by omega)
            rw [if_pos e2, if_pos e2, old _ (by omega) (by omega)]
            exact q4 j (by omega) q hq
          · rw [if_neg e2, if_neg e2]
            by_cases e1 : j = k
            · rw [if_pos e1, if_pos e1]; exact new q hq
            · have := q2 (j - 1) l.length (by omega) hl
              have := q1 (j - 1) (by omega)
              rw [if_neg e1, if_neg e1, if_pos (by omega), old _ (by omega) (by omega)]
              exact q4 (j - 1) (by omega) q hq
        · rw [old _ (by omega) (by omega)]; exact (m9 j hj).1 q hq
        · rw [old _ (by omega) (by omega)]; exact (m9 j hj).2 t' ht'
      · have z : FS ad h h30 s := by rw [← hh]; exact FS_rset
        have zz : ∀ (hx : Hp) (k : Nat) (v : Int32), FS ad hx (si hx (ad (s + 2 + pm l.length)) k v) s := fun hx k v => by
          have := FS_si (h := hx) (ad := ad) (s := s) (k := k) (j := 2 + pm l.length) (v := v) (by omega)
          rw [← Nat.add_assoc] at this
          exact this
        exact (((((z.tr (zz _ _ _)).tr (zz _ _ _)).tr (zz _ _ _)).tr (zz _ _ _)).tr (zz _ _ _)).tr FS_si0
    unfold b_X1_putIn_17
    by_cases hz : k = 0
    · subst hz
      rw [if_pos (by decide)]
      exact leave h3.symm
    · rw [if_neg (nI_nle (by omega) (by omega))]
      obtain ⟨j, rfl⟩ : ∃ j, k = j + 1 := ⟨k - 1, by omega⟩
      rw [cs_t0 X, gR_t g7, cs_t1 X, nI_pred, cs_lR1 X (by omega) (by rw [gr_rset]; exact h5 j (by omega) (Or.inl (by omega))), cs_t2 X (q1 j (by omega))]
      have gd : insN t l (j + 1) = if hd l j 0 ≤ t then j + 1 else insN t l j := rfl
      rw [gd] at h3
      have e0 := q4 j (by omega) 0 (by omega)
      have e1 := q4 j (by omega) 1 (by omega)
      refine c_behind X (q1 j (by omega)) (fun z => ?_) (fun z => ?_)
      · rw [gi_rset, gi_rset, e0, e1] at z
        have z0 : t < hd l j 0 := z.elim id (fun z => absurd z.2 (hv j (by omega) z.1))
        rw [if_neg (fun z1 => by
          rw [Int32.lt_iff_toInt_lt] at z0
          rw [Int32.le_iff_toInt_le] at z1
          omega)] at h3
        refine if_n (by decide) ?_
        rw [gR_t g7, gR_t g7, cs_t1 X, cs_lR1 X (by omega) (by rw [gr_rset]; exact h5 j (by omega) (Or.inl (by omega))), cs_t1 X, cs_t2 X (q1 j (by omega)), cs_sR1 X (by omega), sr_rset, show (-1 : Int32) = -nI 1 from rfl, nI_dec (by omega), Nat.add_sub_cancel]
        refine hrec _ _ ⟨j, _, by omega, by omega, rfl, rfl, h3, fun i i1 i2 => ?_, fun i i1 i2 => by rw [va_up_off (by omega)]; exact h5 i i1 (by omega)⟩
        by_cases e : i = j + 1
        · rw [va_up_at e, e, Nat.add_sub_cancel]
        · rw [va_up_off e]; exact h4 i (by omega) i2
      · rw [gi_rset, gi_rset, e0, e1] at z
        rw [if_pos (by
          have z0 : ¬ t < hd l j 0 := fun q => z (Or.inl q)
          rw [Int32.lt_iff_toInt_lt] at z0
          rw [Int32.le_iff_toInt_le]
          omega)] at h3
        refine if_y rfl ?_
        exact leave h3.symm
end CB2

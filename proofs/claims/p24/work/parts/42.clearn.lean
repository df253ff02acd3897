/-! the class's session learns -/
section CB3
variable {sh : Sh} {ad : Nat → Nat} {h : Hp} {s : Nat} {c : Nat → Int32} {l : List En} {w : Nat → En}
theorem CS_c (hi : inj ad) (hm : CS h ad s c l w) {k : Nat} (hk : k < 6) {v : Int32} : CS (si h (ad s) k v) ad s (va_up c k v) l w := by
  obtain ⟨pm, q⟩ := CS_p hm
  exact CSp_cs (CSp_c hi q hk)
theorem set_hd_self {l : List En} {i : Nat} (h : i < l.length) {e : En} (he : e = hd l i) : l.set i e = l := by
  rw [he, hd_lt h]; exact List.set_getElem_self h
theorem set_erase {l : List En} {i : Nat} {e : En} : (l.set i e).eraseIdx i = l.eraseIdx i := by
  apply List.ext_getElem?
  intro j
  rw [List.getElem?_eraseIdx, List.getElem?_eraseIdx]
  split
  · rw [List.getElem?_set_ne (by omega)]
  · rw [List.getElem?_set_ne (by omega)]
/-- one entry of the hand is read -/
theorem cs_rd (X : SK sh ad s) {pm : Nat → Nat} (hm : CSp h ad s c l w pm) {i k : Nat} (hil : i < l.length) (hk : k < 6) {K : Int32 → Prop} : (gR h (ad s) 7 fun q => ty sh q 8 <| lR sh h q (nI i) fun q2 => ty sh q2 0 <| gI h q2 k K) = K (hd l i k) := by
  obtain ⟨⟨p7, p8, p10⟩, m1, m6, m8, ⟨q1, q2, q3⟩, q4, m9⟩ := hm
  rw [gR_t p7, cs_t1 X, cs_lR1 X (by omega) (q3 i (by omega)), cs_t2 X (q1 i (by omega)), gI_t, q4 i hil k hk]
theorem c_learn33 (X : SK sh ad s) (hi : inj ad) (hm : CS h ad s c l w) {av : Nat} (hav : ∀ j, j < 19 → av ≠ ad (s + j)) (shav : sh av = (7, 6)) {t : Nat} (ht : t < 6) {x1 : Int32} {x2 : Nat} {K : Hp → Prop} (hk : ∀ h', CS h' ad s c (l.filterMap (lq (nI t) (gi h av t))) w → FS ad h h' s → K h') : lo (b_X1_learn_33 sh (ad s) x1 x2 av (nI t) (fun h => K h)) (nI l.length - 1) h := by
  obtain ⟨v, hv⟩ : ∃ v, v = gi h av t := ⟨_, rfl⟩
  rw [← hv] at hk
  have hl8 : l.length ≤ 8 := hm.2.2.2.1
  refine lo_ind (fun d s' h' => ∃ j, d = j + 1 ∧ j ≤ l.length ∧ s' = nI j - nI 1 ∧ CS h' ad s c (l.take j ++ (l.drop j).filterMap (lq (nI t) v)) w ∧ FS ad h h' s) ?_ ?_ (d := l.length + 1) ⟨l.length, rfl, Nat.le_refl _, rfl, by simpa using hm, FS.rf⟩
  · rintro s' h' ⟨j, h1, -⟩
    omega
  · rintro d rec hrec s' h' ⟨j, h1, h2, rfl, h3, h4⟩
    unfold b_X1_learn_33
    cases j with
    | zero =>
      rw [if_pos (show nI 0 - nI 1 < 0 by decide)]
      exact hk h' (by simpa using h3) h4
    | succ j =>
      have hjl : j < l.length := by omega
      have hcl := cur_len (q := lq (nI t) v) hjl
      obtain ⟨pm, h5⟩ := CS_p h3
      obtain ⟨⟨p7, p8, p10⟩, m1, m6, m8, ⟨q1, q2, q3⟩, q4, m9⟩ := h5
      have h5 : CSp h' ad s c _ w pm := ⟨⟨p7, p8, p10⟩, m1, m6, m8, ⟨q1, q2, q3⟩, q4, m9⟩
      have eh := cur_hd (q := lq (nI t) v) hjl
      have ej : nI j + -1 = nI j - nI 1 := by rw [Int32.sub_eq_add_neg]; rfl
      rw [nI_sub (by omega), Nat.add_sub_cancel, if_neg (nI_pos (by omega)), cs_t0 X]
      have r0 := @cs_rd sh ad h' s c _ w X pm h5 j 0 hcl (by omega)
      have r1 := @cs_rd sh ad h' s c _ w X pm h5 j 1 hcl (by omega)
      rw [eh] at r0 r1
      rw [r0]
      have same : lq (nI t) v (hd l j) = some (hd l j) → rec (nI j + -1) h' := fun hq => by
        have hcs := cur_some hjl hq
        rw [set_hd_self hcl eh.symm] at hcs
        rw [hcs] at h3
        rw [ej]
        exact hrec _ _ ⟨j, by omega, by omega, rfl, h3, h4⟩
      by_cases c0 : hd l j 0 = nI t
      · rw [if_pos c0, r1, ty_t (by rw [shav]), lI_t (by rw [shav]; exact ht) (by rw [shav]; decide)]
        have ev : gi h' av t = v := by
          rw [hv]
          show h'.1 av t = h.1 av t
          rw [(h4 av hav).1]
        rw [ev]
        by_cases c1 : v ≤ hd l j 1
        · rw [if_pos c1]
          exact same (if_neg (fun z => by
            have z2 := z.2
            rw [Int32.lt_iff_toInt_lt] at z2
            rw [Int32.le_iff_toInt_le] at c1
            omega))
        · rw [if_neg c1]
          have cc : hd l j 0 = nI t ∧ hd l j 1 < v := ⟨c0, by
            rw [Int32.lt_iff_toInt_lt]; rw [Int32.le_iff_toInt_le] at c1; omega⟩
          rw [gR_t p7, cs_t1 X, cs_lR1 X (by omega) (q3 j (by omega)), cs_t2 X (q1 j (by omega)), pI_t]
          have h6 := CSp_e hi h5 hcl (k := 5) (by omega) (v := 1)
          rw [eh] at h6
          have hcl2 : j < ((l.take (j + 1) ++ (l.drop (j + 1)).filterMap (lq (nI t) v)).set j (va_up (hd l j) 5 1)).length := by rw [List.length_set]; exact hcl
          have r3 := @cs_rd sh ad _ s c _ w X pm h6 j 3 hcl2 (by omega)
          rw [hd_set hcl, if_pos rfl, va_up_off (by decide)] at r3
          rw [r3]
          have hpj := q1 j (by omega)
          have hF : FS ad h' (si h' (ad (s + 2 + pm j)) 5 1) s := by
            have := FS_si (h := h') (ad := ad) (s := s) (k := 5) (j := 2 + pm j) (v := 1) (by omega)
            rw [← Nat.add_assoc] at this
            exact this
          by_cases c3 : hd l j 3 = 0
          · rw [if_pos c3]
            have hq : lq (nI t) v (hd l j) = none := by unfold lq; rw [if_pos cc, if_pos c3]
            refine c_takeOut X hi (CSp_cs h6) hcl2 (fun h7 h8 h9 => ?_)
            rw [set_erase, cur_none hjl hq] at h8
            rw [ej]
            exact hrec _ _ ⟨j, by omega, by omega, rfl, h8, (h4.tr hF).tr h9⟩
          · rw [if_neg c3]
            have hq : lq (nI t) v (hd l j) = some (va_up (hd l j) 5 1) := by unfold lq; rw [if_pos cc, if_neg c3]
            rw [cur_some hjl hq] at h6
            rw [ej]
            exact hrec _ _ ⟨j, by omega, by omega, rfl, CSp_cs h6, h4.tr hF⟩
      · rw [if_neg c0]
        exact same (if_neg (fun z => c0 z.1))
theorem gi_FS {h' : Hp} {a k : Nat} (hF : FS ad h h' s) (ha : ∀ j, j < 19 → a ≠ ad (s + j)) : gi h' a k = gi h a k := by
  show h'.1 a k = h.1 a k
  rw [(hF a ha).1]
theorem gr_FS {h' : Hp} {a k : Nat} (hF : FS ad h h' s) (ha : ∀ j, j < 19 → a ≠ ad (s + j)) : gr h' a k = gr h a k := by
  show h'.2 a k = h.2 a k
  rw [(hF a ha).2]
theorem c_learn (X : SK sh ad s) (hi : inj ad) (hm : CS h ad s c l w) {an av : Nat} (han : ∀ j, j < 19 → an ≠ ad (s + j)) (hav : ∀ j, j < 19 → av ≠ ad (s + j)) (shan : sh an = (7, 100)) (shav : sh av = (7, 6)) {kn many : Nat} (hkn : c 0 = nI kn) (hk1 : kn ≤ 100) (hmany : many ≤ 100) {tl : Nat → Nat} (htl : ∀ k, k < many → tl k < 6 ∧ gi h an k = nI (tl k)) {K : Hp → Prop} (hk : ∀ h', CS h' ad s (va_up c 0 (nI (kn + (many - kn)))) (lrn tl (fun t => gi h av t) (many - kn) kn l) w → FS ad h h' s → K h') : f_X1_learn sh (ad s) (nI many) an av h K := by
  unfold f_X1_learn
  refine lo_ind (fun d s' h' => ∃ k l' c', d = many - k + 1 ∧ k ≤ 100 ∧ CS h' ad s c' l' w ∧ FS ad h h' s ∧ c' 0 = nI k ∧ (∀ h2, CS h2 ad s (va_up c' 0 (nI (k + (many - k)))) (lrn tl (fun t => gi h av t) (many - k) k l') w → FS ad h h2 s → K h2)) ?_ ?_ (d := many - kn + 1) ⟨kn, l, c, rfl, hk1, hm, FS.rf, hkn, hk⟩
  · rintro s' h' ⟨k, l', c', h1, -⟩
    omega
  · rintro d rec hrec s' h' ⟨k, l', c', h1, h2, h3, h5, h6, h7⟩
    have gk := h3.2.1 0 (by omega)
    rw [h6] at gk
    unfold b_X1_learn_0
    rw [cs_t0 X, gI_t, gk]
    have done : many ≤ k → K h' := fun hz => by
      refine h7 h' ?_ h5
      rw [show many - k = 0 by omega]
      rw [va_up_id (by rw [h6]; rfl)]
      exact h3
    by_cases hz : many ≤ k
    · rw [if_pos (nI_le hz (by omega))]
      exact done hz
    · rw [if_neg (fun z => hz (by rw [nI_leI (by omega) (by omega)] at z; exact z)), gI_t, gk, if_neg (fun z => by rw [show (100 : Int32) = nI 100 from rfl, nI_leI (by omega) (by omega)] at z; omega), gI_t, gk, ty_t (by rw [shan]), lI_t (by rw [shan]; show k < 100; omega) (by rw [shan]; decide)]
      have tk := htl k (by omega)
      rw [gi_FS h5 han, tk.2, gI_t, h3.2.2.1]
      refine c_learn33 X hi h3 hav shav tk.1 (fun h8 h9 h10 => ?_)
      rw [gi_FS h5 hav] at h9
      have g8 := h9.2.1 0 (by omega)
      rw [h6] at g8
      rw [gI_t, pI_t, g8, nI_1]
      refine hrec _ _ ⟨k + 1, _, _, by omega, by omega, CS_c hi h9 (k := 0) (by omega), (h5.tr h10).tr FS_si0, va_up_self _ _ _, fun g' q1 q2 => ?_⟩
      refine h7 g' ?_ q2
      obtain ⟨m, hm2⟩ : ∃ m, many - k = m + 1 := ⟨many - k - 1, by omega⟩
      rw [hm2]
      rw [show many - (k + 1) = m by omega] at q1
      have e : va_up (va_up c' 0 (nI (k + 1))) 0 (nI (k + 1 + m)) = va_up c' 0 (nI (k + (m + 1))) := by
        funext q; simp only [va_up]; split
        · rw [show k + 1 + m = k + (m + 1) by omega]
        · rfl
      rw [e] at q1
      exact q1
end CB3

/-! the reference: what a session learns -/
def mark1 (t v : Int32) (e : En) : En := if e 0 = t ∧ e 1 < v then va_up e 5 1 else e
/-- an entry when its session learns of a notice of a table, of which there is the version v now -/
def lq (t v : Int32) (e : En) : Option En := if e 0 = t ∧ e 1 < v then (if e 3 = 0 then none else some (va_up e 5 1)) else some e
def lrn (tl : Nat → Nat) (ver : Nat → Int32) : Nat → Nat → List En → List En
  | 0, _, l => l
  | d + 1, k, l => lrn tl ver d (k + 1) (l.filterMap (lq (nI (tl k)) (ver (tl k))))
/-- no entry is stale and without a statement -/
def alive (l : List En) : Prop := ∀ e ∈ l, e 5 = 1 → ¬ e 3 = 0
theorem alive_lq {t v : Int32} {l : List En} (h : alive l) : alive (l.filterMap (lq t v)) := by
  intro e he h5
  obtain ⟨e0, h0, hq⟩ := List.mem_filterMap.mp he
  unfold lq at hq
  split at hq
  · split at hq
    · cases hq
    · next h3 =>
      cases hq
      rw [va_up_off (by decide)]
      exact h3
  · cases hq
    exact h e h0 h5
theorem fm_congr {p q : En → Option En} : ∀ {l : List En}, (∀ e ∈ l, p e = q e) → l.filterMap p = l.filterMap q
  | [], _ => rfl
  | a :: l, h => by
    rw [List.filterMap_cons, List.filterMap_cons, h a List.mem_cons_self, fm_congr (fun e he => h e (List.mem_cons_of_mem _ he))]
theorem clean_mark {t v : Int32} {l : List En} (h : alive l) : (l.map (mark1 t v)).filterMap liveE = l.filterMap (lq t v) := by
  rw [List.filterMap_map]
  refine fm_congr (fun e he => ?_)
  show liveE (mark1 t v e) = lq t v e
  unfold mark1 lq
  split
  · unfold liveE
    rw [va_up_self, va_up_off (by decide)]
    by_cases h3 : e 3 = 0
    · rw [if_pos ⟨rfl, h3⟩, if_pos h3]
    · rw [if_neg (fun z => h3 z.2), if_neg h3]
  · exact if_neg (fun z => h e he z.1 z.2)
theorem map_step {q : En → En} {l : List En} {j : Nat} (hj : j < l.length) : ((l.take j).map q ++ l.drop j).set j (q (hd l j)) = (l.take (j + 1)).map q ++ l.drop (j + 1) := by
  rw [List.drop_eq_getElem_cons hj, set_mid (by rw [List.length_map, List.length_take]; omega), List.take_succ_eq_append_getElem hj, List.map_append, List.append_assoc, hd_lt hj]
  rfl
theorem map_hd {q : En → En} {l : List En} {j : Nat} (hj : j < l.length) : hd ((l.take j).map q ++ l.drop j) j = hd l j := by
  unfold hd
  rw [List.getD_eq_getElem?_getD, List.getD_eq_getElem?_getD, List.getElem?_append_right (by rw [List.length_map, List.length_take]; omega), List.getElem?_drop]
  congr 2
  rw [List.length_map, List.length_take]
  omega
theorem map_len {q : En → En} {l : List En} {j : Nat} : ((l.take j).map q ++ l.drop j).length = l.length := by
  rw [List.length_append, List.length_map, List.length_take, List.length_drop]
  omega
section M5
variable {sh : Sh} {ma : Nat → Nat} {h : Hp} {f : Nat → Int32} {n : Nat} {c : Nat → Int32} {l : List En}
theorem m_learn50 (X : MX sh ma h) (hn : n < 4) (hm : MS f n c l) {t : Nat} (ht : t < 6) {x2 : Int32} {K : Hp → Prop} (hk : ∀ g, MS g n c (l.map (mark1 (nI t) (f (5 + t)))) → Out f g n → K (hset h (ma 1) g)) : lo (b_X6_learn_50 sh (ma 0) (nI n) x2 (nI t) (fun h => K h)) (0 : Int32) (hset h (ma 1) f) := by
  have e0 : (0 : Int32) = nI 0 := rfl
  have hl8 := hm.lenle
  refine lo_ind (fun d s h' => ∃ j g, d + j = l.length + 1 ∧ j ≤ l.length ∧ s = nI j ∧ h' = hset h (ma 1) g ∧ MS g n c ((l.take j).map (mark1 (nI t) (f (5 + t))) ++ l.drop j) ∧ Out f g n) ?_ ?_ (d := l.length + 1) ⟨0, f, by omega, by omega, rfl, rfl, by simpa using hm, Out.rf⟩
  · rintro s h' ⟨j, g, h1, h2, -⟩
    omega
  · rintro d rec hrec s h' ⟨j, g, h1, h2, rfl, rfl, h3, h4⟩
    have g6 := h3.2.1
    rw [map_len] at g6
    unfold b_X6_learn_50
    rw [e0]
    simp (disch := omega) only [i6, i1, mx_m X, mx_r0 X, mx_t1 X, of_t, mx_ld X, g6, nI_leI]
    by_cases hz : j = l.length
    · rw [if_pos (by omega)]
      rw [hz, List.take_length, List.drop_length, List.append_nil] at h3
      exact hk g h3 h4
    · rw [if_neg (by omega)]
      have hj : j < l.length := by omega
      have hjl : j < ((l.take j).map (mark1 (nI t) (f (5 + t))) ++ l.drop j).length := by rw [map_len]; exact hj
      have a0 := h3.2.2.2 j hjl 0 (by omega)
      have a1 := h3.2.2.2 j hjl 1 (by omega)
      have a5 := h3.2.2.2 j hjl 5 (by omega)
      rw [map_hd hj] at a0 a1 a5
      have av : g (5 + t) = f (5 + t) := h4 _ (by omega)
      have s5 := fun v : Int32 => MS_set (v := v) h3 hjl (k := 5) (by omega)
      rw [map_hd hj] at s5
      have st := map_step (q := mark1 (nI t) (f (5 + t))) hj
      simp (disch := omega) only [i1, i2, i3, i4, i5, i6, i7, i8, i9, i10, i11, i12, i17, i20, i21, i22, i23, i26, i32, i44, i48, i55, i57, i59, i60, i63, i99, i100, i101, i115, i116, i117, i126, i217, i437, i438, i598, i599, i623, i999, i1869, mx_m X, mx_r0 X, mx_t1 X, of_t, ofE_t, ofO_t, mx_ld X, mx_st X, gI_t, pI_t, ev_t, nI_add, nI_leI, nI_ltI, a0, a1, a5, av]
      have same : mark1 (nI t) (f (5 + t)) (hd l j) = hd l j → rec (nI (j + 1)) (hset h (ma 1) (va_up g (224 + 55 * n + 6 * j + 5) (hd l j 5))) := fun e => by
        rw [e] at st
        have s5 := s5 (hd l j 5)
        have e2 : va_up (hd l j) 5 (hd l j 5) = hd l j := by
          funext q; simp only [va_up]; split
          · subst_vars; rfl
          · rfl
        rw [e2, st] at s5
        exact hrec _ _ ⟨j + 1, _, by omega, by omega, rfl, rfl, s5, h4.tr (Out_set (by omega) (by omega))⟩
      by_cases c0 : hd l j 0 = nI t
      · rw [if_pos c0]
        by_cases c1 : f (5 + t) ≤ hd l j 1
        · rw [if_pos c1]
          refine same (if_neg (fun z => ?_))
          have z2 := z.2
          rw [Int32.lt_iff_toInt_lt] at z2
          rw [Int32.le_iff_toInt_le] at c1
          omega
        · rw [if_neg c1]
          have em : mark1 (nI t) (f (5 + t)) (hd l j) = va_up (hd l j) 5 1 := if_pos ⟨c0, by
            rw [Int32.lt_iff_toInt_lt]; rw [Int32.le_iff_toInt_le] at c1; omega⟩
          rw [em] at st
          have s5 := s5 (nI 1)
          rw [show nI 1 = 1 from rfl, st] at s5
          exact hrec _ _ ⟨j + 1, _, by omega, by omega, rfl, rfl, s5, h4.tr (Out_set (by omega) (by omega))⟩
      · rw [if_neg c0]
        exact same (if_neg (fun z => c0 z.1))
theorem m_learn (X : MX sh ma h) (hn : n < 4) (hm : MS f n c l) (ha : alive l) {kn many : Nat} (hkn : c 0 = nI kn) (hk1 : kn ≤ 100) (hmany : many ≤ 100) {tl : Nat → Nat} (htl : ∀ k, k < many → tl k < 6 ∧ f (17 + k) = nI (tl k)) {K : Hp → Prop} (hk : ∀ g, MS g n (va_up c 0 (nI (kn + (many - kn)))) (lrn tl (fun t => f (5 + t)) (many - kn) kn l) → Out f g n → K (hset h (ma 1) g)) : f_X6_learn sh (ma 0) (nI n) (nI many) (hset h (ma 1) f) K := by
  have e0 : (0 : Int32) = nI 0 := rfl
  unfold f_X6_learn
  refine lo_ind (fun d s h' => ∃ k g l' c', d = many - k + 1 ∧ k ≤ 100 ∧ h' = hset h (ma 1) g ∧ MS g n c' l' ∧ alive l' ∧ Out f g n ∧ c' 0 = nI k ∧ (∀ g', MS g' n (va_up c' 0 (nI (k + (many - k)))) (lrn tl (fun t => f (5 + t)) (many - k) k l') → Out f g' n → K (hset h (ma 1) g'))) ?_ ?_ (d := many - kn + 1) ⟨kn, f, l, c, rfl, hk1, rfl, hm, ha, Out.rf, hkn, hk⟩
  · rintro s h' ⟨k, g, l', c', h1, -⟩
    omega
  · rintro d rec hrec s h' ⟨k, g, l', c', h1, h2, rfl, h3, h4, h5, h6, h7⟩
    have gk := h3.1 0 (by omega)
    rw [h6] at gk
    unfold b_X6_learn_0
    rw [e0]
    simp (disch := omega) only [i1, mx_m X, mx_r0 X, mx_t1 X, of_t, mx_ld X, gk, nI_leI]
    by_cases hz : many ≤ k
    · rw [if_pos hz]
      refine h7 g ?_ h5
      rw [show many - k = 0 by omega]
      have e : va_up c' 0 (nI (k + 0)) = c' := by
        funext q; simp only [va_up]; split
        · subst_vars; rw [h6]; rfl
        · rfl
      rw [e]
      exact h3
    · rw [if_neg hz]
      have tk := htl k (by omega)
      have gt : g (17 + k) = nI (tl k) := by rw [h5 _ (by omega)]; exact tk.2
      simp (disch := omega) only [i1, i2, i3, i4, i5, i6, i7, i8, i9, i10, i11, i12, i17, i20, i21, i22, i23, i26, i32, i44, i48, i55, i57, i59, i60, i63, i99, i100, i101, i115, i116, i117, i126, i217, i437, i438, i598, i599, i623, i999, i1869, mx_m X, mx_r0 X, mx_t1 X, of_t, ofE_t, ofO_t, mx_ld X, mx_st X, gI_t, pI_t, ev_t, nI_add, nI_leI, nI_ltI, gk, gt]
      have h3c := MS_c (v := nI (k + 1)) h3 (k := 0) (by omega)
      have gver : ∀ t, t < 6 → (va_up g (217 + 55 * n + 0) (nI (k + 1))) (5 + t) = f (5 + t) := fun t ht => by rw [va_up_off (by omega)]; exact h5 _ (by omega)
      refine m_learn50 X hn h3c tk.1 (fun g2 g3 g4 => ?_)
      rw [gver _ tk.1] at g3
      refine m_clean X hn g3 (fun g5 g6 g7 => ?_)
      rw [clean_mark h4] at g6
      refine hrec _ _ ⟨k + 1, g5, _, _, by omega, by omega, rfl, g6, alive_lq h4, ((h5.tr (Out_set (by omega) (by omega))).tr g4).tr g7, va_up_self _ _ _, fun g' q1 q2 => ?_⟩
      refine h7 g' ?_ q2
      obtain ⟨m, hm2⟩ : ∃ m, many - k = m + 1 := ⟨many - k - 1, by omega⟩
      rw [hm2]
      rw [show many - (k + 1) = m by omega] at q1
      have e : va_up (va_up c' 0 (nI (k + 1))) 0 (nI (k + 1 + m)) = va_up c' 0 (nI (k + (m + 1))) := by
        funext q; simp only [va_up]; split
        · rw [show k + 1 + m = k + (m + 1) by omega]
        · rfl
      rw [e] at q1
      exact q1
end M5

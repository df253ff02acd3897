/-! the class's session uses an entry; a statement of it ends -/
theorem shr_mem {most : Int32} : ∀ (k : Nat) (l : List En) (e : En), e ∈ (shr most k l).1 → e ∈ l := by
  intro k
  induction k with
  | zero => intro l e h; exact h
  | succ k ih =>
    intro l e h
    unfold shr at h
    split at h
    · exact List.mem_of_mem_eraseIdx (ih _ _ h)
    · exact h
theorem hd_mem {l : List En} {i : Nat} (h : i < l.length) : hd l i ∈ l := by rw [hd_lt h]; exact List.getElem_mem h
theorem mem_hd {l : List En} {e : En} (h : e ∈ l) : ∃ i, i < l.length ∧ hd l i = e := by
  obtain ⟨i, hi, he⟩ := List.mem_iff_getElem.mp h
  exact ⟨i, hi, by rw [hd_lt hi]; exact he⟩
theorem va_up_comm {α : Type} {f : Nat → α} {a b : Nat} {x y : α} (e : a ≠ b) : va_up (va_up f a x) b y = va_up (va_up f b y) a x := by
  funext j
  simp only [va_up]
  by_cases h1 : j = a
  · subst h1
    rw [if_neg e, if_pos rfl, if_pos rfl]
  · by_cases h2 : j = b
    · subst h2; simp [h1]
    · simp [h1, h2]
section CB5
variable {sh : Sh} {ad : Nat → Nat} {h : Hp} {s : Nat} {c : Nat → Int32} {l : List En} {w : Nat → En}
theorem FS_e {h : Hp} {p k : Nat} {v : Int32} (hp : p < 8) : FS ad h (si h (ad (s + 2 + p)) k v) s := by
  have := FS_si (h := h) (ad := ad) (s := s) (k := k) (j := 2 + p) (v := v) (by omega)
  rw [← Nat.add_assoc] at this
  exact this
theorem FS_w {h : Hp} {j k : Nat} {v : Int32} (hj : j < 4) : FS ad h (si h (ad (s + 11 + 2 * j)) k v) s := by
  have := FS_si (h := h) (ad := ad) (s := s) (k := k) (j := 11 + 2 * j) (v := v) (by omega)
  rw [← Nat.add_assoc] at this
  exact this
theorem FS_v {h : Hp} {j k : Nat} {v : Int32} (hj : j < 4) : FS ad h (si h (ad (s + 12 + 2 * j)) k v) s := by
  have := FS_si (h := h) (ad := ad) (s := s) (k := k) (j := 12 + 2 * j) (v := v) (by omega)
  rw [← Nat.add_assoc] at this
  exact this
theorem c_useTail (X : SK sh ad s) (hi : inj ad) (hm : CS h ad s c l w) {i j t : Nat} (hil : i < l.length) (hj : j < 4) (ht : t < 6) {K : Hp → Prop} (hk : ∀ h', CS h' ad s c (l.set i (va_up (va_up (hd l i) 3 (hd l i 3 + 1)) 4 (w j 0))) (va_up w j (va_up (w j) (3 + t) (hd l i 1))) → FS ad h h' s → K h') :
    gR h (ad s) 7 fun q12 => ty sh q12 8 <| lR sh h q12 (nI i) fun q14 => ty sh (ad (s + 11 + 2 * j)) 4 <| gI h (ad (s + 11 + 2 * j)) 0 fun v17 => ty sh q14 0 <| pI h q14 4 v17 fun h19 => gI h19 q14 3 fun v20 => pI h19 q14 3 (v20 + (1 : Int32)) fun h21 => gR h21 (ad (s + 11 + 2 * j)) 3 fun q22 => gI h21 q14 1 fun v23 => ty sh q22 7 <| sI sh h21 q22 (nI t) v23 fun h25 => K h25 := by
  obtain ⟨pm, hp⟩ := CS_p hm
  have h8 : l.length ≤ 8 := hm.2.2.2.1
  obtain ⟨⟨p7, p8, p10⟩, m1, m6, m8, ⟨q1, q2, q3⟩, q4, m9⟩ := hp
  have hp : CSp h ad s c l w pm := ⟨⟨p7, p8, p10⟩, m1, m6, m8, ⟨q1, q2, q3⟩, q4, m9⟩
  have hpi := q1 i (by omega)
  have a1 := CSp_e hi hp hil (k := 4) (v := w j 0) (by omega)
  have l1 : i < (l.set i (va_up (hd l i) 4 (w j 0))).length := by rw [List.length_set]; exact hil
  have a2 := CSp_e hi a1 l1 (k := 3) (v := hd l i 3 + 1) (by omega)
  rw [hd_set hil, if_pos rfl, List.set_set, va_up_comm (by decide)] at a2
  have l2 : i < (l.set i (va_up (va_up (hd l i) 3 (hd l i 3 + 1)) 4 (w j 0))).length := by rw [List.length_set]; exact hil
  rw [gR_t p7, cs_t1 X, cs_lR1 X (by omega) (q3 i (by omega)), cs_t11 X hj, gI_t, cs_w hm hj (by omega), cs_t2 X hpi, pI_t, gI_t]
  have e3 : gi (si h (ad (s + 2 + pm i)) 4 (w j 0)) (ad (s + 2 + pm i)) 3 = hd l i 3 := by rw [gi_si_k (by omega)]; exact q4 i hil 3 (by omega)
  rw [e3, pI_t, gR_t (cs_r3 (CSp_cs a2) hj), gI_t]
  have e1 : gi (si (si h (ad (s + 2 + pm i)) 4 (w j 0)) (ad (s + 2 + pm i)) 3 (hd l i 3 + 1)) (ad (s + 2 + pm i)) 1 = hd l i 1 := by rw [gi_si_k (by omega), gi_si_k (by omega)]; exact q4 i hil 1 (by omega)
  rw [e1, cs_t12 X hj, cs_sI12 X hj ht]
  exact hk _ (CSp_cs (CSp_v hi a2 hj ht)) (((FS_e hpi).tr (FS_e hpi)).tr (FS_v hj))
theorem c_use (X : SK sh ad s) (hi : inj ad) (hm : CS h ad s c l w) {j t rm : Nat} (hj : j < 4) (ht : t < 6) (hrm : 1 ≤ rm ∧ rm ≤ 8) (hu : uniqF (nI t) l) {v sp : Int32} (hv : ∀ e ∈ l, e 0 = nI t → ¬ v < e 1) {K : Int32 → Hp → Prop}
    (k1 : ∀ r h', u1 (nI rm) (w j 0) (nI t) v sp c l = some r → CS h' ad s r.1 r.2.1 (va_up w j (va_up (w j) (3 + t) r.2.2)) → FS ad h h' s → K 1 h')
    (k0 : u1 (nI rm) (w j 0) (nI t) v sp c l = none → ∀ h' c' l', CS h' ad s c' l' w → FS ad h h' s → K 0 h') :
    f_X1_use sh (ad s) (ad (s + 11 + 2 * j)) (nI t) v sp (nI rm) h K := by
  have h8 : l.length ≤ 8 := hm.2.2.2.1
  unfold f_X1_use
  rw [cs_t0 X]
  refine c_fresh X hm hu ?_
  rcases lastN_lt (fun e => e 0 = nI t ∧ e 5 = 0) l l.length with e | ⟨i, i1, i2, i3⟩
  · have hlast : lastI (fun e => e 0 = nI t ∧ e 5 = 0) l = -1 := e
    rw [hlast, if_pos (by decide)]
    have hu1 : u1 (nI rm) (w j 0) (nI t) v sp c l = if nI (shr (nI rm - 1) l.length l).1.length < nI rm then some (va_up (va_up c 3 (c 3 + nI (shr (nI rm - 1) l.length l).2)) 2 (c 2 + 1), (shr (nI rm - 1) l.length l).1.insertIdx (insN (nI t) (shr (nI rm - 1) l.length l).1 (shr (nI rm - 1) l.length l).1.length) (newE (nI t) v sp (w j 0)), v) else none := by
      unfold u1
      rw [hlast, if_neg (by decide)]
    rw [hu1] at k0 k1
    refine c_shrink X hi hm (fun h5 h6 h7 => ?_)
    have hmem := shr_mem (most := nI rm - 1) l.length l
    generalize shr (nI rm - 1) l.length l = sr at h6 k0 k1 hmem
    have hl8 : sr.1.length ≤ 8 := h6.2.2.2.1
    rw [gI_t, h6.2.2.1]
    by_cases hfit : nI sr.1.length < nI rm
    · rw [if_pos hfit] at k1
      have hlen : sr.1.length < rm := by rw [nI_ltI (by omega) (by omega)] at hfit; exact hfit
      rw [if_neg (fun z => by rw [nI_leI (by omega) (by omega)] at z; omega), gI_t, h6.2.2.1, if_pos (by rw [show (8 : Int32) = nI 8 from rfl, nI_ltI (by omega) (by omega)]; omega)]
      refine c_putIn X hi h6 (by omega) (fun i i1 i2 => hv _ (hmem _ (hd_mem i1)) i2) (fun h9 en n0 n1 n2 n3 n5 h10 h11 => ?_)
      have hins := insN_le (nI t) sr.1 sr.1.length
      generalize hps : insN (nI t) sr.1 sr.1.length = ps at h10 hins k1 ⊢
      have hpl : ps < (sr.1.insertIdx ps en).length := by rw [len_ins hins]; omega
      rw [gI_t, pI_t, h10.2.1 2 (by omega), va_up_off (by decide)]
      have h12 := CS_c hi h10 (k := 2) (v := c 2 + 1) (by omega)
      refine c_useTail X hi h12 hpl hj ht (fun h13 h14 h15 => ?_)
      rw [hd_ins hins, if_neg (by omega), if_pos rfl, n3, n1, ins_set hins] at h14
      obtain ⟨pm, h16⟩ := CS_p h14
      have hpl2 : ps < (sr.1.insertIdx ps (va_up (va_up en 3 (0 + 1)) 4 (w j 0))).length := by rw [len_ins hins]; omega
      have h17 := CSp_ext (e := newE (nI t) v sp (w j 0)) h16 hpl2 (fun q hq => by
        rw [hd_ins hins, if_neg (by omega), if_pos rfl]
        match q, hq with
        | 0, _ => rw [va_up_off (by decide), va_up_off (by decide)]; exact n0
        | 1, _ => rw [va_up_off (by decide), va_up_off (by decide)]; exact n1
        | 2, _ => rw [va_up_off (by decide), va_up_off (by decide)]; exact n2
        | 3, _ => rw [va_up_off (by decide), va_up_self]; rfl
        | 4, _ => rw [va_up_self]; rfl
        | 5, _ => rw [va_up_off (by decide), va_up_off (by decide)]; exact n5)
      rw [ins_set hins] at h17
      exact k1 _ h13 rfl (CSp_cs h17) (((h7.tr h11).tr FS_si0).tr h15)
    · rw [if_neg hfit] at k0
      rw [if_pos (by rw [nI_leI (by omega) (by omega)]; rw [nI_ltI (by omega) (by omega)] at hfit; omega)]
      exact k0 rfl h5 _ _ h6 h7
  · have hlast : lastI (fun e => e 0 = nI t ∧ e 5 = 0) l = nI i := i2
    have hu1 : u1 (nI rm) (w j 0) (nI t) v sp c l = some (va_up c 1 (c 1 + 1), l.set i (va_up (va_up (hd l i) 3 (hd l i 3 + 1)) 4 (w j 0)), hd l i 1) := by
      unfold u1
      rw [hlast, nI_clamp (by omega), if_pos (nI_pos' (by omega))]
    rw [hlast, if_neg (nI_pos (by omega)), gI_t, pI_t, hm.2.1 1 (by omega)]
    refine c_useTail X hi (CS_c hi hm (k := 1) (v := c 1 + 1) (by omega)) i1 hj ht (fun h13 h14 h15 => ?_)
    exact k1 _ h13 hu1 h14 (FS_si0.tr h15)
def tb (e : En) : Nat := (e 0).toNatClampNeg
/-- an entry when a statement of its session ends -/
def rq (wk e : En) : Option En :=
  if ((wk 1 >>> (nI (tb e) &&& 31)) &&& 1) = 1 ∧ wk (3 + tb e) = e 1 then (if e 5 = 0 then some (va_up e 3 (e 3 - 1)) else if e 3 - 1 = 0 then none else some (va_up e 3 (e 3 - 1))) else some e
/-- does a statement work by an entry -/
theorem c_worksBy (X : SK sh ad s) {pm : Nat → Nat} (hm : CSp h ad s c l w pm) {i j : Nat} (hil : i < l.length) (hj : j < 4) {t : Nat} (ht : t < 6) (h0 : hd l i 0 = nI t) {K : Int32 → Hp → Prop} (k1 : bitp (w j 1) t ∧ w j (3 + t) = hd l i 1 → K 1 h) (k0 : ¬ (bitp (w j 1) t ∧ w j (3 + t) = hd l i 1) → K 0 h) : f_X4_worksBy sh (ad (s + 11 + 2 * j)) (ad (s + 2 + pm i)) h K := by
  have hc := CSp_cs hm
  obtain ⟨⟨p7, p8, p10⟩, m1, m6, m8, ⟨q1, q2, q3⟩, q4, m9⟩ := hm
  unfold f_X4_worksBy f_X5_contains
  rw [cs_t11 X hj, gI_t, cs_w hc hj (by omega), cs_t2 X (q1 i (by omega)), gI_t, q4 i hil 0 (by omega), h0]
  by_cases hb : bitp (w j 1) t
  · have hb' := hb
    unfold bitp at hb'
    rw [if_pos hb']
    dsimp only
    rw [if_neg (by decide), gR_t (cs_r3 hc hj), gI_t, q4 i hil 0 (by omega), h0, cs_t12 X hj, cs_lI12 X hj ht, gI_t, cs_v hc hj ht, q4 i hil 1 (by omega)]
    by_cases e : w j (3 + t) = hd l i 1
    · rw [if_pos e]; exact k1 ⟨hb, e⟩
    · rw [if_neg e]; exact k0 (fun z => e z.2)
  · have hb' := hb
    unfold bitp at hb'
    rw [if_neg hb']
    dsimp only
    rw [if_pos rfl]
    exact k0 (fun z => hb z.1)
theorem c_release (X : SK sh ad s) (hi : inj ad) (hm : CS h ad s c l w) {j : Nat} (hj : j < 4) (h0 : ∀ e ∈ l, ∃ t, t < 6 ∧ e 0 = nI t) {rm : Int32} {K : Int32 → Hp → Prop} (hk : ∀ h' r, r = shr rm (l.filterMap (rq (w j))).length (l.filterMap (rq (w j))) → CS h' ad s (va_up c 3 (c 3 + nI r.2)) r.1 (va_up w j (va_up (w j) 0 (-1))) → FS ad h h' s → K (nI l.length - nI r.1.length) h') : f_X1_release sh (ad s) (ad (s + 11 + 2 * j)) rm h K := by
  have hl8 : l.length ≤ 8 := hm.2.2.2.1
  unfold f_X1_release
  rw [cs_t0 X, gI_t, hm.2.2.1, gI_t, hm.2.2.1]
  refine lo_ind (fun d s' h' => ∃ i, d = i + 1 ∧ i ≤ l.length ∧ s' = nI i - nI 1 ∧ CS h' ad s c (l.take i ++ (l.drop i).filterMap (rq (w j))) w ∧ FS ad h h' s) ?_ ?_ (d := l.length + 1) ⟨l.length, rfl, Nat.le_refl _, rfl, by simpa using hm, FS.rf⟩
  · rintro s' h' ⟨i, h1, -⟩
    omega
  · rintro d rec hrec s' h' ⟨i, h1, h2, rfl, h3, h4⟩
    unfold b_X1_release_13
    cases i with
    | zero =>
      rw [if_pos (show nI 0 - nI 1 < 0 by decide)]
      rw [List.take_zero, List.drop_zero, List.nil_append] at h3
      obtain ⟨pm, hp⟩ := CS_p h3
      have h5 := CSp_cs (CSp_w hi hp hj (k := 0) (v := -1) (by omega))
      rw [cs_t11 X hj, pI_t]
      refine c_shrink X hi h5 (fun h6 h7 h8 => ?_)
      rw [gI_t, h7.2.2.1]
      exact hk h6 _ rfl h7 ((h4.tr (FS_w hj)).tr h8)
    | succ i =>
      have hil : i < l.length := by omega
      have hcl := cur_len (q := rq (w j)) hil
      obtain ⟨pm, h5⟩ := CS_p h3
      have eh := cur_hd (q := rq (w j)) hil
      have ej : nI i + -1 = nI i - nI 1 := by rw [Int32.sub_eq_add_neg]; rfl
      obtain ⟨t, ht, e0⟩ := h0 _ (hd_mem hil)
      have htb : tb (hd l i) = t := by unfold tb; rw [e0, nI_clamp (by omega)]
      rw [nI_sub (by omega), Nat.add_sub_cancel, if_neg (nI_pos (by omega)), cs_t0 X]
      obtain ⟨⟨p7, p8, p10⟩, m1, m6, m8, ⟨q1, q2, q3⟩, q4, m9⟩ := h5
      have h5 : CSp h' ad s c _ w pm := ⟨⟨p7, p8, p10⟩, m1, m6, m8, ⟨q1, q2, q3⟩, q4, m9⟩
      have hpi := q1 i (by omega)
      rw [gR_t p7, cs_t1 X, cs_lR1 X (by omega) (q3 i (by omega)), cs_t11 X hj]
      refine c_worksBy X h5 hcl hj ht (eh ▸ e0) (fun z => ?_) (fun z => ?_)
      · rw [eh] at z
        have z' : ((w j 1 >>> (nI (tb (hd l i)) &&& 31)) &&& 1) = 1 ∧ w j (3 + tb (hd l i)) = hd l i 1 := by rw [htb]; exact z
        have h6 := CSp_e hi h5 hcl (k := 3) (v := hd l i 3 - 1) (by omega)
        rw [eh] at h6
        have hcl2 : i < ((l.take (i + 1) ++ (l.drop (i + 1)).filterMap (rq (w j))).set i (va_up (hd l i) 3 (hd l i 3 - 1))).length := by rw [List.length_set]; exact hcl
        have g3 := q4 i hcl 3 (by omega)
        have g5 := q4 i hcl 5 (by omega)
        rw [eh] at g3 g5
        rw [if_neg (by decide), cs_t2 X hpi, gI_t, g3, pI_t, gI_t, gi_si_k (by omega), g5]
        by_cases c5 : hd l i 5 = 0
        · rw [if_pos c5]
          have hq : rq (w j) (hd l i) = some (va_up (hd l i) 3 (hd l i 3 - 1)) := by unfold rq; rw [if_pos z', if_pos c5]
          rw [cur_some hil hq] at h6
          rw [ej]
          exact hrec _ _ ⟨i, by omega, by omega, rfl, CSp_cs h6, h4.tr (FS_e hpi)⟩
        · rw [if_neg c5, gI_t, gi_si]
          by_cases c3 : hd l i 3 - 1 = 0
          · rw [if_pos c3]
            have hq : rq (w j) (hd l i) = none := by unfold rq; rw [if_pos z', if_neg c5, if_pos c3]
            refine c_takeOut X hi (CSp_cs h6) hcl2 (fun h7 h8 h9 => ?_)
            rw [set_erase, cur_none hil hq] at h8
            rw [ej]
            exact hrec _ _ ⟨i, by omega, by omega, rfl, h8, (h4.tr (FS_e hpi)).tr h9⟩
          · rw [if_neg c3]
            have hq : rq (w j) (hd l i) = some (va_up (hd l i) 3 (hd l i 3 - 1)) := by unfold rq; rw [if_pos z', if_neg c5, if_neg c3]
            rw [cur_some hil hq] at h6
            rw [ej]
            exact hrec _ _ ⟨i, by omega, by omega, rfl, CSp_cs h6, h4.tr (FS_e hpi)⟩
      · rw [eh] at z
        rw [if_pos rfl]
        have z' : ¬ (((w j 1 >>> (nI t &&& 31)) &&& 1) = 1 ∧ w j (3 + t) = hd l i 1) := z
        have hq : rq (w j) (hd l i) = some (hd l i) := by unfold rq; rw [htb, if_neg z']
        have hcs := cur_some hil hq
        rw [set_hd_self hcl eh.symm] at hcs
        rw [hcs] at h3
        rw [ej]
        exact hrec _ _ ⟨i, by omega, by omega, rfl, h3, h4⟩
end CB5

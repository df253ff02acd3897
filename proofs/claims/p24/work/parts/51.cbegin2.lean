/-! the class's states: a statement starts, whole; it ends -/
theorem lq_keep {t v : Int32} {a b : En} (h : lq t v a = some b) : b 0 = a 0 ∧ b 1 = a 1 ∧ b 2 = a 2 ∧ b 3 = a 3 ∧ b 4 = a 4 ∧ (b 5 = 0 → a 5 = 0) := by
  unfold lq at h
  split at h
  · split at h
    · cases h
    · cases h
      refine ⟨va_up_off (by decide), va_up_off (by decide), va_up_off (by decide), va_up_off (by decide), va_up_off (by decide), fun z => ?_⟩
      rw [va_up_self] at z
      exact absurd z (by decide)
  · cases h
    exact ⟨rfl, rfl, rfl, rfl, rfl, id⟩
theorem HU_lq {g : Nat → Int32} {l : List En} {t v : Int32} (h : HU g l) : HU g (l.filterMap (lq t v)) := fun u hu => by
  refine ⟨uq_of_pw ?_, fun e he h0 => ?_⟩
  · rw [List.pairwise_filterMap]
    refine (pw_of_uq (h u hu).1).imp (fun {a b} hab a' ha b' hb z => ?_)
    have ka := lq_keep ha
    have kb := lq_keep hb
    exact hab ⟨ka.1 ▸ z.1, ka.2.2.2.2.2 z.2.1, kb.1 ▸ z.2.2.1, kb.2.2.2.2.2 z.2.2.2⟩
  · obtain ⟨a, ha, hq⟩ := List.mem_filterMap.mp he
    have k := lq_keep hq
    rw [k.2.1]
    exact (h u hu).2 a ha (k.1 ▸ h0)
theorem HU_lrn {g : Nat → Int32} {tl : Nat → Nat} {ver : Nat → Int32} : ∀ (d k : Nat) (l : List En), HU g l → HU g (lrn tl ver d k l) := by
  intro d
  induction d with
  | zero => intro k l h; exact h
  | succ d ih => intro k l h; exact ih (k + 1) _ (HU_lq h)
section CG2
variable {sh : Sh} {ad : Nat → Nat} {h h' h'' : Hp} {B N : Nat} {g : Nat → Int32} {S : Nat → Ses} {W : Slots} {L : Ring}
theorem CT_w (hi : inj ad) (hm : CT h ad B N g S W L) {n j k : Nat} (hn : n < 4) (hj : j < 4) (hk : k < 3) {v : Int32} : CT (si h (ad (B + 8 + 19 * n + 11 + 2 * j)) k v) ad B N g S (va_up W n (va_up (W n) j (va_up (W n j) k v))) L := by
  obtain ⟨pm, hp⟩ := CS_p (hm.2.2.2.2.2 n hn)
  have := CT_S hi hm (CSp_cs (CSp_w hi hp hj hk (v := v))) (FS_w hj)
  rw [show va_up S n ((S n).1, (S n).2) = S from va_up_id rfl] at this
  exact this
theorem CT_ring (hi : inj ad) (hm : CT h ad B N g S W L) {p : Nat} {a b : Int32} : CT (si (si h (ad (B + 5)) p a) (ad (B + 6)) p b) ad B N g S W (va_up L p (a, b)) := by
  obtain ⟨t1, ⟨a1, a2, a3, a4, a5⟩, t3, t4, t5, t6⟩ := hm
  refine ⟨t1, ⟨?_, ?_, ?_, ?_, ?_⟩, fun t ht => ?_, fun k hk => ?_, fun q hq => ?_, fun i hi4 => CS_Q ((QS_si hi (p := 5) (by omega)).tr (QS_si hi (p := 6) (by omega))) (t6 i hi4)⟩
  · rw [gi_ad hi (by omega), gi_ad hi (by omega)]; exact a1
  · rw [gi_ad hi (by omega), gi_ad hi (by omega)]; exact a2
  · rw [gi_ad hi (by omega), gi_ad hi (by omega)]; exact a3
  · rw [gi_ad hi (by omega), gi_ad hi (by omega)]; exact a4
  · rw [gi_ad hi (by omega), gi_ad hi (by omega)]; exact a5
  · rw [gi_ad hi (by omega), gi_ad hi (by omega), gi_ad hi (by omega), gi_ad hi (by omega)]; exact t3 t ht
  · rw [gi_ad hi (by omega), gi_ad hi (by omega), gi_ad hi (by omega), gi_ad hi (by omega)]; exact t4 k hk
  · by_cases e : q = p
    · subst e
      rw [va_up_self]
      exact ⟨by rw [gi_ad hi (by omega), gi_si], gi_si⟩
    · rw [va_up_off e]
      refine ⟨?_, ?_⟩
      · rw [gi_ad hi (by omega), gi_si_k e]; exact (t5 q hq).1
      · rw [gi_si_k e, gi_ad hi (by omega)]; exact (t5 q hq).2
theorem c_beginT (T : TK sh ad B) (hi : inj ad) {n j rm st : Nat} (hn : n < 4) (hj : j < 4) (hrm : g 4 = nI rm) (hrm8 : 1 ≤ rm ∧ rm ≤ 8) (hst : g 2 = nI st) (hst9 : st < 999) {x y : Int32} {c : Nat → Int32} {l : List En} (hm : CT h ad B N g (va_up S n (c, l)) W L) (hu : HU g l) {K : Int32 → Hp → Prop}
    (k1 : ∀ h', uAll g (nI st) y 6 0 c l = none → TG h' ad B → FB ad h h' B → K (-3) h')
    (k2 : ∀ r h' w', uAll g (nI st) y 6 0 c l = some r → CT h' ad B N (va_up g 2 (nI (st + 1))) (va_up S n (r.1, r.2.1)) (va_up W n w') (va_up L (st % 12) (x, y)) → FB ad h h' B → (∀ i, i ≠ j → w' i = W n i) → w' j 0 = nI st → w' j 1 = y → w' j 2 = g 0 → (∀ t, t < 6 → bitp y t → w' j (3 + t) = r.2.2 t) → K (nI st) h') :
    gI h (ad B) 8 fun v13 => ty sh (ad (B + 8 + 19 * n + 11 + 2 * j)) 4 <| pI h (ad (B + 8 + 19 * n + 11 + 2 * j)) 0 v13 fun h15 => pI h15 (ad (B + 8 + 19 * n + 11 + 2 * j)) 1 y fun h16 => gI h16 (ad B) 0 fun v17 => pI h16 (ad (B + 8 + 19 * n + 11 + 2 * j)) 2 v17 fun h18 =>
      lo (b_X2_begin_117 sh (ad B) x y (ad (B + 8 + 19 * n)) (ad (B + 8 + 19 * n + 11 + 2 * j)) (fun h34 => gR h34 (ad B) 9 fun q35 => gI h34 (ad B) 8 fun v36 => ty sh q35 7 <| sI sh h34 q35 (v36 - v36 / (12 : Int32) * (12 : Int32)) x fun h38 => gR h38 (ad B) 10 fun q40 => gI h38 (ad B) 8 fun v41 => ty sh q40 7 <| sI sh h38 q40 (v41 - v41 / (12 : Int32) * (12 : Int32)) y fun h43 => gI h43 (ad B) 8 fun v45 => pI h43 (ad B) 8 (v45 + (1 : Int32)) fun h46 => gI h46 (ad (B + 8 + 19 * n + 11 + 2 * j)) 0 fun v47 => K v47 h46) K) (0 : Int32) h18 := by
  have X := ct_SK T hn
  rw [gI_t, hm.2.1.2.2.2.2, hst, cs_t11 X hj, pI_t, pI_t, gI_t]
  have a1 := CT_w hi hm hn hj (k := 0) (v := nI st) (by omega)
  have a2 := CT_w hi a1 hn hj (k := 1) (v := y) (by omega)
  have a3 := CT_w hi a2 hn hj (k := 2) (v := g 0) (by omega)
  rw [a2.2.1.1, pI_t]
  simp only [va_up_self, va_up_up] at a3
  have F0 : FB ad h (si (si (si h (ad (B + 8 + 19 * n + 11 + 2 * j)) 0 (nI st)) (ad (B + 8 + 19 * n + 11 + 2 * j)) 1 y) (ad (B + 8 + 19 * n + 11 + 2 * j)) 2 (g 0)) B := FS_FB hn (((FS_w hj).tr (FS_w hj)).tr (FS_w hj))
  refine c_begin117 T hi hn hj hrm hrm8 (by rw [va_up_self, va_up_off (by decide), va_up_off (by decide), va_up_self]) a3 hu (fun h' u1 u2 u3 => k1 h' u1 u2 (F0.tr u3)) (fun r h' w' u1 u2 u3 u4 u5 u6 => ?_)
  have hmod := nI_mod12 (a := st) (by omega)
  have hlt : st % 12 < 12 := Nat.mod_lt _ (by decide)
  rw [gR_t u2.1.2.2.2.2.1, gI_t, u2.2.1.2.2.2.2, hst, hmod, ct_t5 T, ct_s5 T hlt, gR_s u2.1.2.2.2.2.2.1, gI_t, gi_ad hi (by omega), u2.2.1.2.2.2.2, hst, hmod, ct_t6 T, ct_s6 T hlt]
  have b1 := CT_ring hi u2 (p := st % 12) (a := x) (b := y)
  have b2 := CT_started hi b1 (v := nI (st + 1))
  rw [gI_t, b1.2.1.2.2.2.2, hst, nI_1, pI_t, gI_t]
  have hcs := b2.2.2.2.2.2 n hn
  rw [va_up_self, va_up_self] at hcs
  rw [cs_w hcs hj (by omega)]
  have e0 : w' j 0 = nI st := by rw [u5 0 (by omega), va_up_self, va_up_off (by decide), va_up_off (by decide), va_up_self]
  rw [e0]
  refine k2 r _ w' u1 b2 (((F0.tr u3).tr ((FB_si (by omega)).tr (FB_si (by omega)))).tr FB_si0) (fun i i1 => by rw [u4 i i1, va_up_off i1]) e0 ?_ ?_ u6
  · rw [u5 1 (by omega), va_up_self, va_up_off (by decide), va_up_self]
  · rw [u5 2 (by omega), va_up_self, va_up_self]
theorem c_begin (T : TK sh ad B) (hi : inj ad) (hm : CT h ad B N g S W L) {rm st : Nat} (ht : tgood g N) (hs : sgood N S) (hrm : g 4 = nI rm) (hrm8 : 1 ≤ rm ∧ rm ≤ 8) (hst : g 2 = nI st) (hst9 : st ≤ 999) (hu : ∀ n, n < 4 → HU g (S n).2) {x y : Int32} {K : Int32 → Hp → Prop}
    (k0 : ¬ ((∃ n, n < 4 ∧ x = nI n) ∧ ∃ s, 1 ≤ s ∧ s ≤ 63 ∧ y = nI s) → K (-1) h)
    (k1 : ∀ n kn h', n < 4 → x = nI n → (∃ s, 1 ≤ s ∧ s ≤ 63 ∧ y = nI s) → kn ≤ N → (S n).1 0 = nI kn → ((∀ j, j < 4 → W n j 0 ≠ -1) ∨ st = 999 ∨ uAll g (nI st) y 6 0 (askC N kn (S n).1) (askL g N kn (S n).2) = none) → TG h' ad B → FB ad h h' B → K (-3) h')
    (k2 : ∀ n kn j r h' w', n < 4 → x = nI n → (∃ s, 1 ≤ s ∧ s ≤ 63 ∧ y = nI s) → kn ≤ N → (S n).1 0 = nI kn → j < 4 → W n j 0 = -1 → st < 999 → uAll g (nI st) y 6 0 (askC N kn (S n).1) (askL g N kn (S n).2) = some r → CT h' ad B N (va_up g 2 (nI (st + 1))) (va_up S n (r.1, r.2.1)) (va_up W n w') (va_up L (st % 12) (x, y)) → FB ad h h' B → (∀ i, i ≠ j → w' i = W n i) → w' j 0 = nI st → w' j 1 = y → w' j 2 = g 0 → (∀ t, t < 6 → bitp y t → w' j (3 + t) = r.2.2 t) → K (nI st) h') :
    f_X2_begin sh (ad B) x y h K := by
  obtain ⟨t1, t2, t3⟩ := ht
  unfold f_X2_begin
  rcases rng x (a := 0) (b := 3) (by omega) (by omega) with ⟨n, n1, n2, rfl⟩ | z | ⟨z1, z2⟩
  · have hn : n < 4 := by omega
    rw [if_neg (nI_pos (by omega)), if_neg (lt4 hn)]
    rcases rng y (a := 1) (b := 63) (by omega) (by omega) with ⟨s, s1, s2, rfl⟩ | z | ⟨z1, z2⟩
    · rw [if_neg (fun z => by rw [show (1 : Int32) = nI 1 from rfl, nI_ltI (by omega) (by omega)] at z; omega), if_pos (by rw [show (63 : Int32) = nI 63 from rfl, nI_leI (by omega) (by omega)]; omega)]
      have X := ct_SK T hn
      have hcs := hm.2.2.2.2.2 n hn
      obtain ⟨hal, kn, hkn, hc0⟩ := hs n hn
      have hs63 : ∃ q, 1 ≤ q ∧ q ≤ 63 ∧ nI s = nI q := ⟨s, s1, s2, rfl⟩
      rw [ct_t0 T, tp_ses T hm.1 hn, cs_t0 X]
      refine c_idle X hcs (fun j j1 j2 j3 => ⟨fun z => absurd z (by simp), fun q z => ?_⟩) (fun z => ⟨fun _ => k1 n kn h hn rfl hs63 hkn hc0 (Or.inl z) (CT_G hm) FB.rf, fun q z => absurd z (by simp)⟩)
      cases z
      rw [gI_t, hm.2.1.2.2.2.2, hst]
      by_cases c9 : st = 999
      · rw [if_neg (fun z => by rw [show (999 : Int32) = nI 999 from rfl, nI_ltI (by omega) (by omega)] at z; omega)]
        exact k1 n kn h hn rfl hs63 hkn hc0 (Or.inr (Or.inl c9)) (CT_G hm) FB.rf
      · have hst2 : st < 999 := by omega
        rw [if_pos (by rw [show (999 : Int32) = nI 999 from rfl, nI_ltI (by omega) (by omega)]; exact hst2), gI_t, gI_t, hcs.2.1 0 (by omega), hc0, hm.2.1.2.2.2.1, t2]
        have main : ∀ (h9 : Hp), FB ad h h9 B → CT h9 ad B N g (va_up S n (askC N kn (S n).1, askL g N kn (S n).2)) W L → HU g (askL g N kn (S n).2) → (gI h9 (ad B) 8 fun v13 => ty sh (ad (B + 8 + 19 * n + 11 + 2 * j)) 4 <| pI h9 (ad (B + 8 + 19 * n + 11 + 2 * j)) 0 v13 fun h15 => pI h15 (ad (B + 8 + 19 * n + 11 + 2 * j)) 1 (nI s) fun h16 => gI h16 (ad B) 0 fun v17 => pI h16 (ad (B + 8 + 19 * n + 11 + 2 * j)) 2 v17 fun h18 =>
      lo (b_X2_begin_117 sh (ad B) (nI n) (nI s) (ad (B + 8 + 19 * n)) (ad (B + 8 + 19 * n + 11 + 2 * j)) (fun h34 => gR h34 (ad B) 9 fun q35 => gI h34 (ad B) 8 fun v36 => ty sh q35 7 <| sI sh h34 q35 (v36 - v36 / (12 : Int32) * (12 : Int32)) (nI n) fun h38 => gR h38 (ad B) 10 fun q40 => gI h38 (ad B) 8 fun v41 => ty sh q40 7 <| sI sh h38 q40 (v41 - v41 / (12 : Int32) * (12 : Int32)) (nI s) fun h43 => gI h43 (ad B) 8 fun v45 => pI h43 (ad B) 8 (v45 + (1 : Int32)) fun h46 => gI h46 (ad (B + 8 + 19 * n + 11 + 2 * j)) 0 fun v47 => K v47 h46) K) (0 : Int32) h18) := fun h9 F9 m9 u9 =>
          c_beginT T hi hn j1 hrm hrm8 hst hst2 m9 u9 (fun h' q1 q2 q3 => k1 n kn h' hn rfl hs63 hkn hc0 (Or.inr (Or.inr q1)) q2 (F9.tr q3)) (fun r h' w' q1 q2 q3 q4 q5 q6 q7 q8 => k2 n kn j r h' w' hn rfl hs63 hkn hc0 j1 j2 hst2 q1 q2 (F9.tr q3) q4 q5 q6 q7 q8)
        by_cases cle : N ≤ kn
        · rw [if_pos (nI_le cle (by omega))]
          have hNk : N = kn := by omega
          have eC : askC N kn (S n).1 = (S n).1 := by unfold askC; rw [if_pos cle]; exact va_up_id (by rw [hc0, hNk])
          have eL : askL g N kn (S n).2 = (S n).2 := by unfold askL; rw [show N - kn = 0 by omega]; rfl
          refine main h FB.rf ?_ ?_
          · rw [eC, eL, show va_up S n ((S n).1, (S n).2) = S from va_up_id rfl]; exact hm
          · rw [eL]; exact hu n hn
        · rw [if_neg (fun z => cle (by rw [nI_leI (by omega) (by omega)] at z; exact z)), gI_t, gR_t hm.1.2.2.1, gR_t hm.1.1, hm.2.1.2.2.2.1, t2]
          refine c_learn X hi hcs (ct_ne_ses hi (by omega)) (ct_ne_ses hi (by omega)) T.2.2.2.1 T.2.1 hc0 (by omega) (by omega) (tl := tlg g) (fun q hq => ⟨(t3 q (by omega)).1, by rw [(hm.2.2.2.1 q (by omega)).1]; exact (t3 q (by omega)).2⟩) (fun h5 h6 h7 => ?_)
          rw [lrn_ver t3 (fun t ht => (hm.2.2.1 t ht).1) _ _ _ (by omega), show kn + (N - kn) = N by omega] at h6
          rw [gI_t, pI_t, h6.2.1 4 (by omega), va_up_off (by decide)]
          have h8 := CS_c hi h6 (k := 4) (v := (S n).1 4 + 1) (by omega)
          have h9 := CT_S hi hm h8 (h7.tr FS_si0)
          rw [va_up_id (f := W) (k := n) rfl, va_up_comm (by decide)] at h9
          have eC : askC N kn (S n).1 = va_up (va_up (S n).1 4 ((S n).1 4 + 1)) 0 (nI N) := by unfold askC; rw [if_neg cle]
          refine main _ (FS_FB hn (h7.tr FS_si0)) ?_ (HU_lrn _ _ _ (hu n hn))
          rw [eC]
          exact h9
    · refine if_y z ?_
      refine k0 (fun q => ?_)
      obtain ⟨-, s, s1, s2, rfl⟩ := q
      rw [nI_ltI (by omega) (by omega)] at z; omega
    · refine if_n z1 (if_n (fun q => nlt_le.mpr q z2) ?_)
      refine k0 (fun q => ?_)
      obtain ⟨-, s, s1, s2, rfl⟩ := q
      rw [nI_ltI (by omega) (by omega)] at z2; omega
  · refine if_y z ?_
    refine k0 (fun q => ?_)
    obtain ⟨⟨n, n1, rfl⟩, -⟩ := q
    exact nI_pos (by omega) z
  · refine if_n z1 (if_y ?_ ?_)
    · rw [Int32.le_iff_toInt_le]; rw [Int32.lt_iff_toInt_lt, nI_toInt (by omega)] at z2
      have : (4 : Int32).toInt = 4 := by decide
      omega
    refine k0 (fun q => ?_)
    obtain ⟨⟨n, n1, rfl⟩, -⟩ := q
    rw [nI_ltI (by omega) (by omega)] at z2; omega
/-- a statement ends: that of the place j of session n -/
theorem c_finish (T : TK sh ad B) (hi : inj ad) (hm : CT h ad B N g S W L) (h0 : ∀ n, n < 4 → ∀ e ∈ (S n).2, ∃ t, t < 6 ∧ e 0 = nI t) {x : Int32} {K : Int32 → Hp → Prop}
    (k0 : ¬ 0 ≤ x → K (-1) h) (k1 : 0 ≤ x → (∀ n j, n < 4 → j < 4 → W n j 0 ≠ x) → K (-2) h)
    (k2 : ∀ n j r h', 0 ≤ x → n < 4 → j < 4 → W n j 0 = x → r = shr (g 4) ((S n).2.filterMap (rq (W n j))).length ((S n).2.filterMap (rq (W n j))) → CT h' ad B N g (va_up S n (va_up (S n).1 3 ((S n).1 3 + nI r.2), r.1)) (va_up W n (va_up (W n) j (va_up (W n j) 0 (-1)))) L → FB ad h h' B → K (nI (S n).2.length - nI r.1.length) h') : f_X2_finish sh (ad B) x h K := by
  unfold f_X2_finish
  by_cases c0 : 0 ≤ x
  · rw [if_pos c0]
    refine lo_ind (fun d s' h' => ∃ k, k + d = 5 ∧ k ≤ 4 ∧ s' = nI k ∧ h' = h ∧ ∀ n j, n < k → j < 4 → W n j 0 ≠ x) ?_ ?_ (d := 5) ⟨0, by omega, by omega, rfl, rfl, fun n j hn => absurd hn (Nat.not_lt_zero n)⟩
    · rintro s' h' ⟨k, h1, h2, -⟩
      omega
    · rintro d rec hrec s' h' ⟨k, h1, h2, rfl, rfl, h3⟩
      unfold b_X2_finish_8
      by_cases hz : k = 4
      · subst hz
        rw [if_pos ge4]
        exact k1 c0 h3
      · have hk4 : k < 4 := by omega
        have X := ct_SK T hk4
        have hcs := hm.2.2.2.2.2 k hk4
        rw [if_neg (lt4 hk4), ct_t0 T, tp_ses T hm.1 hk4, cs_t0 X, nI_1]
        refine c_workOf X hcs (fun _ j j1 j2 j3 => ⟨fun z => absurd z (by simp), fun q z => ?_⟩) (fun z => ⟨fun _ => hrec _ _ ⟨k + 1, by omega, by omega, rfl, rfl, fun n j hn hj => ?_⟩, fun q z => absurd z (by simp)⟩)
        · cases z
          rw [tp_ses T hm.1 hk4, gI_t, hm.2.1.2.2.1, cs_t0 X]
          refine c_release X hi hcs j1 (h0 k hk4) (fun h5 r hr h6 h7 => ?_)
          exact k2 k j r h5 c0 hk4 j1 j2 hr (CT_S hi hm h6 h7) (FS_FB hk4 h7)
        · by_cases e : n = k
          · subst e; exact z c0 j hj
          · exact h3 n j (by omega) hj
  · rw [if_neg c0]
    exact k0 c0
end CG2

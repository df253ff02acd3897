/-! the class's states: copied, cleared -/
/-- a copy that is under way: so many of each row -/
def CP (h h' : Hp) (ad : Nat → Nat) (B : Nat) (g : Nat → Int32) (S : Nat → Ses) (W : Slots) (L : Ring) (k1 k2 k3 k4 : Nat) : Prop :=
  TG h' ad B ∧ (gi h' (ad B) 0 = g 0 ∧ gi h' (ad B) 1 = g 3 ∧ gi h' (ad B) 2 = g 4 ∧ gi h' (ad B) 5 = g 1 ∧ gi h' (ad B) 8 = g 2) ∧
  (∀ t, t < k1 → gi h' (ad (B + 1)) t = g (5 + t) ∧ gi h' (ad (B + 2)) t = g (11 + t)) ∧ (∀ k, k < k2 → gi h' (ad (B + 3)) k = g (17 + k) ∧ gi h' (ad (B + 4)) k = g (117 + k)) ∧
  (∀ p, p < k3 → gi h' (ad (B + 5)) p = (L p).1 ∧ gi h' (ad (B + 6)) p = (L p).2) ∧ (∀ i, i < k4 → CS h' ad (B + 8 + 19 * i) (S i).1 (S i).2 (W i)) ∧ FB ad h h' B
section CE
variable {sh : Sh} {ad : Nat → Nat} {h h' h'' : Hp} {B N : Nat} {g : Nat → Int32} {S : Nat → Ses} {W : Slots} {L : Ring}
theorem gR_s {h : Hp} {a b k j q : Nat} {v : Int32} {K : Nat → Prop} (e : gr h a k = some q) : gR (si h b j v) a k K = K q := gR_t (h := si h b j v) e
theorem ge12 : (12 : Int32) ≤ nI 12 := by decide
theorem lt12 {k : Nat} (h : k < 12) : ¬ (12 : Int32) ≤ nI k := fun z => by rw [show (12 : Int32) = nI 12 from rfl, nI_leI (by omega) (by omega)] at z; omega
theorem TG_si (hi : inj ad) (t : TG h ad B) {p k : Nat} {v : Int32} (hp : p < 8) : TG (si h (ad (B + p)) k v) ad B := ⟨t.1, fun i hi4 => CG_Q (QS_si hi hp) (t.2 i hi4)⟩
theorem TG_si0 (hi : inj ad) (t : TG h ad B) {k : Nat} {v : Int32} : TG (si h (ad B) k v) ad B := TG_si hi t (p := 0) (by omega)
theorem CP_1 (hi : inj ad) {k1 k2 k3 k4 : Nat} (c : CP h h' ad B g S W L k1 k2 k3 k4) (h4 : k4 ≤ 4) : CP h (si (si h' (ad (B + 1)) k1 (g (5 + k1))) (ad (B + 2)) k1 (g (11 + k1))) ad B g S W L (k1 + 1) k2 k3 k4 := by
  obtain ⟨c1, ⟨a1, a2, a3, a4, a5⟩, c3, c4, c5, c6, c7⟩ := c
  refine ⟨TG_si hi (TG_si hi c1 (by omega)) (by omega), ⟨by rw [gi_ad hi (by omega), gi_ad hi (by omega)]; exact a1, by rw [gi_ad hi (by omega), gi_ad hi (by omega)]; exact a2, by rw [gi_ad hi (by omega), gi_ad hi (by omega)]; exact a3, by rw [gi_ad hi (by omega), gi_ad hi (by omega)]; exact a4, by rw [gi_ad hi (by omega), gi_ad hi (by omega)]; exact a5⟩, fun t ht => ?_, fun k hk => ?_, fun p hp => ?_, fun i hi4 => CS_Q ((QS_si hi (p := 1) (by omega)).tr (QS_si hi (p := 2) (by omega))) (c6 i hi4), (c7.tr (FB_si (by omega))).tr (FB_si (by omega))⟩
  · by_cases e : t = k1
    · subst e
      exact ⟨by rw [gi_ad hi (by omega), gi_si], gi_si⟩
    · refine ⟨?_, ?_⟩
      · rw [gi_ad hi (by omega), gi_si_k e]; exact (c3 t (by omega)).1
      · rw [gi_si_k e, gi_ad hi (by omega)]; exact (c3 t (by omega)).2
  · rw [gi_ad hi (by omega), gi_ad hi (by omega), gi_ad hi (by omega), gi_ad hi (by omega)]; exact c4 k hk
  · rw [gi_ad hi (by omega), gi_ad hi (by omega), gi_ad hi (by omega), gi_ad hi (by omega)]; exact c5 p hp
theorem CP_2 (hi : inj ad) {k1 k2 k3 k4 : Nat} (c : CP h h' ad B g S W L k1 k2 k3 k4) (h4 : k4 ≤ 4) : CP h (si (si h' (ad (B + 3)) k2 (g (17 + k2))) (ad (B + 4)) k2 (g (117 + k2))) ad B g S W L k1 (k2 + 1) k3 k4 := by
  obtain ⟨c1, ⟨a1, a2, a3, a4, a5⟩, c3, c4, c5, c6, c7⟩ := c
  refine ⟨TG_si hi (TG_si hi c1 (by omega)) (by omega), ⟨by rw [gi_ad hi (by omega), gi_ad hi (by omega)]; exact a1, by rw [gi_ad hi (by omega), gi_ad hi (by omega)]; exact a2, by rw [gi_ad hi (by omega), gi_ad hi (by omega)]; exact a3, by rw [gi_ad hi (by omega), gi_ad hi (by omega)]; exact a4, by rw [gi_ad hi (by omega), gi_ad hi (by omega)]; exact a5⟩, fun t ht => ?_, fun k hk => ?_, fun p hp => ?_, fun i hi4 => CS_Q ((QS_si hi (p := 3) (by omega)).tr (QS_si hi (p := 4) (by omega))) (c6 i hi4), (c7.tr (FB_si (by omega))).tr (FB_si (by omega))⟩
  · rw [gi_ad hi (by omega), gi_ad hi (by omega), gi_ad hi (by omega), gi_ad hi (by omega)]; exact c3 t ht
  · by_cases e : k = k2
    · subst e
      exact ⟨by rw [gi_ad hi (by omega), gi_si], gi_si⟩
    · refine ⟨?_, ?_⟩
      · rw [gi_ad hi (by omega), gi_si_k e]; exact (c4 k (by omega)).1
      · rw [gi_si_k e, gi_ad hi (by omega)]; exact (c4 k (by omega)).2
  · rw [gi_ad hi (by omega), gi_ad hi (by omega), gi_ad hi (by omega), gi_ad hi (by omega)]; exact c5 p hp
theorem CP_3 (hi : inj ad) {k1 k2 k3 k4 : Nat} (c : CP h h' ad B g S W L k1 k2 k3 k4) (h4 : k4 ≤ 4) : CP h (si (si h' (ad (B + 5)) k3 (L k3).1) (ad (B + 6)) k3 (L k3).2) ad B g S W L k1 k2 (k3 + 1) k4 := by
  obtain ⟨c1, ⟨a1, a2, a3, a4, a5⟩, c3, c4, c5, c6, c7⟩ := c
  refine ⟨TG_si hi (TG_si hi c1 (by omega)) (by omega), ⟨by rw [gi_ad hi (by omega), gi_ad hi (by omega)]; exact a1, by rw [gi_ad hi (by omega), gi_ad hi (by omega)]; exact a2, by rw [gi_ad hi (by omega), gi_ad hi (by omega)]; exact a3, by rw [gi_ad hi (by omega), gi_ad hi (by omega)]; exact a4, by rw [gi_ad hi (by omega), gi_ad hi (by omega)]; exact a5⟩, fun t ht => ?_, fun k hk => ?_, fun p hp => ?_, fun i hi4 => CS_Q ((QS_si hi (p := 5) (by omega)).tr (QS_si hi (p := 6) (by omega))) (c6 i hi4), (c7.tr (FB_si (by omega))).tr (FB_si (by omega))⟩
  · rw [gi_ad hi (by omega), gi_ad hi (by omega), gi_ad hi (by omega), gi_ad hi (by omega)]; exact c3 t ht
  · rw [gi_ad hi (by omega), gi_ad hi (by omega), gi_ad hi (by omega), gi_ad hi (by omega)]; exact c4 k hk
  · by_cases e : p = k3
    · subst e
      exact ⟨by rw [gi_ad hi (by omega), gi_si], gi_si⟩
    · refine ⟨?_, ?_⟩
      · rw [gi_ad hi (by omega), gi_si_k e]; exact (c5 p (by omega)).1
      · rw [gi_si_k e, gi_ad hi (by omega)]; exact (c5 p (by omega)).2
theorem CP_4 (hi : inj ad) {k1 k2 k3 k4 : Nat} (c : CP h h' ad B g S W L k1 k2 k3 k4) (h4 : k4 < 4) (hs : CS h'' ad (B + 8 + 19 * k4) (S k4).1 (S k4).2 (W k4)) (hF : FS ad h' h'' (B + 8 + 19 * k4)) : CP h h'' ad B g S W L k1 k2 k3 (k4 + 1) := by
  obtain ⟨c1, ⟨a1, a2, a3, a4, a5⟩, c3, c4, c5, c6, c7⟩ := c
  have q := FS_out7 hi hF
  refine ⟨TG_S hi c1 (CS_G hs) hF, ⟨?_, ?_, ?_, ?_, ?_⟩, fun t ht => ⟨?_, ?_⟩, fun k hk => ⟨?_, ?_⟩, fun p hp => ⟨?_, ?_⟩, fun i hi4 => ?_, c7.tr (FS_FB h4 hF)⟩
  · rw [o7_gi0 q]; exact a1
  · rw [o7_gi0 q]; exact a2
  · rw [o7_gi0 q]; exact a3
  · rw [o7_gi0 q]; exact a4
  · rw [o7_gi0 q]; exact a5
  · rw [o7_gi q (by omega)]; exact (c3 t ht).1
  · rw [o7_gi q (by omega)]; exact (c3 t ht).2
  · rw [o7_gi q (by omega)]; exact (c4 k hk).1
  · rw [o7_gi q (by omega)]; exact (c4 k hk).2
  · rw [o7_gi q (by omega)]; exact (c5 p hp).1
  · rw [o7_gi q (by omega)]; exact (c5 p hp).2
  · by_cases e : i = k4
    · subst e; exact hs
    · exact CS_Q (FS_QS hi hF (far_ses (Ne.symm e))) (c6 i (by omega))
theorem farB_ses {D i : Nat} (hd : farB B D) (hi4 : i < 4) : far (B + 8 + 19 * i) (D + 8 + 19 * i) := fun a b ha hb z => hd (8 + 19 * i + a) (8 + 19 * i + b) (by omega) (by omega) (by omega)
def bit5 (S : Nat → Ses) : Prop := ∀ n, n < 4 → ∀ i, i < (S n).2.length → hd (S n).2 i 5 = 0 ∨ hd (S n).2 i 5 = 1
theorem c_copyT (T : TK sh ad B) (hi : inj ad) {D : Nat} (T2 : TK sh ad D) (hd : farB B D) (hg : TG h ad B) (hm : CT h ad D N g S W L) (hN : N ≤ 100) (hgN : g 1 = nI N) (h5 : bit5 S) {K : Hp → Prop} (hk : ∀ h', CT h' ad B N g S W L → FB ad h h' B → K h') : f_X2_copyFrom sh (ad B) (ad D) h K := by
  have n0 : ad D ≠ ad B := ad_ne hi (fun z => hd 0 0 (by omega) (by omega) (by omega))
  have hmD : ∀ h', FB ad h h' B → CT h' ad D N g S W L := fun h' hF => CT_Q (FB_QB hi hF hd) hm
  obtain ⟨p, ⟨a1, a2, a3, a4, a5⟩, b3, b4, b5, b6⟩ := hm
  unfold f_X2_copyFrom
  have gg : ∀ (hx : Hp) (q : Nat) (v : Int32) (k : Nat), gi (si hx (ad B) q v) (ad D) k = gi hx (ad D) k := fun hx q v k => gi_si_ne n0
  simp only [ct_t0 T, ct_t0 T2, gI_t, pI_t, gg]
  rw [a1, a2, a3, a4, a5]
  have start : CP h (si (si (si (si (si h (ad B) 0 (g 0)) (ad B) 1 (g 3)) (ad B) 2 (g 4)) (ad B) 5 (g 1)) (ad B) 8 (g 2)) ad B g S W L 0 0 0 0 := by
    refine ⟨TG_si0 hi (TG_si0 hi (TG_si0 hi (TG_si0 hi (TG_si0 hi hg)))), ⟨?_, ?_, ?_, ?_, ?_⟩, fun t ht => by omega, fun t ht => by omega, fun t ht => by omega, fun t ht => by omega, (((FB_si0.tr FB_si0).tr FB_si0).tr FB_si0).tr FB_si0⟩
    · rw [gi_si_k (by decide), gi_si_k (by decide), gi_si_k (by decide), gi_si_k (by decide), gi_si]
    · rw [gi_si_k (by decide), gi_si_k (by decide), gi_si_k (by decide), gi_si]
    · rw [gi_si_k (by decide), gi_si_k (by decide), gi_si]
    · rw [gi_si_k (by decide), gi_si]
    · rw [gi_si]
  refine lo_ind (fun d s' h' => ∃ k, k + d = 7 ∧ k ≤ 6 ∧ s' = nI k ∧ CP h h' ad B g S W L k 0 0 0) ?_ ?_ (d := 7) ⟨0, by omega, by omega, rfl, start⟩
  · rintro s' h' ⟨k, h1, h2, -⟩
    omega
  · rintro d rec hrec s' h' ⟨k, h1, h2, rfl, h3⟩
    unfold b_X2_copyFrom_42
    by_cases hz : k = 6
    · subst hz
      rw [if_pos ge6]
      refine lo_ind (fun d s' h' => ∃ k, k + d = N + 1 ∧ k ≤ N ∧ s' = nI k ∧ CP h h' ad B g S W L 6 k 0 0) ?_ ?_ (d := N + 1) ⟨0, by omega, by omega, rfl, h3⟩
      · rintro s' h' ⟨k, h1, h2, -⟩
        omega
      · rintro d rec hrec s' h' ⟨k, h1, h2, rfl, h3⟩
        unfold b_X2_copyFrom_80
        rw [ct_t0 T, gI_t, h3.2.1.2.2.2.1, hgN]
        by_cases hz : k = N
        · rw [if_pos (nI_le (by omega) (by omega))]
          subst hz
          refine lo_ind (fun d s' h' => ∃ j, j + d = 13 ∧ j ≤ 12 ∧ s' = nI j ∧ CP h h' ad B g S W L 6 k j 0) ?_ ?_ (d := 13) ⟨0, by omega, by omega, rfl, h3⟩
          · rintro s' h' ⟨k, h1, h2, -⟩
            omega
          · rintro d rec hrec s' h' ⟨j, h1, h2, rfl, h3⟩
            unfold b_X2_copyFrom_126
            by_cases hz : j = 12
            · subst hz
              rw [if_pos ge12]
              refine lo_ind (fun d s' h' => ∃ i, i + d = 5 ∧ i ≤ 4 ∧ s' = nI i ∧ CP h h' ad B g S W L 6 k 12 i) ?_ ?_ (d := 5) ⟨0, by omega, by omega, rfl, h3⟩
              · rintro s' h' ⟨k, h1, h2, -⟩
                omega
              · rintro d rec hrec s' h' ⟨i, h1, h2, rfl, h3⟩
                unfold b_X2_copyFrom_164
                have h3' := h3
                obtain ⟨c1, c2, c3, c4, c5, c6, c7⟩ := h3'
                by_cases hz : i = 4
                · subst hz
                  rw [if_pos ge4]
                  exact hk h' ⟨c1.1, c2, c3, c4, c5, c6⟩ c7
                · have hi4 : i < 4 := by omega
                  have hD := hmD h' c7
                  rw [if_neg (lt4 hi4), ct_t0 T, tp_ses T c1.1 hi4, ct_t0 T2, tp_ses T2 hD.1 hi4, cs_t0 (ct_SK T hi4), nI_1]
                  refine c_copyS (ct_SK T hi4) hi (ct_SK T2 hi4) (farB_ses hd hi4) (c1.2 i hi4) (hD.2.2.2.2.2 i hi4) (h5 i hi4) (fun h5 h6 h7 => ?_)
                  exact hrec _ _ ⟨i + 1, by omega, by omega, rfl, CP_4 hi h3 hi4 h6 h7⟩
            · have hj12 : j < 12 := by omega
              have h3' := h3
              obtain ⟨c1, c2, c3, c4, c5, c6, c7⟩ := h3'
              have hD := hmD h' c7
              have hD2 := hmD (si h' (ad (B + 5)) j (L j).1) (c7.tr (FB_si (by omega)))
              rw [if_neg (lt12 hj12), ct_t0 T, gR_t c1.1.2.2.2.2.1, ct_t0 T2, gR_t hD.1.2.2.2.2.1, ct_t5 T2, ct_l5 T2 hj12, (hD.2.2.2.2.1 j hj12).1, ct_t5 T, ct_s5 T hj12, gR_s c1.1.2.2.2.2.2.1, gR_s hD.1.2.2.2.2.2.1, ct_t6 T2, ct_l6 T2 hj12, (hD2.2.2.2.2.1 j hj12).2, ct_t6 T, ct_s6 T hj12, nI_1]
              exact hrec _ _ ⟨j + 1, by omega, by omega, rfl, CP_3 hi h3 (by omega)⟩
        · have hkN : k < N := by omega
          have h3' := h3
          obtain ⟨c1, c2, c3, c4, c5, c6, c7⟩ := h3'
          have hD := hmD h' c7
          have hD2 := hmD (si h' (ad (B + 3)) k (g (17 + k))) (c7.tr (FB_si (by omega)))
          rw [if_neg (nI_ge (by omega) (by omega)), if_neg (fun z => by rw [show (100 : Int32) = nI 100 from rfl, nI_leI (by omega) (by omega)] at z; omega), gR_t c1.1.2.2.1, ct_t0 T2, gR_t hD.1.2.2.1, ct_t3 T2, ct_l3 T2 (by omega), (hD.2.2.2.1 k hkN).1, ct_t3 T, ct_s3 T (by omega), gR_s c1.1.2.2.2.1, gR_s hD.1.2.2.2.1, ct_t4 T2, ct_l4 T2 (by omega), (hD2.2.2.2.1 k hkN).2, ct_t4 T, ct_s4 T (by omega), nI_1]
          exact hrec _ _ ⟨k + 1, by omega, by omega, rfl, CP_2 hi h3 (by omega)⟩
    · have hk6 : k < 6 := by omega
      have h3' := h3
      obtain ⟨c1, c2, c3, c4, c5, c6, c7⟩ := h3'
      have hD := hmD h' c7
      have hD2 := hmD (si h' (ad (B + 1)) k (g (5 + k))) (c7.tr (FB_si (by omega)))
      rw [if_neg (lt6 hk6), ct_t0 T, gR_t c1.1.1, ct_t0 T2, gR_t hD.1.1, ct_t1 T2, ct_l1 T2 hk6, (hD.2.2.1 k hk6).1, ct_t1 T, ct_s1 T hk6, gR_s c1.1.2.1, gR_s hD.1.2.1, ct_t2 T2, ct_l2 T2 hk6, (hD2.2.2.1 k hk6).2, ct_t2 T, ct_s2 T hk6, nI_1]
      exact hrec _ _ ⟨k + 1, by omega, by omega, rfl, CP_1 hi h3 (by omega)⟩
/-- a state's numbers at first -/
def g00 : Nat → Int32 := fun k => if k = 3 then 3 else if k = 4 then 3 else if 11 ≤ k ∧ k < 17 then 1 else 0
theorem c_clearT (T : TK sh ad B) (hi : inj ad) (hg : TG h ad B) {K : Hp → Prop} (hk : ∀ h' W' L', (∀ n, n < 4 → ∀ j, j < 4 → W' n j 0 = -1) → CT h' ad B 0 g00 (fun _ => (fun _ => 0, [])) W' L' → FB ad h h' B → K h') : f_X2_clear sh (ad B) h K := by
  unfold f_X2_clear
  rw [ct_t0 T]
  simp only [pI_t]
  have start : CP h (si (si (si (si (si h (ad B) 0 0) (ad B) 1 3) (ad B) 2 3) (ad B) 5 0) (ad B) 8 0) ad B g00 (fun _ => (fun _ => 0, [])) (fun _ _ _ => 0) (fun _ => (0, 0)) 0 0 0 0 := by
    refine ⟨TG_si0 hi (TG_si0 hi (TG_si0 hi (TG_si0 hi (TG_si0 hi hg)))), ⟨?_, ?_, ?_, ?_, ?_⟩, fun t ht => by omega, fun t ht => by omega, fun t ht => by omega, fun t ht => by omega, (((FB_si0.tr FB_si0).tr FB_si0).tr FB_si0).tr FB_si0⟩
    · rw [gi_si_k (by decide), gi_si_k (by decide), gi_si_k (by decide), gi_si_k (by decide), gi_si]; rfl
    · rw [gi_si_k (by decide), gi_si_k (by decide), gi_si_k (by decide), gi_si]; rfl
    · rw [gi_si_k (by decide), gi_si_k (by decide), gi_si]; rfl
    · rw [gi_si_k (by decide), gi_si]; rfl
    · rw [gi_si]; rfl
  have gv : ∀ t, t < 6 → g00 (5 + t) = 0 := fun t ht => by unfold g00; rw [if_neg (by omega), if_neg (by omega), if_neg (by omega)]
  have gs : ∀ t, t < 6 → g00 (11 + t) = 1 := fun t ht => by unfold g00; rw [if_neg (by omega), if_neg (by omega), if_pos (by omega)]
  refine lo_ind (fun d s' h' => ∃ k, k + d = 7 ∧ k ≤ 6 ∧ s' = nI k ∧ CP h h' ad B g00 (fun _ => (fun _ => 0, [])) (fun _ _ _ => 0) (fun _ => (0, 0)) k 0 0 0) ?_ ?_ (d := 7) ⟨0, by omega, by omega, rfl, start⟩
  · rintro s' h' ⟨k, h1, h2, -⟩
    omega
  · rintro d rec hrec s' h' ⟨k, h1, h2, rfl, h3⟩
    unfold b_X2_clear_27
    by_cases hz : k = 6
    · subst hz
      rw [if_pos ge6]
      refine lo_ind (fun d s' h' => ∃ i W', i + d = 5 ∧ i ≤ 4 ∧ s' = nI i ∧ (∀ n, n < i → ∀ j, j < 4 → W' n j 0 = -1) ∧ CP h h' ad B g00 (fun _ => (fun _ => 0, [])) W' (fun _ => (0, 0)) 6 0 0 i) ?_ ?_ (d := 5) ⟨0, _, by omega, by omega, rfl, fun n hn => by omega, h3⟩
      · rintro s' h' ⟨k, W', h1, h2, -⟩
        omega
      · rintro d rec hrec s' h' ⟨i, W', h1, h2, rfl, h0, h3⟩
        unfold b_X2_clear_55
        have h3' := h3
        obtain ⟨c1, c2, c3, c4, c5, c6, c7⟩ := h3'
        by_cases hz : i = 4
        · subst hz
          rw [if_pos ge4]
          exact hk h' W' (fun p => (gi h' (ad (B + 5)) p, gi h' (ad (B + 6)) p)) h0 ⟨c1.1, c2, c3, c4, fun p _ => ⟨rfl, rfl⟩, c6⟩ c7
        · have hi4 : i < 4 := by omega
          rw [if_neg (lt4 hi4), ct_t0 T, tp_ses T c1.1 hi4, cs_t0 (ct_SK T hi4), nI_1]
          refine c_clearS (ct_SK T hi4) hi (c1.2 i hi4) (fun h5 w' h6 h7 h8 => ?_)
          have h3w : CP h h' ad B g00 (fun _ => (fun _ => 0, [])) (va_up W' i w') (fun _ => (0, 0)) 6 0 0 i := ⟨c1, c2, c3, c4, c5, fun q hq => by rw [va_up_off (by omega)]; exact c6 q hq, c7⟩
          refine hrec _ _ ⟨i + 1, va_up W' i w', by omega, by omega, rfl, fun n hn j hj => ?_, CP_4 hi h3w hi4 (by rw [va_up_self]; exact h7) h8⟩
          by_cases e : n = i
          · subst e; rw [va_up_self]; exact h6 j hj
          · rw [va_up_off e]; exact h0 n (by omega) j hj
    · have hk6 : k < 6 := by omega
      have c1 := h3.1
      rw [if_neg (lt6 hk6), ct_t0 T, gR_t c1.1.1, ct_t1 T, ct_s1 T hk6, gR_s c1.1.2.1, ct_t2 T, ct_s2 T hk6, nI_1]
      have h4 := CP_1 hi h3 (by omega)
      rw [gv k hk6, gs k hk6] at h4
      exact hrec _ _ ⟨k + 1, by omega, by omega, rfl, h4⟩
end CE

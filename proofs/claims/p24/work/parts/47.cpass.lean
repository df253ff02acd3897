/-! the class's states: ticks, settings -/
theorem rng (x : Int32) {a b : Nat} (ha : a < 2 ^ 31) (hb : b < 2 ^ 31) : (∃ k, a ≤ k ∧ k ≤ b ∧ x = nI k) ∨ (x < nI a ∨ (¬ x < nI a ∧ nI b < x)) := by
  by_cases c1 : x < nI a
  · exact Or.inr (Or.inl c1)
  · by_cases c2 : nI b < x
    · exact Or.inr (Or.inr ⟨c1, c2⟩)
    · have z : ¬ x < 0 := fun z => c1 (by
        rw [Int32.lt_iff_toInt_lt] at z ⊢
        rw [nI_toInt ha]
        have : (0 : Int32).toInt = 0 := rfl
        omega)
      obtain ⟨j, j1, j2⟩ := nI_of z
      subst j2
      rw [nI_ltI j1 ha] at c1
      rw [nI_ltI hb j1] at c2
      exact Or.inl ⟨j, by omega, by omega, rfl⟩
theorem nlt_le {x y : Int32} : ¬ x < y ↔ y ≤ x := by
  rw [Int32.lt_iff_toInt_lt, Int32.le_iff_toInt_le]; omega
theorem nle_lt {x y : Int32} : ¬ x ≤ y ↔ y < x := by
  rw [Int32.lt_iff_toInt_lt, Int32.le_iff_toInt_le]; omega
section CD
variable {sh : Sh} {ad : Nat → Nat} {h h' h'' : Hp} {B N : Nat} {g : Nat → Int32} {S : Nat → Ses} {W : Slots} {L : Ring}
theorem QS_si {i k : Nat} {v : Int32} (hi : inj ad) {p : Nat} (hp : p < 8) : QS ad h (si h (ad (B + p)) k v) (B + 8 + 19 * i) := fun j hj => ⟨by show va_up h.1 _ _ _ = _; rw [va_up_off (ad_ne hi (by omega))], rfl⟩
theorem CT_tick (hi : inj ad) (t : CT h ad B N g S W L) {v : Int32} : CT (si h (ad B) 0 v) ad B N (va_up g 0 v) S W L := by
  obtain ⟨t1, ⟨a1, a2, a3, a4, a5⟩, t3, t4, t5, t6⟩ := t
  refine ⟨t1, ⟨gi_si, by rw [gi_si_k (by decide), va_up_off (by decide)]; exact a2, by rw [gi_si_k (by decide), va_up_off (by decide)]; exact a3, by rw [gi_si_k (by decide), va_up_off (by decide)]; exact a4, by rw [gi_si_k (by decide), va_up_off (by decide)]; exact a5⟩, fun t ht => ?_, fun k hk => ?_, fun p hp => ?_, fun i hi4 => CS_Q (QS_si hi (p := 0) (by omega)) (t6 i hi4)⟩
  · rw [gi_ad hi (by omega), gi_ad hi (by omega), va_up_off (by omega), va_up_off (by omega)]; exact t3 t ht
  · rw [gi_ad hi (by omega), gi_ad hi (by omega), va_up_off (by omega), va_up_off (by omega)]; exact t4 k hk
  · rw [gi_ad hi (by omega), gi_ad hi (by omega)]; exact t5 p hp
theorem CT_delay (hi : inj ad) (t : CT h ad B N g S W L) {v : Int32} : CT (si h (ad B) 1 v) ad B N (va_up g 3 v) S W L := by
  obtain ⟨t1, ⟨a1, a2, a3, a4, a5⟩, t3, t4, t5, t6⟩ := t
  refine ⟨t1, ⟨by rw [gi_si_k (by decide), va_up_off (by decide)]; exact a1, gi_si, by rw [gi_si_k (by decide), va_up_off (by decide)]; exact a3, by rw [gi_si_k (by decide), va_up_off (by decide)]; exact a4, by rw [gi_si_k (by decide), va_up_off (by decide)]; exact a5⟩, fun t ht => ?_, fun k hk => ?_, fun p hp => ?_, fun i hi4 => CS_Q (QS_si hi (p := 0) (by omega)) (t6 i hi4)⟩
  · rw [gi_ad hi (by omega), gi_ad hi (by omega), va_up_off (by omega), va_up_off (by omega)]; exact t3 t ht
  · rw [gi_ad hi (by omega), gi_ad hi (by omega), va_up_off (by omega), va_up_off (by omega)]; exact t4 k hk
  · rw [gi_ad hi (by omega), gi_ad hi (by omega)]; exact t5 p hp
theorem CT_room (hi : inj ad) (t : CT h ad B N g S W L) {v : Int32} : CT (si h (ad B) 2 v) ad B N (va_up g 4 v) S W L := by
  obtain ⟨t1, ⟨a1, a2, a3, a4, a5⟩, t3, t4, t5, t6⟩ := t
  refine ⟨t1, ⟨by rw [gi_si_k (by decide), va_up_off (by decide)]; exact a1, by rw [gi_si_k (by decide), va_up_off (by decide)]; exact a2, gi_si, by rw [gi_si_k (by decide), va_up_off (by decide)]; exact a4, by rw [gi_si_k (by decide), va_up_off (by decide)]; exact a5⟩, fun t ht => ?_, fun k hk => ?_, fun p hp => ?_, fun i hi4 => CS_Q (QS_si hi (p := 0) (by omega)) (t6 i hi4)⟩
  · rw [gi_ad hi (by omega), gi_ad hi (by omega), va_up_off (by omega), va_up_off (by omega)]; exact t3 t ht
  · rw [gi_ad hi (by omega), gi_ad hi (by omega), va_up_off (by omega), va_up_off (by omega)]; exact t4 k hk
  · rw [gi_ad hi (by omega), gi_ad hi (by omega)]; exact t5 p hp
theorem CT_started (hi : inj ad) (t : CT h ad B N g S W L) {v : Int32} : CT (si h (ad B) 8 v) ad B N (va_up g 2 v) S W L := by
  obtain ⟨t1, ⟨a1, a2, a3, a4, a5⟩, t3, t4, t5, t6⟩ := t
  refine ⟨t1, ⟨by rw [gi_si_k (by decide), va_up_off (by decide)]; exact a1, by rw [gi_si_k (by decide), va_up_off (by decide)]; exact a2, by rw [gi_si_k (by decide), va_up_off (by decide)]; exact a3, by rw [gi_si_k (by decide), va_up_off (by decide)]; exact a4, gi_si⟩, fun t ht => ?_, fun k hk => ?_, fun p hp => ?_, fun i hi4 => CS_Q (QS_si hi (p := 0) (by omega)) (t6 i hi4)⟩
  · rw [gi_ad hi (by omega), gi_ad hi (by omega), va_up_off (by omega), va_up_off (by omega)]; exact t3 t ht
  · rw [gi_ad hi (by omega), gi_ad hi (by omega), va_up_off (by omega), va_up_off (by omega)]; exact t4 k hk
  · rw [gi_ad hi (by omega), gi_ad hi (by omega)]; exact t5 p hp
theorem atS_none {a : Int32} : ∀ (d k : Nat) (S : Nat → Ses), (∀ q, q < k + d → k ≤ q → g (117 + q) ≠ a) → atS g a d k S = (S, 0) := by
  intro d
  induction d with
  | zero => intro k S _; rfl
  | succ d ih =>
    intro k S hq
    unfold atS
    rw [if_neg (hq k (by omega) (Nat.le_refl _))]
    exact ih (k + 1) S (fun q q1 q2 => hq q (by omega) (by omega))
theorem tkS_none {N : Nat} : ∀ (e tk : Nat) (S : Nat → Ses), tk + e < 2 ^ 31 → (∀ k, k < N → ∃ d, g (117 + k) = nI d ∧ d ≤ tk) → tkS g N e tk S = (S, 0) := by
  intro e
  induction e with
  | zero => intro tk S _ _; rfl
  | succ e ih =>
    intro tk S hlt hd
    have h1 : atS g (nI (tk + 1)) N 0 S = (S, 0) := atS_none N 0 S (fun q q1 _ z => by
      obtain ⟨d, d1, d2⟩ := hd q (by omega)
      rw [d1, nI_eq (by omega) (by omega)] at z
      omega)
    unfold tkS
    rw [h1]
    dsimp only
    rw [ih (tk + 1) S (by omega) (fun k hk => by obtain ⟨d, d1, d2⟩ := hd k hk; exact ⟨d, d1, by omega⟩)]
    rfl
theorem tkS_cut {N : Nat} (e : Nat) : ∀ (m tk : Nat) (S : Nat → Ses), tk + m + e < 2 ^ 31 → (∀ k, k < N → ∃ d, g (117 + k) = nI d ∧ d ≤ tk + m) → tkS g N (m + e) tk S = tkS g N m tk S := by
  intro m
  induction m with
  | zero => intro tk S h1 h2; rw [Nat.zero_add, tkS_none e tk S (by omega) h2]; rfl
  | succ m ih =>
    intro tk S h1 h2
    rw [show m + 1 + e = m + e + 1 by omega]
    unfold tkS
    rw [ih (tk + 1) _ (by omega) (fun k hk => by obtain ⟨d, d1, d2⟩ := h2 k hk; exact ⟨d, d1, by omega⟩)]
theorem c_pass34 (T : TK sh ad B) (hi : inj ad) (hm : CT h ad B N g S W L) (ht : tgood g N) (hs : sgood N S) {x1 x3 c0 x4 a : Int32} (ha : g 0 + x4 = a) {K : Int32 → Hp → Prop} (hk : ∀ h', CT h' ad B N g (atS g a N 0 S).1 W L → FB ad h h' B → K (c0 + nI (4 * (atS g a N 0 S).2)) h') : lo (b_X2_pass_34 sh (ad B) x1 x3 x4 (fun y h => K y h)) (c0, (0 : Int32)) h := by
  refine lo_ind (fun d s h' => ∃ k m S', k + d = N + 1 ∧ k ≤ N ∧ s = (c0 + nI (4 * m), nI k) ∧ CT h' ad B N g S' W L ∧ FB ad h h' B ∧ sgood N S' ∧ (∀ h2, CT h2 ad B N g (atS g a (N - k) k S').1 W L → FB ad h h2 B → K (c0 + nI (4 * (m + (atS g a (N - k) k S').2))) h2)) ?_ ?_ (d := N + 1) ⟨0, 0, S, by omega, by omega, by rw [Nat.mul_zero, nI_0, Int32.add_zero], hm, FB.rf, hs, fun h2 z1 z2 => by rw [Nat.zero_add]; exact hk h2 z1 z2⟩
  · rintro s h' ⟨k, m, S', h1, h2, -⟩
    omega
  · rintro d rec hrec s h' ⟨k, m, S', h1, h2, rfl, h3, h4, h5, h6⟩
    obtain ⟨t1, t2, t3⟩ := ht
    have h3' := h3
    obtain ⟨p, ⟨a1, a2, a3, a4, a5⟩, b3, b4, b5, b6⟩ := h3
    unfold b_X2_pass_34
    rw [ct_t0 T, gI_t, a4, t2]
    by_cases hz : k = N
    · rw [if_pos (nI_le (by omega) (by omega))]
      subst hz
      rw [Nat.sub_self] at h6
      exact h6 h' h3' h4
    · have hkN : k < N := by omega
      rw [if_neg (nI_ge (by omega) (by omega)), if_neg (fun z => by rw [show (100 : Int32) = nI 100 from rfl, nI_leI (by omega) (by omega)] at z; omega), gR_t p.2.2.2.1, ct_t4 T, ct_l4 T (by omega), (b4 k hkN).2, gI_t, a1, ha]
      obtain ⟨d', hd'⟩ : ∃ d', N - k = d' + 1 := ⟨N - k - 1, by omega⟩
      rw [hd'] at h6
      unfold atS at h6
      dsimp only
      by_cases hdue : g (117 + k) = a
      · rw [if_pos hdue] at h6 ⊢
        refine c_arrive T hi h3' ⟨t1, t2, t3⟩ h5 hkN (fun h7 h8 h9 => ?_)
        rw [show c0 + nI (4 * m) + 4 = c0 + nI (4 * (m + 1)) by rw [Int32.add_assoc, show (4 : Int32) = nI 4 from rfl, nI_add]; rfl, nI_1]
        refine hrec _ _ ⟨k + 1, m + 1, _, by omega, by omega, rfl, h8, h4.tr h9, comeN_good t1 hkN h5 4, fun f5 f6 f7 => ?_⟩
        rw [show N - (k + 1) = d' by omega] at f6 ⊢
        have := h6 f5 f6 f7
        rw [show m + 1 + (atS g a d' (k + 1) (comeN g k S' 4)).2 = m + ((atS g a d' (k + 1) (comeN g k S' 4)).2 + 1) by omega]
        exact this
      · rw [if_neg hdue] at h6 ⊢
        rw [nI_1]
        refine hrec _ _ ⟨k + 1, m, S', by omega, by omega, rfl, h3', h4, h5, fun f5 f6 f7 => ?_⟩
        rw [show N - (k + 1) = d' by omega] at f6 ⊢
        exact h6 f5 f6 f7
theorem c_pass (T : TK sh ad B) (hi : inj ad) (hm : CT h ad B N g S W L) (ht : tgood g N) (hs : sgood N S) {tk : Nat} (h0 : g 0 = nI tk) (htk : tk < 2 ^ 30) (hdue : ∀ k, k < N → ∃ d, g (117 + k) = nI d ∧ d ≤ tk + 20) {x : Int32} {K : Int32 → Hp → Prop} (k1 : (∀ w, 1 ≤ w → w ≤ 99 → x ≠ nI w) → K (-1) h) (k2 : ∀ w h', 1 ≤ w → w ≤ 99 → x = nI w → CT h' ad B N (va_up g 0 (nI (tk + w))) (tkS g N w tk S).1 W L → FB ad h h' B → K (nI (4 * (tkS g N w tk S).2)) h') : f_X2_pass sh (ad B) x h K := by
  unfold f_X2_pass
  rcases rng x (a := 1) (b := 99) (by omega) (by omega) with ⟨w, w1, w2, rfl⟩ | z | ⟨z1, z2⟩
  · have hm' := hm
    obtain ⟨p, ⟨a1, a2, a3, a4, a5⟩, b3, b4, b5, b6⟩ := hm'
    rw [if_neg (fun z => by rw [show (1 : Int32) = nI 1 from rfl, nI_ltI (by omega) (by omega)] at z; omega), if_pos (by rw [show (99 : Int32) = nI 99 from rfl, nI_leI (by omega) (by omega)]; omega), ev_t]
    obtain ⟨m, hmin, m1, m2⟩ : ∃ m, (if (20 : Int32) < nI w then (20 : Int32) else nI w) = nI m ∧ m ≤ w ∧ tkS g N w tk S = tkS g N m tk S := by
      by_cases c : 20 < w
      · refine ⟨20, ?_, by omega, ?_⟩
        · rw [if_pos (by rw [show (20 : Int32) = nI 20 from rfl, nI_ltI (by omega) (by omega)]; exact c)]; rfl
        · have := tkS_cut (g := g) (N := N) (w - 20) 20 tk S (by omega) hdue
          rw [show 20 + (w - 20) = w by omega] at this
          exact this
      · refine ⟨w, ?_, by omega, rfl⟩
        rw [if_neg (fun z => by rw [show (20 : Int32) = nI 20 from rfl, nI_ltI (by omega) (by omega)] at z; omega)]
    rw [hmin]
    have k2 := fun h' => k2 w h' w1 w2 rfl
    rw [m2] at k2
    refine lo_ind (fun d s h' => ∃ k c S', k + d = m + 1 ∧ k ≤ m ∧ s = (nI (4 * c), nI (k + 1)) ∧ CT h' ad B N g S' W L ∧ FB ad h h' B ∧ sgood N S' ∧ (∀ h2, CT h2 ad B N (va_up g 0 (nI (tk + w))) (tkS g N (m - k) (tk + k) S').1 W L → FB ad h h2 B → K (nI (4 * (c + (tkS g N (m - k) (tk + k) S').2))) h2)) ?_ ?_ (d := m + 1) ⟨0, 0, S, by omega, by omega, rfl, hm, FB.rf, hs, fun h2 z1 z2 => by rw [Nat.zero_add]; exact k2 h2 z1 z2⟩
    · rintro s h' ⟨k, c, S', h1, h2, -⟩
      omega
    · rintro d rec hrec s h' ⟨k, c, S', h1, h2, rfl, h3, h4, h5, h6⟩
      unfold b_X2_pass_25
      dsimp only
      by_cases hz : k = m
      · subst hz
        rw [if_pos (by rw [nI_ltI (by omega) (by omega)]; omega), ct_t0 T, gI_t, pI_t, h3.2.1.1, h0, nI_add]
        rw [Nat.sub_self] at h6
        exact h6 _ (CT_tick hi h3) (h4.tr FB_si0)
      · rw [if_neg (fun z => by rw [nI_ltI (by omega) (by omega)] at z; omega)]
        obtain ⟨d', hd'⟩ : ∃ d', m - k = d' + 1 := ⟨m - k - 1, by omega⟩
        rw [hd'] at h6
        refine c_pass34 T hi h3 ht h5 (a := nI (tk + k + 1)) (by rw [h0, nI_add]; rfl) (K := fun y h => rec (y, nI (k + 1) + 1) h) (fun h7 h8 h9 => ?_)
        rw [nI_add, nI_1, ← Nat.mul_add]
        refine hrec _ _ ⟨k + 1, _, _, by omega, by omega, rfl, h8, h4.tr h9, atS_good ht.1 _ N 0 S' (by omega) h5, fun f5 f6 f7 => ?_⟩
        rw [show m - (k + 1) = d' by omega, ← Nat.add_assoc] at f6
        have := h6 f5 f6 f7
        rw [show m - (k + 1) = d' by omega, ← Nat.add_assoc, Nat.add_assoc c]
        exact this
  · refine if_y z ?_
    exact k1 (fun w w1 w2 e => by rw [e, nI_ltI (by omega) (by omega)] at z; omega)
  · refine if_n z1 (if_n (fun q => nlt_le.mpr q z2) ?_)
    exact k1 (fun w w1 w2 e => by rw [e, nI_ltI (by omega) (by omega)] at z2; omega)
/-- the shrinking of all hands -/
def shS (rm : Int32) (s : Ses) : Ses := (va_up s.1 3 (s.1 3 + nI (shr rm s.2.length s.2).2), (shr rm s.2.length s.2).1)
def shSN (rm : Int32) (S : Nat → Ses) (k : Nat) : Nat → Ses := fun n => if n < k then shS rm (S n) else S n
theorem shSN_succ {rm : Int32} {k : Nat} : va_up (shSN rm S k) k (shS rm (S k)) = shSN rm S (k + 1) := by
  funext n
  unfold shSN va_up
  by_cases e : n = k
  · subst e; rw [if_pos rfl, if_pos (by omega)]
  · rw [if_neg e]
    dsimp only
    by_cases e2 : n < k
    · rw [if_pos e2, if_pos (by omega)]
    · rw [if_neg e2, if_neg (by omega)]
theorem c_adjust55 (T : TK sh ad B) (hi : inj ad) (hm : CT h ad B N g S W L) {x3 : Int32} {K : Hp → Prop} (hk : ∀ h', CT h' ad B N g (shSN (g 4) S 4) W L → FB ad h h' B → K h') : lo (b_X2_adjust_55 sh (ad B) x3 (fun h => K h)) (0 : Int32) h := by
  refine lo_ind (fun d s' h' => ∃ k, k + d = 5 ∧ k ≤ 4 ∧ s' = nI k ∧ CT h' ad B N g (shSN (g 4) S k) W L ∧ FB ad h h' B) ?_ ?_ (d := 5) ⟨0, by omega, by omega, rfl, hm, FB.rf⟩
  · rintro s' h' ⟨k, h1, h2, -⟩
    omega
  · rintro d rec hrec s' h' ⟨k, h1, h2, rfl, h3, h4⟩
    unfold b_X2_adjust_55
    by_cases hz : k = 4
    · subst hz
      rw [if_pos ge4]
      exact hk h' h3 h4
    · have hk4 : k < 4 := by omega
      have h3' := h3
      obtain ⟨p, ⟨a1, a2, a3, a4, a5⟩, b3, b4, b5, b6⟩ := h3
      have X := ct_SK T hk4
      have hcs := b6 k hk4
      have hck : shSN (g 4) S k k = S k := if_neg (by omega)
      rw [hck] at hcs
      rw [if_neg (lt4 hk4), ct_t0 T, tp_ses T p hk4, gI_t, a3, cs_t0 X, nI_1]
      refine c_shrink X hi hcs (fun h5 h6 h7 => ?_)
      have h8 := CT_S hi h3' h6 h7
      have hss : (va_up (S k).1 3 ((S k).1 3 + nI (shr (g 4) (S k).2.length (S k).2).2), (shr (g 4) (S k).2.length (S k).2).1) = shS (g 4) (S k) := rfl
      rw [hss, shSN_succ, va_up_eta] at h8
      exact hrec _ _ ⟨k + 1, by omega, by omega, rfl, h8, h4.tr (FS_FB hk4 h7)⟩
theorem c_adjust (T : TK sh ad B) (hi : inj ad) (hm : CT h ad B N g S W L) {x y : Int32} {K : Int32 → Hp → Prop}
    (k1 : ¬ ((x = nI 0 ∧ ∃ v, v ≤ 20 ∧ y = nI v) ∨ (x = nI 1 ∧ ∃ v, 1 ≤ v ∧ v ≤ 8 ∧ y = nI v)) → K (-1) h)
    (k2 : ∀ v h', x = nI 0 → v ≤ 20 → y = nI v → CT h' ad B N (va_up g 3 (nI v)) S W L → FB ad h h' B → K (g 3) h')
    (k3 : ∀ v h', x = nI 1 → 1 ≤ v → v ≤ 8 → y = nI v → CT h' ad B N (va_up g 4 (nI v)) (shSN (nI v) S 4) W L → FB ad h h' B → K (g 4) h') : f_X2_adjust sh (ad B) x y h K := by
  have h01 : ∀ a b : Nat, a < 2 ^ 31 → b < 2 ^ 31 → nI a = nI b → a = b := fun a b ha hb e => (nI_eq ha hb).mp e
  unfold f_X2_adjust
  by_cases c0 : x = 0
  · have hx1 : ¬ x = 1 := fun z => absurd (c0.symm.trans z) (by decide)
    rw [if_pos c0]
    rcases rng y (a := 0) (b := 20) (by omega) (by omega) with ⟨v, v1, v2, rfl⟩ | z | ⟨z1, z2⟩
    · rw [if_neg (nI_pos (by omega)), if_neg (fun z => by rw [show (20 : Int32) = nI 20 from rfl, nI_ltI (by omega) (by omega)] at z; omega), ct_t0 T, gI_t, pI_t, hm.2.1.2.1]
      exact k2 v _ c0 v2 rfl (CT_delay hi hm) FB_si0
    · refine if_y z (if_n hx1 ?_)
      refine k1 (fun q => ?_)
      rcases q with ⟨-, v, v1, rfl⟩ | ⟨q, -⟩
      · exact nI_pos (n := v) (by omega) z
      · exact hx1 q
    · refine if_n z1 (if_y z2 (if_n hx1 ?_))
      refine k1 (fun q => ?_)
      rcases q with ⟨-, v, v1, rfl⟩ | ⟨q, -⟩
      · rw [nI_ltI (by omega) (by omega)] at z2; omega
      · exact hx1 q
  · rw [if_neg c0]
    by_cases c1 : x = 1
    · rw [if_pos c1]
      rcases rng y (a := 1) (b := 8) (by omega) (by omega) with ⟨v, v1, v2, rfl⟩ | z | ⟨z1, z2⟩
      · rw [if_neg (fun z => by rw [show (1 : Int32) = nI 1 from rfl, nI_ltI (by omega) (by omega)] at z; omega), if_neg (fun z => by rw [show (8 : Int32) = nI 8 from rfl, nI_ltI (by omega) (by omega)] at z; omega), ct_t0 T, gI_t, pI_t, hm.2.1.2.2.1]
        refine c_adjust55 T hi (CT_room hi hm (v := nI v)) (fun h5 h6 h7 => ?_)
        rw [va_up_self] at h6
        exact k3 v h5 c1 v1 v2 rfl h6 (FB_si0.tr h7)
      · refine if_y z ?_
        refine k1 (fun q => ?_)
        rcases q with ⟨q, -⟩ | ⟨-, v, v1, v2, rfl⟩
        · exact c0 q
        · rw [nI_ltI (by omega) (by omega)] at z; omega
      · refine if_n z1 (if_y z2 ?_)
        refine k1 (fun q => ?_)
        rcases q with ⟨q, -⟩ | ⟨-, v, v1, v2, rfl⟩
        · exact c0 q
        · rw [nI_ltI (by omega) (by omega)] at z2; omega
    · rw [if_neg c1]
      refine k1 (fun q => ?_)
      rcases q with ⟨q, -⟩ | ⟨q, -⟩
      · exact c0 q
      · exact c1 q
end CD

/-! the class's sessions: copied, cleared -/
/-- a session's references are in order, whatever it holds -/
def CG (h : Hp) (ad : Nat → Nat) (s : Nat) : Prop := SP h ad s ∧ ∃ pm, HP h ad s pm
section CB6
variable {sh : Sh} {ad : Nat → Nat} {h : Hp} {s : Nat} {c : Nat → Int32} {l : List En} {w : Nat → En}
theorem CS_G (hm : CS h ad s c l w) : CG h ad s := by
  obtain ⟨p, m1, m6, m8, ⟨pm, q, q4⟩, m9⟩ := hm
  exact ⟨p, pm, q⟩
/-- nothing at the places of a session has changed -/
def QS (ad : Nat → Nat) (h h' : Hp) (s : Nat) : Prop := ∀ j, j < 19 → h'.1 (ad (s + j)) = h.1 (ad (s + j)) ∧ h'.2 (ad (s + j)) = h.2 (ad (s + j))
theorem QS_gi {h' : Hp} (q : QS ad h h' s) {j k : Nat} (hj : j < 19) : gi h' (ad (s + j)) k = gi h (ad (s + j)) k := by
  show h'.1 _ _ = h.1 _ _; rw [(q j hj).1]
theorem QS_gr {h' : Hp} (q : QS ad h h' s) {j k : Nat} (hj : j < 19) : gr h' (ad (s + j)) k = gr h (ad (s + j)) k := by
  show h'.2 _ _ = h.2 _ _; rw [(q j hj).2]
theorem SP_Q {h' : Hp} (q : QS ad h h' s) (hp : SP h ad s) : SP h' ad s := by
  obtain ⟨p7, p8, p10⟩ := hp
  refine ⟨?_, ?_, fun j hj => ⟨?_, ?_⟩⟩
  · have := QS_gr q (j := 0) (k := 7) (by omega); rw [Nat.add_zero] at this; rw [this]; exact p7
  · have := QS_gr q (j := 0) (k := 8) (by omega); rw [Nat.add_zero] at this; rw [this]; exact p8
  · rw [QS_gr q (j := 10) (by omega)]; exact (p10 j hj).1
  · have := QS_gr q (j := 11 + 2 * j) (k := 3) (by omega); rw [← Nat.add_assoc] at this; rw [this]; exact (p10 j hj).2
theorem HP_Q {h' : Hp} {pm : Nat → Nat} (q : QS ad h h' s) (hp : HP h ad s pm) : HP h' ad s pm := by
  obtain ⟨q1, q2, q3⟩ := hp
  exact ⟨q1, q2, fun j hj => by rw [QS_gr q (j := 1) (by omega)]; exact q3 j hj⟩
theorem CG_Q {h' : Hp} (q : QS ad h h' s) (hp : CG h ad s) : CG h' ad s := by
  obtain ⟨p, pm, hpm⟩ := hp
  exact ⟨SP_Q q p, pm, HP_Q q hpm⟩
theorem CS_Q {h' : Hp} (q : QS ad h h' s) (hm : CS h ad s c l w) : CS h' ad s c l w := by
  obtain ⟨p, m1, m6, m8, ⟨pm, hpm, q4⟩, m9⟩ := hm
  refine ⟨SP_Q q p, fun k hk => ?_, ?_, m8, ⟨pm, HP_Q q hpm, fun j hj k hk => ?_⟩, fun j hj => ⟨fun k hk => ?_, fun t ht => ?_⟩⟩
  · have := QS_gi q (j := 0) (k := k) (by omega); rw [Nat.add_zero] at this; rw [this]; exact m1 k hk
  · have := QS_gi q (j := 0) (k := 6) (by omega); rw [Nat.add_zero] at this; rw [this]; exact m6
  · have h1 := hpm.1 j (by omega)
    have := QS_gi q (j := 2 + pm j) (k := k) (by omega); rw [← Nat.add_assoc] at this; rw [this]; exact q4 j hj k hk
  · have := QS_gi q (j := 11 + 2 * j) (k := k) (by omega); rw [← Nat.add_assoc] at this; rw [this]; exact (m9 j hj).1 k hk
  · have := QS_gi q (j := 12 + 2 * j) (k := t) (by omega); rw [← Nat.add_assoc] at this; rw [this]; exact (m9 j hj).2 t ht
def far (s r : Nat) : Prop := ∀ i j, i < 19 → j < 19 → s + i ≠ r + j
theorem FS_QS (hi : inj ad) {h' : Hp} {r : Nat} (hF : FS ad h h' s) (hd : far s r) : QS ad h h' r := fun j hj => hF _ (fun i hi2 z => hd i j hi2 hj (hi _ _ z).symm)
theorem QS.tr {h1 h2 : Hp} (a : QS ad h h1 s) (b : QS ad h1 h2 s) : QS ad h h2 s := fun j hj => ⟨(b j hj).1.trans (a j hj).1, (b j hj).2.trans (a j hj).2⟩
/-- an entry -/
theorem c_copyE (X : SK sh ad s) {r p q : Nat} (X2 : SK sh ad r) (hp : p < 8) (hq : q < 8) {e : En} (he : ∀ k, k < 6 → gi h (ad (r + 2 + q)) k = e k) (hne : ad (r + 2 + q) ≠ ad (s + 2 + p)) (h5 : e 5 = 0 ∨ e 5 = 1) {K : Hp → Prop} (hk : ∀ h', (∀ k, k < 6 → gi h' (ad (s + 2 + p)) k = e k) → (∀ a, a ≠ ad (s + 2 + p) → h'.1 a = h.1 a) → h'.2 = h.2 → K h') : f_X0_copyFrom sh (ad (s + 2 + p)) (ad (r + 2 + q)) h K := by
  unfold f_X0_copyFrom
  have g : ∀ (hx : Hp) (j : Nat) (v : Int32) (k : Nat), gi (si hx (ad (s + 2 + p)) j v) (ad (r + 2 + q)) k = gi hx (ad (r + 2 + q)) k := fun hx j v k => gi_si_ne hne
  simp only [cs_t2 X hp, cs_t2 X2 hq, gI_t, pI_t, g]
  rw [he 0 (by omega), he 1 (by omega), he 2 (by omega), he 3 (by omega), he 4 (by omega), he 5 (by omega)]
  refine ⟨h5, hk _ (fun k hk => ?_) (fun a ha => ?_) rfl⟩
  · match k, hk with
    | 0, _ => rw [gi_si_k (by decide), gi_si_k (by decide), gi_si_k (by decide), gi_si_k (by decide), gi_si_k (by decide), gi_si]
    | 1, _ => rw [gi_si_k (by decide), gi_si_k (by decide), gi_si_k (by decide), gi_si_k (by decide), gi_si]
    | 2, _ => rw [gi_si_k (by decide), gi_si_k (by decide), gi_si_k (by decide), gi_si]
    | 3, _ => rw [gi_si_k (by decide), gi_si_k (by decide), gi_si]
    | 4, _ => rw [gi_si_k (by decide), gi_si]
    | 5, _ => rw [gi_si]
  · show va_up (va_up (va_up (va_up (va_up (va_up h.1 _ _) _ _) _ _) _ _) _ _) _ _ a = h.1 a
    simp only [va_up_off ha]
/-- a statement's place -/
theorem c_copyW (X : SK sh ad s) (hi : inj ad) {r i j : Nat} (X2 : SK sh ad r) (hij : i < 4) (hj : j < 4) (hd : far s r) {e : En} (h3 : gr h (ad (s + 11 + 2 * i)) 3 = some (ad (s + 12 + 2 * i))) (h3' : gr h (ad (r + 11 + 2 * j)) 3 = some (ad (r + 12 + 2 * j))) (he : ∀ k, k < 3 → gi h (ad (r + 11 + 2 * j)) k = e k) (hv : ∀ t, t < 6 → gi h (ad (r + 12 + 2 * j)) t = e (3 + t)) {K : Hp → Prop} (hk : ∀ h', (∀ k, k < 3 → gi h' (ad (s + 11 + 2 * i)) k = e k) → (∀ t, t < 6 → gi h' (ad (s + 12 + 2 * i)) t = e (3 + t)) → (∀ a, a ≠ ad (s + 11 + 2 * i) → a ≠ ad (s + 12 + 2 * i) → h'.1 a = h.1 a) → h'.2 = h.2 → K h') : f_X4_copyFrom sh (ad (s + 11 + 2 * i)) (ad (r + 11 + 2 * j)) h K := by
  have n1 : ad (r + 11 + 2 * j) ≠ ad (s + 11 + 2 * i) := ad_ne hi (fun z => hd (11 + 2 * i) (11 + 2 * j) (by omega) (by omega) (by omega))
  have n2 : ad (r + 12 + 2 * j) ≠ ad (s + 11 + 2 * i) := ad_ne hi (fun z => hd (11 + 2 * i) (12 + 2 * j) (by omega) (by omega) (by omega))
  have n3 : ad (r + 12 + 2 * j) ≠ ad (s + 12 + 2 * i) := ad_ne hi (fun z => hd (12 + 2 * i) (12 + 2 * j) (by omega) (by omega) (by omega))
  have n4 : ad (s + 12 + 2 * i) ≠ ad (s + 11 + 2 * i) := ad_ne hi (by omega)
  unfold f_X4_copyFrom
  have g : ∀ (hx : Hp) (q : Nat) (v : Int32) (k : Nat), gi (si hx (ad (s + 11 + 2 * i)) q v) (ad (r + 11 + 2 * j)) k = gi hx (ad (r + 11 + 2 * j)) k := fun hx q v k => gi_si_ne n1
  simp only [cs_t11 X hij, cs_t11 X2 hj, gI_t, pI_t, g]
  rw [he 0 (by omega), he 1 (by omega), he 2 (by omega)]
  refine lo_ind (fun d s' h' => ∃ k, k + d = 7 ∧ k ≤ 6 ∧ s' = nI k ∧ (∀ q, q < 3 → gi h' (ad (s + 11 + 2 * i)) q = e q) ∧ (∀ t, t < k → gi h' (ad (s + 12 + 2 * i)) t = e (3 + t)) ∧ (∀ a, a ≠ ad (s + 11 + 2 * i) → a ≠ ad (s + 12 + 2 * i) → h'.1 a = h.1 a) ∧ h'.2 = h.2) ?_ ?_ (d := 7) ⟨0, by omega, by omega, rfl, fun q hq => ?_, fun t ht => by omega, fun a ha _ => ?_, rfl⟩
  · rintro s' h' ⟨k, h1, h2, -⟩
    omega
  · rintro d rec hrec s' h' ⟨k, h1, h2, rfl, z1, z2, z3, z4⟩
    unfold b_X4_copyFrom_26
    by_cases hz : k = 6
    · subst hz
      rw [if_pos (show (6 : Int32) ≤ nI 6 by decide)]
      exact hk h' z1 z2 z3 z4
    · have hk6 : k < 6 := by omega
      have f1 : gr h' (ad (s + 11 + 2 * i)) 3 = some (ad (s + 12 + 2 * i)) := by show h'.2 _ _ = _; rw [z4]; exact h3
      have f2 : gr h' (ad (r + 11 + 2 * j)) 3 = some (ad (r + 12 + 2 * j)) := by show h'.2 _ _ = _; rw [z4]; exact h3'
      have f3 : gi h' (ad (r + 12 + 2 * j)) k = e (3 + k) := by show h'.1 _ _ = _; rw [z3 _ n2 n3]; exact hv k hk6
      rw [if_neg (fun z => by rw [show (6 : Int32) = nI 6 from rfl, nI_leI (by omega) (by omega)] at z; omega), cs_t11 X hij, gR_t f1, cs_t11 X2 hj, gR_t f2, cs_t12 X2 hj, cs_lI12 X2 hj hk6, f3, cs_t12 X hij, cs_sI12 X hij hk6, nI_1]
      refine hrec _ _ ⟨k + 1, by omega, by omega, rfl, fun q hq => by rw [gi_si_ne (Ne.symm n4)]; exact z1 q hq, fun t ht => ?_, fun a ha ha2 => ?_, z4⟩
      · by_cases et : t = k
        · subst et; rw [gi_si]
        · rw [gi_si_k et]; exact z2 t (by omega)
      · show va_up h'.1 _ _ a = _
        rw [va_up_off ha2]; exact z3 a ha ha2
  · match q, hq with
    | 0, _ => rw [gi_si_k (by decide), gi_si_k (by decide), gi_si]
    | 1, _ => rw [gi_si_k (by decide), gi_si]
    | 2, _ => rw [gi_si]
  · show va_up (va_up (va_up h.1 _ _) _ _) _ _ a = h.1 a
    simp only [va_up_off ha]
theorem c_copyS (X : SK sh ad s) (hi : inj ad) {r : Nat} (X2 : SK sh ad r) (hd1 : far s r) (hg : CG h ad s) (hm : CS h ad r c l w) (h5 : ∀ i, i < l.length → hd l i 5 = 0 ∨ hd l i 5 = 1) {K : Hp → Prop} (hk : ∀ h', CS h' ad s c l w → FS ad h h' s → K h') : f_X1_copyFrom sh (ad s) (ad r) h K := by
  obtain ⟨pr, m1, m6, m8, ⟨pmr, hpr, q4⟩, m9⟩ := hm
  have hm : CS h ad r c l w := ⟨pr, m1, m6, m8, ⟨pmr, hpr, q4⟩, m9⟩
  obtain ⟨p, pm, hp⟩ := hg
  have n0 : ad r ≠ ad s := ad_ne hi (fun z => hd1 0 0 (by omega) (by omega) (by omega))
  unfold f_X1_copyFrom
  have g : ∀ (hx : Hp) (q : Nat) (v : Int32) (k : Nat), gi (si hx (ad s) q v) (ad r) k = gi hx (ad r) k := fun hx q v k => gi_si_ne n0
  simp only [cs_t0 X, cs_t0 X2, gI_t, pI_t, g]
  rw [m1 0 (by omega), m1 1 (by omega), m1 2 (by omega), m1 3 (by omega), m1 4 (by omega), m1 5 (by omega), m6]
  generalize hh : si (si (si (si (si (si (si h (ad s) 0 (c 0)) (ad s) 1 (c 1)) (ad s) 2 (c 2)) (ad s) 3 (c 3)) (ad s) 4 (c 4)) (ad s) 5 (c 5)) (ad s) 6 (nI l.length) = h1
  have g2 : h1.2 = h.2 := by rw [← hh]; rfl
  have gc : ∀ k, k < 6 → gi h1 (ad s) k = c k := fun k hk => by
    rw [← hh]
    match k, hk with
    | 0, _ => rw [gi_si_k (by decide), gi_si_k (by decide), gi_si_k (by decide), gi_si_k (by decide), gi_si_k (by decide), gi_si_k (by decide), gi_si]
    | 1, _ => rw [gi_si_k (by decide), gi_si_k (by decide), gi_si_k (by decide), gi_si_k (by decide), gi_si_k (by decide), gi_si]
    | 2, _ => rw [gi_si_k (by decide), gi_si_k (by decide), gi_si_k (by decide), gi_si_k (by decide), gi_si]
    | 3, _ => rw [gi_si_k (by decide), gi_si_k (by decide), gi_si_k (by decide), gi_si]
    | 4, _ => rw [gi_si_k (by decide), gi_si_k (by decide), gi_si]
    | 5, _ => rw [gi_si_k (by decide), gi_si]
  have g6 : gi h1 (ad s) 6 = nI l.length := by rw [← hh, gi_si]
  have gF : FS ad h h1 s := by rw [← hh]; exact (((((FS_si0.tr FS_si0).tr FS_si0).tr FS_si0).tr FS_si0).tr FS_si0).tr FS_si0
  obtain ⟨p7, p8, p10⟩ := p
  obtain ⟨r7, r8, r10⟩ := pr
  obtain ⟨x1, x2, x3⟩ := hp
  refine lo_ind (fun d s' h' => ∃ k, k + d = l.length + 1 ∧ k ≤ l.length ∧ s' = nI k ∧ h'.2 = h.2 ∧ (∀ q, q < 6 → gi h' (ad s) q = c q) ∧ gi h' (ad s) 6 = nI l.length ∧ (∀ j, j < k → ∀ q, q < 6 → gi h' (ad (s + 2 + pm j)) q = hd l j q) ∧ FS ad h h' s) ?_ ?_ (d := l.length + 1) ⟨0, by omega, by omega, rfl, g2, gc, g6, fun j hj => by omega, gF⟩
  · rintro s' h' ⟨k, h1, h2, -⟩
    omega
  · rintro d rec hrec s' h' ⟨k, e1, e2, rfl, e3, e4, e5, e6, e7⟩
    have sr : ∀ a q, gr h' a q = gr h a q := fun a q => by show h'.2 _ _ = _; rw [e3]; rfl
    have hq := FS_QS hi e7 hd1
    have hmr := CS_Q hq hm
    unfold b_X1_copyFrom_58
    rw [cs_t0 X, gI_t, e5]
    by_cases hz : k = l.length
    · rw [if_pos (nI_le (by omega) (by omega))]
      refine lo_ind (fun d s' h2 => ∃ k, k + d = 5 ∧ k ≤ 4 ∧ s' = nI k ∧ h2.2 = h.2 ∧ (∀ q, q < 6 → gi h2 (ad s) q = c q) ∧ gi h2 (ad s) 6 = nI l.length ∧ (∀ j, j < l.length → ∀ q, q < 6 → gi h2 (ad (s + 2 + pm j)) q = hd l j q) ∧ FS ad h h2 s ∧ (∀ j, j < k → (∀ q, q < 3 → gi h2 (ad (s + 11 + 2 * j)) q = w j q) ∧ ∀ t, t < 6 → gi h2 (ad (s + 12 + 2 * j)) t = w j (3 + t))) ?_ ?_ (d := 5) ⟨0, by omega, by omega, rfl, e3, e4, e5, by rw [← hz]; exact e6, e7, fun j hj => by omega⟩
      · rintro s' h2 ⟨k, h1, h2, -⟩
        omega
      · rintro d2 rec2 hrec2 s' h2 ⟨k2, y1, y2, rfl, y3, y4, y5, y6, y7, y8⟩
        have sr2 : ∀ a q, gr h2 a q = gr h a q := fun a q => by show h2.2 _ _ = _; rw [y3]; rfl
        have hq2 := FS_QS hi y7 hd1
        have hmr2 := CS_Q hq2 hm
        unfold b_X1_copyFrom_95
        by_cases hz2 : k2 = 4
        · subst hz2
          rw [if_pos (show (4 : Int32) ≤ nI 4 by decide)]
          refine hk h2 ⟨⟨?_, ?_, fun j hj => ⟨?_, ?_⟩⟩, y4, y5, m8, ⟨pm, ⟨x1, x2, fun j hj => ?_⟩, y6⟩, y8⟩ y7
          · rw [sr2]; exact p7
          · rw [sr2]; exact p8
          · rw [sr2]; exact (p10 j hj).1
          · rw [sr2]; exact (p10 j hj).2
          · rw [sr2]; exact x3 j hj
        · have hk4 : k2 < 4 := by omega
          rw [if_neg (fun z => by rw [show (4 : Int32) = nI 4 from rfl, nI_leI (by omega) (by omega)] at z; omega), cs_t0 X, gR_t (by rw [sr2]; exact p8), cs_t10 X, cs_lR10 X hk4 (by rw [sr2]; exact (p10 k2 hk4).1), cs_t0 X2, gR_t (by rw [sr2]; exact r8), cs_t10 X2, cs_lR10 X2 hk4 (by rw [sr2]; exact (r10 k2 hk4).1), cs_t11 X hk4, nI_1]
          refine c_copyW X hi X2 hk4 hk4 hd1 (e := w k2) (by rw [sr2]; exact (p10 k2 hk4).2) (by rw [sr2]; exact (r10 k2 hk4).2) (fun k hk => cs_w hmr2 hk4 hk) (fun t ht => cs_v hmr2 hk4 ht) (fun h3 u1' u2' u3 u4 => ?_)
          have hold : ∀ p, p ≠ s + 11 + 2 * k2 → p ≠ s + 12 + 2 * k2 → ∀ q, gi h3 (ad p) q = gi h2 (ad p) q := fun p hp hp2 q => by
            show h3.1 _ _ = h2.1 _ _; rw [u3 _ (ad_ne hi hp) (ad_ne hi hp2)]
          refine hrec2 _ _ ⟨k2 + 1, by omega, by omega, rfl, u4.trans y3, fun q hq => by rw [hold _ (by omega) (by omega)]; exact y4 q hq, by rw [hold _ (by omega) (by omega)]; exact y5, fun j hj q hq => by have := x1 j (by omega); rw [hold _ (by omega) (by omega)]; exact y6 j hj q hq, fun a ha => ⟨(u3 a (by have := ha (11 + 2 * k2) (by omega); rw [← Nat.add_assoc] at this; exact this) (by have := ha (12 + 2 * k2) (by omega); rw [← Nat.add_assoc] at this; exact this)).trans (y7 a ha).1, by rw [u4]; exact (y7 a ha).2⟩, fun j hj => ?_⟩
          by_cases ej : j = k2
          · subst ej; exact ⟨u1', u2'⟩
          · refine ⟨fun q hq => ?_, fun t ht => ?_⟩
            · rw [hold _ (by omega) (by omega)]; exact (y8 j (by omega)).1 q hq
            · rw [hold _ (by omega) (by omega)]; exact (y8 j (by omega)).2 t ht
    · have hkl : k < l.length := by omega
      have b1 := x1 k (by omega)
      have b2 := hpr.1 k (by omega)
      rw [if_neg (nI_ge (by omega) (by omega)), if_neg (fun z => by rw [show (8 : Int32) = nI 8 from rfl, nI_leI (by omega) (by omega)] at z; omega), gR_t (by rw [sr]; exact p7), cs_t1 X, cs_lR1 X (by omega) (by rw [sr]; exact x3 k (by omega)), cs_t0 X2, gR_t (by rw [sr]; exact r7), cs_t1 X2, cs_lR1 X2 (by omega) (by rw [sr]; exact hpr.2.2 k (by omega)), cs_t2 X b1]
      have hne : ad (r + 2 + pmr k) ≠ ad (s + 2 + pm k) := ad_ne hi (fun z => hd1 (2 + pm k) (2 + pmr k) (by omega) (by omega) (by omega))
      refine c_copyE X X2 b1 b2 (e := hd l k) (fun q hq2 => ?_) hne (h5 k hkl) (fun h2 w1 w2 w3 => ?_)
      · have := QS_gi hq (j := 2 + pmr k) (k := q) (by omega)
        rw [← Nat.add_assoc] at this
        rw [this]; exact q4 k hkl q hq2
      · have hold : ∀ p, p ≠ s + 2 + pm k → ∀ q, gi h2 (ad p) q = gi h' (ad p) q := fun p hp q => by
          show h2.1 _ _ = h'.1 _ _; rw [w2 _ (ad_ne hi hp)]
        rw [nI_1]
        refine hrec _ _ ⟨k + 1, by omega, by omega, rfl, w3.trans e3, fun q hq => by rw [hold _ (by omega)]; exact e4 q hq, by rw [hold _ (by omega)]; exact e5, fun j hj q hq => ?_, fun a ha => ⟨(w2 a (by have := ha (2 + pm k) (by omega); rw [← Nat.add_assoc] at this; exact this)).trans (e7 a ha).1, by rw [w3]; exact (e7 a ha).2⟩⟩
        by_cases ej : j = k
        · subst ej; exact w1 q hq
        · rw [hold _ (fun z => ej (x2 j k (by omega) (by omega) (by omega)))]
          exact e6 j (by omega) q hq
theorem c_clearS (X : SK sh ad s) (hi : inj ad) (hg : CG h ad s) {K : Hp → Prop} (hk : ∀ h' w', (∀ j, j < 4 → w' j 0 = -1) → CS h' ad s (fun _ => 0) [] w' → FS ad h h' s → K h') : f_X1_clear sh (ad s) h K := by
  obtain ⟨⟨p7, p8, p10⟩, pm, x1, x2, x3⟩ := hg
  unfold f_X1_clear
  rw [cs_t0 X]
  simp only [pI_t]
  generalize hh : si (si (si (si (si (si (si h (ad s) 0 0) (ad s) 1 0) (ad s) 2 0) (ad s) 3 0) (ad s) 4 0) (ad s) 5 0) (ad s) 6 0 = h1
  have g2 : h1.2 = h.2 := by rw [← hh]; rfl
  have gc : ∀ k, k < 7 → gi h1 (ad s) k = 0 := fun k hk => by
    rw [← hh]
    match k, hk with
    | 0, _ => rw [gi_si_k (by decide), gi_si_k (by decide), gi_si_k (by decide), gi_si_k (by decide), gi_si_k (by decide), gi_si_k (by decide), gi_si]
    | 1, _ => rw [gi_si_k (by decide), gi_si_k (by decide), gi_si_k (by decide), gi_si_k (by decide), gi_si_k (by decide), gi_si]
    | 2, _ => rw [gi_si_k (by decide), gi_si_k (by decide), gi_si_k (by decide), gi_si_k (by decide), gi_si]
    | 3, _ => rw [gi_si_k (by decide), gi_si_k (by decide), gi_si_k (by decide), gi_si]
    | 4, _ => rw [gi_si_k (by decide), gi_si_k (by decide), gi_si]
    | 5, _ => rw [gi_si_k (by decide), gi_si]
    | 6, _ => rw [gi_si]
  have gF : FS ad h h1 s := by rw [← hh]; exact (((((FS_si0.tr FS_si0).tr FS_si0).tr FS_si0).tr FS_si0).tr FS_si0).tr FS_si0
  refine lo_ind (fun d s' h2 => ∃ k, k + d = 5 ∧ k ≤ 4 ∧ s' = nI k ∧ h2.2 = h.2 ∧ (∀ q, q < 7 → gi h2 (ad s) q = 0) ∧ FS ad h h2 s ∧ (∀ j, j < k → gi h2 (ad (s + 11 + 2 * j)) 0 = -1)) ?_ ?_ (d := 5) ⟨0, by omega, by omega, rfl, g2, gc, gF, fun j hj => by omega⟩
  · rintro s' h2 ⟨k, h1, h2, -⟩
    omega
  · rintro d rec hrec s' h2 ⟨k, y1, y2, rfl, y3, y4, y5, y6⟩
    have sr2 : ∀ a q, gr h2 a q = gr h a q := fun a q => by show h2.2 _ _ = _; rw [y3]; rfl
    unfold b_X1_clear_37
    by_cases hz : k = 4
    · subst hz
      rw [if_pos (show (4 : Int32) ≤ nI 4 by decide)]
      refine hk h2 (fun j q => if q < 3 then gi h2 (ad (s + 11 + 2 * j)) q else gi h2 (ad (s + 12 + 2 * j)) (q - 3)) (fun j hj => ?_) ⟨⟨?_, ?_, fun j hj => ⟨?_, ?_⟩⟩, fun k hk => y4 k (by omega), y4 6 (by omega), by decide, ⟨pm, ⟨x1, x2, fun j hj => ?_⟩, fun j hj => absurd hj (Nat.not_lt_zero j)⟩, fun j hj => ⟨fun k hk => ?_, fun t ht => ?_⟩⟩ y5
      · show (if 0 < 3 then _ else _) = _
        rw [if_pos (by decide)]; exact y6 j hj
      · rw [sr2]; exact p7
      · rw [sr2]; exact p8
      · rw [sr2]; exact (p10 j hj).1
      · rw [sr2]; exact (p10 j hj).2
      · rw [sr2]; exact x3 j hj
      · dsimp only; rw [if_pos hk]
      · dsimp only; rw [if_neg (by omega), Nat.add_sub_cancel_left]
    · have hk4 : k < 4 := by omega
      rw [if_neg (fun z => by rw [show (4 : Int32) = nI 4 from rfl, nI_leI (by omega) (by omega)] at z; omega), cs_t0 X, gR_t (by rw [sr2]; exact p8), cs_t10 X, cs_lR10 X hk4 (by rw [sr2]; exact (p10 k hk4).1), cs_t11 X hk4, pI_t, nI_1]
      refine hrec _ _ ⟨k + 1, by omega, by omega, rfl, y3, fun q hq => by rw [gi_ad hi (by omega)]; exact y4 q hq, y5.tr (FS_w hk4), fun j hj => ?_⟩
      by_cases ej : j = k
      · subst ej; rw [gi_si]
      · rw [gi_ad hi (by omega)]; exact y6 j (by omega)
end CB6

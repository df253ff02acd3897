/-! the class's states: what they tell -/
/-- r is the least value of all that are of Q, or d where there is none -/
def mn (Q : En → Prop) (val : En → Int32) (d r : Int32) : Prop := (r = d ∧ ∀ e, ¬ Q e) ∨ ((∃ e, Q e ∧ val e = r) ∧ ∀ e, Q e → r ≤ val e)
theorem mn_of {P : En → Prop} {val : En → Int32} {d r : Int32} {l : List En} (h : isMin P val d l r) : mn (fun e => e ∈ l ∧ P e) val d r := by
  rcases h with ⟨h1, h2⟩ | ⟨⟨o, a1, a2, a3⟩, h2⟩
  · exact Or.inl ⟨h1, fun e z => h2 e z.1 z.2⟩
  · exact Or.inr ⟨⟨o, ⟨a1, a2⟩, a3⟩, fun e z => h2 e z.1 z.2⟩
theorem mn_iff {Q Q' : En → Prop} {val : En → Int32} {d r : Int32} (h : mn Q val d r) (e : ∀ x, Q x ↔ Q' x) : mn Q' val d r := by
  rcases h with ⟨h1, h2⟩ | ⟨⟨o, a1, a2⟩, h2⟩
  · exact Or.inl ⟨h1, fun x z => h2 x ((e x).mpr z)⟩
  · exact Or.inr ⟨⟨o, (e o).mp a1, a2⟩, fun x z => h2 x ((e x).mpr z)⟩
theorem mn_none {val : En → Int32} {d : Int32} : mn (fun _ => False) val d d := Or.inl ⟨rfl, fun _ z => z⟩
/-- two of them, with other values -/
theorem mn_uniq {Q Q' : En → Prop} {val val' : En → Int32} {d r r' : Int32} (h : mn Q val d r) (h' : mn Q' val' d r') (e1 : ∀ x, Q x → ∃ y, Q' y ∧ val' y = val x) (e2 : ∀ x, Q' x → ∃ y, Q y ∧ val y = val' x) : r = r' := by
  rcases h with ⟨h1, h2⟩ | ⟨⟨o, a1, a2⟩, h2⟩ <;> rcases h' with ⟨k1, k2⟩ | ⟨⟨p, b1, b2⟩, k2⟩
  · rw [h1, k1]
  · obtain ⟨y, y1, -⟩ := e2 p b1; exact absurd y1 (h2 y)
  · obtain ⟨y, y1, -⟩ := e1 o a1; exact absurd y1 (k2 y)
  · obtain ⟨y, y1, y2⟩ := e2 p b1
    obtain ⟨x, x1, x2⟩ := e1 o a1
    have z1 := h2 y y1
    have z2 := k2 x x1
    rw [y2, b2] at z1
    rw [x2, a2] at z2
    exact Int32.le_antisymm z1 z2
section MN
variable {Q1 Q2 : En → Prop} {val : En → Int32} {r1 r2 : Int32}
theorem mn_neg {d : Int32} (h : mn Q1 val d r1) (hp : ∀ e, Q1 e → ¬ val e < 0) (z : r1 < 0) : r1 = d ∧ ∀ e, ¬ Q1 e := by
  rcases h with a | ⟨⟨o, a1, a2⟩, -⟩
  · exact a
  · exact absurd (a2 ▸ z) (hp o a1)
theorem mn_pos {d : Int32} (h : mn Q1 val d r1) (hd : d < 0) (z : ¬ r1 < 0) : (∃ e, Q1 e ∧ val e = r1) ∧ ∀ e, Q1 e → r1 ≤ val e := by
  rcases h with ⟨a, -⟩ | b
  · exact absurd (a ▸ hd) z
  · exact b
theorem mn_j1 (h1 : mn Q1 val (-4) r1) (h2 : mn Q2 val (-1) r2) (p2 : ∀ e, Q2 e → ¬ val e < 0) (z : r2 < 0) : mn (fun e => Q1 e ∨ Q2 e) val (-4) r1 :=
  mn_iff h1 (fun x => ⟨Or.inl, fun q => q.elim id (fun q => absurd q ((mn_neg h2 p2 z).2 x))⟩)
theorem mn_j2 (h1 : mn Q1 val (-4) r1) (h2 : mn Q2 val (-1) r2) (p1 : ∀ e, Q1 e → ¬ val e < 0) (z2 : ¬ r2 < 0) (z1 : r1 < 0) : mn (fun e => Q1 e ∨ Q2 e) val (-4) r2 := by
  obtain ⟨⟨o, a1, a2⟩, a3⟩ := mn_pos h2 (by decide) z2
  exact Or.inr ⟨⟨o, Or.inr a1, a2⟩, fun e q => q.elim (fun q => absurd q ((mn_neg h1 p1 z1).2 e)) (a3 e)⟩
theorem mn_j3 (h1 : mn Q1 val (-4) r1) (h2 : mn Q2 val (-1) r2) (z2 : ¬ r2 < 0) (z1 : ¬ r1 < 0) (hle : r1 ≤ r2) : mn (fun e => Q1 e ∨ Q2 e) val (-4) r1 := by
  obtain ⟨⟨o, a1, a2⟩, a3⟩ := mn_pos h2 (by decide) z2
  obtain ⟨⟨p, b1, b2⟩, b3⟩ := mn_pos h1 (by decide) z1
  exact Or.inr ⟨⟨p, Or.inl b1, b2⟩, fun e q => q.elim (b3 e) (fun q => Int32.le_trans hle (a3 e q))⟩
theorem mn_j4 (h1 : mn Q1 val (-4) r1) (h2 : mn Q2 val (-1) r2) (z2 : ¬ r2 < 0) (z1 : ¬ r1 < 0) (hle : ¬ r1 ≤ r2) : mn (fun e => Q1 e ∨ Q2 e) val (-4) r2 := by
  obtain ⟨⟨o, a1, a2⟩, a3⟩ := mn_pos h2 (by decide) z2
  obtain ⟨⟨p, b1, b2⟩, b3⟩ := mn_pos h1 (by decide) z1
  have hle' : r2 ≤ r1 := by rw [Int32.le_iff_toInt_le] at hle ⊢; omega
  exact Or.inr ⟨⟨o, Or.inr a1, a2⟩, fun e q => q.elim (fun q => Int32.le_trans hle' (b3 e q)) (a3 e)⟩
end MN
/-- hands are sorted by versions, which aren't below 0 -/
def vsrt (t : Int32) (l : List En) : Prop := (∀ i j, i < j → j < l.length → hd l i 0 = t → hd l j 0 = t → hd l i 1 ≤ hd l j 1) ∧ ∀ e ∈ l, e 0 = t → ¬ e 1 < 0
section CF
variable {sh : Sh} {ad : Nat → Nat} {h h' h'' : Hp} {B N : Nat} {g : Nat → Int32} {S : Nat → Ses} {W : Slots} {L : Ring}
theorem c_leastV_mn {s : Nat} {c : Nat → Int32} {l : List En} {w : Nat → En} (X : SK sh ad s) (hm : CS h ad s c l w) {t : Int32} (hv : vsrt t l) {K : Int32 → Hp → Prop} (hk : ∀ r, mn (fun e => e ∈ l ∧ e 0 = t ∧ ¬ e 3 ≤ 0) (fun e => e 1) (-1) r → K r h) : f_X1_leastVersionAtWork sh (ad s) t h K := by
  refine c_leastV X hm (fun i i1 i2 i3 i4 => hk _ (Or.inr ⟨⟨hd l i, ⟨hd_mem i1, i2, i3⟩, rfl⟩, fun e he => ?_⟩)) (fun z => hk _ (Or.inl ⟨rfl, fun e he => ?_⟩))
  · obtain ⟨j, j1, rfl⟩ := mem_hd he.1
    rcases Nat.lt_trichotomy i j with q | q | q
    · exact hv.1 i j q j1 i2 he.2.1
    · subst q; exact Int32.le_refl _
    · exact absurd (i4 j q he.2.1) he.2.2
  · obtain ⟨j, j1, rfl⟩ := mem_hd he.1
    exact he.2.2 (z j j1 he.2.1)
/-- the entries by which statements work, of a table, in the first k sessions -/
def pinE (S : Nat → Ses) (t : Int32) (k : Nat) (e : En) : Prop := ∃ n, n < k ∧ e ∈ (S n).2 ∧ e 0 = t ∧ ¬ e 3 ≤ 0
theorem pinE_s {t : Int32} {k : Nat} {e : En} : (pinE S t k e ∨ (e ∈ (S k).2 ∧ e 0 = t ∧ ¬ e 3 ≤ 0)) ↔ pinE S t (k + 1) e := by
  constructor
  · rintro (⟨n, n1, n2⟩ | q)
    · exact ⟨n, by omega, n2⟩
    · exact ⟨k, by omega, q⟩
  · rintro ⟨n, n1, n2⟩
    by_cases z : n = k
    · subst z; exact Or.inr n2
    · exact Or.inl ⟨n, by omega, n2⟩
theorem c_leastVT (T : TK sh ad B) (hm : CT h ad B N g S W L) {t : Int32} (hv : ∀ n, n < 4 → vsrt t (S n).2) {K : Int32 → Hp → Prop} (hk : ∀ r, mn (pinE S t 4) (fun e => e 1) (-4) r → K r h) : f_X2_leastVersionAtWork sh (ad B) t h K := by
  unfold f_X2_leastVersionAtWork
  refine lo_ind (fun d s' h' => ∃ k r, k + d = 5 ∧ k ≤ 4 ∧ s' = (r, nI k) ∧ h' = h ∧ mn (pinE S t k) (fun e => e 1) (-4) r) ?_ ?_ (d := 5) ⟨0, -4, by omega, by omega, rfl, rfl, mn_iff mn_none (fun x => ⟨fun z => z.elim, fun ⟨n, n1, _⟩ => absurd n1 (Nat.not_lt_zero n)⟩)⟩
  · rintro s' h' ⟨k, r, h1, h2, -⟩
    omega
  · rintro d rec hrec s' h' ⟨k, r, h1, h2, rfl, rfl, h3⟩
    unfold b_X2_leastVersionAtWork_5
    dsimp only
    by_cases hz : k = 4
    · subst hz
      rw [if_pos ge4]
      exact hk r h3
    · have hk4 : k < 4 := by omega
      have nx := fun v z => hrec (v, nI (k + 1)) h' ⟨k + 1, v, by omega, by omega, rfl, rfl, mn_iff z (fun x => pinE_s)⟩
      rw [if_neg (lt4 hk4), ct_t0 T, tp_ses T hm.1 hk4, cs_t0 (ct_SK T hk4), nI_1]
      refine c_leastV_mn (ct_SK T hk4) (hm.2.2.2.2.2 k hk4) (hv k hk4) (fun r2 hr2 => ?_)
      have p2 : ∀ e, (e ∈ (S k).2 ∧ e 0 = t ∧ ¬ e 3 ≤ 0) → ¬ e 1 < 0 := fun e q => (hv k hk4).2 e q.1 q.2.1
      have p1 : ∀ e, pinE S t k e → ¬ e 1 < 0 := fun e ⟨n, n1, n2, n3, _⟩ => (hv n (by omega)).2 e n2 n3
      by_cases z2 : r2 < 0
      · rw [if_pos z2]
        exact nx r (mn_j1 (val := fun e => e 1) h3 hr2 p2 z2)
      · rw [if_neg z2]
        by_cases z1 : r < 0
        · rw [if_pos z1]
          exact nx r2 (mn_j2 (val := fun e => e 1) h3 hr2 p1 z2 z1)
        · rw [if_neg z1]
          by_cases hle : r ≤ r2
          · rw [if_pos hle]
            exact nx r (mn_j3 h3 hr2 z2 z1 hle)
          · rw [if_neg hle]
            exact nx r2 (mn_j4 h3 hr2 z2 z1 hle)
theorem c_canChange (T : TK sh ad B) (hm : CT h ad B N g S W L) {t : Nat} (ht : t < 6) (hv : ∀ n, n < 4 → vsrt (nI t) (S n).2) {K : Int32 → Hp → Prop} (k1 : (∀ e, pinE S (nI t) 4 e → g (5 + t) ≤ e 1) → K 1 h) (k0 : (∃ e, pinE S (nI t) 4 e ∧ ¬ g (5 + t) ≤ e 1) → K 0 h) : f_X2_canChange sh (ad B) (nI t) h K := by
  unfold f_X2_canChange
  rw [ct_t0 T]
  refine c_leastVT T hm hv (fun r hr => ?_)
  have p1 : ∀ e, pinE S (nI t) 4 e → ¬ e 1 < 0 := fun e ⟨n, n1, n2, n3, _⟩ => (hv n (by omega)).2 e n2 n3
  by_cases z : r < 0
  · rw [if_pos z]
    exact k1 (fun e q => absurd q ((mn_neg hr p1 z).2 e))
  · obtain ⟨⟨o, a1, a2⟩, a3⟩ := mn_pos hr (by decide) z
    rw [if_neg z, gR_t hm.1.1, ct_t1 T, ct_l1 T ht, (hm.2.2.1 t ht).1]
    by_cases c : r < g (5 + t)
    · rw [if_pos c]
      exact k0 ⟨o, a1, by rw [a2]; exact nle_lt.mpr c⟩
    · rw [if_neg c]
      exact k1 (fun e q => Int32.le_trans (nlt_le.mp c) (a3 e q))
/-- in how many hands a table is, not stale -/
def hwN (S : Nat → Ses) (t : Int32) : Nat → Nat
  | 0 => 0
  | k + 1 => if lastI (fun e => e 0 = t ∧ e 5 = 0) (S k).2 < 0 then hwN S t k else hwN S t k + 1
theorem hwN_s {t : Int32} {k : Nat} : hwN S t (k + 1) = if lastI (fun e => e 0 = t ∧ e 5 = 0) (S k).2 < 0 then hwN S t k else hwN S t k + 1 := rfl
theorem c_handsWith (T : TK sh ad B) (hm : CT h ad B N g S W L) {t : Int32} (hu : ∀ n, n < 4 → uniqF t (S n).2) {K : Int32 → Hp → Prop} (hk : K (nI (hwN S t 4)) h) : f_X2_handsWith sh (ad B) t h K := by
  unfold f_X2_handsWith
  refine lo_ind (fun d s' h' => ∃ k, k + d = 5 ∧ k ≤ 4 ∧ s' = (nI (hwN S t k), nI k) ∧ h' = h) ?_ ?_ (d := 5) ⟨0, by omega, by omega, rfl, rfl⟩
  · rintro s' h' ⟨k, h1, h2, -⟩
    omega
  · rintro d rec hrec s' h' ⟨k, h1, h2, rfl, rfl⟩
    unfold b_X2_handsWith_4
    dsimp only
    by_cases hz : k = 4
    · subst hz
      rw [if_pos ge4]
      exact hk
    · have hk4 : k < 4 := by omega
      have nx := fun v z => hrec (v, nI (k + 1)) h' ⟨k + 1, by omega, by omega, z, rfl⟩
      rw [if_neg (lt4 hk4), ct_t0 T, tp_ses T hm.1 hk4, cs_t0 (ct_SK T hk4), nI_1, nI_1]
      refine c_fresh (ct_SK T hk4) (hm.2.2.2.2.2 k hk4) (hu k hk4) ?_
      by_cases c : lastI (fun e => e 0 = t ∧ e 5 = 0) (S k).2 < 0
      · rw [if_pos c]; exact nx _ (by rw [hwN_s, if_pos c])
      · rw [if_neg c]; exact nx _ (by rw [hwN_s, if_neg c])
def ldN (S : Nat → Ses) : Nat → Int32
  | 0 => 0
  | k + 1 => ldN S k + (S k).1 2
theorem c_loadsOfAll (T : TK sh ad B) (hm : CT h ad B N g S W L) {K : Int32 → Hp → Prop} (hk : K (ldN S 4) h) : f_X2_loadsOfAll sh (ad B) h K := by
  unfold f_X2_loadsOfAll
  refine lo_ind (fun d s' h' => ∃ k, k + d = 5 ∧ k ≤ 4 ∧ s' = (ldN S k, nI k) ∧ h' = h) ?_ ?_ (d := 5) ⟨0, by omega, by omega, rfl, rfl⟩
  · rintro s' h' ⟨k, h1, h2, -⟩
    omega
  · rintro d rec hrec s' h' ⟨k, h1, h2, rfl, rfl⟩
    unfold b_X2_loadsOfAll_4
    dsimp only
    by_cases hz : k = 4
    · subst hz
      rw [if_pos ge4]
      exact hk
    · have hk4 : k < 4 := by omega
      rw [if_neg (lt4 hk4), ct_t0 T, tp_ses T hm.1 hk4, cs_t0 (ct_SK T hk4), gI_t, (hm.2.2.2.2.2 k hk4).2.1 2 (by omega), nI_1]
      exact hrec _ _ ⟨k + 1, by omega, by omega, rfl, rfl⟩
def satN (W : Slots) : Nat → Nat
  | 0 => 0
  | k + 1 => satN W k + cntW (W k) 4
theorem c_stAtWork (T : TK sh ad B) (hm : CT h ad B N g S W L) {K : Int32 → Hp → Prop} (hk : K (nI (satN W 4)) h) : f_X2_statementsAtWork sh (ad B) h K := by
  unfold f_X2_statementsAtWork
  refine lo_ind (fun d s' h' => ∃ k, k + d = 5 ∧ k ≤ 4 ∧ s' = (nI (satN W k), nI k) ∧ h' = h) ?_ ?_ (d := 5) ⟨0, by omega, by omega, rfl, rfl⟩
  · rintro s' h' ⟨k, h1, h2, -⟩
    omega
  · rintro d rec hrec s' h' ⟨k, h1, h2, rfl, rfl⟩
    unfold b_X2_statementsAtWork_4
    dsimp only
    by_cases hz : k = 4
    · subst hz
      rw [if_pos ge4]
      exact hk
    · have hk4 : k < 4 := by omega
      rw [if_neg (lt4 hk4), ct_t0 T, tp_ses T hm.1 hk4, cs_t0 (ct_SK T hk4), nI_1]
      refine c_atWork (ct_SK T hk4) (hm.2.2.2.2.2 k hk4) ?_
      rw [nI_add]
      exact hrec _ _ ⟨k + 1, by omega, by omega, rfl, rfl⟩
def owN (g : Nat → Int32) : Nat → Nat
  | 0 => 0
  | k + 1 => if g (117 + k) ≤ g 0 then owN g k else owN g k + 1
theorem owN_s {k : Nat} : owN g (k + 1) = if g (117 + k) ≤ g 0 then owN g k else owN g k + 1 := rfl
theorem c_onWay (T : TK sh ad B) (hm : CT h ad B N g S W L) (hN : N ≤ 100) (hgN : g 1 = nI N) {K : Int32 → Hp → Prop} (hk : K (nI (owN g N)) h) : f_X2_noticesOnTheirWay sh (ad B) h K := by
  unfold f_X2_noticesOnTheirWay
  refine lo_ind (fun d s' h' => ∃ k, k + d = N + 1 ∧ k ≤ N ∧ s' = (nI (owN g k), nI k) ∧ h' = h) ?_ ?_ (d := N + 1) ⟨0, by omega, by omega, rfl, rfl⟩
  · rintro s' h' ⟨k, h1, h2, -⟩
    omega
  · rintro d rec hrec s' h' ⟨k, h1, h2, rfl, rfl⟩
    unfold b_X2_noticesOnTheirWay_4
    dsimp only
    rw [ct_t0 T, gI_t, hm.2.1.2.2.2.1, hgN]
    by_cases hz : k = N
    · subst hz
      rw [if_pos (nI_le (by omega) (by omega))]
      exact hk
    · have hkN : k < N := by omega
      have nx := fun v z => hrec (v, nI (k + 1)) h' ⟨k + 1, by omega, by omega, z, rfl⟩
      rw [if_neg (nI_ge (by omega) (by omega)), if_neg (fun z => by rw [show (100 : Int32) = nI 100 from rfl, nI_leI (by omega) (by omega)] at z; omega), gR_t hm.1.2.2.2.1, ct_t4 T, ct_l4 T (by omega), gI_t, (hm.2.2.2.1 k hkN).2, hm.2.1.1, nI_1, nI_1]
      by_cases c : g (117 + k) ≤ g 0
      · rw [if_pos c]; exact nx _ (by rw [owN_s, if_pos c])
      · rw [if_neg c]; exact nx _ (by rw [owN_s, if_neg c])
theorem c_sesWith (T : TK sh ad B) (hm : CT h ad B N g S W L) {x : Int32} (hx : 0 ≤ x) {K : Int32 → Hp → Prop} (k1 : ∀ n j, n < 4 → j < 4 → W n j 0 = x → (∀ i, i < j → W n i 0 ≠ x) → K (nI n) h) (k2 : (∀ n j, n < 4 → j < 4 → W n j 0 ≠ x) → K (-1) h) : f_X2_sessionWith sh (ad B) x h K := by
  unfold f_X2_sessionWith
  refine lo_ind (fun d s' h' => ∃ k, k + d = 5 ∧ k ≤ 4 ∧ s' = nI k ∧ h' = h ∧ ∀ n j, n < k → j < 4 → W n j 0 ≠ x) ?_ ?_ (d := 5) ⟨0, by omega, by omega, rfl, rfl, fun n j hn => absurd hn (Nat.not_lt_zero n)⟩
  · rintro s' h' ⟨k, h1, h2, -⟩
    omega
  · rintro d rec hrec s' h' ⟨k, h1, h2, rfl, rfl, h3⟩
    unfold b_X2_sessionWith_2
    by_cases hz : k = 4
    · subst hz
      rw [if_pos ge4]
      exact k2 h3
    · have hk4 : k < 4 := by omega
      rw [if_neg (lt4 hk4), ct_t0 T, tp_ses T hm.1 hk4, cs_t0 (ct_SK T hk4), nI_1]
      refine c_workOf (ct_SK T hk4) (hm.2.2.2.2.2 k hk4) (fun _ j j1 j2 j3 => ⟨fun z => absurd z (by simp), fun q z => k1 k j hk4 j1 j2 j3⟩) (fun z => ⟨fun _ => hrec _ _ ⟨k + 1, by omega, by omega, rfl, rfl, fun n j hn hj => ?_⟩, fun q z => absurd z (by simp)⟩)
      by_cases e : n = k
      · subst e; exact z hx j hj
      · exact h3 n j (by omega) hj
/-- the tables of a row that have a greater version now -/
def olN (set : Int32) (v g : Nat → Int32) : Nat → Int32
  | 0 => 0
  | k + 1 => if ((set >>> (nI k &&& 31)) &&& 1) = 1 ∧ ¬ g (5 + k) ≤ v k then olN set v g k ||| ((1 : Int32) <<< (nI k &&& 31)) else olN set v g k
theorem olN_s {set : Int32} {v g : Nat → Int32} {k : Nat} : olN set v g (k + 1) = if ((set >>> (nI k &&& 31)) &&& 1) = 1 ∧ ¬ g (5 + k) ≤ v k then olN set v g k ||| ((1 : Int32) <<< (nI k &&& 31)) else olN set v g k := rfl
theorem c_outrun (T : TK sh ad B) (hm : CT h ad B N g S W L) {n j : Nat} (hn : n < 4) (hj : j < 4) {K : Int32 → Hp → Prop} (hk : K (olN (W n j 1) (fun t => W n j (3 + t)) g 6) h) : f_X4_outrunBy sh (ad (B + 8 + 19 * n + 11 + 2 * j)) (ad (B + 1)) h K := by
  unfold f_X4_outrunBy
  have X := ct_SK T hn
  have hcs := hm.2.2.2.2.2 n hn
  refine lo_ind (fun d s' h' => ∃ k, k + d = 7 ∧ k ≤ 6 ∧ s' = (olN (W n j 1) (fun t => W n j (3 + t)) g k, nI k) ∧ h' = h) ?_ ?_ (d := 7) ⟨0, by omega, by omega, rfl, rfl⟩
  · rintro s' h' ⟨k, h1, h2, -⟩
    omega
  · rintro d rec hrec s' h' ⟨k, h1, h2, rfl, rfl⟩
    unfold b_X4_outrunBy_4 f_X5_contains
    dsimp only
    by_cases hz : k = 6
    · subst hz
      rw [if_pos ge6]
      exact hk
    · have hk6 : k < 6 := by omega
      have nx := fun v z => hrec (v, nI (k + 1)) h' ⟨k + 1, by omega, by omega, z, rfl⟩
      rw [if_neg (lt6 hk6), cs_t11 X hj, gI_t, cs_w hcs hj (by omega), nI_1]
      by_cases hb : ((W n j 1 >>> (nI k &&& 31)) &&& 1) = 1
      · rw [if_pos hb, if_neg (by decide), gR_t (cs_r3 hcs hj), cs_t12 X hj, cs_lI12 X hj hk6, cs_v hcs hj hk6, ct_t1 T, ct_l1 T hk6, (hm.2.2.1 k hk6).1]
        by_cases c : g (5 + k) ≤ W n j (3 + k)
        · rw [if_pos c]; exact nx _ (by rw [olN_s, if_neg (fun z => z.2 c)])
        · rw [if_neg c]; exact nx _ (by rw [olN_s, if_pos ⟨hb, c⟩])
      · rw [if_neg hb, if_pos rfl]
        exact nx _ (by rw [olN_s, if_neg (fun z => hb z.1)])
/-- a set of tables -/
noncomputable def tcS (P : Nat → Prop) : Nat → Int32
  | 0 => 0
  | k + 1 => @ite _ (P k) (Classical.propDecidable _) (tcS P k ||| ((1 : Int32) <<< (nI k &&& 31))) (tcS P k)
theorem tcS_y {P : Nat → Prop} {k : Nat} (h : P k) : tcS P (k + 1) = tcS P k ||| ((1 : Int32) <<< (nI k &&& 31)) := by
  show @ite _ (P k) (Classical.propDecidable _) _ _ = _
  rw [if_pos h]
theorem tcS_n {P : Nat → Prop} {k : Nat} (h : ¬ P k) : tcS P (k + 1) = tcS P k := by
  show @ite _ (P k) (Classical.propDecidable _) _ _ = _
  rw [if_neg h]
theorem c_tablesCC (T : TK sh ad B) (hm : CT h ad B N g S W L) (hv : ∀ t, t < 6 → ∀ n, n < 4 → vsrt (nI t) (S n).2) {K : Int32 → Hp → Prop} (hk : K (tcS (fun t => ∀ e, pinE S (nI t) 4 e → g (5 + t) ≤ e 1) 6) h) : f_X2_tablesThatCanChange sh (ad B) h K := by
  unfold f_X2_tablesThatCanChange
  refine lo_ind (fun d s' h' => ∃ k, k + d = 7 ∧ k ≤ 6 ∧ s' = (tcS (fun t => ∀ e, pinE S (nI t) 4 e → g (5 + t) ≤ e 1) k, nI k) ∧ h' = h) ?_ ?_ (d := 7) ⟨0, by omega, by omega, rfl, rfl⟩
  · rintro s' h' ⟨k, h1, h2, -⟩
    omega
  · rintro d rec hrec s' h' ⟨k, h1, h2, rfl, rfl⟩
    unfold b_X2_tablesThatCanChange_4
    dsimp only
    by_cases hz : k = 6
    · subst hz
      rw [if_pos ge6]
      exact hk
    · have hk6 : k < 6 := by omega
      have nx := fun v z => hrec (v, nI (k + 1)) h' ⟨k + 1, by omega, by omega, z, rfl⟩
      rw [if_neg (lt6 hk6), ct_t0 T, nI_1]
      refine c_canChange T hm hk6 (hv k hk6) (fun z => ?_) (fun ⟨e, e1, e2⟩ => ?_)
      · rw [if_neg (by decide)]
        exact nx _ (by rw [tcS_y z])
      · rw [if_pos rfl]
        exact nx _ (by rw [tcS_n (fun z => e2 (z e e1))])
/-- the busy places of statements that stand in the way of a table -/
def behW (W : Slots) (v : Int32) (t k : Nat) (e : En) : Prop := ∃ n, n < k ∧ ∃ j, j < 4 ∧ e = W n j ∧ ¬ e 0 < 0 ∧ bitp (e 1) t ∧ ¬ v ≤ e (3 + t)
theorem behW_s {v : Int32} {t k : Nat} {e : En} : (behW W v t k e ∨ (e ∈ (List.range 4).map (W k) ∧ ¬ e 0 < 0 ∧ bitp (e 1) t ∧ ¬ v ≤ e (3 + t))) ↔ behW W v t (k + 1) e := by
  constructor
  · rintro (⟨n, n1, n2⟩ | ⟨q, q2⟩)
    · exact ⟨n, by omega, n2⟩
    · obtain ⟨j, j1, rfl⟩ := List.mem_map.mp q
      exact ⟨k, by omega, j, List.mem_range.mp j1, rfl, q2⟩
  · rintro ⟨n, n1, j, j1, rfl, n2⟩
    by_cases z : n = k
    · subst z; exact Or.inr ⟨List.mem_map.mpr ⟨j, List.mem_range.mpr j1, rfl⟩, n2⟩
    · exact Or.inl ⟨n, by omega, j, j1, rfl, n2⟩
end CF

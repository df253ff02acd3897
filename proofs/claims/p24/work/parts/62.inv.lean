/-! what holds of a whole state, and stays so -/
def pcn (os : List En) (n : Nat) : Nat := os.countP (fun o => decide (o 1 = nI n))
theorem cntN_take {l : List En} {p : En → Prop} [DecidablePred p] : ∀ k, k ≤ l.length → cntN l p k = (l.take k).countP (fun o => decide (p o)) := by
  intro k
  induction k with
  | zero => intro _; rfl
  | succ k ih =>
    intro hk
    rw [take_hd (by omega), List.countP_append, List.countP_singleton, ← ih (by omega)]
    unfold cntN
    by_cases c : p (hd l k)
    · rw [if_pos c, if_pos (decide_eq_true c)]
      cases k <;> rfl
    · rw [if_neg c, if_neg (by rw [decide_eq_false c]; decide)]
      cases k <;> rfl
theorem cntN_pcn {os : List En} {n : Nat} : cntN os (fun o => o 1 = nI n) os.length = pcn os n := by
  rw [cntN_take os.length (Nat.le_refl _), List.take_length]
  rfl
theorem pcn_push {os : List En} {row : En} {n : Nat} : pcn (os ++ [row]) n = pcn os n + if row 1 = nI n then 1 else 0 := by
  unfold pcn
  rw [List.countP_append, List.countP_singleton]
  congr 1
  by_cases c : row 1 = nI n
  · rw [if_pos c, if_pos (decide_eq_true c)]
  · rw [if_neg c, if_neg (by rw [decide_eq_false c]; decide)]
theorem pcn_erase {os : List En} {p n : Nat} (hp : p < os.length) : pcn os n = pcn (os.eraseIdx p) n + if hd os p 1 = nI n then 1 else 0 := by
  unfold pcn
  conv => lhs; rw [split_at hp]
  rw [List.eraseIdx_eq_take_drop_succ, List.countP_append, List.countP_append, List.countP_cons, Nat.add_assoc]
  congr 2
  by_cases c : hd os p 1 = nI n
  · rw [if_pos c, if_pos (decide_eq_true c)]
  · rw [if_neg c, if_neg (by rw [decide_eq_false c]; decide)]
theorem pcn_sum {os : List En} (h : ∀ o ∈ os, ∃ n, n < 4 ∧ o 1 = nI n) : os.length = pcn os 0 + pcn os 1 + pcn os 2 + pcn os 3 := by
  induction os with
  | nil => rfl
  | cons o os ih =>
    have ih := ih (fun q hq => h q (List.mem_cons_of_mem _ hq))
    obtain ⟨n, n1, n2⟩ := h o List.mem_cons_self
    unfold pcn at ih ⊢
    simp only [List.countP_cons, List.length_cons, n2]
    match n, n1 with
    | 0, _ => rw [if_pos (by decide), if_neg (by decide), if_neg (by decide), if_neg (by decide)]; omega
    | 1, _ => rw [if_neg (by decide), if_pos (by decide), if_neg (by decide), if_neg (by decide)]; omega
    | 2, _ => rw [if_neg (by decide), if_neg (by decide), if_pos (by decide), if_neg (by decide)]; omega
    | 3, _ => rw [if_neg (by decide), if_neg (by decide), if_neg (by decide), if_pos (by decide)]; omega
/-- of the sessions -/
def SI (g : Nat → Int32) (N rm : Nat) (os : List En) (S : Nat → Ses) : Prop := ∀ n, n < 4 → HI 16 g rm (pc os n) (S n).2 ∧ ∃ kn, kn ≤ N ∧ (S n).1 0 = nI kn
def OI (st : Nat) (os : List En) : Prop := (∀ o ∈ os, (∃ q, q < st ∧ o 0 = nI q) ∧ ∃ n, n < 4 ∧ o 1 = nI n) ∧ os.Pairwise (fun a b => a 0 ≠ b 0) ∧ ∀ n, n < 4 → pcn os n ≤ 4
def RI (st : Nat) (rc : List (Int32 × Int32)) : Prop := rc.length = min st 12 ∧ ∀ p, p < rc.length → (∃ n, n < 4 ∧ (rcd rc p).1 = nI n) ∧ ∃ s, 1 ≤ s ∧ s ≤ 63 ∧ (rcd rc p).2 = nI s
def GI (T N tk rm st : Nat) (g : Nat → Int32) : Prop := tgood g N ∧ (g 0 = nI tk ∧ tk ≤ T ∧ ∀ k, k < N → ∃ d, g (117 + k) = nI d ∧ d ≤ tk + 20) ∧ (∃ dl, g 3 = nI dl ∧ dl ≤ 20) ∧ (g 4 = nI rm ∧ 1 ≤ rm ∧ rm ≤ 8) ∧ (g 2 = nI st ∧ st ≤ 999) ∧ ∀ t, t < 6 → ∃ u, g (5 + t) = nI u ∧ u ≤ N
def INV (T N tk rm st : Nat) (g : Nat → Int32) (S : Nat → Ses) (os : List En) (rc : List (Int32 × Int32)) : Prop := GI T N tk rm st g ∧ SI g N rm os S ∧ OI st os ∧ RI st rc
theorem OI_len {st : Nat} {os : List En} (h : OI st os) : os.length ≤ 16 := by
  have := pcn_sum (fun o ho => (h.1 o ho).2)
  have := h.2.2 0 (by omega)
  have := h.2.2 1 (by omega)
  have := h.2.2 2 (by omega)
  have := h.2.2 3 (by omega)
  omega
theorem OI_at {st : Nat} {os : List En} (h : OI st os) {i p : Nat} (hi : i < os.length) (hp : p < os.length) (e : hd os i 0 = hd os p 0) : i = p := by
  have hq := h.2.1
  rw [List.pairwise_iff_getElem] at hq
  rcases Nat.lt_trichotomy i p with z | z | z
  · have := hq i p hi hp z
    rw [← hd_lt hi, ← hd_lt hp] at this
    exact absurd e this
  · exact z
  · have := hq p i hp hi z
    rw [← hd_lt hi, ← hd_lt hp] at this
    exact absurd e.symm this
section IV
variable {T N tk rm st : Nat} {g g' : Nat → Int32} {S : Nat → Ses} {os : List En} {rc : List (Int32 × Int32)} {b : Nat} {cf : Nat → Int32 → Nat} {l : List En}
theorem HIw_al (h : HIw b g cf l) : alive l := fun e he h5 => by
  obtain ⟨t, v, u, u1, u2, u3, u4, u5, u6, u7, u8, u9⟩ := h.1 e he
  exact u9 h5
theorem SI_good (h : SI g N rm os S) : sgood N S := fun n hn => ⟨HIw_al (h n hn).1.1, (h n hn).2⟩
theorem SI_HU (h : SI g N rm os S) : ∀ n, n < 4 → HU g (S n).2 := fun n hn => HIw_HU (h n hn).1.1
theorem SI_5 (h : SI g N rm os S) : bit5 S := fun n hn i hi => by
  obtain ⟨t, v, u, u1, u2, u3, u4, u5, u6, u7, u8, u9⟩ := (h n hn).1.1.1 _ (hd_mem hi)
  exact u7.elim Or.inl (fun z => Or.inr z.1)
theorem SI_0 (h : SI g N rm os S) : ∀ n, n < 4 → ∀ e ∈ (S n).2, ∃ t, t < 6 ∧ e 0 = nI t := fun n hn e he => by
  obtain ⟨t, v, u, u1, u2, -⟩ := (h n hn).1.1.1 e he
  exact ⟨t, u1, u2⟩
theorem HIw_vsrt (h : HIw b g cf l) {t : Int32} : vsrt t l := by
  refine ⟨fun i j hij hj e1 e2 => ?_, fun e he _ => ?_⟩
  · have hq := h.2.1
    rw [List.pairwise_iff_getElem] at hq
    have := hq i j (by omega) hj hij
    rw [← hd_lt (by omega), ← hd_lt hj] at this
    rcases this with z | ⟨-, z⟩
    · rw [e1, e2] at z; exact absurd z ilt_irr
    · exact Int32.le_of_lt z
  · obtain ⟨t, v, u, u1, u2, u3, u4, u5, u6, -⟩ := h.1 e he
    rw [u3]
    exact nI_pos (by omega)
theorem SI_vs (h : SI g N rm os S) : ∀ t, t < 6 → ∀ n, n < 4 → vsrt (nI t) (S n).2 := fun _ _ n hn => HIw_vsrt (h n hn).1.1
theorem SI_uq (h : SI g N rm os S) {t : Nat} (ht : t < 6) : ∀ n, n < 4 → uniqF (nI t) (S n).2 := fun n hn => (h n hn).1.1.2.2.1 t ht
theorem SI_8 (h : SI g N rm os S) {n : Nat} (hn : n < 4) : (S n).2.length ≤ 8 := (h n hn).1.1.2.2.2.2.1
theorem HIw_g (h : HIw b g cf l) (hg : ∀ t, t < 6 → ∀ u, g (5 + t) = nI u → u ≤ 100 → ∃ u', g' (5 + t) = nI u' ∧ u ≤ u' ∧ u' ≤ 100) : HIw b g' cf l := by
  obtain ⟨h1, h2⟩ := h
  refine ⟨fun e he => ?_, h2⟩
  obtain ⟨t, v, u, u1, u2, u3, u4, u5, u6, u7, u8, u9⟩ := h1 e he
  obtain ⟨u', w1, w2, w3⟩ := hg t u1 u u4 u5
  exact ⟨t, v, u', u1, u2, u3, w1, w3, by omega, u7.elim Or.inl (fun z => Or.inr ⟨z.1, by omega⟩), u8, u9⟩
theorem HIw_g0 (h : HIw b g cf l) (hg : ∀ t, t < 6 → g' (5 + t) = g (5 + t)) : HIw b g' cf l := HIw_g h (fun t ht u hu hu1 => ⟨u, by rw [hg t ht]; exact hu, Nat.le_refl _, hu1⟩)
theorem SI_g0 (h : SI g N rm os S) (hg : ∀ t, t < 6 → g' (5 + t) = g (5 + t)) : SI g' N rm os S := fun n hn => ⟨⟨HIw_g0 (h n hn).1.1 hg, (h n hn).1.2⟩, (h n hn).2⟩
theorem SI_come (h : SI g N rm os S) (ht : tgood g N) {i : Nat} (hi : i < N) : SI g N rm os (comeN g i S 4) := fun n hn => by
  obtain ⟨h1, kn, h2, h3⟩ := h n hn
  show HI 16 g rm (pc os n) (comeN g i S 4 n).2 ∧ ∃ kn, kn ≤ N ∧ (comeN g i S 4 n).1 0 = nI kn
  unfold comeN
  rw [if_pos hn]
  unfold come1
  split
  · refine ⟨HI_lrn _ _ _ (fun q q1 q2 => (ht.2.2 q ?_).1) h1, i + 1, hi, va_up_self (S n).1 0 (nI (i + 1))⟩
    rw [h3, nI_clamp (by have := ht.1; omega)] at q2
    have := ht.1
    rename_i c
    rw [h3, nI_leI (by omega) (by omega)] at c
    omega
  · exact ⟨h1, kn, h2, (va_up_off (f := (S n).1) (k := 5) (j := 0) (v := (S n).1 5 + 1) (by decide)).trans h3⟩
theorem SI_atS (ht : tgood g N) {a : Int32} : ∀ (d k : Nat) (S : Nat → Ses), k + d ≤ N → SI g N rm os S → SI g N rm os (atS g a d k S).1 := by
  intro d
  induction d with
  | zero => intro k S _ h; exact h
  | succ d ih =>
    intro k S hk h
    unfold atS
    split
    · exact ih (k + 1) _ (by omega) (SI_come h ht (by omega))
    · exact ih (k + 1) _ (by omega) h
theorem SI_tkS (ht : tgood g N) : ∀ (d tk : Nat) (S : Nat → Ses), SI g N rm os S → SI g N rm os (tkS g N d tk S).1 := by
  intro d
  induction d with
  | zero => intro tk S h; exact h
  | succ d ih =>
    intro tk S h
    unfold tkS
    exact ih _ _ (SI_atS ht N 0 S (by omega) h)
/-- ticks -/
theorem INV_tick (h : INV T N tk rm st g S os rc) (w : Nat) : INV (T + w) N (tk + w) rm st (va_up g 0 (nI (tk + w))) (tkS g N w tk S).1 os rc := by
  obtain ⟨⟨g1, ⟨g2, g3, g4⟩, ⟨dl, g5, g6⟩, ⟨g7, g8⟩, ⟨g9, g10⟩, g11⟩, h2, h3, h4⟩ := h
  obtain ⟨t1, t2, t3⟩ := g1
  refine ⟨⟨⟨t1, by rw [va_up_off (by decide)]; exact t2, fun q hq => ?_⟩, ⟨va_up_self _ _ _, by omega, fun k hk => ?_⟩, ⟨dl, by rw [va_up_off (by decide)]; exact g5, g6⟩, ⟨by rw [va_up_off (by decide)]; exact g7, g8⟩, ⟨by rw [va_up_off (by decide)]; exact g9, g10⟩, fun t ht => by rw [va_up_off (by omega)]; exact g11 t ht⟩, SI_g0 (SI_tkS ⟨t1, t2, t3⟩ _ _ _ h2) (fun t ht => va_up_off (by omega)), h3, h4⟩
  · unfold tlg
    rw [va_up_off (by omega)]
    exact t3 q hq
  · obtain ⟨d, d1, d2⟩ := g4 k hk
    exact ⟨d, by rw [va_up_off (by omega)]; exact d1, by omega⟩
/-- settings -/
theorem INV_delay (h : INV T N tk rm st g S os rc) {v : Nat} (hv : v ≤ 20) : INV T N tk rm st (va_up g 3 (nI v)) S os rc := by
  obtain ⟨⟨g1, ⟨g2, g3, g4⟩, ⟨dl, g5, g6⟩, ⟨g7, g8⟩, ⟨g9, g10⟩, g11⟩, h2, h3, h4⟩ := h
  obtain ⟨t1, t2, t3⟩ := g1
  refine ⟨⟨⟨t1, by rw [va_up_off (by decide)]; exact t2, fun q hq => ?_⟩, ⟨by rw [va_up_off (by decide)]; exact g2, g3, fun k hk => ?_⟩, ⟨v, va_up_self _ _ _, hv⟩, ⟨by rw [va_up_off (by decide)]; exact g7, g8⟩, ⟨by rw [va_up_off (by decide)]; exact g9, g10⟩, fun t ht => by rw [va_up_off (by omega)]; exact g11 t ht⟩, SI_g0 h2 (fun t ht => va_up_off (by omega)), h3, h4⟩
  · unfold tlg
    rw [va_up_off (by omega)]
    exact t3 q hq
  · rw [va_up_off (by omega)]; exact g4 k hk
theorem INV_room (h : INV T N tk rm st g S os rc) {v : Nat} (hv1 : 1 ≤ v) (hv : v ≤ 8) : INV T N tk v st (va_up g 4 (nI v)) (shSN (nI v) S 4) os rc := by
  obtain ⟨⟨g1, ⟨g2, g3, g4⟩, ⟨dl, g5, g6⟩, ⟨g7, g8⟩, ⟨g9, g10⟩, g11⟩, h2, h3, h4⟩ := h
  obtain ⟨t1, t2, t3⟩ := g1
  refine ⟨⟨⟨t1, by rw [va_up_off (by decide)]; exact t2, fun q hq => ?_⟩, ⟨by rw [va_up_off (by decide)]; exact g2, g3, fun k hk => ?_⟩, ⟨dl, by rw [va_up_off (by decide)]; exact g5, g6⟩, ⟨va_up_self _ _ _, hv1, hv⟩, ⟨by rw [va_up_off (by decide)]; exact g9, g10⟩, fun t ht => by rw [va_up_off (by omega)]; exact g11 t ht⟩, fun n hn => ?_, h3, h4⟩
  · unfold tlg
    rw [va_up_off (by omega)]
    exact t3 q hq
  · rw [va_up_off (by omega)]; exact g4 k hk
  · obtain ⟨q1, kn, q2, q3⟩ := h2 n hn
    have hs := HI_shr (HIw_g0 (g' := va_up g 4 (nI v)) q1.1 (fun t ht => va_up_off (by omega))) (rm' := v) (by omega)
    unfold shSN
    rw [if_pos hn]
    unfold shS
    exact ⟨hs, kn, q2, (va_up_off (f := (S n).1) (k := 3) (j := 0) (v := (S n).1 3 + nI (shr (nI v) (S n).2.length (S n).2).2) (by decide)).trans q3⟩
/-- a hand that fits isn't changed by another delay -/
theorem shSN_id (h : SI g N rm os S) (hrm : rm ≤ 8) : ∀ n, n < 4 → shSN (nI rm) S 4 n = S n := fun n hn => by
  obtain ⟨q1, -⟩ := h n hn
  unfold shSN
  rw [if_pos hn]
  unfold shS
  rw [shr_id q1.2 q1.1.2.2.2.2.1 (by omega)]
  dsimp only
  rw [va_up_id (by rw [nI_0, Int32.add_zero])]
/-- a change of a table -/
theorem INV_alt (h : INV T N tk rm st g S os rc) (hN : N < 100) (hT : T < 2 ^ 30) {t j : Nat} (ht : t < 6) : INV T (N + 1) tk rm st (altG g t j N) (if g 3 = 0 then comeN (altG g t j N) N S 4 else S) os rc := by
  obtain ⟨⟨g1, ⟨g2, g3, g4⟩, ⟨dl, g5, g6⟩, ⟨g7, g8⟩, ⟨g9, g10⟩, g11⟩, h2, h3, h4⟩ := h
  have o : ∀ k, k ≠ 11 + t → k ≠ 5 + t → k ≠ 17 + N → k ≠ 117 + N → k ≠ 1 → altG g t j N k = g k := fun k k1 k2 k3 k4 k5 => by
    unfold altG
    rw [va_up_off k5, va_up_off k4, va_up_off k3, va_up_off k2, va_up_off k1]
  have gt : altG g t j N (5 + t) = g (5 + t) + 1 := by unfold altG; rw [va_up_off (by omega), va_up_off (by omega), va_up_off (by omega), va_up_self]
  have gd : altG g t j N (117 + N) = g 0 + g 3 := by unfold altG; rw [va_up_off (by omega), va_up_self]
  have ht2 := tgood_alt (j := j) g1 hN ht
  have hsi : SI (altG g t j N) (N + 1) rm os S := fun n hn => by
    obtain ⟨q1, kn, q2, q3⟩ := h2 n hn
    refine ⟨⟨HIw_g q1.1 (fun s hs u hu hu1 => ?_), q1.2⟩, kn, by omega, q3⟩
    by_cases e : s = t
    · subst e
      obtain ⟨u', w1, w2⟩ := g11 s hs
      have : u = u' := nI_inj (by omega) (by omega) (hu.symm.trans w1)
      subst this
      exact ⟨u + 1, by rw [gt, hu, nI_1], by omega, by omega⟩
    · exact ⟨u, by rw [o (5 + s) (by omega) (by omega) (by omega) (by omega) (by omega)]; exact hu, Nat.le_refl _, hu1⟩
  refine ⟨⟨ht2, ⟨by rw [o 0 (by omega) (by omega) (by omega) (by omega) (by omega)]; exact g2, g3, fun k hk => ?_⟩, ⟨dl, by rw [o 3 (by omega) (by omega) (by omega) (by omega) (by omega)]; exact g5, g6⟩, ⟨by rw [o 4 (by omega) (by omega) (by omega) (by omega) (by omega)]; exact g7, g8⟩, ⟨by rw [o 2 (by omega) (by omega) (by omega) (by omega) (by omega)]; exact g9, g10⟩, fun s hs => ?_⟩, ?_, h3, h4⟩
  · by_cases e : k = N
    · subst e
      exact ⟨tk + dl, by rw [gd, g2, g5, nI_add], by omega⟩
    · rw [o (117 + k) (by omega) (by omega) (by omega) (by omega) (by omega)]
      exact g4 k (by omega)
  · by_cases e : s = t
    · subst e
      obtain ⟨u', w1, w2⟩ := g11 s hs
      exact ⟨u' + 1, by rw [gt, w1, nI_1], by omega⟩
    · obtain ⟨u', w1, w2⟩ := g11 s hs
      exact ⟨u', by rw [o (5 + s) (by omega) (by omega) (by omega) (by omega) (by omega)]; exact w1, by omega⟩
  · split
    · exact SI_come hsi ht2 (by omega)
    · exact hsi
end IV

/-! the law's own methods: low, open, does, ones; objects that the law makes beside the class -/
theorem nI_modn {a n : Nat} (ha : a < 2 ^ 31) (hn : n < 2 ^ 31) : nI a - nI a / nI n * nI n = nI (a % n) := by
  have hd : a / n < 2 ^ 31 := Nat.lt_of_le_of_lt (Nat.div_le_self a n) ha
  have e : nI a / nI n = nI (a / n) := by
    apply Int32.toInt_inj.mp
    rw [Int32.toInt_div_of_ne_right _ _ (nI_ne_m1 hn), nI_toInt ha, nI_toInt hd, nI_toInt hn, Int.tdiv_eq_ediv_of_nonneg (by omega)]
    rfl
  rw [e, nI_mul, nI_sub (Nat.div_mul_le_self a n)]
  congr 1
  have h1 := Nat.div_add_mod a n
  have h2 := Nat.mul_comm n (a / n)
  omega
def lwN (x : Int32) (n : Nat) : Nat := (x.toBitVec.toNat % 2 ^ 31) % n
theorem lwN_lt {x : Int32} {n : Nat} (h : 1 ≤ n) : lwN x n < n := Nat.mod_lt _ (by omega)
theorem low_e {x y : Int32} {n : Nat} (hy : y = nI n) (hn : n < 2 ^ 31) : (x &&& (2147483647 : Int32)) - (x &&& (2147483647 : Int32)) / y * y = nI (lwN x n) := by
  subst hy
  rw [pk_and x 31 (by decide)]
  exact nI_modn (Nat.mod_lt _ (by decide)) hn
theorem low_i {sh : Sh} {x y : Int32} {n : Nat} {h : Hp} {K : Int32 → Hp → Prop} (hy : y = nI n) (h1 : 1 ≤ n) (hn : n < 2 ^ 31) (hk : K (nI (lwN x n)) h) : f_L_low sh x y h K := by
  unfold f_L_low
  refine ⟨fun z => ?_, ?_⟩
  · rw [hy] at z
    have := nI_inj (b := 0) hn (by omega) z
    omega
  · rw [low_e hy hn]
    exact hk
theorem ones_i {sh : Sh} {s : Nat} (hs : s ≤ 63) {h : Hp} {K : Int32 → Hp → Prop} (hk : K (nI (bitsN (nI s) 6 0)) h) : f_L_ones sh (nI s) h K := by
  unfold f_L_ones
  refine lo_ind (fun d st h' => ∃ k q, k + d = 7 ∧ k ≤ 6 ∧ st = (nI q, nI k) ∧ h' = h ∧ q + bitsN (nI s) (6 - k) k = bitsN (nI s) 6 0) ?_ ?_ (d := 7) ⟨0, 0, by omega, by omega, rfl, rfl, by rw [Nat.zero_add]⟩
  · rintro st h' ⟨k, q, h1, h2, -⟩
    omega
  · rintro d rec hrec st h' ⟨k, q, h1, h2, rfl, rfl, h3⟩
    unfold b_L_ones_4
    dsimp only
    by_cases hz : k = 6
    · subst hz
      rw [if_pos ge6]
      have : q = bitsN (nI s) 6 0 := h3
      rw [this]
      exact hk
    · have hk6 : k < 6 := by omega
      rw [if_neg (lt6 hk6), nI_1]
      obtain ⟨d', hd'⟩ : ∃ d', 6 - k = d' + 1 := ⟨6 - k - 1, by omega⟩
      rw [hd'] at h3
      replace h3 : q + ((if ((nI s >>> (nI k &&& 31)) &&& 1) = 1 then 1 else 0) + bitsN (nI s) d' (k + 1)) = bitsN (nI s) 6 0 := h3
      rcases bit01 ⟨s, by omega⟩ ⟨k, hk6⟩ with z | z
      · have z' : ((nI s >>> (nI k &&& 31)) &&& 1) = 0 := z
        rw [if_neg (fun y => by rw [z'] at y; exact absurd y (by decide))] at h3
        rw [z', Int32.add_zero]
        exact hrec _ _ ⟨k + 1, q, by omega, by omega, rfl, rfl, by rw [show 6 - (k + 1) = d' by omega]; omega⟩
      · have z' : ((nI s >>> (nI k &&& 31)) &&& 1) = 1 := z
        rw [if_pos z'] at h3
        rw [z', nI_1]
        exact hrec _ _ ⟨k + 1, q + 1, by omega, by omega, rfl, rfl, by rw [show 6 - (k + 1) = d' by omega]; omega⟩
section PL
variable {sh sh' : Sh} {ad ma : Nat → Nat} {h h' : Hp} {m T : Nat} {a : AS} {L Qs : List Nat}
/-- addresses that are made later: the places beyond the class's own are chosen anew -/
theorem MJ_re (X : WK sh ad ma) (hL : ∀ p, p < 592 → ad p ∈ L) (hQ : ∀ q ∈ Qs, q ∉ L) (hs : ∀ q, q ∉ Qs → sh' q = sh q ∧ h'.1 q = h.1 q ∧ h'.2 q = h.2 q) (I : MJ ad T m a h) : ∃ ad' ma', (∀ p, p < 592 → ad' p = ad p) ∧ WK sh' ad' ma' ∧ (∀ p, ad' p ∉ Qs) ∧ MJ ad' T m a h' := by
  obtain ⟨b, A, kp, len, tx, c, hm, pI, e⟩ := I
  have hle : ∀ p, p < 592 → ad p ≤ ((List.range 592).map ad).sum := fun p hp => le_sum (List.mem_map.mpr ⟨p, List.mem_range.mpr hp, rfl⟩)
  generalize ((List.range 592).map ad).sum = M at hle
  have ea : ∀ p, p < 592 → (fun p => if p < 592 then ad p else M + Qs.sum + 1 + 2 * p) p = ad p := fun p hp => if_pos hp
  have eb : ∀ p, ¬ p < 592 → (fun p => if p < 592 then ad p else M + Qs.sum + 1 + 2 * p) p = M + Qs.sum + 1 + 2 * p := fun p hp => if_neg hp
  generalize (fun p => if p < 592 then ad p else M + Qs.sum + 1 + 2 * p) = ad' at ea eb
  have old : ∀ p, p < 592 → sh' (ad p) = sh (ad p) ∧ h'.1 (ad p) = h.1 (ad p) ∧ h'.2 (ad p) = h.2 (ad p) := fun p hp => hs _ (fun z => hQ _ z (hL p hp))
  have sm : ∀ B, B + 84 ≤ 592 → SM 84 ad B sh h ad' B sh' h' := fun B hB j hj => ⟨ea _ (by omega), old _ (by omega)⟩
  have gr' : ∀ k f, k < 592 → gr h' (ad' k) f = gr h (ad k) f := fun k f hk => by
    rw [ea k hk]; show h'.2 _ _ = h.2 _ _; rw [(old k hk).2.2]
  have gi' : ∀ k f, k < 592 → gi h' (ad' k) f = gi h (ad k) f := fun k f hk => by
    rw [ea k hk]; show h'.1 _ _ = h.1 _ _; rw [(old k hk).2.1]
  have s' : ∀ k, k < 592 → sh' (ad' k) = sh (ad k) := fun k hk => by rw [ea k hk, (old k hk).1]
  obtain ⟨w1, w2, w3, w4, w5, w6, w7, w8⟩ := X
  obtain ⟨c1, ⟨x1, x2, x3, x4, x5, x6, x7⟩, c3, c4, c5, c6, c7, c8, c9, c10, c11⟩ := c
  have lb : ∀ i, i < 6 → b i < 592 := fun i hi => by rcases c1.1 i hi with e | e | e | e | e | e <;> omega
  have lb2 : ∀ i, i < 6 → b i + 84 ≤ 592 := fun i hi => by rcases c1.1 i hi with e | e | e | e | e | e <;> omega
  refine ⟨ad', fun q => M + Qs.sum + 1 + 2 * q + 1, ea, ⟨?_, ?_, by rw [s' 0 (by omega)]; exact w3, by rw [s' 253 (by omega)]; exact w4, by rw [s' 590 (by omega)]; exact w5, by rw [s' 591 (by omega)]; exact w6, fun x hx => ?_, TK_SM (sm 169 (by omega)) w8⟩, fun p hp => ?_, b, A, kp, len, tx, ⟨c1, ⟨?_, ?_, ?_, ?_, ?_, fun i hi => ?_, ?_⟩, by rw [gi' 0 5 (by omega)]; exact c3, CT_SM (sm _ (lb2 0 (by omega))) c4, TG_SM (sm _ (lb2 1 (by omega))) c5, fun i hi => CT_SM (sm _ (lb2 (2 + i) (by omega))) (c6 i hi), fun i hi => TG_SM (sm _ (lb2 (2 + i) (by omega))) (c7 i hi), ?_, TG_SM (sm 169 (by omega)) c9, by rw [gi' 590 1 (by omega)]; exact c10, fun i hi => by rw [gi' 591 i (by omega)]; exact c11 i hi⟩, hm, pI, e⟩
  · intro p q z
    by_cases hp : p < 592
    · by_cases hq : q < 592
      · rw [ea p hp, ea q hq] at z; exact w1 _ _ z
      · have := hle p hp
        rw [ea p hp, eb q hq] at z
        omega
    · by_cases hq : q < 592
      · have := hle q hq
        rw [eb p hp, ea q hq] at z
        omega
      · rw [eb p hp, eb q hq] at z
        omega
  · intro p q z
    replace z : ad' p = M + Qs.sum + 1 + 2 * q + 1 := z
    by_cases hp : p < 592
    · have := hle p hp
      rw [ea p hp] at z
      omega
    · rw [eb p hp] at z
      omega
  · rcases hx with z | z | z | z | z | z <;> rw [z] at * <;> first | exact TK_SM (sm 1 (by omega)) (w7 1 (Or.inl rfl)) | exact TK_SM (sm 85 (by omega)) (w7 85 (Or.inr (Or.inl rfl))) | exact TK_SM (sm 254 (by omega)) (w7 254 (Or.inr (Or.inr (Or.inl rfl)))) | exact TK_SM (sm 338 (by omega)) (w7 338 (Or.inr (Or.inr (Or.inr (Or.inl rfl))))) | exact TK_SM (sm 422 (by omega)) (w7 422 (Or.inr (Or.inr (Or.inr (Or.inr (Or.inl rfl)))))) | exact TK_SM (sm 506 (by omega)) (w7 506 (Or.inr (Or.inr (Or.inr (Or.inr (Or.inr rfl))))))
  · by_cases hp2 : p < 592
    · rw [ea p hp2] at hp
      exact hQ _ hp (hL p hp2)
    · have := le_sum hp
      rw [eb p hp2] at this
      omega
  · rw [gr' 0 0 (by omega), ea _ (lb 0 (by omega))]; exact x1
  · rw [gr' 0 1 (by omega), ea _ (lb 1 (by omega))]; exact x2
  · rw [gr' 0 2 (by omega), ea 169 (by omega)]; exact x3
  · rw [gr' 0 4 (by omega), ea 253 (by omega)]; exact x4
  · rw [gr' 0 6 (by omega), ea 590 (by omega)]; exact x5
  · rw [gr' 253 i (by omega), ea _ (lb (2 + i) (by omega))]; exact x6 i hi
  · rw [gr' 590 0 (by omega), ea 591 (by omega)]; exact x7
  · rcases c8 with ⟨z1, z2⟩ | ⟨a, z1, z2, z3⟩
    · exact Or.inl ⟨z1, by rw [gi' 0 3 (by omega)]; exact z2⟩
    · exact Or.inr ⟨a, z1, by rw [gi' 0 3 (by omega)]; exact z2, CT_SM (sm 169 (by omega)) z3⟩
def MW (L : List Nat) (sh : Sh) (x0 T m : Nat) (a : AS) (h : Hp) : Prop := ∃ ad ma, ad 0 = x0 ∧ WK sh ad ma ∧ (∀ p, p < 592 → ad p ∈ L) ∧ MJ ad T m a h
theorem k_hands {x0 : Nat} (M : MW L sh x0 T m a h) {K : Int32 → List Nat → Sh → Hp → Prop} (hk : ∀ L' sh' h', MW L' sh' x0 T m a h' → K 1 L' sh' h') : f_L_areHandsSo L sh x0 h K := by
  obtain ⟨ad, ma, e0, X, hL, I⟩ := M
  unfold f_L_areHandsSo
  refine nw_i (fun q1 n1 => ?_)
  refine nw_i (fun q2 n2 => ?_)
  have n2' : q2 ∉ L := fun z => n2 (List.mem_append_left _ z)
  have ne : q1 ≠ q2 := fun z => n2 (z ▸ List.mem_append_right _ (List.mem_singleton.mpr rfl))
  obtain ⟨ad', ma', ea, X', ho, I'⟩ := MJ_re (sh' := va_up (va_up sh q1 (7, 6)) q2 (7, 6)) (h' := hz (hz h q1) q2) (Qs := [q1, q2]) X hL (fun q hq => by
    rcases List.mem_cons.mp hq with z | z
    · rw [z]; exact n1
    · rw [List.mem_singleton.mp z]; exact n2') (fun q hq => by
    have z1 : q ≠ q1 := fun z => hq (by rw [z]; exact List.mem_cons_self)
    have z2 : q ≠ q2 := fun z => hq (by rw [z]; exact List.mem_cons_of_mem _ List.mem_cons_self)
    refine ⟨by rw [va_up_off z2, va_up_off z1], ?_, ?_⟩
    · show va_up (va_up h.1 q1 _) q2 _ q = h.1 q
      rw [va_up_off z2, va_up_off z1]
    · show va_up (va_up h.2 q1 _) q2 _ q = h.2 q
      rw [va_up_off z2, va_up_off z1]) I
  obtain ⟨b, A, kp, len, tx, c, hm, pI, rfl⟩ := I'
  obtain ⟨tk, rm, st, hI, hRW, hRL, hX⟩ := pI 0 (by omega)
  have e0' : ad' 0 = x0 := by rw [ea 0 (by omega)]; exact e0
  rw [← e0']
  refine hands_g X' c hI hRW hX (by rw [va_up_off ne, va_up_self]) (by rw [va_up_self]) ne (fun p z => ho p (by rw [z]; exact List.mem_cons_self)) (fun p z => ho p (by rw [z]; exact List.mem_cons_of_mem _ List.mem_cons_self)) (fun t ht => ?_) (fun h3 c3 => ?_)
  · show (hz (hz h q1) q2).1 q1 t = 0
    show va_up (va_up h.1 q1 (fun _ => 0)) q2 (fun _ => 0) q1 t = 0
    rw [va_up_off ne, va_up_self]
  · exact hk _ _ _ ⟨ad', ma', e0', X', fun p hp => by rw [ea p hp]; exact List.mem_append_left _ (List.mem_append_left _ (hL p hp)), b, A, kp, len, tx, c3, hm, pI, rfl⟩
variable {K : Int32 → Hp → Prop}
theorem j_tab0 (X : WK sh ad ma) (I : MJ ad T m a h) {t : Nat} (ht : t < 6) (hk : K (a.1 (5 + t)) h) : f_X5_tableOf sh (ad 0) (nI t) (0 : Int32) h K := by
  obtain ⟨b, A, kp, len, tx, c, -, -, rfl⟩ := I
  exact t_tab0 X c ht hk
theorem j_tab1 (X : WK sh ad ma) (I : MJ ad T m a h) {t : Nat} (ht : t < 6) (hk : K (a.1 (11 + t)) h) : f_X5_tableOf sh (ad 0) (nI t) (1 : Int32) h K := by
  obtain ⟨b, A, kp, len, tx, c, -, -, rfl⟩ := I
  exact t_tab1 X c ht hk
theorem j_tab4 (X : WK sh ad ma) (I : MJ ad T m a h) {t : Nat} (ht : t < 6) (k1 : (∀ e, pinE a.2.1 (nI t) 4 e → a.1 (5 + t) ≤ e 1) → K 1 h) (k0 : (∃ e, pinE a.2.1 (nI t) 4 e ∧ ¬ a.1 (5 + t) ≤ e 1) → K 0 h) : f_X5_tableOf sh (ad 0) (nI t) (4 : Int32) h K := by
  obtain ⟨b, A, kp, len, tx, c, -, pI, rfl⟩ := I
  obtain ⟨tk, rm, st, hI, -⟩ := pI 0 (by omega)
  exact t_tab4 X c ht (SI_vs hI.2.1 t ht) k1 k0
theorem j_ses0 (X : WK sh ad ma) (I : MJ ad T m a h) {n : Nat} (hn : n < 4) (hk : K ((a.2.1 n).1 0) h) : f_X5_sessionOf sh (ad 0) (nI n) (0 : Int32) h K := by
  obtain ⟨b, A, kp, len, tx, c, -, -, rfl⟩ := I
  exact t_ses0 X c hn hk
theorem j_ses2 (X : WK sh ad ma) (I : MJ ad T m a h) {n : Nat} (hn : n < 4) (hk : K (nI (a.2.1 n).2.length) h) : f_X5_sessionOf sh (ad 0) (nI n) (2 : Int32) h K := by
  obtain ⟨b, A, kp, len, tx, c, -, -, rfl⟩ := I
  exact t_ses2 X c hn hk
theorem j_ses5 (X : WK sh ad ma) (I : MJ ad T m a h) {n : Nat} (hn : n < 4) (hk : K ((a.2.1 n).1 1) h) : f_X5_sessionOf sh (ad 0) (nI n) (5 : Int32) h K := by
  obtain ⟨b, A, kp, len, tx, c, -, -, rfl⟩ := I
  exact t_ses5 X c hn hk
theorem j_ses6 (X : WK sh ad ma) (I : MJ ad T m a h) {n : Nat} (hn : n < 4) (hk : K ((a.2.1 n).1 2) h) : f_X5_sessionOf sh (ad 0) (nI n) (6 : Int32) h K := by
  obtain ⟨b, A, kp, len, tx, c, -, -, rfl⟩ := I
  exact t_ses6 X c hn hk
theorem j_ses7 (X : WK sh ad ma) (I : MJ ad T m a h) {n : Nat} (hn : n < 4) (hk : K ((a.2.1 n).1 3) h) : f_X5_sessionOf sh (ad 0) (nI n) (7 : Int32) h K := by
  obtain ⟨b, A, kp, len, tx, c, -, -, rfl⟩ := I
  exact t_ses7 X c hn hk
theorem j_cnt0 (X : WK sh ad ma) (I : MJ ad T m a h) (hk : K (a.1 0) h) : f_X5_count sh (ad 0) (0 : Int32) h K := by
  obtain ⟨b, A, kp, len, tx, c, -, -, rfl⟩ := I
  exact t_cnt0 X c hk
theorem j_cnt1 (X : WK sh ad ma) (I : MJ ad T m a h) (hk : K (a.1 1) h) : f_X5_count sh (ad 0) (1 : Int32) h K := by
  obtain ⟨b, A, kp, len, tx, c, -, -, rfl⟩ := I
  exact t_cnt1 X c hk
theorem j_cnt2 (X : WK sh ad ma) (I : MJ ad T m a h) (hk : K (a.1 2) h) : f_X5_count sh (ad 0) (2 : Int32) h K := by
  obtain ⟨b, A, kp, len, tx, c, -, -, rfl⟩ := I
  exact t_cnt2 X c hk
theorem j_ent (X : WK sh ad ma) (I : MJ ad T m a h) {n i q : Nat} (hn : n < 4) (hi : i < (a.2.1 n).2.length) (hq : q < 6) (hk : K (hd (a.2.1 n).2 i q) h) : f_X5_entry sh (ad 0) (nI n) (nI i) (nI q) h K := by
  obtain ⟨b, A, kp, len, tx, c, -, pI, rfl⟩ := I
  obtain ⟨tk, rm, st, hI, -⟩ := pI 0 (by omega)
  exact t_ent X c hn hi hq (SI_5 hI.2.1 n hn i hi) hk
theorem j_stmt (X : WK sh ad ma) (I : MJ ad T m a h) {n j q : Nat} (hn : n < 4) (hj : j < 4) {x : Int32} (hx : 0 ≤ x) (hw : a.2.2.2.1 n j 0 = x) (hq : q < 4) (k0 : q = 0 → K (nI n) h) (k1 : q = 1 → K (a.2.2.2.1 n j 1) h) (k2 : q = 2 → K (a.2.2.2.1 n j 2) h) (k3 : q = 3 → K (olN (a.2.2.2.1 n j 1) (fun t => a.2.2.2.1 n j (3 + t)) a.1 6) h) : f_X5_statement sh (ad 0) x (nI q) h K := by
  obtain ⟨b, A, kp, len, tx, c, -, pI, rfl⟩ := I
  obtain ⟨tk, rm, st, hI, hRW, -⟩ := pI 0 (by omega)
  exact t_stmt X c hn hj hx hw hq (fun n' j' a1 a2 a3 => hRW.2.2.1 n' j' n j a1 a2 hn hj (a3.trans hw.symm) (fun z => by rw [a3] at z; rw [z] at hx; exact absurd hx (by decide))) k0 k1 k2 k3
theorem lt_m3 {r : Int32} (h : ¬ r < 0) : ¬ r < (-3 : Int32) := fun z => h (by
  rw [Int32.lt_iff_toInt_lt] at z ⊢
  have e : (-3 : Int32).toInt = -3 := by decide
  have e0 : (0 : Int32).toInt = 0 := by decide
  omega)
theorem open_i (X : WK sh ad ma) (I : MJ ad T m a h) {x : Int32} (hk : ∀ r, K r h) : f_L_open sh (ad 0) x h K := by
  have I0 := I
  obtain ⟨b, A, kp, len, tx, c, -, pI, rfl⟩ := I
  obtain ⟨tk, rm, st, hI, -⟩ := pI 0 (by omega)
  obtain ⟨-, -, -, -, ⟨hst, hst9⟩, -⟩ := hI.1
  unfold f_L_open
  rw [x_t0 X]
  refine j_cnt2 X I0 ?_
  rw [hst]
  by_cases c10 : 10 ≤ st
  · refine dj_i (nI (st - 10)) h ?_ (fun J hJ => if_y (by rw [show (10 : Int32) = nI 10 from rfl, nI_leI (by omega) (by omega)]; exact c10) (by rw [show (10 : Int32) = nI 10 from rfl, nI_sub c10]; exact hJ))
    exact low_i (n := st - (st - 10) + 1) (by rw [nI_sub (by omega), nI_1]) (by omega) (by omega) (hk _)
  · refine dj_i (0 : Int32) h ?_ (fun J hJ => if_n (fun z => c10 (by rw [show (10 : Int32) = nI 10 from rfl, nI_leI (by omega) (by omega)] at z; exact z)) hJ)
    exact low_i (n := st + 1) (by rw [Int32.sub_zero, nI_1]) (by omega) (by omega) (hk _)
/-- what the law does in a round: an alter, or something else -/
theorem does_i (X : WK sh ad ma) (I : MJ ad T m a h) (hT : T < 2 ^ 29) {v : Int32} {q : Nat} (hq : (v &&& (15 : Int32)) = nI q) (hq16 : q < 16)
    (ka : q < 3 → f_X5_alter sh (ad 0) (nI (lwN (v >>> ((4 : Int32) &&& 31)) 6)) (nI (lwN (v >>> ((7 : Int32) &&& 31)) 3)) h K)
    (kb : ¬ q < 3 → ∀ r h' m' a', ¬ r < (-3 : Int32) → MJ ad (T + 100) m' a' h' → K r h') : f_L_does sh (ad 0) v h K := by
  have e : ∀ k, k < 16 → ((v &&& (15 : Int32)) = nI k ↔ q = k) := fun k hk => by rw [hq, nI_eq (by omega) (by omega)]
  have al : q < 3 → f_L_low sh (v >>> ((4 : Int32) &&& 31)) (6 : Int32) h (fun r1 h2 => f_L_low sh (v >>> ((7 : Int32) &&& 31)) (3 : Int32) h2 fun r3 h4 => ty sh (ad 0) 5 <| f_X5_alter sh (ad 0) r1 r3 h4 fun r5 h6 => K r5 h6) := fun z => by
    refine low_i (n := 6) rfl (by omega) (by omega) ?_
    refine low_i (n := 3) rfl (by omega) (by omega) ?_
    rw [x_t0 X]
    exact ka z
  have tk_ : ¬ q < 3 → f_L_low sh (v >>> ((4 : Int32) &&& 31)) (4 : Int32) h (fun r h2 => ty sh (ad 0) 5 <| f_X5_tick sh (ad 0) ((1 : Int32) + r) h2 fun r5 h6 => K r5 h6) := fun z => by
    refine low_i (n := 4) rfl (by omega) (by omega) ?_
    rw [x_t0 X]
    have hl : lwN (v >>> ((4 : Int32) &&& 31)) 4 < 4 := lwN_lt (by omega)
    rw [show (1 : Int32) = nI 1 from rfl, nI_add]
    exact t_tick X I hT (by omega) (by omega) (fun r h' m' a' hr I' => kb z r h' m' a' (lt_m3 hr) I')
  have en : ¬ q < 3 → f_L_open sh (ad 0) (v >>> ((4 : Int32) &&& 31)) h (fun r h2 => ty sh (ad 0) 5 <| f_X5_end sh (ad 0) r h2 fun r5 h6 => K r5 h6) := fun z => open_i X I (fun r => by
    rw [x_t0 X]
    exact t_end X I (fun r' h' m' a' hr I' => kb z r' h' m' a' hr (MJ_T I' (by omega))))
  unfold f_L_does
  by_cases z0 : q = 0
  · exact if_y ((e 0 (by omega)).mpr z0) (al (by omega))
  refine if_n (fun y => z0 ((e 0 (by omega)).mp y)) ?_
  by_cases z1 : q = 1
  · exact if_y ((e 1 (by omega)).mpr z1) (al (by omega))
  refine if_n (fun y => z1 ((e 1 (by omega)).mp y)) ?_
  by_cases z2 : q = 2
  · exact if_y ((e 2 (by omega)).mpr z2) (al (by omega))
  refine if_n (fun y => z2 ((e 2 (by omega)).mp y)) ?_
  by_cases z3 : q = 3
  · refine if_y ((e 3 (by omega)).mpr z3) ?_
    have set_ : ∀ x y, f_X5_set sh (ad 0) x y h (fun r27 h28 => K r27 h28) := fun x y => t_setX X I (fun r' h' m' a' hr I' => kb (by omega) r' h' m' a' hr (MJ_T I' (by omega)))
    by_cases c : ((v >>> ((4 : Int32) &&& 31)) &&& (1 : Int32)) = 0
    · refine dj_i (nI (lwN (v >>> ((5 : Int32) &&& 31)) 6)) h ?_ (fun J hJ => if_y c (low_i (n := 6) rfl (by omega) (by omega) hJ))
      rw [x_t0 X]
      exact set_ _ _
    · refine dj_i ((1 : Int32) + ((v >>> ((5 : Int32) &&& 31)) &&& (7 : Int32))) h ?_ (fun J hJ => if_n c hJ)
      rw [x_t0 X]
      exact set_ _ _
  refine if_n (fun y => z3 ((e 3 (by omega)).mp y)) ?_
  by_cases z4 : q = 4
  · exact if_y ((e 4 (by omega)).mpr z4) (tk_ (by omega))
  refine if_n (fun y => z4 ((e 4 (by omega)).mp y)) ?_
  by_cases z5 : q = 5
  · exact if_y ((e 5 (by omega)).mpr z5) (tk_ (by omega))
  refine if_n (fun y => z5 ((e 5 (by omega)).mp y)) ?_
  by_cases z6 : q = 6
  · exact if_y ((e 6 (by omega)).mpr z6) (en (by omega))
  refine if_n (fun y => z6 ((e 6 (by omega)).mp y)) ?_
  by_cases z7 : q = 7
  · exact if_y ((e 7 (by omega)).mpr z7) (en (by omega))
  refine if_n (fun y => z7 ((e 7 (by omega)).mp y)) ?_
  by_cases z8 : q = 8
  · exact if_y ((e 8 (by omega)).mpr z8) (en (by omega))
  refine if_n (fun y => z8 ((e 8 (by omega)).mp y)) ?_
  by_cases z9 : q = 9
  · exact if_y ((e 9 (by omega)).mpr z9) (en (by omega))
  refine if_n (fun y => z9 ((e 9 (by omega)).mp y)) ?_
  refine low_i (n := 4) rfl (by omega) (by omega) ?_
  have hl : lwN (v >>> ((4 : Int32) &&& 31)) 4 < 4 := lwN_lt (by omega)
  rw [x_t0 X]
  obtain ⟨y, y1, y2⟩ : ∃ y, y < 2 ^ 6 ∧ (((v >>> ((6 : Int32) &&& 31)) &&& (63 : Int32)) &&& (v >>> ((9 : Int32) &&& 31))) = nI y := by
    rw [Int32.and_comm, ← Int32.and_assoc]
    exact pk_andE _ 6 (by decide)
  rw [y2, show (63 : Int32) = nI 63 from rfl, nI_modn (by omega) (by omega), show (1 : Int32) = nI 1 from rfl, nI_add]
  have hy : y % 63 < 63 := Nat.mod_lt _ (by omega)
  have I0 := I
  obtain ⟨b, A, kp, len, tx, c, -, pI, rfl⟩ := I
  obtain ⟨tk, rm, st, hI, -⟩ := pI 0 (by omega)
  obtain ⟨-, -, -, -, ⟨hst, hst9⟩, -⟩ := hI.1
  obtain ⟨kn, k1, k2⟩ := (hI.2.1 _ hl).2
  refine t_start X I0 hl (by omega) (by omega) hst hst9 k2 k1 (fun h' _ I' => kb (by omega) _ _ _ _ (by decide) (MJ_T I' (by omega))) (fun h' j r w' _ _ _ _ _ _ _ _ I' => kb (by omega) _ _ _ _ (m3_lt (by omega)) (MJ_T I' (by omega)))
end PL

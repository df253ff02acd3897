/-! the first state; the law's loop -/
def ey (l : List Nat) (N s k : Nat) : Nat := l.getD k (N + 2 * k + s)
theorem ey_lt {l : List Nat} {N s k : Nat} (h : k < l.length) : ey l N s k = ex l k := by
  unfold ey
  rw [ex_lt h, List.getD_eq_getElem?_getD, List.getElem?_eq_getElem h]; rfl
theorem ey_ge {l : List Nat} {N s k : Nat} (h : l.length ≤ k) : ey l N s k = N + 2 * k + s := by
  unfold ey
  rw [List.getD_eq_getElem?_getD, List.getElem?_eq_none h]; rfl
theorem ey_inj {l : List Nat} {N s : Nat} (h : l.Nodup) (hN : l.sum < N) : inj (ey l N s) := by
  intro p q e
  by_cases hp : p < l.length
  · by_cases hq : q < l.length
    · rw [ey_lt hp, ey_lt hq] at e; exact ex_inj h _ _ e
    · have h1 := le_sum (ex_mem hp)
      rw [ey_lt hp, ey_ge (by omega)] at e
      omega
  · by_cases hq : q < l.length
    · have h1 := le_sum (ex_mem hq)
      rw [ey_lt hq, ey_ge (by omega)] at e
      omega
    · rw [ey_ge (by omega), ey_ge (by omega)] at e; omega
theorem ey_ne {l m : List Nat} {N p q : Nat} (h : (l ++ m).Nodup) (hN : l.sum + m.sum < N) : ey l N 0 p ≠ ey m N 1 q := by
  intro e
  by_cases hp : p < l.length
  · by_cases hq : q < m.length
    · rw [ey_lt hp, ey_lt hq] at e
      exact nd_x h (ex_mem hp) (by rw [e]; exact ex_mem hq)
    · have h1 := le_sum (ex_mem hp)
      rw [ey_lt hp, ey_ge (by omega)] at e
      omega
  · by_cases hq : q < m.length
    · have h1 := le_sum (ex_mem hq)
      rw [ey_lt hq, ey_ge (by omega)] at e
      omega
    · rw [ey_ge (by omega), ey_ge (by omega)] at e; omega
theorem b0_ok : BS b0 := by
  refine ⟨fun i hi => ?_, fun i j hi hj => ?_⟩
  · unfold isB
    match i, hi with
    | 0, _ => exact Or.inl rfl
    | 1, _ => exact Or.inr (Or.inl rfl)
    | 2, _ => exact Or.inr (Or.inr (Or.inl rfl))
    | 3, _ => exact Or.inr (Or.inr (Or.inr (Or.inl rfl)))
    | 4, _ => exact Or.inr (Or.inr (Or.inr (Or.inr (Or.inl rfl))))
    | 5, _ => exact Or.inr (Or.inr (Or.inr (Or.inr (Or.inr rfl))))
  · have : ∀ i, i < 6 → ∀ j, j < 6 → b0 i = b0 j → i = j := by decide
    exact this i hi j hj
theorem RW_0 {W : Slots} (hw : ∀ n, n < 4 → ∀ j, j < 4 → W n j 0 = -1) : RW [] W := by
  refine ⟨fun o ho => absurd ho List.not_mem_nil, fun n j hn hj => Or.inl (hw n hn j hj), fun n j n' j' hn hj _ _ _ z => absurd (hw n hn j hj) z, fun n hn => ?_⟩
  show 0 = cntW (W n) 4
  have neg : ∀ j, j < 4 → W n j 0 < 0 := fun j hj => by rw [hw n hn j hj]; decide
  rw [cntW_s, if_pos (neg 3 (by omega)), cntW_s, if_pos (neg 2 (by omega)), cntW_s, if_pos (neg 1 (by omega)), cntW_s, if_pos (neg 0 (by omega))]
  rfl
section YF
variable {sh sh' : Sh} {ad ma : Nat → Nat} {h h' : Hp} {T : Nat} {L m : List Nat}
theorem first (hx : XF L sh h) (hN : (L ++ m).Nodup) (hl : m.length = 9) (fr : Fr m sh h sh' h') (X6 : MX sh' (ex m) h') (z0 : ∀ j, gi h' (ex m 0) j = 0) (z1 : gi h' (ex m 1) = g00) : ∃ ad ma, ad 0 = ex L 0 ∧ ma 0 = ex m 0 ∧ WK sh' ad ma ∧ MI sh' ad ma 0 h' := by
  obtain ⟨lL, W, Lr, ⟨c1, ⟨c2, c3, c4⟩, c5⟩, ⟨o1, o2, o3, o4, o5⟩, ⟨p1, p2, p3⟩, ⟨t1, t2, t3, t4⟩, hW⟩ := hx
  have hs : L.sum + m.sum < L.sum + m.sum + 1 := Nat.lt_succ_self _
  generalize L.sum + m.sum + 1 = N at hs
  have ia : inj (ey L N 0) := ey_inj (nd_l hN) (by omega)
  have im : inj (ey m N 1) := ey_inj (nd_r hN) (by omega)
  have ne : ∀ p q, ey L N 0 p ≠ ey m N 1 q := fun p q => ey_ne hN hs
  have ea : ∀ k, k < 592 → ey L N 0 k = ex L k := fun k hk => ey_lt (by omega)
  have em : ∀ k, k < 9 → ey m N 1 k = ex m k := fun k hk => ey_lt (by omega)
  have old : ∀ k, k < 592 → sh' (ex L k) = sh (ex L k) ∧ h'.1 (ex L k) = h.1 (ex L k) ∧ h'.2 (ex L k) = h.2 (ex L k) := fun k hk => fr _ (nd_x hN (ex_mem (by omega)))
  have sm : ∀ B, B + 84 ≤ 592 → SM 84 (ex L) B sh h (ey L N 0) B sh' h' := fun B hB j hj => ⟨ea _ (by omega), old _ (by omega)⟩
  have gr' : ∀ k f, k < 592 → gr h' (ey L N 0 k) f = gr h (ex L k) f := fun k f hk => by
    rw [ea k hk]; show h'.2 _ _ = h.2 _ _; rw [(old k hk).2.2]
  have gi' : ∀ k f, k < 592 → gi h' (ey L N 0 k) f = gi h (ex L k) f := fun k f hk => by
    rw [ea k hk]; show h'.1 _ _ = h.1 _ _; rw [(old k hk).2.1]
  have s' : ∀ k, k < 592 → sh' (ey L N 0 k) = sh (ex L k) := fun k hk => by rw [ea k hk, (old k hk).1]
  have cb : ∀ B ∈ [506, 422, 338, 254, 169, 85], TK sh' (ey L N 0) B ∧ TG h' (ey L N 0) B := fun B hB => by
    obtain ⟨d1, d2, d3⟩ := c5 B hB
    exact ⟨TK_SM (sm B (by omega)) d2, TG_SM (sm B (by omega)) d3⟩
  have k1 := TK_SM (sm 1 (by omega)) c3
  have k2 := CT_SM (sm 1 (by omega)) c4
  have xr : ∀ r ∈ [((6 : Nat), (590 : Nat)), (4, 253), (2, 169), (1, 85), (0, 1)], gr h' (ey L N 0 0) r.1 = some (ey L N 0 r.2) := fun r hr => by
    obtain ⟨q1, q2⟩ := o4 r hr
    rw [gr' 0 _ (by omega), ea _ (by omega)]
    exact q2
  refine ⟨ey L N 0, ey m N 1, ea 0 (by omega), em 0 (by omega), ⟨ia, ne, by rw [s' 0 (by omega)]; exact o3, by rw [s' 253 (by omega)]; exact p2, by rw [s' 590 (by omega)]; exact t1, by rw [s' 591 (by omega)]; exact t2, fun x hx => ?_, (cb 169 (by decide)).1⟩, b0, 0, fun _ => (g00, S00, ([], []), (W, Lr)), none, 0, fun _ => 0, ⟨b0_ok, ⟨xr (0, 1) (by decide), xr (1, 85) (by decide), xr (2, 169) (by decide), xr (4, 253) (by decide), xr (6, 590) (by decide), fun i hi => ?_, ?_⟩, ?_, ?_, (cb 85 (by decide)).2, fun i hi => by omega, fun i hi => ?_, Or.inl ⟨rfl, ?_⟩, (cb 169 (by decide)).2, ?_, fun i hi => by omega⟩, ⟨?_, ?_, ?_, fun i hi => by omega, Or.inl ⟨rfl, ?_⟩, ?_, fun i hi => by omega⟩, ⟨by omega, fun i hi => ?_, fun a ha => (by cases ha), by omega, fun i hi => by omega⟩⟩
  · rcases hx with z | z | z | z | z | z
    · rw [z]; exact k1
    · rw [z]; exact (cb 85 (by decide)).1
    · rw [z]; exact (cb 254 (by decide)).1
    · rw [z]; exact (cb 338 (by decide)).1
    · rw [z]; exact (cb 422 (by decide)).1
    · rw [z]; exact (cb 506 (by decide)).1
  · have hb : b0 (2 + i) < 592 := by
      have : ∀ i, i < 4 → b0 (2 + i) < 592 := by decide
      exact this i hi
    rw [gr' 253 i (by omega), ea _ hb]
    exact p3 i hi
  · rw [gr' 590 0 (by omega), ea 591 (by omega)]; exact t3
  · rw [gi' 0 5 (by omega)]; exact o5 5 (by decide)
  · exact k2
  · have : ∀ i, i < 4 → b0 (2 + i) ∈ [506, 422, 338, 254, 169, 85] := by decide
    exact (cb _ (this i hi)).2
  · rw [gi' 0 3 (by omega)]; exact o5 3 (by decide)
  · rw [gi' 590 1 (by omega)]; exact t4
  · obtain ⟨x1, x2, x3, x4, x5, x6, x7, x8, x9, x10, y1, y2, y3, y4, y5, y6, y7, y8⟩ := X6
    refine ⟨im, ?_⟩
    rw [em 0 (by omega), em 1 (by omega), em 2 (by omega), em 3 (by omega), em 4 (by omega), em 5 (by omega), em 6 (by omega), em 7 (by omega), em 8 (by omega)]
    exact ⟨x2, x3, x4, x5, x6, x7, x8, x9, x10, y1, y2, y3, y4, y5, y6, y7, y8⟩
  · rw [em 0 (by omega)]; exact z0 3
  · rw [em 1 (by omega), z1]; exact MA_g00
  · rw [em 0 (by omega)]; exact z0 5
  · rw [em 0 (by omega)]; exact z0 7
  · have hI := INV_0 (rm := 3) (by omega)
    rw [gB3] at hI
    exact ⟨0, 3, 0, hI, RW_0 hW, fun p hp => absurd hp (Nat.not_lt_zero p)⟩
theorem lS_e {xs : Nat → Int32} {Ls k : Nat} {i : Int32} {K : Int32 → Prop} (e : i = nI k) (hk : k < Ls) (hL : Ls < 2 ^ 31) : lS xs Ls i K = K (xs k) := by
  subst e
  apply propext
  unfold lS
  rw [nI_clamp (by omega)]
  exact ⟨fun ⟨_, v, e, q⟩ => e ▸ q, fun q => ⟨nI_in hk hL, _, rfl, q⟩⟩
theorem law_end {Ls k : Nat} (hL : Ls ≤ 2048) (hk : k < 3000) : (Int32.ofNat Ls - (4 : Int32) < nI k) ↔ Ls < k + 4 := by
  show (nI Ls - (4 : Int32) < nI k) ↔ _
  by_cases c : 4 ≤ Ls
  · rw [show (4 : Int32) = nI 4 from rfl, nI_sub c, nI_ltI (by omega) (by omega)]
    omega
  · have : ∀ q, q < 4 → (nI q - (4 : Int32)).toInt < 0 := by decide
    have h1 := this Ls (by omega)
    refine ⟨fun _ => by omega, fun _ => ?_⟩
    rw [i32_lt, nI_toInt (by omega)]
    omega
theorem law_loop (X : WK sh ad ma) {xs : Nat → Int32} {Ls : Nat} (hL : Ls ≤ 2048) : ∀ (d k T : Nat) (h : Hp), MI sh ad ma T h → T + 6100 * d + 6100 < 2 ^ 29 → k ≤ Ls → Ls < k + 4 + 4 * d → lp (b_law sh (ad 0) (ma 0) xs Ls) (d + 1) (nI k) h := by
  intro d
  induction d with
  | zero =>
    intro k T h I hT hk he
    show b_law sh (ad 0) (ma 0) xs Ls (lp (b_law sh (ad 0) (ma 0) xs Ls) 0) (nI k) h
    unfold b_law
    rw [if_pos ((law_end hL (by omega)).mpr (by omega))]
    trivial
  | succ d ih =>
    intro k T h I hT hk he
    show b_law sh (ad 0) (ma 0) xs Ls (lp (b_law sh (ad 0) (ma 0) xs Ls) (d + 1)) (nI k) h
    revert ih
    generalize lp (b_law sh (ad 0) (ma 0) xs Ls) (d + 1) = rec
    intro ih
    unfold b_law
    by_cases c : Ls < k + 4
    · rw [if_pos ((law_end hL (by omega)).mpr c)]
      trivial
    · rw [if_neg (fun z => c ((law_end hL (by omega)).mp z))]
      have e0 : ∀ K, lS xs Ls (nI k) K = K (xs k) := fun K => lS_e rfl (by omega) (by omega)
      have e1 : ∀ K, lS xs Ls (nI k + (1 : Int32)) K = K (xs (k + 1)) := fun K => lS_e (nI_1 k) (by omega) (by omega)
      have e2 : ∀ K, lS xs Ls (nI k + (2 : Int32)) K = K (xs (k + 2)) := fun K => lS_e (by rw [show (2 : Int32) = nI 2 from rfl, nI_add]) (by omega) (by omega)
      have e3 : ∀ K, lS xs Ls (nI k + (3 : Int32)) K = K (xs (k + 3)) := fun K => lS_e (by rw [show (3 : Int32) = nI 3 from rfl, nI_add]) (by omega) (by omega)
      have nx : ∀ h' T', T' ≤ T + 6100 → MI sh ad ma T' h' → rec (nI k + (4 : Int32)) h' := fun h' T' ht I' => by
        rw [show (4 : Int32) = nI 4 from rfl, nI_add]
        exact ih (k + 4) T' h' I' (by omega) (by omega) (by omega)
      simp only [e0, e1, e2, e3]
      generalize xs k &&& (31 : Int32) = v
      generalize xs (k + 1) = w1
      generalize xs (k + 2) = w2
      generalize xs (k + 3) = w3
      by_cases d0 : v = (0 : Int32)
      · rw [if_pos d0]
        exact s_alter X I (by omega) (fun r h1 I1 => if_y rfl (nx h1 T (by omega) I1))
      rw [if_neg d0]
      by_cases d1 : v = (1 : Int32)
      · rw [if_pos d1]
        exact s_start X I (fun r h1 I1 => if_y rfl (nx h1 T (by omega) I1))
      rw [if_neg d1]
      by_cases d2 : v = (2 : Int32)
      · rw [if_pos d2]
        exact s_end X I (fun r h1 I1 => if_y rfl (nx h1 T (by omega) I1))
      rw [if_neg d2]
      by_cases d3 : v = (3 : Int32)
      · rw [if_pos d3]
        exact s_tick X I (by omega) (fun r h1 I1 => if_y rfl (nx h1 (T + 6000) (by omega) I1))
      rw [if_neg d3]
      by_cases d4 : v = (4 : Int32)
      · rw [if_pos d4]
        exact s_set X I (fun r h1 I1 => if_y rfl (nx h1 T (by omega) I1))
      rw [if_neg d4]
      by_cases d5 : v = (5 : Int32)
      · rw [if_pos d5]
        exact s_tableOf X I (fun r => if_y rfl (nx h T (by omega) I))
      rw [if_neg d5]
      by_cases d6 : v = (6 : Int32)
      · rw [if_pos d6]
        exact s_sessionOf X I (fun r => if_y rfl (nx h T (by omega) I))
      rw [if_neg d6]
      by_cases d7 : v = (7 : Int32)
      · rw [if_pos d7]
        exact s_entry X I (fun r => if_y rfl (nx h T (by omega) I))
      rw [if_neg d7]
      by_cases d8 : v = (8 : Int32)
      · rw [if_pos d8]
        exact s_statement X I (fun r => if_y rfl (nx h T (by omega) I))
      rw [if_neg d8]
      by_cases d9 : v = (9 : Int32)
      · rw [if_pos d9]
        exact s_notice X I (fun r => if_y rfl (nx h T (by omega) I))
      rw [if_neg d9]
      by_cases d10 : v = (10 : Int32)
      · rw [if_pos d10]
        exact s_count X I (fun r => if_y rfl (nx h T (by omega) I))
      rw [if_neg d10]
      by_cases d11 : v = (11 : Int32)
      · rw [if_pos d11]
        exact s_would X I (fun r h1 I1 => if_y rfl (nx h1 T (by omega) I1))
      rw [if_neg d11]
      by_cases d12 : v = (12 : Int32)
      · rw [if_pos d12]
        exact s_inTheWay X I (fun r => if_y rfl (nx h T (by omega) I))
      rw [if_neg d12]
      by_cases d13 : v = (13 : Int32)
      · rw [if_pos d13]
        exact s_bestRoom X I (fun r h1 I1 => if_y rfl (nx h1 T (by omega) I1))
      rw [if_neg d13]
      by_cases d14 : v = (14 : Int32)
      · rw [if_pos d14]
        exact s_keep X I (fun r h1 I1 => if_y rfl (nx h1 T (by omega) I1))
      rw [if_neg d14]
      by_cases d15 : v = (15 : Int32)
      · rw [if_pos d15]
        exact s_restore X I (by omega) (fun r h1 I1 => if_y rfl (nx h1 T (by omega) I1))
      rw [if_neg d15]
      by_cases d16 : v = (16 : Int32)
      · rw [if_pos d16]
        exact s_undo X I (fun r h1 I1 => if_y rfl (nx h1 T (by omega) I1))
      rw [if_neg d16]
      by_cases d17 : v = (17 : Int32)
      · rw [if_pos d17]
        exact s_type X I (fun r h1 I1 => if_y rfl (nx h1 T (by omega) I1))
      rw [if_neg d17]
      by_cases d18 : v = (18 : Int32)
      · rw [if_pos d18]
        exact s_clear X I (fun r h1 I1 => if_y rfl (nx h1 T (by omega) I1))
      rw [if_neg d18]
      by_cases d19 : v = (19 : Int32)
      · rw [if_pos d19]
        exact s_fault X I (by omega) (fun r h1 I1 => if_y rfl (nx h1 T (by omega) I1))
      rw [if_neg d19]
      by_cases d20 : v = (20 : Int32)
      · rw [if_pos d20]
        exact s_play X I (by omega) (fun r h1 I1 => if_y rfl (nx h1 (T + 6100) (by omega) I1))
      rw [if_neg d20]
      exact nx h T (by omega) I
end YF
theorem law_all (xs : Nat → Int32) (L : Nat) (hL : L ≤ 2048) : f_law [] sh0 h0 xs L := by
  unfold f_law
  refine nw_i (fun x1 hx1 => ?_)
  show f_X5_init [x1] _ x1 _ _
  refine k_X5 (by rw [va_up_self]) (fun L2 sh2 h2 ex0 hx => ?_)
  refine nw_i (fun x2 hx2 => ?_)
  have N3 := nd_app hx.2.choose_spec.choose_spec.1.1 hx2
  refine k_X6 N3 (by rw [va_up_self]) (fun j => gi_hz0) (fun m sh4 h4 n1 n2 n3 X6 z0 z1 fr => ?_)
  have f1 : Fr m sh2 h2 (va_up sh2 x2 (6, 0)) (hz h2 x2) := Fr_new.mo (fun a ha => by rw [List.mem_singleton.mp ha, ← n3]; exact ex_mem (by omega))
  obtain ⟨ad, ma, q1, q2, X, I⟩ := first hx n1 n2 (f1.tr fr) X6 z0 z1
  rw [← ex0, ← n3, ← q1, ← q2]
  obtain ⟨b, m', A, kp, len, tx, cI, rX, pI⟩ := I
  rw [x_t0 X, mx_m rX.1]
  exact ⟨_, law_loop X hL 512 0 0 h4 ⟨b, m', A, kp, len, tx, cI, rX, pI⟩ (by omega) (by omega) (by omega)⟩

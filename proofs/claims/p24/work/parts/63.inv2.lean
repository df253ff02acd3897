/-! what holds of a whole state: statements start and end; the class's places of statements and the rows of open ones -/
def RW (os : List En) (W : Slots) : Prop :=
  (∀ o ∈ os, ∃ n j, n < 4 ∧ j < 4 ∧ o 1 = nI n ∧ sm o (W n j)) ∧ (∀ n j, n < 4 → j < 4 → W n j 0 = -1 ∨ ∃ o ∈ os, o 1 = nI n ∧ sm o (W n j)) ∧
  (∀ n j n' j', n < 4 → j < 4 → n' < 4 → j' < 4 → W n j 0 = W n' j' 0 → W n j 0 ≠ -1 → n = n' ∧ j = j') ∧ ∀ n, n < 4 → pcn os n = cntW (W n) 4
def RLt (rc : List (Int32 × Int32)) (L : Ring) (st : Nat) : Prop := ∀ p, p < rc.length → L ((st - rc.length + p) % 12) = rcd rc p
theorem nI_ne_m1 {q : Nat} (h : q < 2 ^ 31) : nI q ≠ -1 := fun z => by
  have := congrArg Int32.toInt z
  rw [nI_toInt h] at this
  have : (-1 : Int32).toInt = -1 := by decide
  omega
theorem cntW_up {w w' : Nat → En} {j : Nat} (hj : j < 4) (ho : ∀ i, i ≠ j → w' i 0 = w i 0) (h1 : w j 0 < 0) (h2 : ¬ w' j 0 < 0) : cntW w' 4 = cntW w 4 + 1 := by
  match j, hj with
  | 0, _ => simp only [cntW, ho 1 (by decide), ho 2 (by decide), ho 3 (by decide), if_pos h1, if_neg h2]; split <;> split <;> split <;> rfl
  | 1, _ => simp only [cntW, ho 0 (by decide), ho 2 (by decide), ho 3 (by decide), if_pos h1, if_neg h2]; split <;> split <;> split <;> rfl
  | 2, _ => simp only [cntW, ho 0 (by decide), ho 1 (by decide), ho 3 (by decide), if_pos h1, if_neg h2]; split <;> split <;> split <;> rfl
  | 3, _ => simp only [cntW, ho 0 (by decide), ho 1 (by decide), ho 2 (by decide), if_pos h1, if_neg h2]
theorem cntW_full {w : Nat → En} : cntW w 4 = 4 ↔ ∀ j, j < 4 → ¬ w j 0 < 0 := by
  constructor
  · intro h j hj
    match j, hj with
    | 0, _ => intro z; simp only [cntW, if_pos z] at h; split at h <;> split at h <;> split at h <;> omega
    | 1, _ => intro z; simp only [cntW, if_pos z] at h; split at h <;> split at h <;> split at h <;> omega
    | 2, _ => intro z; simp only [cntW, if_pos z] at h; split at h <;> split at h <;> split at h <;> omega
    | 3, _ => intro z; simp only [cntW, if_pos z] at h; split at h <;> split at h <;> split at h <;> omega
  · intro h
    simp only [cntW, if_neg (h 0 (by decide)), if_neg (h 1 (by decide)), if_neg (h 2 (by decide)), if_neg (h 3 (by decide))]
theorem cntW_le {w : Nat → En} : cntW w 4 ≤ 4 := by
  simp only [cntW]; split <;> split <;> split <;> split <;> omega
section IW
variable {T N tk rm st : Nat} {g g' : Nat → Int32} {S : Nat → Ses} {os : List En} {rc : List (Int32 × Int32)} {W : Slots} {L : Ring}
/-- a place holds no statement exactly if its number is below 0 -/
theorem RW_neg (h : RW os W) (ho : OI st os) (hst : st ≤ 999) {n j : Nat} (hn : n < 4) (hj : j < 4) : W n j 0 < 0 ↔ W n j 0 = -1 := by
  constructor
  · intro z
    rcases h.2.1 n j hn hj with q | ⟨o, o1, o2, o3⟩
    · exact q
    · obtain ⟨⟨q, q1, q2⟩, -⟩ := ho.1 o o1
      rw [o3.1, q2] at z
      exact absurd z (nI_pos (by omega))
  · intro z; rw [z]; decide
theorem RW_full (h : RW os W) (ho : OI st os) (hst : st ≤ 999) {n : Nat} (hn : n < 4) : pcn os n = 4 ↔ ∀ j, j < 4 → W n j 0 ≠ -1 := by
  rw [h.2.2.2 n hn, cntW_full]
  constructor
  · intro z j hj q; exact z j hj ((RW_neg h ho hst hn hj).mpr q)
  · intro z j hj q; exact z j hj ((RW_neg h ho hst hn hj).mp q)
theorem RW_push (h : RW os W) (ho : OI st os) (hst : st < 999) {n j : Nat} (hn : n < 4) (hj : j < 4) (hf : W n j 0 = -1) {w' : Nat → En} (hw : ∀ i, i ≠ j → w' i = W n i) {row : En} (r0 : row 0 = nI st) (r1 : row 1 = nI n) (hs : sm row (w' j)) : RW (os ++ [row]) (va_up W n w') := by
  obtain ⟨ha, hb, hc, hd⟩ := h
  have old : ∀ o ∈ os, o 0 ≠ nI st := fun o o1 z => by
    obtain ⟨⟨q, q1, q2⟩, -⟩ := ho.1 o o1
    have := nI_inj (by omega) (by omega) (q2.symm.trans z)
    omega
  have at_ : ∀ n' j', (va_up W n w') n' j' = if n' = n ∧ j' = j then w' j else W n' j' := fun n' j' => by
    by_cases e : n' = n
    · subst e
      rw [va_up_self]
      by_cases e2 : j' = j
      · rw [if_pos ⟨rfl, e2⟩, e2]
      · rw [if_neg (fun z => e2 z.2), hw j' e2]
    · rw [va_up_off e, if_neg (fun z => e z.1)]
  have w0 : w' j 0 = nI st := hs.1.trans r0
  refine ⟨fun o o1 => ?_, fun n' j' hn' hj' => ?_, fun n1 j1 n2 j2 a1 a2 a3 a4 e1 e2 => ?_, fun n' hn' => ?_⟩
  · rcases List.mem_append.mp o1 with z | z
    · obtain ⟨n', j', q1, q2, q3, q4⟩ := ha o z
      refine ⟨n', j', q1, q2, q3, ?_⟩
      rw [at_, if_neg]
      · exact q4
      · rintro ⟨rfl, rfl⟩
        obtain ⟨⟨q, p1, p2⟩, -⟩ := ho.1 o z
        have := q4.1
        rw [hf, p2] at this
        exact nI_ne_m1 (by omega) this.symm
    · rw [List.mem_singleton.mp z]
      exact ⟨n, j, hn, hj, r1, by rw [at_, if_pos ⟨rfl, rfl⟩]; exact hs⟩
  · rw [at_]
    by_cases c : n' = n ∧ j' = j
    · rw [if_pos c]
      exact Or.inr ⟨row, List.mem_append_right _ (List.mem_singleton.mpr rfl), by rw [c.1]; exact r1, hs⟩
    · rw [if_neg c]
      rcases hb n' j' hn' hj' with q | ⟨o, o1, o2⟩
      · exact Or.inl q
      · exact Or.inr ⟨o, List.mem_append_left _ o1, o2⟩
  · rw [at_, at_] at e1
    rw [at_] at e2
    have ns : ∀ n' j', n' < 4 → j' < 4 → W n' j' 0 ≠ nI st := fun n' j' q1 q2 z => by
      rcases hb n' j' q1 q2 with q | ⟨o, o1, o2, o3⟩
      · rw [q] at z; exact nI_ne_m1 (by omega) z.symm
      · exact old o o1 (o3.1.symm.trans z)
    by_cases c1 : n1 = n ∧ j1 = j
    · rw [if_pos c1] at e1
      by_cases c2 : n2 = n ∧ j2 = j
      · exact ⟨c1.1.trans c2.1.symm, c1.2.trans c2.2.symm⟩
      · rw [if_neg c2, w0] at e1
        exact absurd e1.symm (ns n2 j2 a3 a4)
    · rw [if_neg c1] at e1 e2
      by_cases c2 : n2 = n ∧ j2 = j
      · rw [if_pos c2, w0] at e1
        exact absurd e1 (ns n1 j1 a1 a2)
      · rw [if_neg c2] at e1
        exact hc n1 j1 n2 j2 a1 a2 a3 a4 e1 e2
  · rw [pcn_push, hd n' hn', r1]
    by_cases e : n' = n
    · subst e
      rw [if_pos rfl, va_up_self]
      exact (cntW_up hj (fun i hi => by rw [hw i hi]) (by rw [hf]; decide) (by rw [w0]; exact nI_pos (by omega))).symm
    · rw [va_up_off e, if_neg (fun z => e (nI_inj (by omega) (by omega) z).symm)]
      rfl
theorem OI_push (ho : OI st os) {n : Nat} (hn : n < 4) (hst : st < 999) (hp : pcn os n ≠ 4) {row : En} (r0 : row 0 = nI st) (r1 : row 1 = nI n) : OI (st + 1) (os ++ [row]) := by
  obtain ⟨h1, h2, h3⟩ := ho
  refine ⟨fun o o1 => ?_, ?_, fun n' hn' => ?_⟩
  · rcases List.mem_append.mp o1 with z | z
    · obtain ⟨⟨q, q1, q2⟩, q3⟩ := h1 o z
      exact ⟨⟨q, by omega, q2⟩, q3⟩
    · rw [List.mem_singleton.mp z]
      exact ⟨⟨st, by omega, r0⟩, n, hn, r1⟩
  · rw [List.pairwise_append]
    refine ⟨h2, List.pairwise_singleton _ _, fun a ha b hb => ?_⟩
    rw [List.mem_singleton.mp hb, r0]
    obtain ⟨⟨q, q1, q2⟩, -⟩ := h1 a ha
    rw [q2]
    exact fun z => by have := nI_inj (by omega) (by omega) z; omega
  · rw [pcn_push, r1]
    have := h3 n' hn'
    by_cases e : n' = n
    · subst e
      rw [if_pos rfl]
      omega
    · rw [if_neg (fun z => e (nI_inj (by omega) (by omega) z).symm)]
      omega
theorem RI_push (hr : RI st rc) {n s : Nat} (hn : n < 4) (hs1 : 1 ≤ s) (hs : s ≤ 63) : RI (st + 1) (rem12 rc (nI n, nI s)) := by
  obtain ⟨h1, h2⟩ := hr
  unfold rem12
  by_cases c : rc.length = 12
  · rw [if_pos c]
    refine ⟨by rw [List.length_append, List.length_drop]; show rc.length - 1 + 1 = _; omega, fun p hp => ?_⟩
    rw [List.length_append, List.length_drop] at hp
    have hp : p < rc.length - 1 + 1 := hp
    rw [rcd_app, List.length_drop]
    by_cases e : p < rc.length - 1
    · rw [if_pos e, rcd_drop]
      exact h2 (p + 1) (by omega)
    · rw [if_neg e, if_pos (by omega)]
      exact ⟨⟨n, hn, rfl⟩, s, hs1, hs, rfl⟩
  · rw [if_neg c]
    refine ⟨by rw [List.length_append]; show rc.length + 1 = _; omega, fun p hp => ?_⟩
    rw [List.length_append] at hp
    have hp : p < rc.length + 1 := hp
    rw [rcd_app]
    by_cases e : p < rc.length
    · rw [if_pos e]
      exact h2 p e
    · rw [if_neg e, if_pos (by omega)]
      exact ⟨⟨n, hn, rfl⟩, s, hs1, hs, rfl⟩
theorem RLt_push (h : RLt rc L st) (hr : rc.length = min st 12) {x : Int32 × Int32} : RLt (rem12 rc x) (va_up L (st % 12) x) (st + 1) := by
  intro p hp
  unfold rem12 at hp ⊢
  by_cases c : rc.length = 12
  · rw [if_pos c] at hp ⊢
    rw [List.length_append, List.length_drop] at hp
    have hp : p < rc.length - 1 + 1 := hp
    rw [rcd_app, List.length_append, List.length_drop]
    show va_up L (st % 12) x ((st + 1 - (rc.length - 1 + 1) + p) % 12) = _
    by_cases e : p < rc.length - 1
    · rw [if_pos e, rcd_drop, va_up_off (by omega), ← h (p + 1) (by omega)]
      congr 1
      omega
    · rw [if_neg e, if_pos (by omega), va_up_at (by omega)]
  · rw [if_neg c] at hp ⊢
    rw [List.length_append] at hp
    have hp : p < rc.length + 1 := hp
    rw [rcd_app, List.length_append]
    show va_up L (st % 12) x ((st + 1 - (rc.length + 1) + p) % 12) = _
    by_cases e : p < rc.length
    · rw [if_pos e, va_up_off (by omega), ← h p e]
      congr 1
      omega
    · rw [if_neg e, if_pos (by omega), va_up_at (by omega)]
theorem INV_start (h : INV T N tk rm st g S os rc) {n kn s : Nat} (hn : n < 4) (hkn : kn ≤ N) (hc0 : (S n).1 0 = nI kn) (hs1 : 1 ≤ s) (hs : s ≤ 63) (hst : st < 999) (hp : pcn os n ≠ 4) {r : (Nat → Int32) × List En × (Nat → Int32)} (hu : uAll g (nI st) (nI s) 6 0 (askC N kn (S n).1) (askL g N kn (S n).2) = some r) {row : En} (r0 : row 0 = nI st) (r1 : row 1 = nI n) (r2 : row 2 = nI s) (r4 : ∀ t, t < 6 → bitp (nI s) t → row (4 + t) = r.2.2 t) : INV T N tk rm (st + 1) (va_up g 2 (nI (st + 1))) (va_up S n (r.1, r.2.1)) (os ++ [row]) (rem12 rc (nI n, nI s)) := by
  obtain ⟨⟨g1, ⟨g2, g3, g4⟩, ⟨dl, g5, g6⟩, ⟨g7, g8⟩, ⟨g9, g10⟩, g11⟩, h2, h3, h4⟩ := h
  obtain ⟨t1, t2, t3⟩ := g1
  have h3' := OI_push h3 hn hst hp r0 r1
  refine ⟨⟨⟨t1, by rw [va_up_off (by decide)]; exact t2, fun q hq => ?_⟩, ⟨by rw [va_up_off (by decide)]; exact g2, g3, fun k hk => ?_⟩, ⟨dl, by rw [va_up_off (by decide)]; exact g5, g6⟩, ⟨by rw [va_up_off (by decide)]; exact g7, g8⟩, ⟨va_up_self _ _ _, by omega⟩, fun t ht => by rw [va_up_off (by omega)]; exact g11 t ht⟩, fun n' hn' => ?_, h3', RI_push h4 hn hs1 hs⟩
  · unfold tlg
    rw [va_up_off (by omega)]
    exact t3 q hq
  · rw [va_up_off (by omega)]; exact g4 k hk
  · have hlen := OI_len h3'
    by_cases e : n' = n
    · subst e
      rw [va_up_self]
      obtain ⟨q1, -⟩ := h2 n' hn'
      have hl := HI_lrn (tl := tlg g) (N - kn) kn (S n').2 (fun q q1 q2 => (t3 q (by omega)).1) q1
      have ha := HI_uAll g7 g8 (fun t ht => by obtain ⟨u, u1, u2⟩ := g11 t ht; exact ⟨u, u1, by omega⟩) 6 0 16 _ _ _ r (by omega) (by omega) hl hu
      refine ⟨⟨HIw_g0 (HIw_b (HIw_cf ha.1.1 (fun t v ht => ?_)) (by omega) (fun t v _ => Nat.le_trans pc_le hlen)) (fun t ht => va_up_off (by omega)), ha.1.2⟩, N, Nat.le_refl _, ?_⟩
      · rw [pc_push]
        unfold addc
        congr 1
        by_cases c : 0 ≤ t ∧ t < 0 + 6 ∧ ((nI s >>> (nI t &&& 31)) &&& 1) = 1 ∧ v = r.2.2 t
        · rw [if_pos c, if_pos ⟨r1, by rw [r2]; exact c.2.2.1, by rw [r4 t ht c.2.2.1]; exact c.2.2.2.symm⟩]
        · rw [if_neg c, if_neg (fun z => c ⟨Nat.zero_le _, by omega, by rw [← r2]; exact z.2.1, by rw [← r4 t ht (by unfold bitp; rw [← r2]; exact z.2.1)]; exact z.2.2.symm⟩)]
      · exact ha.2.trans (va_up_self _ _ _)
    · rw [va_up_off e]
      obtain ⟨q1, q2⟩ := h2 n' hn'
      refine ⟨⟨HIw_g0 (HIw_cf q1.1 (fun t v ht => ?_)) (fun t ht => va_up_off (by omega)), q1.2⟩, q2⟩
      rw [pc_push, if_neg (fun z => e (nI_inj (by omega) (by omega) (r1.symm.trans z.1)).symm)]
      rfl
theorem OI_erase (ho : OI st os) {p : Nat} (hp : p < os.length) : OI st (os.eraseIdx p) := by
  obtain ⟨h1, h2, h3⟩ := ho
  refine ⟨fun o o1 => h1 o (List.mem_of_mem_eraseIdx o1), h2.sublist (List.eraseIdx_sublist _ _), fun n hn => ?_⟩
  have := pcn_erase (n := n) hp
  have := h3 n hn
  omega
theorem INV_end (h : INV T N tk rm st g S os rc) {n p : Nat} (hn : n < 4) (hp : p < os.length) (h1' : hd os p 1 = nI n) {w : En} (hs : sm (hd os p) w) : INV T N tk rm st g (va_up S n (va_up (S n).1 3 ((S n).1 3 + nI (shr (g 4) ((S n).2.filterMap (rq w)).length ((S n).2.filterMap (rq w))).2), (shr (g 4) ((S n).2.filterMap (rq w)).length ((S n).2.filterMap (rq w))).1)) (os.eraseIdx p) rc := by
  obtain ⟨gi_, h2, h3, h4⟩ := h
  refine ⟨gi_, fun n' hn' => ?_, OI_erase h3 hp, h4⟩
  by_cases e : n' = n
  · subst e
    rw [va_up_self]
    obtain ⟨q1, kn, q2, q3⟩ := h2 n' hn'
    have hr := HIw_rel (cf' := pc (os.eraseIdx p) n') q1.1 hs (fun t v ht => by
      rw [pc_erase hp]
      congr 1
      by_cases c : ((hd os p 2 >>> (nI t &&& 31)) &&& 1) = 1 ∧ hd os p (4 + t) = v
      · rw [if_pos c, if_pos ⟨h1', c⟩]
      · rw [if_neg c, if_neg (fun z => c z.2)])
    obtain ⟨-, -, -, ⟨g7, g8⟩, -⟩ := gi_
    rw [g7]
    exact ⟨HI_shr hr (by omega), kn, q2, (va_up_off (f := (S n').1) (k := 3) (j := 0) (v := (S n').1 3 + nI (shr (nI rm) ((S n').2.filterMap (rq w)).length ((S n').2.filterMap (rq w))).2) (by decide)).trans q3⟩
  · rw [va_up_off e]
    obtain ⟨q1, q2⟩ := h2 n' hn'
    refine ⟨⟨HIw_cf q1.1 (fun t v ht => ?_), q1.2⟩, q2⟩
    have := pc_erase (n := n') (t := t) (v := v) hp
    rw [if_neg (fun z => e (nI_inj (by omega) (by omega) (h1'.symm.trans z.1)).symm)] at this
    omega
theorem RW_erase (h : RW os W) (ho : OI st os) (hst : st ≤ 999) {n j p : Nat} (hn : n < 4) (hj : j < 4) (hp : p < os.length) (h1 : hd os p 1 = nI n) (h0 : hd os p 0 = W n j 0) : RW (os.eraseIdx p) (va_up W n (va_up (W n) j (va_up (W n j) 0 (-1)))) := by
  obtain ⟨ha, hb, hc, hd'⟩ := h
  have hm := hd_mem hp
  obtain ⟨⟨q0, q1, q2⟩, -⟩ := ho.1 _ hm
  have hne : W n j 0 ≠ -1 := by rw [← h0, q2]; exact nI_ne_m1 (by omega)
  have at_ : ∀ n' j', (va_up W n (va_up (W n) j (va_up (W n j) 0 (-1)))) n' j' = if n' = n ∧ j' = j then va_up (W n j) 0 (-1) else W n' j' := fun n' j' => by
    by_cases e : n' = n
    · subst e
      rw [va_up_self]
      by_cases e2 : j' = j
      · subst e2; rw [if_pos ⟨rfl, rfl⟩, va_up_self]
      · rw [if_neg (fun z => e2 z.2), va_up_off e2]
    · rw [va_up_off e, if_neg (fun z => e z.1)]
  have inj_ : ∀ o ∈ os, o 0 ≠ hd os p 0 → o ∈ os.eraseIdx p := fun o o1 z => by
    obtain ⟨i, i1, rfl⟩ := mem_hd o1
    have hip : i ≠ p := fun q => z (by rw [q])
    by_cases c : i < p
    · have : hd (os.eraseIdx p) i = hd os i := by rw [hd_erase, if_pos c]
      rw [← this]; exact hd_mem (by rw [len_erase hp]; omega)
    · have : hd (os.eraseIdx p) (i - 1) = hd os i := by rw [hd_erase, if_neg (by omega)]; congr 1; omega
      rw [← this]; exact hd_mem (by rw [len_erase hp]; omega)
  have ninj : ∀ o ∈ os.eraseIdx p, o 0 ≠ hd os p 0 := fun o o1 z => by
    obtain ⟨i, i1, rfl⟩ := mem_hd o1
    rw [len_erase hp] at i1
    rw [hd_erase] at z
    by_cases c : i < p
    · rw [if_pos c] at z
      have := OI_at ho (by omega) hp z
      omega
    · rw [if_neg c] at z
      have := OI_at ho (by omega) hp z
      omega
  refine ⟨fun o o1 => ?_, fun n' j' hn' hj' => ?_, fun n1 j1 n2 j2 a1 a2 a3 a4 e1 e2 => ?_, fun n' hn' => ?_⟩
  · obtain ⟨n', j', p1, p2, p3, p4⟩ := ha o (List.mem_of_mem_eraseIdx o1)
    refine ⟨n', j', p1, p2, p3, ?_⟩
    rw [at_, if_neg]
    · exact p4
    · rintro ⟨rfl, rfl⟩
      exact ninj o o1 (p4.1.symm.trans h0.symm)
  · rw [at_]
    by_cases c : n' = n ∧ j' = j
    · rw [if_pos c]
      exact Or.inl (va_up_self _ _ _)
    · rw [if_neg c]
      rcases hb n' j' hn' hj' with q | ⟨o, o1, o2, o3⟩
      · exact Or.inl q
      · refine Or.inr ⟨o, inj_ o o1 (fun z => ?_), o2, o3⟩
        have e : W n' j' 0 = W n j 0 := o3.1.trans (z.trans h0)
        exact c (hc n' j' n j hn' hj' hn hj e (by rw [e]; exact hne))
  · rw [at_, at_] at e1
    rw [at_] at e2
    by_cases c1 : n1 = n ∧ j1 = j
    · rw [if_pos c1, va_up_self] at e2
      exact absurd rfl e2
    · rw [if_neg c1] at e1 e2
      by_cases c2 : n2 = n ∧ j2 = j
      · rw [if_pos c2, va_up_self] at e1
        exact absurd e1 e2
      · rw [if_neg c2] at e1
        exact hc n1 j1 n2 j2 a1 a2 a3 a4 e1 e2
  · have pe := pcn_erase (n := n') hp
    rw [hd' n' hn', h1] at pe
    by_cases e : n' = n
    · subst e
      rw [if_pos rfl] at pe
      rw [va_up_self]
      have := cntW_up (w := va_up (W n') j (va_up (W n' j) 0 (-1))) (w' := W n') hj (fun i hi => by rw [va_up_off hi]) (by rw [va_up_self, va_up_self]; decide) (by rw [← h0, q2]; exact nI_pos (by omega))
      omega
    · rw [va_up_off e]
      rw [if_neg (fun z => e (nI_inj (by omega) (by omega) z).symm)] at pe
      omega
end IW

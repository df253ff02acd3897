/-! the reference: a statement starts, whole; it ends -/
def rem12 (rc : List (Int32 × Int32)) (x : Int32 × Int32) : List (Int32 × Int32) := (if rc.length = 12 then rc.drop 1 else rc) ++ [x]
theorem rcd_app {rc : List (Int32 × Int32)} {x : Int32 × Int32} {p : Nat} : rcd (rc ++ [x]) p = if p < rc.length then rcd rc p else if p = rc.length then x else (0, 0) := by
  unfold rcd
  rw [List.getD_eq_getElem?_getD]
  split
  · next h => rw [List.getElem?_append_left h, List.getD_eq_getElem?_getD]
  · next h =>
    rw [List.getElem?_append_right (by omega)]
    split
    · next e => subst e; rw [Nat.sub_self]; rfl
    · next e =>
      rw [List.getElem?_eq_none (by simp; omega)]
      rfl
theorem rcd_drop {rc : List (Int32 × Int32)} {p : Nat} : rcd (rc.drop 1) p = rcd rc (p + 1) := by
  unfold rcd
  rw [List.getD_eq_getElem?_getD, List.getElem?_drop, List.getD_eq_getElem?_getD, Nat.add_comm 1]
section MA1
variable {sh : Sh} {ma : Nat → Nat} {h : Hp} {f g : Nat → Int32} {S : Nat → Ses} {os : List En} {rc : List (Int32 × Int32)}
theorem MA_rc {f' : Nat → Int32} {rc' : List (Int32 × Int32)} (hm : MA f g S os rc) (ho : ∀ k, k < 598 → f' k = f k) (h1 : f' 598 = nI rc'.length) (h2 : rc'.length ≤ 12) (h3 : ∀ p, p < rc'.length → f' (599 + 2 * p) = (rcd rc' p).1 ∧ f' (600 + 2 * p) = (rcd rc' p).2) : MA f' g S os rc' := by
  obtain ⟨a1, a2, ⟨a3, a4, a5⟩, a6, a7, a8⟩ := hm
  refine ⟨fun j hj => by rw [ho _ (by omega)]; exact a1 j hj, fun m hm => ?_, ⟨by rw [ho _ (by omega)]; exact a3, a4, fun p hp q hq => by rw [ho _ (by omega)]; exact a5 p hp q hq⟩, h1, h2, h3⟩
  obtain ⟨m1, m2, m3, m4⟩ := a2 m hm
  exact ⟨fun q hq => by rw [ho _ (by omega)]; exact m1 q hq, by rw [ho _ (by omega)]; exact m2, m3, fun i hi q hq => by rw [ho _ (by omega)]; exact m4 i hi q hq⟩
/-- the tail: one more is remembered -/
theorem m_rem (X : MX sh ma h) (hm : MA f g S os rc) (hl : rc.length < 12) {x y : Int32} : MA (va_up (va_up (va_up f (599 + 2 * rc.length) x) (600 + 2 * rc.length) y) 598 (nI (rc.length + 1))) g S os (rc ++ [(x, y)]) := by
  obtain ⟨a6, a7, a8⟩ := hm.2.2.2
  refine MA_rc hm (fun k hk => by rw [va_up_off (by omega), va_up_off (by omega), va_up_off (by omega)]) ?_ ?_ (fun p hp => ?_)
  · rw [va_up_self, List.length_append]; rfl
  · rw [List.length_append]; exact hl
  · rw [List.length_append] at hp
    rw [rcd_app]
    by_cases e : p = rc.length
    · subst e
      rw [if_neg (by omega), if_pos rfl]
      refine ⟨?_, ?_⟩
      · rw [va_up_off (by omega), va_up_off (by omega), va_up_self]
      · rw [va_up_off (by omega), va_up_self]
    · have hp2 : p < rc.length := by
        have : p < rc.length + 1 := hp
        omega
      rw [if_pos hp2, va_up_off (by omega), va_up_off (by omega), va_up_off (by omega), va_up_off (by omega), va_up_off (by omega), va_up_off (by omega)]
      exact a8 p hp2
theorem m_remember (X : MX sh ma h) (hm : MA f g S os rc) {x y : Int32} {K : Hp → Prop} (hk : ∀ f', MA f' g S os (rem12 rc (x, y)) → K (hset h (ma 1) f')) : f_X6_remember sh (ma 0) x y (hset h (ma 1) f) K := by
  obtain ⟨a6, a7, a8⟩ := hm.2.2.2
  unfold f_X6_remember
  simp (disch := omega) only [i598, mx_m X, mx_r0 X, mx_t1 X, mx_ld X, a6]
  by_cases c : rc.length = 12
  · rw [if_pos (by rw [c]; rfl)]
    refine lo_ind (fun d s h' => ∃ k f', d + k = 23 ∧ k ≤ 22 ∧ s = nI k ∧ h' = hset h (ma 1) f' ∧ (∀ p, p < k → f' (599 + p) = f (601 + p)) ∧ (∀ p, (p < 599 ∨ 599 + k ≤ p) → f' p = f p)) ?_ ?_ (d := 23) ⟨0, f, by omega, by omega, rfl, rfl, fun p hp => by omega, fun _ _ => rfl⟩
    · rintro s h' ⟨k, f', h1, h2, -⟩
      omega
    · rintro d rec hrec s h' ⟨k, f', h1, h2, rfl, rfl, h3, h4⟩
      unfold b_X6_remember_15
      by_cases hz : k = 22
      · subst hz
        rw [if_pos (by decide)]
        have b6 : f' 598 = nI 12 := by rw [h4 _ (by omega), a6, c]
        simp (disch := omega) only [i1, i2, i598, i599, mx_m X, mx_r0 X, mx_t1 X, mx_ld X, mx_st X, b6, nI_sub, nI_mul, nI_add, va_up_off, va_up_self]
        refine hk _ ?_
        have hm' : MA (va_up f' 598 (nI 11)) g S os (rc.drop 1) := MA_rc hm (fun q hq => by rw [va_up_off (by omega)]; exact h4 q (by omega)) (by rw [va_up_self, List.length_drop, c]) (by rw [List.length_drop, c]; omega) (fun p hp => by
          rw [List.length_drop, c] at hp
          rw [va_up_off (by omega), va_up_off (by omega), rcd_drop]
          have := a8 (p + 1) (by omega)
          have e1 := h3 (2 * p) (by omega)
          have e2 := h3 (2 * p + 1) (by omega)
          rw [show 600 + 2 * p = 599 + (2 * p + 1) by omega, e1, e2]
          rw [show 601 + 2 * p = 599 + 2 * (p + 1) by omega, show 601 + (2 * p + 1) = 600 + 2 * (p + 1) by omega]
          exact this)
        have hr := m_rem (x := x) (y := y) X hm' (by rw [List.length_drop, c]; omega)
        rw [List.length_drop, c] at hr
        unfold rem12
        rw [if_pos c]
        exact hr
      · rw [if_neg (fun z => by rw [show (22 : Int32) = nI 22 from rfl, nI_leI (by omega) (by omega)] at z; omega)]
        have e := h4 (599 + k + 2) (by omega)
        simp (disch := omega) only [i1, i2, i599, mx_m X, mx_r0 X, mx_t1 X, mx_ld X, mx_st X, nI_add, e]
        refine hrec _ _ ⟨k + 1, _, by omega, by omega, rfl, rfl, fun p hp => ?_, fun p hp => by rw [va_up_off (by omega)]; exact h4 p (by omega)⟩
        by_cases ep : p = k
        · subst ep; rw [va_up_self]; congr 1; omega
        · rw [va_up_off (by omega)]; exact h3 p (by omega)
  · rw [if_neg (fun z => c (by
      rw [show (12 : Int32) = nI 12 from rfl, nI_eq (by omega) (by omega)] at z; exact z))]
    simp (disch := omega) only [i1, i2, i598, i599, mx_m X, mx_r0 X, mx_t1 X, mx_ld X, mx_st X, a6, nI_mul, nI_add, va_up_off, va_up_self]
    refine hk _ ?_
    unfold rem12
    rw [if_neg c]
    have hr := m_rem (x := x) (y := y) X hm (by omega)
    rw [show 599 + 2 * rc.length + 1 = 600 + 2 * rc.length by omega]
    exact hr
/-- the counts of a session that asks, and its hand -/
def askC (N kn : Nat) (c : Nat → Int32) : Nat → Int32 := va_up (if N ≤ kn then c else va_up c 4 (c 4 + 1)) 0 (nI N)
def askL (g : Nat → Int32) (N kn : Nat) (l : List En) : List En := lrn (tlg g) (verg g) (N - kn) kn l
theorem MA_push {row : En} (hm : MA f g S os rc) (hl : os.length < 16) (h1 : ∀ k, k < 10 → f (438 + 10 * os.length + k) = row k) : MA (va_up f 437 (nI (os.length + 1))) g S (os ++ [row]) rc := by
  obtain ⟨a1, a2, ⟨a3, a4, a5⟩, a6, a7, a8⟩ := hm
  refine ⟨fun j hj => by rw [va_up_off (by omega)]; exact a1 j hj, fun m hm => ?_, ⟨by rw [va_up_self, List.length_append]; rfl, by rw [List.length_append]; exact hl, fun p hp k hk => ?_⟩, by rw [va_up_off (by omega)]; exact a6, a7, fun p hp => ⟨by rw [va_up_off (by omega)]; exact (a8 p hp).1, by rw [va_up_off (by omega)]; exact (a8 p hp).2⟩⟩
  · obtain ⟨m1, m2, m3, m4⟩ := a2 m hm
    exact ⟨fun q hq => by rw [va_up_off (by omega)]; exact m1 q hq, by rw [va_up_off (by omega)]; exact m2, m3, fun i hi q hq => by rw [va_up_off (by omega)]; exact m4 i hi q hq⟩
  · rw [va_up_off (by omega)]
    unfold hd
    rw [List.getD_eq_getElem?_getD]
    by_cases e : p < os.length
    · rw [List.getElem?_append_left e, ← List.getD_eq_getElem?_getD]
      exact a5 p e k hk
    · have hp2 : p = os.length := by
        have : p < os.length + 1 := by rw [List.length_append] at hp; exact hp
        omega
      subst hp2
      rw [List.getElem?_append_right (Nat.le_refl _), Nat.sub_self]
      exact h1 k hk
theorem lrn_ver {N : Nat} (t3 : ∀ k, k < N → tlg g k < 6 ∧ g (17 + k) = nI (tlg g k)) {v : Nat → Int32} (hv : ∀ t, t < 6 → v t = verg g t) : ∀ (d q : Nat) (l : List En), q + d ≤ N → lrn (tlg g) v d q l = lrn (tlg g) (verg g) d q l := by
  intro d
  induction d with
  | zero => intro q l _; rfl
  | succ d ih =>
    intro q l hq
    unfold lrn
    rw [hv _ (t3 q (by omega)).1]
    exact ih (q + 1) _ (by omega)
theorem m_starts (X : MX sh ma h) (hm : MA f g S os rc) {N n rm st : Nat} (ht : tgood g N) (hn : n < 4) (hs : sgood N S) (hrm : g 4 = nI rm) (hrm8 : 1 ≤ rm ∧ rm ≤ 8) (hst : g 2 = nI st) (hst9 : st ≤ 999) (hos : cntN os (fun o => o 1 = nI n) os.length ≠ 4 → os.length < 16) {kn : Nat} (hkn : kn ≤ N) (hc0 : (S n).1 0 = nI kn) {set : Int32} {K : Int32 → Hp → Prop}
    (k1 : ∀ f', (cntN os (fun o => o 1 = nI n) os.length = 4 ∨ st = 999 ∨ uAll g (nI st) set 6 0 (askC N kn (S n).1) (askL g N kn (S n).2) = none) → K (-3) (hset h (ma 1) f'))
    (k2 : ∀ r f' row, cntN os (fun o => o 1 = nI n) os.length ≠ 4 → st ≠ 999 → uAll g (nI st) set 6 0 (askC N kn (S n).1) (askL g N kn (S n).2) = some r → row 0 = nI st → row 1 = nI n → row 2 = set → row 3 = g 0 → (∀ j, j < 6 → bitp set j → row (4 + j) = r.2.2 j) → MA f' (va_up g 2 (nI (st + 1))) (va_up S n (r.1, r.2.1)) (os ++ [row]) (rem12 rc (nI n, set)) → K (nI st) (hset h (ma 1) f')) :
    f_X6_starts sh (ma 0) (nI n) set (hset h (ma 1) f) K := by
  obtain ⟨t1, t2, t3⟩ := ht
  unfold f_X6_starts
  rw [mx_m X]
  refine m_opensOf X hm ?_
  have hcl : ∀ (l : List En) (p : En → Prop) [DecidablePred p] k, cntN l p k ≤ k := by
    intro l p _ k
    induction k with
    | zero => exact Nat.le_refl _
    | succ k ih => unfold cntN; split <;> omega
  have hcn := hcl os (fun o => o 1 = nI n) os.length
  have ho16 := hm.2.2.1.2.1
  by_cases c4 : cntN os (fun o => o 1 = nI n) os.length = 4
  · rw [if_pos (by rw [c4]; rfl)]
    exact k1 f (Or.inl c4)
  · rw [if_neg (fun z => c4 (by rw [show (4 : Int32) = nI 4 from rfl, nI_eq (by omega) (by omega)] at z; exact z))]
    have b2 := hm.1 2 (by omega)
    rw [hst] at b2
    have b1 := hm.1 1 (by omega)
    rw [t2] at b1
    have b0 := hm.1 0 (by omega)
    have o3 := hm.2.2.1.1
    have hms := hm.2.1 n hn
    have d0 := hms.1 0 (by omega)
    rw [hc0] at d0
    have d4 := hms.1 4 (by omega)
    have e0 : (0 : Int32) = nI 0 := rfl
    by_cases c9 : st = 999
    · have := k1 f (Or.inr (Or.inl c9))
      simp (disch := omega) only [i2, mx_m X, mx_r0 X, mx_t1 X, mx_ld X, b2]
      rw [if_pos (by rw [c9]; rfl)]
      exact this
    · have hlt := hos c4
      rw [e0]
      simp (disch := omega) only [i1, i2, i4, i437, mx_m X, mx_r0 X, mx_t1 X, of_t, mx_ld X, b2, b1, d0, d4, o3, nI_leI]
      rw [if_neg (fun z => c9 (by rw [show (999 : Int32) = nI 999 from rfl, nI_eq (by omega) (by omega)] at z; exact z))]
      -- the learning and all behind it, with the counts c1
      have main : ∀ (c1 : Nat → Int32) (f1 : Nat → Int32), MS f1 n c1 (S n).2 → c1 0 = nI kn → MA f1 g (va_up S n (c1, (S n).2)) os rc → va_up c1 0 (nI N) = askC N kn (S n).1 → f_X6_learn sh (ma 0) (nI n) (nI N) (hset h (ma 1) f1) (fun h39 => lo (b_X6_starts_92 sh (ma 0) (nI n) set (nI st) (nI os.length) (fun h129 => gR h129 (ma 0) 0 fun q130 => f_X6_ofOpen sh (nI os.length) (nI 0) h129 fun r131 h132 => ty sh q130 7 <| sI sh h132 q130 r131 (nI st) fun h134 => gR h134 (ma 0) 0 fun q136 => f_X6_ofOpen sh (nI os.length) (nI 1) h134 fun r137 h138 => ty sh q136 7 <| sI sh h138 q136 r137 (nI n) fun h140 => gR h140 (ma 0) 0 fun q142 => f_X6_ofOpen sh (nI os.length) (nI 2) h140 fun r143 h144 => ty sh q142 7 <| sI sh h144 q142 r143 set fun h146 => gR h146 (ma 0) 0 fun q148 => f_X6_ofOpen sh (nI os.length) (3 : Int32) h146 fun r149 h150 => gR h150 (ma 0) 0 fun q151 => ty sh q151 7 <| lI sh h150 q151 (nI 0) fun v153 => ty sh q148 7 <| sI sh h150 q148 r149 v153 fun h156 => gR h156 (ma 0) 0 fun q158 => ty sh q158 7 <| lI sh h156 q158 (nI 437) fun v160 => sI sh h156 q158 (nI 437) (v160 + nI 1) fun h162 => gR h162 (ma 0) 0 fun q164 => ty sh q164 7 <| lI sh h162 q164 (nI 2) fun v166 => sI sh h162 q164 (nI 2) (v166 + nI 1) fun h168 => f_X6_remember sh (ma 0) (nI n) set h168 fun h171 => K (nI st) h171) K) (nI 0) h39) := by
        intro c1 f1 hms1 hc1 hma1 hask
        refine m_learn X hn hms1 (hs n hn).1 hc1 (by omega) t1 (tl := tlg g) (fun q hq => ⟨(t3 q hq).1, by rw [hma1.1 _ (by omega)]; exact (t3 q hq).2⟩) (fun f2 f3 f4 => ?_)
        rw [lrn_ver t3 (fun t ht => hma1.1 _ (by omega)) _ _ _ (by omega), show kn + (N - kn) = N by omega, hask] at f3
        have f5 := MA_sess hma1 hn f3 f4
        rw [show va_up (va_up S n (c1, (S n).2)) n (askC N kn (S n).1, lrn (tlg g) (verg g) (N - kn) kn (S n).2) = va_up S n (askC N kn (S n).1, askL g N kn (S n).2) from by
          funext j; simp only [va_up]; split <;> rfl] at f5
        refine m_uses X hn hrm hrm8 rfl hlt f5 (fun f' u => k1 f' (Or.inr (Or.inr u))) (fun r f6 u f7 f8 => ?_)
        have o3' := f7.2.2.1.1
        have b0' := f7.1 0 (by omega)
        have b2' := f7.1 2 (by omega)
        rw [hst] at b2'
        simp (disch := omega) only [i3, mx_m X, mx_r0 X, mx_t1 X, ofO_t, mx_ld X, mx_st X, va_up_off, va_up_self, o3', b0', b2', nI_add]
        have m1 := MA_off (v := nI st) f7 (k := 438 + 10 * os.length + 0) (by omega) (by omega)
        have m2 := MA_off (v := nI n) m1 (k := 438 + 10 * os.length + 1) (by omega) (by omega)
        have m3 := MA_off (v := set) m2 (k := 438 + 10 * os.length + 2) (by omega) (by omega)
        have m4 := MA_off (v := g 0) m3 (k := 438 + 10 * os.length + 3) (by omega) (by omega)
        generalize hf9 : va_up (va_up (va_up (va_up f6 (438 + 10 * os.length + 0) (nI st)) (438 + 10 * os.length + 1) (nI n)) (438 + 10 * os.length + 2) set) (438 + 10 * os.length + 3) (g 0) = f9 at m4 ⊢
        have m5 := MA_push (row := fun k => f9 (438 + 10 * os.length + k)) m4 hlt (fun k _ => rfl)
        have m6 := MA_g (v := nI (st + 1)) m5 (k := 2) (by omega)
        refine m_remember X m6 (fun f10 m7 => ?_)
        refine k2 r f10 _ c4 c9 u ?_ ?_ ?_ ?_ (fun j hj hb => ?_) m7
        · rw [← hf9]; simp (disch := omega) only [va_up_off, va_up_self]
        · rw [← hf9]; simp (disch := omega) only [va_up_off, va_up_self]
        · rw [← hf9]; simp (disch := omega) only [va_up_off, va_up_self]
        · rw [← hf9]; simp (disch := omega) only [va_up_off, va_up_self]
        · rw [← f8 j hj hb, ← hf9]
          rw [show 438 + 10 * os.length + (4 + j) = 438 + 10 * os.length + 4 + j by omega]
          simp (disch := omega) only [va_up_off]
      by_cases cle : N ≤ kn
      · rw [if_pos cle]
        simp (disch := omega) only [mx_m X, mx_r0 X, mx_t1 X, mx_ld X, mx_st X, va_up_off, b1, Int32.add_zero]
        have e4 : va_up f (217 + 55 * n + 4) ((S n).1 4 + nI 0) = f := va_up_id (by rw [d4, nI_0, Int32.add_zero])
        rw [e4]
        refine main (S n).1 f hms hc0 (by rw [show ((S n).1, (S n).2) = S n from rfl, va_up_id rfl]; exact hm) ?_
        unfold askC
        rw [if_pos cle]
      · rw [if_neg cle]
        simp (disch := omega) only [mx_m X, mx_r0 X, mx_t1 X, mx_ld X, mx_st X, va_up_off, b1]
        have q1 := MS_c (v := (S n).1 4 + nI 1) hms (k := 4) (by omega)
        refine main _ _ q1 (by rw [va_up_off (by decide)]; exact hc0) (MA_sess hm hn q1 (Out_set (by omega) (by omega))) ?_
        unfold askC
        rw [if_neg cle]
        rfl
end MA1

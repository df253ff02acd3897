/-! the reference: ticks, changes -/
theorem come1_g0 {g : Nat → Int32} {i : Nat} {s : Ses} {v : Int32} : come1 (va_up g 0 v) i s = come1 g i s := by
  unfold come1
  have e1 : tlg (va_up g 0 v) = tlg g := by funext k; unfold tlg; rw [va_up_off (by omega)]
  have e2 : verg (va_up g 0 v) = verg g := by funext k; unfold verg; rw [va_up_off (by omega)]
  rw [e1, e2]
theorem comeN_g0 {g : Nat → Int32} {i k : Nat} {S : Nat → Ses} {v : Int32} : comeN (va_up g 0 v) i S k = comeN g i S k := by
  unfold comeN
  funext n
  rw [come1_g0]
theorem atS_g0 {g : Nat → Int32} {a v : Int32} : ∀ (d k : Nat) (S : Nat → Ses), atS (va_up g 0 v) a d k S = atS g a d k S := by
  intro d
  induction d with
  | zero => intro k S; rfl
  | succ d ih =>
    intro k S
    unfold atS
    rw [va_up_off (by omega), comeN_g0, ih, ih]
/-- so many ticks from tick tk on -/
def tkS (g : Nat → Int32) (N : Nat) : Nat → Nat → (Nat → Ses) → (Nat → Ses) × Nat
  | 0, _, S => (S, 0)
  | d + 1, tk, S => ((tkS g N d (tk + 1) (atS g (nI (tk + 1)) N 0 S).1).1, (atS g (nI (tk + 1)) N 0 S).2 + (tkS g N d (tk + 1) (atS g (nI (tk + 1)) N 0 S).1).2)
theorem tkS_good {g : Nat → Int32} {N : Nat} (hN : N ≤ 100) : ∀ (d tk : Nat) (S : Nat → Ses), sgood N S → sgood N (tkS g N d tk S).1 := by
  intro d
  induction d with
  | zero => intro _ _ h; exact h
  | succ d ih => intro tk S h; exact ih _ _ (atS_good hN _ N 0 S (by omega) h)
section M8
variable {sh : Sh} {ma : Nat → Nat} {h : Hp} {f g : Nat → Int32} {S : Nat → Ses} {os : List En} {rc : List (Int32 × Int32)}
theorem m_ticks (X : MX sh ma h) (hm : MA f g S os rc) {N : Nat} (ht : tgood g N) (hs : sgood N S) {tk w : Nat} (h0 : g 0 = nI tk) (hw : w ≤ 99) {K : Int32 → Hp → Prop} (hk : ∀ f', MA f' (va_up g 0 (nI (tk + w))) (tkS g N w tk S).1 os rc → K (nI (4 * (tkS g N w tk S).2)) (hset h (ma 1) f')) : f_X6_ticks sh (ma 0) (nI w) (hset h (ma 1) f) K := by
  unfold f_X6_ticks
  refine lo_ind (fun d s h' => ∃ k m f' S', k + d = w + 1 ∧ k ≤ w ∧ s = (nI (4 * m), nI k) ∧ h' = hset h (ma 1) f' ∧ MA f' (va_up g 0 (nI (tk + k))) S' os rc ∧ sgood N S' ∧ (∀ f2, MA f2 (va_up g 0 (nI (tk + w))) (tkS g N (w - k) (tk + k) S').1 os rc → K (nI (4 * (m + (tkS g N (w - k) (tk + k) S').2))) (hset h (ma 1) f2))) ?_ ?_ (d := w + 1) ⟨0, 0, f, S, by omega, by omega, rfl, rfl, by rw [Nat.add_zero, va_up_id h0]; exact hm, hs, fun f2 h2 => by rw [Nat.zero_add]; exact hk f2 h2⟩
  · rintro s h' ⟨k, m, f', S', h1, h2, -⟩
    omega
  · rintro d rec hrec s h' ⟨k, m, f', S', h1, h2, rfl, rfl, h3, h4, h5⟩
    have b0 := h3.1 0 (by omega)
    rw [va_up_self] at b0
    have e0 : (0 : Int32) = nI 0 := rfl
    unfold b_X6_ticks_4
    by_cases hz : k = w
    · rw [if_pos (nI_le (by omega) (by omega))]
      subst hz
      rw [Nat.sub_self] at h5
      exact h5 f' h3
    · rw [if_neg (fun z => by rw [nI_leI (by omega) (by omega)] at z; omega), e0]
      simp (disch := omega) only [i1, mx_m X, mx_r0 X, mx_t1 X, mx_ld X, mx_st X]
      rw [b0, nI_add (tk + k) 1]
      have h3' := MA_g (v := nI (tk + k + 1)) h3 (k := 0) (by omega)
      have eg : va_up (va_up g 0 (nI (tk + k))) 0 (nI (tk + k + 1)) = va_up g 0 (nI (tk + k + 1)) := by
        funext j; simp only [va_up]; split <;> rfl
      rw [eg] at h3'
      obtain ⟨t1, t2, t3⟩ := ht
      have ht' : tgood (va_up g 0 (nI (tk + k + 1))) N := ⟨t1, by rw [va_up_off (by decide)]; exact t2, fun q hq => by
        unfold tlg
        rw [va_up_off (by omega)]
        exact t3 q hq⟩
      obtain ⟨d', hd'⟩ : ∃ d', w - k = d' + 1 := ⟨w - k - 1, by omega⟩
      rw [hd'] at h5
      refine m_ticks22 X h3' ht' h4 (fun f2 f3 => ?_)
      rw [va_up_self, atS_g0] at f3 ⊢
      rw [nI_add, nI_add]
      refine hrec _ _ ⟨k + 1, m + (atS g (nI (tk + k + 1)) N 0 S').2, f2, _, by omega, by omega, by rw [Nat.mul_add], rfl, by rw [← Nat.add_assoc]; exact f3, atS_good t1 _ N 0 S' (by omega) h4, fun f5 f6 => ?_⟩
      rw [show w - (k + 1) = d' by omega, ← Nat.add_assoc] at f6
      have := h5 f5 f6
      rw [show w - (k + 1) = d' by omega, ← Nat.add_assoc, Nat.add_assoc m]
      exact this
theorem in_t {a b : Nat} {x : Int32} {h : Hp} (ha : a < 2 ^ 31) (hb : b < 2 ^ 31) {K : Int32 → Hp → Prop} (h1 : ∀ k, a ≤ k → k ≤ b → x = nI k → K 1 h) (h2 : (∀ k, a ≤ k → k ≤ b → x ≠ nI k) → (x < nI a ∨ nI b < x) → K 0 h) : f_X6_in sh x (nI a) (nI b) h K := by
  unfold f_X6_in
  by_cases c1 : x < nI a
  · rw [if_pos c1]
    refine h2 (fun k k1 k2 e => ?_) (Or.inl c1)
    rw [e, nI_ltI (by omega) ha] at c1
    omega
  · rw [if_neg c1]
    by_cases c2 : nI b < x
    · rw [if_pos c2]
      refine h2 (fun k k1 k2 e => ?_) (Or.inr c2)
      rw [e, nI_ltI hb (by omega)] at c2
      omega
    · rw [if_neg c2]
      have z : ¬ x < 0 := fun z => c1 (by
        rw [Int32.lt_iff_toInt_lt] at z ⊢
        rw [nI_toInt ha]
        have : (0 : Int32).toInt = 0 := rfl
        omega)
      obtain ⟨j, j1, j2⟩ := nI_of z
      subst j2
      rw [nI_ltI j1 ha] at c1
      rw [nI_ltI hb j1] at c2
      exact h1 j (by omega) (by omega) rfl
/-- a change of a table: what is wrong with it -/
theorem m_alterFault (X : MX sh ma h) (hm : MA f g S os rc) (hnn : ∀ o ∈ os, ∃ q, q < 2 ^ 31 ∧ o 0 = nI q) {x y : Int32} {K : Int32 → Hp → Prop}
    (k1 : (∀ t, t < 6 → x ≠ nI t) ∨ (∀ j, j < 8 → y ≠ nI j) → K (-1) (hset h (ma 1) f))
    (k2 : ∀ t, t < 6 → x = nI t → ∀ j, j < 8 → y = nI j → ((∃ o ∈ os, bitp (o 2) t ∧ ¬ g (5 + t) ≤ o (4 + t)) ∨ g (11 + t) = (1 : Int32) <<< (nI j &&& 31)) → K (-2) (hset h (ma 1) f))
    (k3 : ∀ t, t < 6 → x = nI t → ∀ j, j < 8 → y = nI j → (∀ o ∈ os, ¬ (bitp (o 2) t ∧ ¬ g (5 + t) ≤ o (4 + t))) → g (11 + t) ≠ (1 : Int32) <<< (nI j &&& 31) → K (if g 1 = nI 100 then -3 else 0) (hset h (ma 1) f)) : f_X6_alterFault sh (ma 0) x y (hset h (ma 1) f) K := by
  unfold f_X6_alterFault f_X6_isTable
  refine in_t (a := 0) (b := 5) (by omega) (by omega) (fun t t1 t2 e => ?_) (fun z _ => ?_)
  · subst e
    refine ⟨Or.inr rfl, ?_⟩
    refine if_n (by decide) ?_
    refine in_t (a := 0) (b := 7) (by omega) (by omega) (fun j j1 j2 e => ?_) (fun z _ => ?_)
    · subst e
      refine if_n (by decide) ?_
      rw [mx_m X]
      refine m_inWay X hm (by omega) (fun o ho e => ?_) (fun r hr => ?_)
      · obtain ⟨q, q1, q2⟩ := hnn o ho
        rw [q2] at e
        exact absurd e (fun e => by
          have := congrArg Int32.toInt e
          rw [nI_toInt q1] at this
          have h4 : (-4 : Int32).toInt = -4 := by decide
          omega)
      · by_cases c : r = -4
        · rw [if_pos c]
          have none : ∀ o ∈ os, ¬ (bitp (o 2) t ∧ ¬ g (5 + t) ≤ o (4 + t)) := by
            rcases hr with ⟨-, h2⟩ | ⟨⟨o1, a1, a2, a3⟩, h2⟩
            · exact h2
            · exfalso
              obtain ⟨q, q1, q2⟩ := hnn o1 a1
              have e : nI q = -4 := q2.symm.trans (a3.trans c)
              have := congrArg Int32.toInt e
              rw [nI_toInt q1] at this
              have h4 : (-4 : Int32).toInt = -4 := by decide
              omega
          have b11 := hm.1 (11 + t) (by omega)
          have b1 := hm.1 1 (by omega)
          simp (disch := omega) only [i1, i11, i100, mx_m X, mx_r0 X, mx_t1 X, mx_ld X, nI_add, b11, b1]
          by_cases c2 : g (11 + t) = nI 1 <<< (nI j &&& 31)
          · rw [if_pos c2]
            exact k2 t (by omega) rfl j (by omega) rfl (Or.inr c2)
          · rw [if_neg c2]
            have := k3 t (by omega) rfl j (by omega) rfl none c2
            by_cases c3 : g 1 = nI 100
            · rw [if_pos c3] at this ⊢
              exact this
            · rw [if_neg c3] at this ⊢
              exact this
        · rw [if_neg c]
          refine k2 t (by omega) rfl j (by omega) rfl (Or.inl ?_)
          rcases hr with ⟨h1, -⟩ | ⟨⟨o1, a1, a2, a3⟩, h2⟩
          · exact absurd h1 c
          · exact ⟨o1, a1, a2⟩
    · refine if_y rfl ?_
      exact k1 (Or.inr (fun j hj => z j (by omega) (by omega)))
  · refine ⟨Or.inl rfl, ?_⟩
    refine if_y rfl ?_
    exact k1 (Or.inl (fun t ht => z t (by omega) (by omega)))
/-- the globals behind a change -/
def altG (g : Nat → Int32) (t j N : Nat) : Nat → Int32 :=
  va_up (va_up (va_up (va_up (va_up g (11 + t) (g (11 + t) ^^^ ((1 : Int32) <<< (nI j &&& 31)))) (5 + t) (g (5 + t) + 1)) (17 + N) (nI t)) (117 + N) (g 0 + g 3)) 1 (nI (N + 1))
theorem m_alters (X : MX sh ma h) (hm : MA f g S os rc) {N t j : Nat} (ht : tgood g N) (hN : N < 100) (hs : sgood N S) (ht6 : t < 6) {K : Int32 → Hp → Prop} (hk : ∀ f', MA f' (altG g t j N) (if g 3 = 0 then comeN (altG g t j N) N S 4 else S) os rc → K (g (5 + t) + 1) (hset h (ma 1) f')) : f_X6_alters sh (ma 0) (nI t) (nI j) (hset h (ma 1) f) K := by
  obtain ⟨t1, t2, t3⟩ := ht
  have e0 : (0 : Int32) = nI 0 := rfl
  have b1 := hm.1 1 (by omega)
  rw [t2] at b1
  have b0 := hm.1 0 (by omega)
  have b3 := hm.1 3 (by omega)
  have b5 := hm.1 (5 + t) (by omega)
  have b11 := hm.1 (11 + t) (by omega)
  have hm1 := MA_g (v := g (11 + t) ^^^ ((1 : Int32) <<< (nI j &&& 31))) hm (k := 11 + t) (by omega)
  have hm2 := MA_g (v := g (5 + t) + 1) hm1 (k := 5 + t) (by omega)
  have hm3 := MA_g (v := nI t) hm2 (k := 17 + N) (by omega)
  have hm4 := MA_g (v := g 0 + g 3) hm3 (k := 117 + N) (by omega)
  have hm5 := MA_g (v := nI (N + 1)) hm4 (k := 1) (by omega)
  have tl : tlg (altG g t j N) N = t := by
    unfold tlg altG
    simp (disch := omega) only [va_up_off, va_up_self, nI_clamp]
  have htg : tgood (altG g t j N) (N + 1) := by
    refine ⟨by omega, va_up_self _ _ _, fun k hk => ?_⟩
    by_cases e : k = N
    · subst e
      rw [tl]
      refine ⟨ht6, ?_⟩
      unfold altG
      simp (disch := omega) only [va_up_off, va_up_self]
    · have ek : altG g t j N (17 + k) = g (17 + k) := by
        unfold altG
        simp (disch := omega) only [va_up_off]
      unfold tlg
      rw [ek]
      exact t3 k (by omega)
  unfold f_X6_alters
  rw [e0]
  simp (disch := omega) only [i1, i3, i5, i11, i17, i117, mx_m X, mx_r0 X, mx_t1 X, mx_ld X, mx_st X, nI_add, b1, b0, b3, b5, b11, va_up_off, va_up_self]
  by_cases c : g 3 = 0
  · rw [if_pos (by exact c), nI_sub (by omega), Nat.add_sub_cancel]
    rw [if_pos c] at hk
    refine m_come X hm5 (N := N + 1) htg (fun n hn => ?_) (by omega) (fun f' f1 => ?_)
    · obtain ⟨q1, q2, q3, q4⟩ := hs n hn
      exact ⟨q1, q2, by omega, q4⟩
    · have e5 := f1.1 (5 + t) (by omega)
      simp (disch := omega) only [i1, i3, i5, i11, i17, i117, mx_m X, mx_r0 X, mx_t1 X, mx_ld X, mx_st X, nI_add, e5, va_up_off, va_up_self]
      exact hk f' f1
  · rw [if_neg (by exact c)]
    rw [if_neg c] at hk
    exact hk _ hm5
end M8

/-! what a start brings: the entries that it uses, the counts -/
def FR (g : Nat → Int32) (l : List En) : Prop := ∀ e ∈ l, e 5 = 0 → ∀ t, t < 6 → e 0 = nI t → e 1 = g (5 + t)
def LU (g : Nat → Int32) (st : Nat) (set : Int32) (k : Nat) (l : List En) : Prop := ∀ e ∈ l, ((∃ q, q < st ∧ e 4 = nI q) ∧ ∀ t, t < k → bitp set t → ¬ (e 0 = nI t ∧ e 1 = g (5 + t))) ∨ (e 4 = nI st ∧ ∃ t, t < k ∧ t < 6 ∧ bitp set t ∧ e 0 = nI t ∧ e 1 = g (5 + t))
def SHP (g : Nat → Int32) (l : List En) : Prop := ∀ e ∈ l, ∀ t, t < 6 → e 0 = nI t → e 1 = g (5 + t) → e 2 = g (11 + t)
def bitsN (set : Int32) : Nat → Nat → Nat
  | 0, _ => 0
  | d + 1, k => (if ((set >>> (nI k &&& 31)) &&& 1) = 1 then 1 else 0) + bitsN set d (k + 1)
section PU
variable {b rm st k : Nat} {g : Nat → Int32} {cf : Nat → Int32 → Nat} {l : List En} {set : Int32}
theorem LU_skip (h : LU g st set k l) (hb : ¬ bitp set k) : LU g st set (k + 1) l := fun e he => by
  rcases h e he with ⟨h1, h2⟩ | ⟨h1, t, h2, h3⟩
  · refine Or.inl ⟨h1, fun t ht hbt => ?_⟩
    by_cases c : t = k
    · subst c; exact absurd hbt hb
    · exact h2 t (by omega) hbt
  · exact Or.inr ⟨h1, t, by omega, h3⟩
theorem u1_x (h : HI b g rm cf l) (hk : k < 6) (hb : bitp set k) (hf : FR g l) (hl : LU g st set k l) (hs : SHP g l) {c : Nat → Int32} {r : (Nat → Int32) × List En × Int32} (he : u1 (nI rm) (nI st) (nI k) (g (5 + k)) (g (11 + k)) c l = some r) : FR g r.2.1 ∧ LU g st set (k + 1) r.2.1 ∧ SHP g r.2.1 ∧ r.2.2 = g (5 + k) ∧ ((r.1 1 = c 1 + 1 ∧ r.1 2 = c 2) ∨ (r.1 1 = c 1 ∧ r.1 2 = c 2 + 1)) := by
  have h8 := h.1.2.2.2.2.1
  unfold u1 at he
  rcases lastN_lt (fun e => e 0 = nI k ∧ e 5 = 0) l l.length with z | ⟨j, j1, j2, j3⟩
  · have hz : lastI (fun e => e 0 = nI k ∧ e 5 = 0) l = -1 := z
    rw [hz] at he
    rw [if_neg (by decide)] at he
    have none_ := lastI_none (p := fun e => e 0 = nI k ∧ e 5 = 0) (by omega) hz
    split at he
    · cases he
      have hins := insN_le (nI k) (shr (nI rm - 1) l.length l).1 (shr (nI rm - 1) l.length l).1.length
      have mem : ∀ e ∈ (shr (nI rm - 1) l.length l).1.insertIdx (insN (nI k) (shr (nI rm - 1) l.length l).1 (shr (nI rm - 1) l.length l).1.length) (newE (nI k) (g (5 + k)) (g (11 + k)) (nI st)), e = newE (nI k) (g (5 + k)) (g (11 + k)) (nI st) ∨ e ∈ l := fun e he => by
        rcases mem_ins hins he with q | q
        · exact Or.inl q
        · exact Or.inr (shr_mem _ _ e q)
      refine ⟨fun e he e5 t ht e0 => ?_, fun e he => ?_, fun e he t ht e0 e1 => ?_, rfl, Or.inr ⟨?_, ?_⟩⟩
      · rcases mem e he with q | q
        · subst q
          have : t = k := nI_inj (by omega) (by omega) (e0.symm.trans newE_0)
          subst this
          exact newE_1
        · exact hf e q e5 t ht e0
      · rcases mem e he with q | q
        · subst q
          exact Or.inr ⟨rfl, k, by omega, hk, hb, newE_0, newE_1⟩
        · rcases hl e q with ⟨w1, w2⟩ | ⟨w1, t, w2, w3⟩
          · refine Or.inl ⟨w1, fun t ht hbt => ?_⟩
            by_cases et : t = k
            · subst et
              rintro ⟨y0, y1⟩
              obtain ⟨t', v, u, u1, u2, u3, u4, u5, u6, u7, -⟩ := h.1.1 e q
              have et' : t' = t := nI_inj (by omega) (by omega) (u2.symm.trans y0)
              subst et'
              rcases u7 with y5 | ⟨y5, y6⟩
              · exact none_ e q ⟨y0, y5⟩
              · rw [u3, u4] at y1
                have := nI_inj (by omega) (by omega) y1
                omega
            · exact w2 t (by omega) hbt
          · exact Or.inr ⟨w1, t, by omega, w3⟩
      · rcases mem e he with q | q
        · subst q
          have : t = k := nI_inj (by omega) (by omega) (e0.symm.trans newE_0)
          subst this
          rfl
        · exact hs e q t ht e0 e1
      · show va_up (va_up c 3 (c 3 + nI (shr (nI rm - 1) l.length l).2)) 2 (c 2 + 1) 1 = _
        rw [va_up_off (by decide), va_up_off (by decide)]
      · show va_up (va_up c 3 (c 3 + nI (shr (nI rm - 1) l.length l).2)) 2 (c 2 + 1) 2 = _
        rw [va_up_self]
    · cases he
  · have hz : lastI (fun e => e 0 = nI k ∧ e 5 = 0) l = nI j := j2
    rw [hz, if_pos (nI_pos' (by omega)), nI_clamp (by omega)] at he
    cases he
    have mem : ∀ e ∈ l.set j (va_up (va_up (hd l j) 3 (hd l j 3 + 1)) 4 (nI st)), e = va_up (va_up (hd l j) 3 (hd l j 3 + 1)) 4 (nI st) ∨ ∃ i, i < l.length ∧ i ≠ j ∧ e = hd l i := fun e he => mem_set j1 he
    have f : ∀ q, q ≠ 3 → q ≠ 4 → va_up (va_up (hd l j) 3 (hd l j 3 + 1)) 4 (nI st) q = hd l j q := fun q q1 q2 => by rw [va_up_off q2, va_up_off q1]
    have hj1 : hd l j 1 = g (5 + k) := hf _ (hd_mem j1) j3.2 k hk j3.1
    refine ⟨fun e he e5 t ht e0 => ?_, fun e he => ?_, fun e he t ht e0 e1 => ?_, hj1, Or.inl ⟨va_up_self c 1 (c 1 + 1), va_up_off (f := c) (k := 1) (j := 2) (v := c 1 + 1) (by decide)⟩⟩
    · rcases mem e he with q | ⟨i, i1, i2, q⟩
      · subst q
        rw [f 0 (by decide) (by decide)] at e0
        rw [f 5 (by decide) (by decide)] at e5
        rw [f 1 (by decide) (by decide)]
        exact hf _ (hd_mem j1) e5 t ht e0
      · subst q
        exact hf _ (hd_mem i1) e5 t ht e0
    · rcases mem e he with q | ⟨i, i1, i2, q⟩
      · subst q
        exact Or.inr ⟨va_up_self _ _ _, k, by omega, hk, hb, by rw [f 0 (by decide) (by decide)]; exact j3.1, by rw [f 1 (by decide) (by decide)]; exact hj1⟩
      · subst q
        rcases hl _ (hd_mem i1) with ⟨w1, w2⟩ | ⟨w1, t, w2, w3⟩
        · refine Or.inl ⟨w1, fun t ht hbt => ?_⟩
          by_cases et : t = k
          · subst et
            rintro ⟨y0, y1⟩
            exact i2 (HIw_uniq h.1 i1 j1 (y0.trans j3.1.symm) (y1.trans hj1.symm))
          · exact w2 t (by omega) hbt
        · exact Or.inr ⟨w1, t, by omega, w3⟩
    · rcases mem e he with q | ⟨i, i1, i2, q⟩
      · subst q
        rw [f 0 (by decide) (by decide)] at e0
        rw [f 1 (by decide) (by decide)] at e1
        rw [f 2 (by decide) (by decide)]
        exact hs _ (hd_mem j1) t ht e0 e1
      · subst q
        exact hs _ (hd_mem i1) t ht e0 e1
theorem uAll_x (hg4 : g 4 = nI rm) (hrm : 1 ≤ rm ∧ rm ≤ 8) (hver : ∀ t, t < 6 → ∃ u, g (5 + t) = nI u ∧ u ≤ 100) : ∀ (d k b : Nat) (cf : Nat → Int32 → Nat) (c : Nat → Int32) (l : List En) (r : (Nat → Int32) × List En × (Nat → Int32)), k + d = 6 → b + d ≤ 1000 → HI b g rm cf l → FR g l → LU g st set k l → SHP g l → uAll g (nI st) set d k c l = some r →
    FR g r.2.1 ∧ LU g st set 6 r.2.1 ∧ SHP g r.2.1 ∧ (∀ t, k ≤ t → t < 6 → bitp set t → r.2.2 t = g (5 + t)) ∧ ∃ x y, r.1 1 = c 1 + nI x ∧ r.1 2 = c 2 + nI y ∧ x + y = bitsN set d k := by
  intro d
  induction d with
  | zero =>
    intro k b cf c l r hk hb h hf hl hs he
    unfold uAll at he
    cases he
    have : k = 6 := by omega
    subst this
    exact ⟨hf, hl, hs, fun t h1 h2 => by omega, 0, 0, by rw [nI_0, Int32.add_zero], by rw [nI_0, Int32.add_zero], rfl⟩
  | succ d ih =>
    intro k b cf c l r hk hb h hf hl hs he
    unfold uAll at he
    unfold bitsN
    by_cases hbit : ((set >>> (nI k &&& 31)) &&& 1) = 1
    · rw [if_pos hbit] at he ⊢
      obtain ⟨u, u1', u2⟩ := hver k (by omega)
      split at he
      · cases he
      · next r1 e1 =>
        split at he
        · cases he
        · next q e2 =>
          cases he
          rw [hg4] at e1
          have h1 := HI_u1 h (by omega) hrm (by omega) u1' u2 e1
          obtain ⟨x1, x2, x3, x4, x5⟩ := u1_x h (by omega) hbit hf hl hs e1
          obtain ⟨y1, y2, y3, y4, x, y, y5, y6, y7⟩ := ih (k + 1) (b + 1) _ _ _ q (by omega) (by omega) h1.1 x1 x2 x3 e2
          refine ⟨y1, y2, y3, fun t t1 t2 t3 => ?_, ?_⟩
          · by_cases et : t = k
            · subst et
              show va_up q.2.2 t r1.2.2 t = _
              rw [va_up_self]; exact x4
            · show va_up q.2.2 k r1.2.2 t = _
              rw [va_up_off et]
              exact y4 t (by omega) t2 t3
          · rcases x5 with ⟨z1, z2⟩ | ⟨z1, z2⟩
            · refine ⟨x + 1, y, ?_, by rw [y6, z2], by omega⟩
              rw [y5, z1, Int32.add_assoc, show (1 : Int32) = nI 1 from rfl, nI_add, Nat.add_comm 1]
            · refine ⟨x, y + 1, by rw [y5, z1], ?_, by omega⟩
              rw [y6, z2, Int32.add_assoc, show (1 : Int32) = nI 1 from rfl, nI_add, Nat.add_comm 1]
    · rw [if_neg hbit] at he ⊢
      obtain ⟨y1, y2, y3, y4, x, y, y5, y6, y7⟩ := ih (k + 1) b cf c l r (by omega) (by omega) h hf (LU_skip hl hbit) hs he
      refine ⟨y1, y2, y3, fun t t1 t2 t3 => ?_, x, y, y5, y6, by omega⟩
      by_cases et : t = k
      · subst et; exact absurd t3 hbit
      · exact y4 t (by omega) t2 t3
end PU
section PV
variable {T N tk rm st kn n s : Nat} {g : Nat → Int32} {S : Nat → Ses} {os : List En} {rc : List (Int32 × Int32)}
theorem start_x (hI : INV T N tk rm st g S os rc) (hx : EX g N st S os) (hn : n < 4) (hkn : kn ≤ N) (hc0 : (S n).1 0 = nI kn) {r : (Nat → Int32) × List En × (Nat → Int32)} (hu : uAll g (nI st) (nI s) 6 0 (askC N kn (S n).1) (askL g N kn (S n).2) = some r) :
    FR g r.2.1 ∧ LU g st (nI s) 6 r.2.1 ∧ SHP g r.2.1 ∧ (∀ t, t < 6 → bitp (nI s) t → r.2.2 t = g (5 + t)) ∧ (∃ x y, r.1 1 = (S n).1 1 + nI x ∧ r.1 2 = (S n).1 2 + nI y ∧ x + y = bitsN (nI s) 6 0) ∧ r.1 0 = nI N := by
  obtain ⟨⟨⟨t1, t2, t3⟩, ⟨g2, g3, g4⟩, -, ⟨g7, g8⟩, ⟨g9, g10⟩, g11⟩, h2, h3, h4⟩ := hI
  obtain ⟨q1, -⟩ := h2 n hn
  have hver : ∀ t, t < 6 → ∃ u, g (5 + t) = nI u ∧ u ≤ 100 := fun t ht => by obtain ⟨u, u1, u2⟩ := g11 t ht; exact ⟨u, u1, by omega⟩
  have hl := HI_lrn (tl := tlg g) (N - kn) kn (S n).2 (fun q q1 q2 => (t3 q (by omega)).1) q1
  have xs : XS g N st (va_up (S n).1 0 (nI N), askL g N kn (S n).2) := XS_lrn (hx.1 n hn) (HIw_HU q1.1) hc0 (by omega) (i := N) (by omega) (va_up_self (S n).1 0 (nI N)) rfl
  have f0 : FR g (askL g N kn (S n).2) := fun e he e5 t ht e0 => by
    rcases ((xs e he).2 t ht e0).2 e5 with z | ⟨k, k1, k2, -⟩
    · exact z
    · exfalso
      have : ((va_up (S n).1 0 (nI N) 0)).toNatClampNeg ≤ k := k1
      rw [va_up_self, nI_clamp (by omega)] at this
      omega
  have l0 : LU g st (nI s) 0 (askL g N kn (S n).2) := fun e he => Or.inl ⟨(xs e he).1, fun t ht => absurd ht (Nat.not_lt_zero t)⟩
  have s0 : SHP g (askL g N kn (S n).2) := fun e he t ht e0 e1 => ((xs e he).2 t ht e0).1 e1
  have ac : ∀ k, k ≠ 0 → k ≠ 4 → askC N kn (S n).1 k = (S n).1 k := fun k k0 k4 => by
    unfold askC
    rw [va_up_off k0]
    split
    · rfl
    · rw [va_up_off k4]
  obtain ⟨y1, y2, y3, y4, x, y, y5, y6, y7⟩ := uAll_x (st := st) (set := nI s) g7 g8 hver 6 0 16 _ _ _ r (by omega) (by omega) hl f0 l0 s0 hu
  have ha := HI_uAll g7 g8 hver 6 0 16 _ _ _ r (by omega) (by omega) hl hu
  refine ⟨y1, y2, y3, fun t ht hb => y4 t (Nat.zero_le _) ht hb, ⟨x, y, by rw [y5, ac 1 (by decide) (by decide)], by rw [y6, ac 2 (by decide) (by decide)], y7⟩, ?_⟩
  rw [ha.2]
  unfold askC
  rw [va_up_self]
theorem EX_start (hI : INV T N tk rm st g S os rc) (hx : EX g N st S os) (hn : n < 4) (hkn : kn ≤ N) (hc0 : (S n).1 0 = nI kn) {r : (Nat → Int32) × List En × (Nat → Int32)} (hu : uAll g (nI st) (nI s) 6 0 (askC N kn (S n).1) (askL g N kn (S n).2) = some r) {row : En} (r2 : row 2 = nI s) (r4 : ∀ t, t < 6 → bitp (nI s) t → row (4 + t) = r.2.2 t) {v : Int32} : EX (va_up g 2 v) N (st + 1) (va_up S n (r.1, r.2.1)) (os ++ [row]) := by
  obtain ⟨y1, y2, y3, y4, -, y5⟩ := start_x hI hx hn hkn hc0 hu
  refine ⟨fun n' hn' => XS_g ?_ (fun k k1 k2 => va_up_off (by omega)), XO_g (fun o ho t ht hb u w hu hw hu1 hw1 => ?_) (fun t ht => va_up_off (by omega))⟩
  · by_cases e : n' = n
    · subst e
      rw [va_up_self]
      intro e he
      refine ⟨?_, fun t ht e0 => ⟨fun z => y3 e he t ht e0 z, fun z => Or.inl (y1 e he z t ht e0)⟩⟩
      rcases y2 e he with ⟨⟨q, q1, q2⟩, -⟩ | ⟨q, -⟩
      · exact ⟨q, by omega, q2⟩
      · exact ⟨st, by omega, q⟩
    · rw [va_up_off e]
      exact XS_st (hx.1 n' hn') (by omega)
  · rcases List.mem_append.mp ho with z | z
    · exact hx.2 o z t ht hb u w hu hw hu1 hw1
    · rw [List.mem_singleton.mp z] at hb hw
      rw [r2] at hb
      rw [r4 t ht hb, y4 t ht hb, hu] at hw
      have := nI_inj (by omega) (by omega) hw
      omega
end PV

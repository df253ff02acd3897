/-! the class's states: a statement starts -/
theorem nI_mod12 {a : Nat} (h : a < 2 ^ 31) : nI a - nI a / (12 : Int32) * (12 : Int32) = nI (a % 12) := by
  have e : nI a / (12 : Int32) = nI (a / 12) := by
    apply Int32.toInt_inj.mp
    rw [Int32.toInt_div_of_ne_right _ _ (by decide), nI_toInt h, nI_toInt (by omega)]
    show (a : Int).tdiv 12 = _
    rw [Int.tdiv_eq_ediv_of_nonneg (by omega)]
    omega
  rw [e, show (12 : Int32) = nI 12 from rfl, nI_mul, nI_sub (by omega)]
  congr 1
  omega
theorem va_up_up {α : Type} {f : Nat → α} {k : Nat} {x y : α} : va_up (va_up f k x) k y = va_up f k y := by
  funext j; simp only [va_up]; split <;> rfl
/-- of each table one entry at most isn't stale, and none is newer than the table -/
def HU (g : Nat → Int32) (l : List En) : Prop := ∀ t, t < 6 → uniqF (nI t) l ∧ ∀ e ∈ l, e 0 = nI t → ¬ g (5 + t) < e 1
theorem uq_of_pw {t : Int32} {l : List En} (h : l.Pairwise (fun a b => ¬ (a 0 = t ∧ a 5 = 0 ∧ b 0 = t ∧ b 5 = 0))) : uniqF t l := by
  intro i j hi hj a1 a2 b1 b2
  rw [List.pairwise_iff_getElem] at h
  rcases Nat.lt_trichotomy i j with z | z | z
  · have := h i j hi hj z
    rw [← hd_lt hi, ← hd_lt hj] at this
    exact absurd ⟨a1, a2, b1, b2⟩ this
  · exact z
  · have := h j i hj hi z
    rw [← hd_lt hi, ← hd_lt hj] at this
    exact absurd ⟨b1, b2, a1, a2⟩ this
theorem pw_of_uq {t : Int32} {l : List En} (h : uniqF t l) : l.Pairwise (fun a b => ¬ (a 0 = t ∧ a 5 = 0 ∧ b 0 = t ∧ b 5 = 0)) := by
  rw [List.pairwise_iff_getElem]
  intro i j hi hj hij z
  rw [← hd_lt hi, ← hd_lt hj] at z
  have := h i j hi hj z.1 z.2.1 z.2.2.1 z.2.2.2
  omega
theorem shr_sub {most : Int32} : ∀ (k : Nat) (l : List En), (shr most k l).1.Sublist l := by
  intro k
  induction k with
  | zero => intro l; exact List.Sublist.refl _
  | succ k ih =>
    intro l
    unfold shr
    split
    · exact (ih _).trans (List.eraseIdx_sublist _ _)
    · exact List.Sublist.refl _
theorem HU_sub {g : Nat → Int32} {l l' : List En} (h : HU g l) (hs : l'.Sublist l) : HU g l' := fun t ht => ⟨uq_of_pw ((pw_of_uq (h t ht).1).sublist hs), fun e he => (h t ht).2 e (hs.subset he)⟩
theorem newE_0 {a b c d : Int32} : newE a b c d 0 = a := rfl
theorem newE_1 {a b c d : Int32} : newE a b c d 1 = b := rfl
theorem newE_3 {a b c d : Int32} : newE a b c d 3 = 1 := rfl
theorem newE_5 {a b c d : Int32} : newE a b c d 5 = 0 := rfl
theorem ilt_irr {x : Int32} : ¬ x < x := by rw [Int32.lt_iff_toInt_lt]; omega
theorem mem_ins {l : List En} {i : Nat} {a e : En} (hi : i ≤ l.length) (h : e ∈ l.insertIdx i a) : e = a ∨ e ∈ l := by
  obtain ⟨c, c1, c2⟩ := mem_hd h
  rw [len_ins hi] at c1
  rw [hd_ins hi] at c2
  by_cases q1 : c < i
  · rw [if_pos q1] at c2; exact Or.inr (c2 ▸ hd_mem (by omega))
  · by_cases q2 : c = i
    · rw [if_neg q1, if_pos q2] at c2; exact Or.inl c2.symm
    · rw [if_neg q1, if_neg q2] at c2; exact Or.inr (c2 ▸ hd_mem (by omega))
theorem HU_ins {g : Nat → Int32} {l : List En} (h : HU g l) {t i : Nat} (ht : t < 6) (hi : i ≤ l.length) {sp num : Int32} (hno : ∀ e ∈ l, ¬ (e 0 = nI t ∧ e 5 = 0)) : HU g (l.insertIdx i (newE (nI t) (g (5 + t)) sp num)) := by
  intro u hu
  refine ⟨fun a b ha hb a1 a2 b1 b2 => ?_, fun e he h0 => ?_⟩
  · rw [len_ins hi] at ha hb
    rw [hd_ins hi] at a1 a2 b1 b2
    have key : ∀ c, c < l.length + 1 → (if c < i then hd l c else if c = i then newE (nI t) (g (5 + t)) sp num else hd l (c - 1)) 0 = nI u → (if c < i then hd l c else if c = i then newE (nI t) (g (5 + t)) sp num else hd l (c - 1)) 5 = 0 → u = t → c = i := by
      intro c hc c1 c2 hut
      subst hut
      by_cases q1 : c < i
      · rw [if_pos q1] at c1 c2
        exact absurd ⟨c1, c2⟩ (hno _ (hd_mem (by omega)))
      · by_cases q2 : c = i
        · exact q2
        · rw [if_neg q1, if_neg q2] at c1 c2
          exact absurd ⟨c1, c2⟩ (hno _ (hd_mem (by omega)))
    by_cases hut : u = t
    · rw [key a ha a1 a2 hut, key b hb b1 b2 hut]
    · have hne : nI t ≠ nI u := fun z => hut ((nI_eq (by omega) (by omega)).mp z).symm
      have ni : ∀ c, (if c < i then hd l c else if c = i then newE (nI t) (g (5 + t)) sp num else hd l (c - 1)) 0 = nI u → c ≠ i := by
        intro c c1 z
        subst z
        rw [if_neg (by omega), if_pos rfl, newE_0] at c1
        exact hne c1
      have na := ni a a1
      have nb := ni b b1
      have U := (h u hu).1
      by_cases qa : a < i
      · rw [if_pos qa] at a1 a2
        by_cases qb : b < i
        · rw [if_pos qb] at b1 b2
          exact U a b (by omega) (by omega) a1 a2 b1 b2
        · rw [if_neg qb, if_neg nb] at b1 b2
          have := U a (b - 1) (by omega) (by omega) a1 a2 b1 b2
          omega
      · rw [if_neg qa, if_neg na] at a1 a2
        by_cases qb : b < i
        · rw [if_pos qb] at b1 b2
          have := U (a - 1) b (by omega) (by omega) a1 a2 b1 b2
          omega
        · rw [if_neg qb, if_neg nb] at b1 b2
          have := U (a - 1) (b - 1) (by omega) (by omega) a1 a2 b1 b2
          omega
  · rcases mem_ins hi he with z | z
    · subst z
      rw [newE_0, nI_eq (by omega) (by omega)] at h0
      subst h0
      rw [newE_1]
      exact ilt_irr
    · exact (h u hu).2 e z h0
theorem HU_set {g : Nat → Int32} {l : List En} (h : HU g l) {i : Nat} (hi : i < l.length) {e : En} (e0 : e 0 = hd l i 0) (e1 : e 1 = hd l i 1) (e5 : e 5 = hd l i 5) : HU g (l.set i e) := by
  intro u hu
  refine ⟨fun a b ha hb a1 a2 b1 b2 => ?_, fun x hx h0 => ?_⟩
  · rw [List.length_set] at ha hb
    have g0 : ∀ c, hd (l.set i e) c 0 = hd l c 0 := fun c => by rw [hd_set hi]; split <;> simp_all
    have g5 : ∀ c, hd (l.set i e) c 5 = hd l c 5 := fun c => by rw [hd_set hi]; split <;> simp_all
    rw [g0] at a1 b1
    rw [g5] at a2 b2
    exact (h u hu).1 a b ha hb a1 a2 b1 b2
  · rcases List.mem_or_eq_of_mem_set hx with z | z
    · exact (h u hu).2 x z h0
    · subst z
      rw [e0] at h0
      rw [e1]
      exact (h u hu).2 _ (hd_mem hi) h0
theorem lastI_none {p : En → Prop} [DecidablePred p] {l : List En} (hl : l.length < 2 ^ 31) (h : lastI p l = -1) : ∀ e ∈ l, ¬ p e := by
  intro e he hp
  obtain ⟨i, i1, i2⟩ := mem_hd he
  obtain ⟨j, j1, j2, -⟩ := lastN_has (p := p) (i := i) l.length i1 hl (by rw [i2]; exact hp)
  have : (-1 : Int32) = nI j := h.symm.trans j2
  have z := congrArg Int32.toInt this
  rw [nI_toInt (by omega)] at z
  have : (-1 : Int32).toInt = -1 := by decide
  omega
theorem HU_u1 {g : Nat → Int32} {l : List En} {c : Nat → Int32} {rm num sp : Int32} {t : Nat} {r : (Nat → Int32) × List En × Int32} (h : HU g l) (hl : l.length ≤ 8) (ht : t < 6) (hu : u1 rm num (nI t) (g (5 + t)) sp c l = some r) : HU g r.2.1 := by
  unfold u1 at hu
  rcases lastN_lt (fun e => e 0 = nI t ∧ e 5 = 0) l l.length with e | ⟨i, i1, i2, i3⟩
  · have hlast : lastI (fun e => e 0 = nI t ∧ e 5 = 0) l = -1 := e
    rw [hlast, if_neg (by decide)] at hu
    split at hu
    · cases hu
      exact HU_ins (HU_sub h (shr_sub _ _)) ht (insN_le _ _ _) (fun e he => lastI_none (by omega) hlast e ((shr_sub _ _).subset he))
    · cases hu
  · have hlast : lastI (fun e => e 0 = nI t ∧ e 5 = 0) l = nI i := i2
    rw [hlast, nI_clamp (by omega), if_pos (nI_pos' (by omega))] at hu
    cases hu
    exact HU_set h i1 (by rw [va_up_off (by decide), va_up_off (by decide)]) (by rw [va_up_off (by decide), va_up_off (by decide)]) (by rw [va_up_off (by decide), va_up_off (by decide)])
section CG1
variable {sh : Sh} {ad : Nat → Nat} {h h' h'' : Hp} {B N : Nat} {g : Nat → Int32} {S : Nat → Ses} {W : Slots} {L : Ring}
theorem c_begin117 (T : TK sh ad B) (hi : inj ad) {n j rm : Nat} (hn : n < 4) (hj : j < 4) (hrm : g 4 = nI rm) (hrm8 : 1 ≤ rm ∧ rm ≤ 8) {x1 set num : Int32} {c : Nat → Int32} {l : List En} {w : Nat → En} (hw : w j 0 = num) (hm : CT h ad B N g (va_up S n (c, l)) (va_up W n w) L) (hu : HU g l) {Xc : Hp → Prop} {K : Int32 → Hp → Prop}
    (k1 : ∀ h', uAll g num set 6 0 c l = none → TG h' ad B → FB ad h h' B → K (-3) h')
    (k2 : ∀ r h' w', uAll g num set 6 0 c l = some r → CT h' ad B N g (va_up S n (r.1, r.2.1)) (va_up W n w') L → FB ad h h' B → (∀ i, i ≠ j → w' i = w i) → (∀ q, q < 3 → w' j q = w j q) → (∀ t, t < 6 → bitp set t → w' j (3 + t) = r.2.2 t) → Xc h') :
    lo (b_X2_begin_117 sh (ad B) x1 set (ad (B + 8 + 19 * n)) (ad (B + 8 + 19 * n + 11 + 2 * j)) (fun h => Xc h) K) (0 : Int32) h := by
  refine lo_ind (fun d s h' => ∃ k w' c' l', d + k = 7 ∧ k ≤ 6 ∧ s = nI k ∧ CT h' ad B N g (va_up S n (c', l')) (va_up W n w') L ∧ FB ad h h' B ∧ HU g l' ∧ (∀ i, i ≠ j → w' i = w i) ∧ (∀ q, q < 3 → w' j q = w j q) ∧ (∀ h2, uAll g num set (6 - k) k c' l' = none → TG h2 ad B → FB ad h h2 B → K (-3) h2) ∧ (∀ r h2 w2, uAll g num set (6 - k) k c' l' = some r → CT h2 ad B N g (va_up S n (r.1, r.2.1)) (va_up W n w2) L → FB ad h h2 B → (∀ i, i ≠ j → w2 i = w i) → (∀ q, q < 3 → w2 j q = w j q) → (∀ t, t < k → w2 j (3 + t) = w' j (3 + t)) → (∀ t, k ≤ t → t < 6 → bitp set t → w2 j (3 + t) = r.2.2 t) → Xc h2)) ?_ ?_ (d := 7) ⟨0, w, c, l, by omega, by omega, rfl, hm, FB.rf, hu, fun _ _ => rfl, fun _ _ => rfl, k1, fun r h2 w2 z1 z2 z3 z4 z5 _ z7 => k2 r h2 w2 z1 z2 z3 z4 z5 (fun t ht hb => z7 t (Nat.zero_le t) ht hb)⟩
  · rintro s h' ⟨k, w', c', l', h1, h2, -⟩
    omega
  · rintro d rec hrec s h' ⟨k, w', c', l', h1, h2, rfl, h3, h4, h5, h6, h7, h8, h9⟩
    unfold b_X2_begin_117 f_X5_contains
    by_cases hz : k = 6
    · subst hz
      rw [if_pos ge6]
      exact h9 (c', l', fun _ => 0) h' w' rfl h3 h4 h6 h7 (fun _ _ => rfl) (fun t t1 t2 => by omega)
    · have hk6 : k < 6 := by omega
      rw [if_neg (lt6 hk6), nI_1]
      obtain ⟨d', hd'⟩ : ∃ d', 6 - k = d' + 1 := ⟨5 - k, by omega⟩
      have hd2 : 6 - (k + 1) = d' := by omega
      rw [hd'] at h8 h9
      unfold uAll at h8 h9
      by_cases hb : ((set >>> (nI k &&& 31)) &&& 1) = 1
      · rw [if_pos hb]
        rw [if_pos hb] at h8 h9
        have X := ct_SK T hn
        have hcs := h3.2.2.2.2.2 n hn
        rw [va_up_self, va_up_self] at hcs
        have hl8 : l'.length ≤ 8 := hcs.2.2.2.1
        rw [if_neg (by decide), ct_t0 T, gR_t h3.1.1, ct_t1 T, ct_l1 T hk6, gR_t h3.1.2.1, ct_t2 T, ct_l2 T hk6, gI_t, (h3.2.2.1 k hk6).1, (h3.2.2.1 k hk6).2, h3.2.1.2.2.1, cs_t0 X, hrm]
        rw [hrm] at h8 h9
        have hw0 : w' j 0 = num := by rw [h7 0 (by omega)]; exact hw
        refine c_use X hi hcs hj hk6 hrm8 ((h5 k hk6).1) ((h5 k hk6).2) (fun r h10 h11 h12 h13 => ?_) (fun h11 h10 c2 l2 h12 h13 => ?_)
        · rw [hw0] at h11
          rw [h11] at h8 h9
          dsimp only at h8 h9
          rw [if_neg (by decide)]
          have h14 := CT_S hi h3 h12 h13
          rw [va_up_up, va_up_up] at h14
          refine hrec _ _ ⟨k + 1, _, _, _, by omega, by omega, rfl, h14, h4.tr (FS_FB hn h13), HU_u1 h5 hl8 hk6 h11, fun i i1 => by rw [va_up_off i1]; exact h6 i i1, fun q hq => by rw [va_up_self, va_up_off (by omega)]; exact h7 q hq, fun h2 u1' u2 u3 => ?_, fun r2 h2 w2 u1' u2 u3 u4 u5 u6 u7 => ?_⟩
          · rw [hd2] at u1'
            exact h8 h2 (by rw [u1']) u2 u3
          · rw [hd2] at u1'
            refine h9 (r2.1, r2.2.1, va_up r2.2.2 k r.2.2) h2 w2 (by rw [u1']) u2 u3 u4 u5 (fun t ht => ?_) (fun t t1 t2 t3 => ?_)
            · rw [u6 t (by omega), va_up_self, va_up_off (by omega)]
            · show _ = va_up r2.2.2 k r.2.2 t
              by_cases et : t = k
              · subst et
                rw [u6 t (by omega), va_up_self, va_up_self, va_up_self]
              · rw [va_up_off et]
                exact u7 t (by omega) t2 t3
        · rw [hw0] at h11
          rw [h11] at h8
          rw [if_pos rfl]
          have h14 := CT_S hi h3 h12 h13
          exact h8 h10 rfl (CT_G h14) (h4.tr (FS_FB hn h13))
      · rw [if_neg hb]
        rw [if_neg hb] at h8 h9
        rw [if_pos rfl]
        refine hrec _ _ ⟨k + 1, w', c', l', by omega, by omega, rfl, h3, h4, h5, h6, h7, fun h2 u1' => h8 h2 (by rw [← hd2]; exact u1'), fun r2 h2 w2 u1' u2 u3 u4 u5 u6 u7 => h9 r2 h2 w2 (by rw [← hd2]; exact u1') u2 u3 u4 u5 (fun t ht => u6 t (by omega)) (fun t t1 t2 t3 => ?_)⟩
        by_cases et : t = k
        · subst et; exact absurd t3 hb
        · exact u7 t (by omega) t2 t3
end CG1

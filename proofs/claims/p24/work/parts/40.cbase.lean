/-! the class's heap: addresses by places; a session's picture -/
def inj (ad : Nat → Nat) : Prop := ∀ p q, ad p = ad q → p = q
def SK (sh : Sh) (ad : Nat → Nat) (s : Nat) : Prop := (sh (ad s)).1 = 1 ∧ sh (ad (s + 1)) = (8, 8) ∧ (∀ j, j < 8 → (sh (ad (s + 2 + j))).1 = 0) ∧ sh (ad (s + 10)) = (11, 4) ∧ ∀ j, j < 4 → (sh (ad (s + 11 + 2 * j))).1 = 4 ∧ sh (ad (s + 12 + 2 * j)) = (7, 6)
/-- the references of a session that stay -/
def SP (h : Hp) (ad : Nat → Nat) (s : Nat) : Prop := gr h (ad s) 7 = some (ad (s + 1)) ∧ gr h (ad s) 8 = some (ad (s + 10)) ∧ ∀ j, j < 4 → gr h (ad (s + 10)) j = some (ad (s + 11 + 2 * j)) ∧ gr h (ad (s + 11 + 2 * j)) 3 = some (ad (s + 12 + 2 * j))
/-- the hand's row of references -/
def HP (h : Hp) (ad : Nat → Nat) (s : Nat) (pm : Nat → Nat) : Prop := (∀ j, j < 8 → pm j < 8) ∧ (∀ i j, i < 8 → j < 8 → pm i = pm j → i = j) ∧ ∀ j, j < 8 → gr h (ad (s + 1)) j = some (ad (s + 2 + pm j))
/-- the places of statements -/
def WP (h : Hp) (ad : Nat → Nat) (s : Nat) (w : Nat → En) : Prop := ∀ j, j < 4 → (∀ k, k < 3 → gi h (ad (s + 11 + 2 * j)) k = w j k) ∧ ∀ t, t < 6 → gi h (ad (s + 12 + 2 * j)) t = w j (3 + t)
def CS (h : Hp) (ad : Nat → Nat) (s : Nat) (c : Nat → Int32) (l : List En) (w : Nat → En) : Prop :=
  SP h ad s ∧ (∀ k, k < 6 → gi h (ad s) k = c k) ∧ gi h (ad s) 6 = nI l.length ∧ l.length ≤ 8 ∧ (∃ pm, HP h ad s pm ∧ ∀ j, j < l.length → ∀ k, k < 6 → gi h (ad (s + 2 + pm j)) k = hd l j k) ∧ WP h ad s w
/-- what a session's method leaves alone -/
def FS (ad : Nat → Nat) (h h' : Hp) (s : Nat) : Prop := ∀ a, (∀ j, j < 19 → a ≠ ad (s + j)) → h'.1 a = h.1 a ∧ h'.2 a = h.2 a
theorem FS.rf {ad : Nat → Nat} {h : Hp} {s : Nat} : FS ad h h s := fun _ _ => ⟨rfl, rfl⟩
theorem FS.tr {ad : Nat → Nat} {h h1 h2 : Hp} {s : Nat} (a : FS ad h h1 s) (b : FS ad h1 h2 s) : FS ad h h2 s := fun q hq => ⟨(b q hq).1.trans (a q hq).1, (b q hq).2.trans (a q hq).2⟩
def rset (h : Hp) (a : Nat) (f : Nat → Option Nat) : Hp := (h.1, va_up h.2 a f)
theorem gi_rset {h : Hp} {a b k : Nat} {f : Nat → Option Nat} : gi (rset h a f) b k = gi h b k := rfl
theorem gr_rset {h : Hp} {a k : Nat} {f : Nat → Option Nat} : gr (rset h a f) a k = f k := by simp [gr, rset, va_up]
theorem gr_rset_ne {h : Hp} {a b k : Nat} {f : Nat → Option Nat} (e : b ≠ a) : gr (rset h a f) b k = gr h b k := by simp [gr, rset, va_up, e]
theorem sr_rset {h : Hp} {a k : Nat} {f : Nat → Option Nat} {v : Option Nat} : sr (rset h a f) a k v = rset h a (va_up f k v) := by
  simp only [sr, rset, va_up_self]
  congr 1
  funext j
  simp only [va_up]
  split <;> rfl
theorem rset_self {h : Hp} {a : Nat} : rset h a (gr h a) = h := by
  obtain ⟨f, g⟩ := h
  simp only [rset, gr]
  congr 1
  funext j
  simp only [va_up]
  split
  · subst_vars; rfl
  · rfl
theorem gr_si {h : Hp} {a b k j : Nat} {v : Int32} : gr (si h a k v) b j = gr h b j := rfl
theorem gi_sr {h : Hp} {a b k j : Nat} {v : Option Nat} : gi (sr h a k v) b j = gi h b j := rfl
theorem gi_si {h : Hp} {a k : Nat} {v : Int32} : gi (si h a k v) a k = v := by simp [gi, si, va_up]
theorem gi_si_k {h : Hp} {a k j : Nat} {v : Int32} (e : j ≠ k) : gi (si h a k v) a j = gi h a j := by simp [gi, si, va_up, e]
theorem gi_si_ne {h : Hp} {a b k j : Nat} {v : Int32} (e : b ≠ a) : gi (si h a k v) b j = gi h b j := by simp [gi, si, va_up, e]
theorem ad_ne {ad : Nat → Nat} (hi : inj ad) {p q : Nat} (e : p ≠ q) : ad p ≠ ad q := fun z => e (hi _ _ z)
theorem gi_ad {ad : Nat → Nat} (hi : inj ad) {h : Hp} {p q k j : Nat} {v : Int32} (e : q ≠ p) : gi (si h (ad p) k v) (ad q) j = gi h (ad q) j := gi_si_ne (ad_ne hi e)
section CB
variable {sh : Sh} {ad : Nat → Nat} {h : Hp} {s : Nat} {c : Nat → Int32} {l : List En} {w : Nat → En}
theorem FS_si {k j : Nat} {v : Int32} (hj : j < 19) : FS ad h (si h (ad (s + j)) k v) s := fun a ha => ⟨by show va_up h.1 _ _ a = _; rw [va_up_off (ha j hj)], rfl⟩
theorem FS_si0 {k : Nat} {v : Int32} : FS ad h (si h (ad s) k v) s := FS_si (j := 0) (by omega)
theorem FS_rset {f : Nat → Option Nat} : FS ad h (rset h (ad (s + 1)) f) s := fun a ha => ⟨rfl, by show va_up h.2 _ _ a = _; rw [va_up_off (ha 1 (by omega))]⟩
/-- the reads of a session, for simp -/
theorem cs_t0 (X : SK sh ad s) {P : Prop} : ty sh (ad s) 1 P = P := ty_t X.1
theorem cs_t1 (X : SK sh ad s) {P : Prop} : ty sh (ad (s + 1)) 8 P = P := ty_t (by rw [X.2.1])
theorem cs_t2 (X : SK sh ad s) {j : Nat} {P : Prop} (hj : j < 8) : ty sh (ad (s + 2 + j)) 0 P = P := ty_t (X.2.2.1 j hj)
theorem cs_t10 (X : SK sh ad s) {P : Prop} : ty sh (ad (s + 10)) 11 P = P := ty_t (by rw [X.2.2.2.1])
theorem cs_t11 (X : SK sh ad s) {j : Nat} {P : Prop} (hj : j < 4) : ty sh (ad (s + 11 + 2 * j)) 4 P = P := ty_t (X.2.2.2.2 j hj).1
theorem cs_t12 (X : SK sh ad s) {j : Nat} {P : Prop} (hj : j < 4) : ty sh (ad (s + 12 + 2 * j)) 7 P = P := ty_t (by rw [(X.2.2.2.2 j hj).2])
theorem cs_lR1 (X : SK sh ad s) {h : Hp} {j q : Nat} {K : Nat → Prop} (hj : j < 8) (e : gr h (ad (s + 1)) j = some q) : lR sh h (ad (s + 1)) (nI j) K = K q := lR_t (by rw [X.2.1]; exact hj) (by rw [X.2.1]; decide) e
theorem cs_sR1 (X : SK sh ad s) {h : Hp} {j q : Nat} {K : Hp → Prop} (hj : j < 8) : sR sh h (ad (s + 1)) (nI j) q K = K (sr h (ad (s + 1)) j (some q)) := sR_t (by rw [X.2.1]; exact hj) (by rw [X.2.1]; decide)
theorem cs_lR10 (X : SK sh ad s) {h : Hp} {j q : Nat} {K : Nat → Prop} (hj : j < 4) (e : gr h (ad (s + 10)) j = some q) : lR sh h (ad (s + 10)) (nI j) K = K q := lR_t (by rw [X.2.2.2.1]; exact hj) (by rw [X.2.2.2.1]; decide) e
theorem cs_lI12 (X : SK sh ad s) {h : Hp} {j t : Nat} {K : Int32 → Prop} (hj : j < 4) (ht : t < 6) : lI sh h (ad (s + 12 + 2 * j)) (nI t) K = K (gi h (ad (s + 12 + 2 * j)) t) := lI_t (by rw [(X.2.2.2.2 j hj).2]; exact ht) (by rw [(X.2.2.2.2 j hj).2]; decide)
theorem cs_sI12 (X : SK sh ad s) {h : Hp} {j t : Nat} {v : Int32} {K : Hp → Prop} (hj : j < 4) (ht : t < 6) : sI sh h (ad (s + 12 + 2 * j)) (nI t) v K = K (si h (ad (s + 12 + 2 * j)) t v) := sI_t (by rw [(X.2.2.2.2 j hj).2]; exact ht) (by rw [(X.2.2.2.2 j hj).2]; decide)
/-- longestUnused -/
theorem c_longest (X : SK sh ad s) (hm : CS h ad s c l w) {K : Int32 → Hp → Prop} (hk : K (oldI l) h) : f_X1_longestUnused sh (ad s) h K := by
  obtain ⟨⟨p7, p8, p10⟩, m1, m6, m8, ⟨pm, ⟨q1, q2, q3⟩, q4⟩, m9⟩ := hm
  unfold f_X1_longestUnused
  refine lo_ind (fun d s' h' => ∃ k, k + d = l.length + 1 ∧ k ≤ l.length ∧ s' = (oldN l k, nI k) ∧ h' = h) ?_ ?_ (d := l.length + 1) ⟨0, by omega, by omega, rfl, rfl⟩
  · rintro s' h' ⟨k, hk, hk2, -⟩
    omega
  · rintro d rec hrec s' h' ⟨k, hkd, hkl, rfl, rfl⟩
    have nx := fun z : k < l.length => hrec _ _ ⟨k + 1, by omega, z, rfl, rfl⟩
    unfold b_X1_longestUnused_4
    simp (disch := omega) only [i1, cs_t0 X, gI_t, m6, nI_leI, nI_add]
    by_cases hz : k = l.length
    · rw [if_pos (by omega), hz]
      exact hk
    · rw [if_neg (by omega)]
      replace nx := nx (by omega)
      unfold oldN at nx
      have e3 := q4 k (by omega) 3 (by omega)
      have e4 := q4 k (by omega) 4 (by omega)
      have hp := q1 k (by omega)
      simp (disch := omega) only [i1, cs_t0 X, cs_t1 X, cs_t2 X, gI_t, gR_t p7, cs_lR1 X _ (q3 k (by omega)), e3, e4]
      by_cases h3 : hd l k 3 = 0
      · rw [if_pos h3] at nx ⊢
        by_cases h0 : oldN l k < 0
        · rw [if_pos h0] at nx ⊢
          exact nx
        · rw [if_neg h0] at nx ⊢
          rcases oldN_lt l k (by omega) with e | ⟨j, j1, j2, j3⟩
          · exact absurd (by rw [e]; decide) h0
          · rw [j2, nI_clamp (by omega)] at nx
            have e5 := q4 j (by omega) 4 (by omega)
            have hp5 := q1 j (by omega)
            rw [j2]
            rw [cs_lR1 X (by omega) (q3 j (by omega)), cs_t2 X hp5, e5]
            by_cases h4 : hd l j 4 ≤ hd l k 4
            · rw [if_pos h4] at nx ⊢
              exact nx
            · rw [if_neg h4] at nx ⊢
              exact nx
      · rw [if_neg h3] at nx ⊢
        exact nx
/-- takeOut -/
theorem c_takeOut (X : SK sh ad s) (hi : inj ad) (hm : CS h ad s c l w) {i : Nat} (hil : i < l.length) {K : Hp → Prop} (hk : ∀ h', CS h' ad s c (l.eraseIdx i) w → FS ad h h' s → K h') : f_X1_takeOut sh (ad s) (nI i) h K := by
  obtain ⟨⟨p7, p8, p10⟩, m1, m6, m8, ⟨pm, ⟨q1, q2, q3⟩, q4⟩, m9⟩ := hm
  have hne1 : ad (s + 1) ≠ ad s := ad_ne hi (by omega)
  unfold f_X1_takeOut
  rw [cs_t0 X, gR_t p7, cs_t1 X, cs_lR1 X (by omega) (q3 i (by omega)), gI_t, pI_t, m6, i1, nI_sub (by omega)]
  have start : si h (ad s) 6 (nI (l.length - 1)) = rset (si h (ad s) 6 (nI (l.length - 1))) (ad (s + 1)) (gr h (ad (s + 1))) := (rset_self (h := si h (ad s) 6 (nI (l.length - 1)))).symm
  refine lo_ind (fun d s' h' => ∃ k f, k + d = l.length ∧ i ≤ k ∧ k ≤ l.length - 1 ∧ s' = nI k ∧ h' = rset (si h (ad s) 6 (nI (l.length - 1))) (ad (s + 1)) f ∧ (∀ j, i ≤ j → j < k → f j = some (ad (s + 2 + pm (j + 1)))) ∧ (∀ j, j < 8 → (j < i ∨ k ≤ j) → f j = some (ad (s + 2 + pm j)))) ?_ ?_ (d := l.length - i) ⟨i, _, by omega, by omega, by omega, rfl, start, fun j j1 j2 => by omega, fun j j1 _ => q3 j j1⟩
  · rintro s' h' ⟨k, f, hk1, hk2, hk3, -⟩
    omega
  · rintro d rec hrec s' h' ⟨k, f, k1, k2, k3, rfl, rfl, k4, k5⟩
    have g6 : gi (rset (si h (ad s) 6 (nI (l.length - 1))) (ad (s + 1)) f) (ad s) 6 = nI (l.length - 1) := gi_si
    have g7 : gr (rset (si h (ad s) 6 (nI (l.length - 1))) (ad (s + 1)) f) (ad s) 7 = some (ad (s + 1)) := by rw [gr_rset_ne (Ne.symm hne1)]; exact p7
    unfold b_X1_takeOut_19
    rw [cs_t0 X, gI_t, g6]
    by_cases hz : k = l.length - 1
    · rw [if_pos (nI_le (by omega) (by omega))]
      dsimp only
      rw [gR_t g7, gI_t, g6, cs_t1 X, cs_t2 X (q1 i (by omega)), cs_sR1 X (by omega), sr_rset]
      refine hk _ ⟨⟨?_, ?_, fun j hj => ⟨?_, ?_⟩⟩, fun q hq => ?_, ?_, ?_, ⟨fun j => if j < i then pm j else if j < l.length - 1 then pm (j + 1) else if j = l.length - 1 then pm i else pm j, ⟨fun j hj => ?_, fun a b ha hb hab => ?_, fun j hj => ?_⟩, fun j hj q hq => ?_⟩, fun j hj => ⟨fun q hq => ?_, fun t ht => ?_⟩⟩ (FS_si0.tr FS_rset)
      · rw [gr_rset_ne (Ne.symm hne1)]; exact p7
      · rw [gr_rset_ne (Ne.symm hne1)]; exact p8
      · rw [gr_rset_ne (ad_ne hi (by omega))]; exact (p10 j hj).1
      · rw [gr_rset_ne (ad_ne hi (by omega))]; exact (p10 j hj).2
      · rw [gi_rset, gi_si_k (by omega)]; exact m1 q hq
      · rw [gi_rset, gi_si, len_erase hil]
      · rw [len_erase hil]; omega
      · dsimp only
        split
        · exact q1 j hj
        · split
          · exact q1 _ (by omega)
          · split
            · exact q1 i (by omega)
            · exact q1 j hj
      · dsimp only at hab
        split at hab <;> split at hab <;> (try split at hab) <;> (try split at hab) <;> (try split at hab) <;> (try split at hab) <;> (have := q2 _ _ (by omega) (by omega) hab; omega)
      · rw [gr_rset]
        dsimp only
        by_cases e1 : j = l.length - 1
        · rw [va_up_at e1, if_neg (by omega), if_neg (by omega), if_pos e1]
        · rw [va_up_off e1]
          by_cases e2 : j < i
          · rw [if_pos e2]; exact k5 j hj (Or.inl e2)
          · rw [if_neg e2]
            by_cases e3 : j < l.length - 1
            · rw [if_pos e3]; exact k4 j (by omega) (by omega)
            · rw [if_neg e3, if_neg e1]; exact k5 j hj (Or.inr (by omega))
      · rw [len_erase hil] at hj
        rw [gi_rset, hd_erase]
        dsimp only
        by_cases e2 : j < i
        · rw [if_pos e2, if_pos e2, gi_ad hi (by omega)]; exact q4 j (by omega) q hq
        · rw [if_neg e2, if_neg e2, if_pos hj, gi_ad hi (by omega)]; exact q4 (j + 1) (by omega) q hq
      · rw [gi_rset, gi_ad hi (by omega)]; exact (m9 j hj).1 q hq
      · rw [gi_rset, gi_ad hi (by omega)]; exact (m9 j hj).2 t ht
    · rw [if_neg (nI_ge (by omega) (by omega)), gR_t g7, gR_t g7, cs_t1 X, nI_1, cs_lR1 X (by omega) (by rw [gr_rset]; exact k5 (k + 1) (by omega) (Or.inr (by omega))), cs_t1 X, cs_t2 X (q1 _ (by omega)), cs_sR1 X (by omega), sr_rset]
      refine hrec _ _ ⟨k + 1, _, by omega, by omega, by omega, rfl, rfl, fun j j1 j2 => ?_, fun j j1 j2 => by rw [va_up_off (by omega)]; exact k5 j j1 (by omega)⟩
      by_cases e : j = k
      · subst e; rw [va_up_self]
      · rw [va_up_off e]; exact k4 j j1 (by omega)
end CB

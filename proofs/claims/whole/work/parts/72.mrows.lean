/-! the reference's rows, copied whole -/
section XD
variable {sh : Sh} {ma : Nat → Nat} {h : Hp} {f : Nat → Int32}
theorem ge623 : (623 : Int32) ≤ nI 623 := by decide
theorem lt623 {k : Nat} (h : k < 623) : ¬ (623 : Int32) ≤ nI k := fun z => by rw [show (623 : Int32) = nI 623 from rfl, nI_leI (by omega) (by omega)] at z; omega
theorem mx_l2 (X : MX sh ma h) {k : Nat} {h' : Hp} {K : Int32 → Prop} (hk : k < 623) : lI sh h' (ma 2) (nI k) K = K (gi h' (ma 2) k) := lI_t (by rw [X.2.2.2.1]; exact hk) (by rw [X.2.2.2.1]; decide)
theorem mx_s2 (X : MX sh ma h) {k : Nat} {h' : Hp} {v : Int32} {K : Hp → Prop} (hk : k < 623) : sI sh h' (ma 2) (nI k) v K = K (si h' (ma 2) k v) := sI_t (by rw [X.2.2.2.1]; exact hk) (by rw [X.2.2.2.1]; decide)
theorem mx_l3 (X : MX sh ma h) {k : Nat} {h' : Hp} {K : Int32 → Prop} (hk : k < 2492) : lI sh h' (ma 3) (nI k) K = K (gi h' (ma 3) k) := lI_t (by rw [X.2.2.2.2.1]; exact hk) (by rw [X.2.2.2.2.1]; decide)
theorem mx_s3 (X : MX sh ma h) {k : Nat} {h' : Hp} {v : Int32} {K : Hp → Prop} (hk : k < 2492) : sI sh h' (ma 3) (nI k) v K = K (si h' (ma 3) k v) := sI_t (by rw [X.2.2.2.2.1]; exact hk) (by rw [X.2.2.2.2.1]; decide)
theorem mx_l4 (X : MX sh ma h) {k : Nat} {h' : Hp} {K : Int32 → Prop} (hk : k < 623) : lI sh h' (ma 4) (nI k) K = K (gi h' (ma 4) k) := lI_t (by rw [X.2.2.2.2.2.1]; exact hk) (by rw [X.2.2.2.2.2.1]; decide)
theorem mx_s4 (X : MX sh ma h) {k : Nat} {h' : Hp} {v : Int32} {K : Hp → Prop} (hk : k < 623) : sI sh h' (ma 4) (nI k) v K = K (si h' (ma 4) k v) := sI_t (by rw [X.2.2.2.2.2.1]; exact hk) (by rw [X.2.2.2.2.2.1]; decide)
theorem mx_l5 (X : MX sh ma h) {k : Nat} {h' : Hp} {K : Int32 → Prop} (hk : k < 60) : lI sh h' (ma 5) (nI k) K = K (gi h' (ma 5) k) := lI_t (by rw [X.2.2.2.2.2.2.1]; exact hk) (by rw [X.2.2.2.2.2.2.1]; decide)
theorem mx_s5 (X : MX sh ma h) {k : Nat} {h' : Hp} {v : Int32} {K : Hp → Prop} (hk : k < 60) : sI sh h' (ma 5) (nI k) v K = K (si h' (ma 5) k v) := sI_t (by rw [X.2.2.2.2.2.2.1]; exact hk) (by rw [X.2.2.2.2.2.2.1]; decide)
/-- reads and writes of the reference's object beside its row -/
theorem gi_o (X : MX sh ma h) {h' : Hp} {p k : Nat} (hp : p ≠ 1) : gi (hset h' (ma 1) f) (ma p) k = gi h' (ma p) k := gi_hset_ne (mx_ne X hp)
theorem si_o (X : MX sh ma h) {h' : Hp} {p k : Nat} {v : Int32} (hp : p ≠ 1) : si (hset h' (ma 1) f) (ma p) k v = hset (si h' (ma p) k v) (ma 1) f := si_hset_ne (mx_ne X hp)
theorem m_putAside (X : MX sh ma h) {K : Hp → Prop} (hk : ∀ a, (∀ k, k < 623 → a k = f k) → K (hset (hset h (ma 2) a) (ma 1) f)) : f_X6_putAside sh (ma 0) (hset h (ma 1) f) K := by
  unfold f_X6_putAside
  refine lo_ind (fun d s h' => ∃ k a, k + d = 624 ∧ k ≤ 623 ∧ s = nI k ∧ h' = hset (hset h (ma 2) a) (ma 1) f ∧ ∀ q, q < k → a q = f q) ?_ ?_ (d := 624) ⟨0, gi h (ma 2), by omega, by omega, rfl, by rw [hset_self], fun q hq => by omega⟩
  · rintro s h' ⟨k, a, h1, h2, -⟩
    omega
  · rintro d rec hrec s h' ⟨k, a, h1, h2, rfl, rfl, h3⟩
    unfold b_X6_putAside_2
    have X2 : MX sh ma (hset h (ma 2) a) := mx_h X
    by_cases hz : k = 623
    · subst hz
      rw [if_pos ge623]
      exact hk a h3
    · have hk6 : k < 623 := by omega
      rw [if_neg (lt623 hk6), mx_m X, mx_r1 X2, mx_r0 X2, mx_t1 X, mx_ld X2 hk6, mx_t2 X, mx_s2 X hk6, si_o X (by omega), si_hset, nI_1]
      refine hrec _ _ ⟨k + 1, _, by omega, by omega, rfl, rfl, fun q hq => ?_⟩
      by_cases e : q = k
      · subst e; rw [va_up_self]
      · rw [va_up_off e]; exact h3 q (by omega)
theorem m_putBack (X : MX sh ma h) {K : Hp → Prop} (hk : ∀ f', (∀ k, k < 623 → f' k = gi h (ma 2) k) → K (hset h (ma 1) f')) : f_X6_putBack sh (ma 0) (hset h (ma 1) f) K := by
  unfold f_X6_putBack
  refine lo_ind (fun d s h' => ∃ k f', k + d = 624 ∧ k ≤ 623 ∧ s = nI k ∧ h' = hset h (ma 1) f' ∧ ∀ q, q < k → f' q = gi h (ma 2) q) ?_ ?_ (d := 624) ⟨0, f, by omega, by omega, rfl, rfl, fun q hq => by omega⟩
  · rintro s h' ⟨k, a, h1, h2, -⟩
    omega
  · rintro d rec hrec s h' ⟨k, f', h1, h2, rfl, rfl, h3⟩
    unfold b_X6_putBack_2
    by_cases hz : k = 623
    · subst hz
      rw [if_pos ge623]
      exact hk f' h3
    · have hk6 : k < 623 := by omega
      rw [if_neg (lt623 hk6), mx_m X, mx_r0 X, mx_r1 X, mx_t2 X, mx_l2 X hk6, mx_t1 X, mx_st X hk6, gi_o X (by omega), nI_1]
      refine hrec _ _ ⟨k + 1, _, by omega, by omega, rfl, rfl, fun q hq => ?_⟩
      by_cases e : q = k
      · subst e; rw [va_up_self]
      · rw [va_up_off e]; exact h3 q (by omega)
theorem m_keep (X : MX sh ma h) {K : Int32 → Hp → Prop} (hk : ∀ a, (∀ k, k < 623 → a k = f k) → K (f 0) (hset (si (hset h (ma 4) a) (ma 0) 5 1) (ma 1) f)) : f_X6_keep sh (ma 0) (hset h (ma 1) f) K := by
  unfold f_X6_keep
  refine lo_ind (fun d s h' => ∃ k a, k + d = 624 ∧ k ≤ 623 ∧ s = nI k ∧ h' = hset (hset h (ma 4) a) (ma 1) f ∧ ∀ q, q < k → a q = f q) ?_ ?_ (d := 624) ⟨0, gi h (ma 4), by omega, by omega, rfl, by rw [hset_self], fun q hq => by omega⟩
  · rintro s h' ⟨k, a, h1, h2, -⟩
    omega
  · rintro d rec hrec s h' ⟨k, a, h1, h2, rfl, rfl, h3⟩
    unfold b_X6_keep_2
    have X2 : MX sh ma (hset h (ma 4) a) := mx_h X
    by_cases hz : k = 623
    · subst hz
      rw [if_pos ge623]
      dsimp only
      rw [mx_m X, pI_t, si_o X (by omega), mx_r0 (mx_s X2), mx_t1 X, show (0 : Int32) = nI 0 from rfl, mx_ld (mx_s X2) (by omega)]
      exact hk a h3
    · have hk6 : k < 623 := by omega
      rw [if_neg (lt623 hk6), mx_m X, mx_r4 X2, mx_r0 X2, mx_t1 X, mx_ld X2 hk6, mx_t4 X, mx_s4 X hk6, si_o X (by omega), si_hset, nI_1]
      refine hrec _ _ ⟨k + 1, _, by omega, by omega, rfl, rfl, fun q hq => ?_⟩
      by_cases e : q = k
      · subst e; rw [va_up_self]
      · rw [va_up_off e]; exact h3 q (by omega)
theorem m_restore16 (X : MX sh ma h) {K : Hp → Prop} (hk : ∀ f', (∀ k, k < 623 → f' k = gi h (ma 4) k) → K (hset h (ma 1) f')) : lo (b_X6_restore_16 sh (ma 0) (fun h => K h)) (0 : Int32) (hset h (ma 1) f) := by
  refine lo_ind (fun d s h' => ∃ k f', k + d = 624 ∧ k ≤ 623 ∧ s = nI k ∧ h' = hset h (ma 1) f' ∧ ∀ q, q < k → f' q = gi h (ma 4) q) ?_ ?_ (d := 624) ⟨0, f, by omega, by omega, rfl, rfl, fun q hq => by omega⟩
  · rintro s h' ⟨k, a, h1, h2, -⟩
    omega
  · rintro d rec hrec s h' ⟨k, f', h1, h2, rfl, rfl, h3⟩
    unfold b_X6_restore_16
    by_cases hz : k = 623
    · subst hz
      rw [if_pos ge623]
      exact hk f' h3
    · have hk6 : k < 623 := by omega
      rw [if_neg (lt623 hk6), mx_m X, mx_r0 X, mx_r4 X, mx_t4 X, mx_l4 X hk6, mx_t1 X, mx_st X hk6, gi_o X (by omega), nI_1]
      refine hrec _ _ ⟨k + 1, _, by omega, by omega, rfl, rfl, fun q hq => ?_⟩
      by_cases e : q = k
      · subst e; rw [va_up_self]
      · rw [va_up_off e]; exact h3 q (by omega)
theorem m_undo22 (X : MX sh ma h) {m : Nat} (hm : m < 4) (h3m : gi h (ma 0) 3 = nI m) {K : Hp → Prop} (hk : ∀ f', (∀ k, k < 623 → f' k = gi h (ma 3) (623 * m + k)) → K (hset h (ma 1) f')) : lo (b_X6_undo_22 sh (ma 0) (fun h => K h)) (0 : Int32) (hset h (ma 1) f) := by
  refine lo_ind (fun d s h' => ∃ k f', k + d = 624 ∧ k ≤ 623 ∧ s = nI k ∧ h' = hset h (ma 1) f' ∧ ∀ q, q < k → f' q = gi h (ma 3) (623 * m + q)) ?_ ?_ (d := 624) ⟨0, f, by omega, by omega, rfl, rfl, fun q hq => by omega⟩
  · rintro s h' ⟨k, a, h1, h2, -⟩
    omega
  · rintro d rec hrec s h' ⟨k, f', h1, h2, rfl, rfl, h3⟩
    unfold b_X6_undo_22
    by_cases hz : k = 623
    · subst hz
      rw [if_pos ge623]
      exact hk f' h3
    · have hk6 : k < 623 := by omega
      rw [if_neg (lt623 hk6), mx_m X, mx_r0 X, mx_r2 X, gI_t, gi_o X (by omega), h3m, mx_t3 X, i623, nI_mul, nI_add, mx_l3 X (by omega), mx_t1 X, mx_st X hk6, gi_o X (by omega), nI_1]
      refine hrec _ _ ⟨k + 1, _, by omega, by omega, rfl, rfl, fun q hq => ?_⟩
      by_cases e : q = k
      · subst e; rw [va_up_self]
      · rw [va_up_off e]; exact h3 q (by omega)
theorem m_know51 (X : MX sh ma h) {m : Nat} (hm : m < 4) (h3m : gi h (ma 0) 3 = nI m) {K : Hp → Prop} (hk : ∀ B, (∀ k, k < 623 → B (623 * m + k) = f k) → (∀ q, q < 623 * m → B q = gi h (ma 3) q) → K (hset (hset h (ma 3) B) (ma 1) f)) : lo (b_X6_know_51 sh (ma 0) (fun h => K h)) (0 : Int32) (hset h (ma 1) f) := by
  refine lo_ind (fun d s h' => ∃ k B, k + d = 624 ∧ k ≤ 623 ∧ s = nI k ∧ h' = hset (hset h (ma 3) B) (ma 1) f ∧ (∀ q, q < k → B (623 * m + q) = f q) ∧ (∀ q, q < 623 * m → B q = gi h (ma 3) q)) ?_ ?_ (d := 624) ⟨0, gi h (ma 3), by omega, by omega, rfl, by rw [hset_self], fun q hq => by omega, fun _ _ => rfl⟩
  · rintro s h' ⟨k, a, h1, h2, -⟩
    omega
  · rintro d rec hrec s h' ⟨k, B, h1, h2, rfl, rfl, h3, h4⟩
    unfold b_X6_know_51
    have X2 : MX sh ma (hset h (ma 3) B) := mx_h X
    by_cases hz : k = 623
    · subst hz
      rw [if_pos ge623]
      exact hk B h3 h4
    · have hk6 : k < 623 := by omega
      rw [if_neg (lt623 hk6), mx_m X, mx_r2 X2, gI_t, gi_o X (by omega), gi_hset_ne (mx_ne X (by omega)), h3m, mx_r0 X2, mx_t1 X, mx_ld X2 hk6, mx_t3 X, i623, nI_mul, nI_add, mx_s3 X (by omega), si_o X (by omega), si_hset, nI_1]
      refine hrec _ _ ⟨k + 1, _, by omega, by omega, rfl, rfl, fun q hq => ?_, fun q hq => by rw [va_up_off (by omega)]; exact h4 q hq⟩
      by_cases e : q = k
      · subst e; rw [va_up_self]
      · rw [va_up_off (by omega)]; exact h3 q (by omega)
theorem m_know10 (X : MX sh ma h) {K : Hp → Prop} (hk : ∀ B, (∀ k, k < 1869 → B k = gi h (ma 3) (623 + k)) → K (hset (hset h (ma 3) B) (ma 1) f)) : lo (b_X6_know_10 sh (ma 0) (fun h => K h)) (0 : Int32) (hset h (ma 1) f) := by
  refine lo_ind (fun d s h' => ∃ k B, k + d = 1870 ∧ k ≤ 1869 ∧ s = nI k ∧ h' = hset (hset h (ma 3) B) (ma 1) f ∧ (∀ q, q < k → B q = gi h (ma 3) (623 + q)) ∧ (∀ q, k ≤ q → B q = gi h (ma 3) q)) ?_ ?_ (d := 1870) ⟨0, gi h (ma 3), by omega, by omega, rfl, by rw [hset_self], fun q hq => by omega, fun _ _ => rfl⟩
  · rintro s h' ⟨k, a, h1, h2, -⟩
    omega
  · rintro d rec hrec s h' ⟨k, B, h1, h2, rfl, rfl, h3, h4⟩
    unfold b_X6_know_10
    have X2 : MX sh ma (hset h (ma 3) B) := mx_h X
    by_cases hz : k = 1869
    · subst hz
      rw [if_pos (show (1869 : Int32) ≤ nI 1869 by decide)]
      exact hk B h3
    · have hk6 : k < 1869 := by omega
      rw [if_neg (fun z => by rw [show (1869 : Int32) = nI 1869 from rfl, nI_leI (by omega) (by omega)] at z; omega), mx_m X, mx_r2 X2, mx_r2 X2, mx_t3 X, i623, nI_add, mx_l3 X (by omega), gi_o X (by omega), gi_hset, h4 _ (by omega), mx_t3 X, mx_s3 X (by omega), si_o X (by omega), si_hset, nI_1]
      refine hrec _ _ ⟨k + 1, _, by omega, by omega, rfl, rfl, fun q hq => ?_, fun q hq => by rw [va_up_off (by omega)]; exact h4 q (by omega)⟩
      by_cases e : q = k
      · subst e; rw [va_up_self]
      · rw [va_up_off e]; exact h3 q (by omega)
theorem m_know (X : MX sh ma h) {m : Nat} (hm : m ≤ 4) (h3m : gi h (ma 0) 3 = nI m) {K : Hp → Prop} (hk : ∀ h2, MX sh ma h2 → h2.2 = h.2 → (∀ a, a ≠ ma 0 → a ≠ ma 3 → h2.1 a = h.1 a) → (∀ k, k ≠ 3 → gi h2 (ma 0) k = gi h (ma 0) k) → gi h2 (ma 0) 3 = nI (min (m + 1) 4) → (∀ i k, i < min (m + 1) 4 → k < 623 → gi h2 (ma 3) (623 * i + k) = if i + 1 = min (m + 1) 4 then f k else gi h (ma 3) (623 * (if m = 4 then i + 1 else i) + k)) → K (hset h2 (ma 1) f)) : f_X6_know sh (ma 0) (hset h (ma 1) f) K := by
  have n30 : ma 3 ≠ ma 0 := mx_ne X (by omega)
  unfold f_X6_know
  rw [mx_m X, gI_t, gi_o X (by omega), h3m]
  by_cases m4 : m = 4
  · subst m4
    rw [if_pos (by decide)]
    refine m_know10 X (fun B hB => ?_)
    have X2 : MX sh ma (hset h (ma 3) B) := mx_h X
    rw [gI_t, gi_o X (by omega), gi_hset_ne (Ne.symm n30), h3m, pI_t, si_o X (by omega), show nI 4 - 1 = nI 3 from rfl]
    have e3 : gi (si (hset h (ma 3) B) (ma 0) 3 (nI 3)) (ma 0) 3 = nI 3 := gi_si
    refine m_know51 (mx_s X2) (m := 3) (by omega) e3 (fun B2 hB2 hB3 => ?_)
    rw [gI_t, gi_o X (by omega), gi_hset_ne (Ne.symm n30), e3, pI_t, si_o X (by omega), nI_1]
    refine hk _ (mx_s (mx_h (mx_s X2))) rfl (fun a a0 a3 => ?_) (fun k k3 => ?_) gi_si (fun i k i1 k1 => ?_)
    · show va_up (va_up (va_up (va_up h.1 _ _) _ _) _ _) _ _ a = h.1 a
      rw [va_up_off a0, va_up_off a3, va_up_off a0, va_up_off a3]
    · rw [gi_si_k k3, gi_hset_ne (Ne.symm n30), gi_si_k k3, gi_hset_ne (Ne.symm n30)]
    · rw [gi_si_ne n30, gi_hset, if_pos rfl]
      by_cases z : i = 3
      · subst z
        rw [if_pos (by omega)]
        exact hB2 k k1
      · rw [if_neg (by omega), hB3 _ (by omega), gi_si_ne n30, gi_hset, hB _ (by omega)]
        congr 1
        omega
  · refine if_n (fun z => m4 (nI_inj (b := 4) (by omega) (by omega) z)) ?_
    refine m_know51 X (m := m) (by omega) h3m (fun B hB hB2 => ?_)
    have X2 : MX sh ma (hset h (ma 3) B) := mx_h X
    rw [gI_t, gi_o X (by omega), gi_hset_ne (Ne.symm n30), h3m, pI_t, si_o X (by omega), nI_1]
    refine hk _ (mx_s X2) rfl (fun a a0 a3 => ?_) (fun k k3 => ?_) (by rw [gi_si, show min (m + 1) 4 = m + 1 by omega]) (fun i k i1 k1 => ?_)
    · show va_up (va_up h.1 _ _) _ _ a = h.1 a
      rw [va_up_off a0, va_up_off a3]
    · rw [gi_si_k k3, gi_hset_ne (Ne.symm n30)]
    · rw [gi_si_ne n30, gi_hset, if_neg m4]
      by_cases z : i = m
      · subst z
        rw [if_pos (by omega)]
        exact hB k k1
      · rw [if_neg (by omega), hB2 _ (by omega)]
end XD

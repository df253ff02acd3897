/-! the class's session: what it tells; its statements -/
section CB4
variable {sh : Sh} {ad : Nat → Nat} {h : Hp} {s : Nat} {c : Nat → Int32} {l : List En} {w : Nat → En}
/-- one place of a statement is read -/
theorem cs_rw (X : SK sh ad s) (hm : CS h ad s c l w) {j : Nat} (hj : j < 4) {K : Nat → Prop} : (gR h (ad s) 8 fun q => ty sh q 11 <| lR sh h q (nI j) fun q2 => ty sh q2 4 <| K q2) = K (ad (s + 11 + 2 * j)) := by
  obtain ⟨⟨p7, p8, p10⟩, m1, m6, m8, ⟨pm, q⟩, m9⟩ := hm
  rw [gR_t p8, cs_t10 X, cs_lR10 X hj (p10 j hj).1, cs_t11 X hj]
theorem cs_w (hm : CS h ad s c l w) {j k : Nat} (hj : j < 4) (hk : k < 3) : gi h (ad (s + 11 + 2 * j)) k = w j k := (hm.2.2.2.2.2 j hj).1 k hk
theorem cs_v (hm : CS h ad s c l w) {j t : Nat} (hj : j < 4) (ht : t < 6) : gi h (ad (s + 12 + 2 * j)) t = w j (3 + t) := (hm.2.2.2.2.2 j hj).2 t ht
theorem cs_r3 (hm : CS h ad s c l w) {j : Nat} (hj : j < 4) : gr h (ad (s + 11 + 2 * j)) 3 = some (ad (s + 12 + 2 * j)) := (hm.1.2.2 j hj).2
/-- the first statement's place with a number -/
theorem c_wn (X : SK sh ad s) (hm : CS h ad s c l w) {x : Int32} {K : Option Nat → Hp → Prop} (k1 : ∀ j, j < 4 → w j 0 = x → (∀ i, i < j → w i 0 ≠ x) → K (some (ad (s + 11 + 2 * j))) h) (k2 : (∀ j, j < 4 → w j 0 ≠ x) → K none h) : f_X1_workWithNumber sh (ad s) x h K := by
  unfold f_X1_workWithNumber
  refine lo_ind (fun d s' h' => ∃ k, k + d = 5 ∧ k ≤ 4 ∧ s' = nI k ∧ h' = h ∧ ∀ i, i < k → w i 0 ≠ x) ?_ ?_ (d := 5) ⟨0, by omega, by omega, rfl, rfl, fun i hi => by omega⟩
  · rintro s' h' ⟨k, h1, h2, -⟩
    omega
  · rintro d rec hrec s' h' ⟨k, h1, h2, rfl, rfl, h3⟩
    unfold b_X1_workWithNumber_2
    by_cases hz : k = 4
    · subst hz
      rw [if_pos (by decide)]
      exact k2 h3
    · have hk : k < 4 := by omega
      rw [if_neg (fun z => by rw [show (4 : Int32) = nI 4 from rfl, nI_leI (by omega) (by omega)] at z; omega), cs_t0 X, cs_rw X hm hk, gI_t, cs_w hm hk (by omega)]
      by_cases e : w k 0 = x
      · rw [if_pos e]
        obtain ⟨⟨p7, p8, p10⟩, -⟩ := hm
        rw [gR_t p8, cs_t10 X, cs_lR10 X hk (p10 k hk).1]
        exact k1 k hk e h3
      · rw [if_neg e, nI_1]
        refine hrec _ _ ⟨k + 1, by omega, by omega, rfl, rfl, fun i hi => ?_⟩
        by_cases e2 : i = k
        · subst e2; exact e
        · exact h3 i (by omega)
theorem c_idle (X : SK sh ad s) (hm : CS h ad s c l w) {K : Option Nat → Hp → Prop} (k1 : ∀ j, j < 4 → w j 0 = -1 → (∀ i, i < j → w i 0 ≠ -1) → K (some (ad (s + 11 + 2 * j))) h) (k2 : (∀ j, j < 4 → w j 0 ≠ -1) → K none h) : f_X1_idleWork sh (ad s) h K := by
  unfold f_X1_idleWork
  rw [cs_t0 X]
  exact c_wn X hm k1 k2
theorem c_workOf (X : SK sh ad s) (hm : CS h ad s c l w) {x : Int32} {K : Option Nat → Hp → Prop} (k1 : 0 ≤ x → ∀ j, j < 4 → w j 0 = x → (∀ i, i < j → w i 0 ≠ x) → K (some (ad (s + 11 + 2 * j))) h) (k2 : (0 ≤ x → ∀ j, j < 4 → w j 0 ≠ x) → K none h) : f_X1_workOf sh (ad s) x h K := by
  unfold f_X1_workOf
  by_cases c0 : 0 ≤ x
  · rw [if_pos c0, cs_t0 X]
    exact c_wn X hm (k1 c0) (fun z => k2 (fun _ => z))
  · rw [if_neg c0]
    exact k2 (fun z => absurd z c0)
theorem sum5_s {l : List En} {k : Nat} : sum5 l (k + 1) = sum5 l k + hd l k 5 := rfl
/-- stale ones -/
theorem c_stale (X : SK sh ad s) (hm : CS h ad s c l w) (h5 : ∀ i, i < l.length → hd l i 5 = 0 ∨ hd l i 5 = 1) {K : Int32 → Hp → Prop} (hk : K (sum5 l l.length) h) : f_X1_staleInHand sh (ad s) h K := by
  have hl8 := hm.2.2.2.1
  unfold f_X1_staleInHand
  refine lo_ind (fun d s' h' => ∃ k, k + d = l.length + 1 ∧ k ≤ l.length ∧ s' = (sum5 l k, nI k) ∧ h' = h) ?_ ?_ (d := l.length + 1) ⟨0, by omega, by omega, rfl, rfl⟩
  · rintro s' h' ⟨k, h1, h2, -⟩
    omega
  · rintro d rec hrec s' h' ⟨k, h1, h2, rfl, rfl⟩
    unfold b_X1_staleInHand_4
    obtain ⟨pm, hp⟩ := CS_p hm
    rw [cs_t0 X, gI_t, hm.2.2.1]
    by_cases hz : k = l.length
    · rw [if_pos (nI_le (by omega) (by omega)), hz]
      exact hk
    · have hkl : k < l.length := by omega
      rw [if_neg (nI_ge (by omega) (by omega)), cs_rd X hp hkl (by omega)]
      dsimp only
      rw [nI_1]
      rcases h5 k hkl with e | e
      · rw [if_pos e]
        refine hrec _ _ ⟨k + 1, by omega, by omega, ?_, rfl⟩
        rw [sum5_s, e, Int32.add_zero]
      · rw [if_neg (by rw [e]; decide)]
        refine hrec _ _ ⟨k + 1, by omega, by omega, ?_, rfl⟩
        rw [sum5_s, e]
def cntW (w : Nat → En) : Nat → Nat
  | 0 => 0
  | k + 1 => if w k 0 < 0 then cntW w k else cntW w k + 1
theorem cntW_s {w : Nat → En} {k : Nat} : cntW w (k + 1) = if w k 0 < 0 then cntW w k else cntW w k + 1 := rfl
theorem c_atWork (X : SK sh ad s) (hm : CS h ad s c l w) {K : Int32 → Hp → Prop} (hk : K (nI (cntW w 4)) h) : f_X1_statementsAtWork sh (ad s) h K := by
  unfold f_X1_statementsAtWork
  refine lo_ind (fun d s' h' => ∃ k, k + d = 5 ∧ k ≤ 4 ∧ s' = (nI (cntW w k), nI k) ∧ h' = h) ?_ ?_ (d := 5) ⟨0, by omega, by omega, rfl, rfl⟩
  · rintro s' h' ⟨k, h1, h2, -⟩
    omega
  · rintro d rec hrec s' h' ⟨k, h1, h2, rfl, rfl⟩
    unfold b_X1_statementsAtWork_4
    by_cases hz : k = 4
    · subst hz
      rw [if_pos (show (4 : Int32) ≤ nI 4 by decide)]
      exact hk
    · have hk : k < 4 := by omega
      rw [if_neg (fun z => by rw [show (4 : Int32) = nI 4 from rfl, nI_leI (by omega) (by omega)] at z; omega), cs_t0 X, cs_rw X hm hk, gI_t, cs_w hm hk (by omega)]
      have nx := fun v z => hrec (v, nI (k + 1)) h' ⟨k + 1, by omega, by omega, z, rfl⟩
      dsimp only
      rw [nI_1, nI_1]
      by_cases e : w k 0 < 0
      · rw [if_pos e]
        exact nx _ (by rw [cntW_s, if_pos e])
      · rw [if_neg e]
        exact nx _ (by rw [cntW_s, if_neg e])
theorem rg_succ {w : Nat → En} {k : Nat} : (List.range (k + 1)).map w = (List.range k).map w ++ [w k] := by rw [List.range_succ, List.map_append]; rfl
/-- the lowest of those of its statements that work by a lower version -/
theorem c_lowest (X : SK sh ad s) (hm : CS h ad s c l w) {t : Nat} (ht : t < 6) {v : Int32} {K : Int32 → Hp → Prop} (hk : ∀ r, isMin (fun o => ¬ o 0 < 0 ∧ bitp (o 1) t ∧ ¬ v ≤ o (3 + t)) (fun o => o 0) (-1) ((List.range 4).map w) r → K r h) : f_X1_lowestBehind sh (ad s) (nI t) v h K := by
  unfold f_X1_lowestBehind
  refine lo_ind (fun d s' h' => ∃ k r, k + d = 5 ∧ k ≤ 4 ∧ s' = (r, nI k) ∧ h' = h ∧ isMin (fun o => ¬ o 0 < 0 ∧ bitp (o 1) t ∧ ¬ v ≤ o (3 + t)) (fun o => o 0) (-1) ((List.range k).map w) r) ?_ ?_ (d := 5) ⟨0, -1, by omega, by omega, rfl, rfl, isMin_nil⟩
  · rintro s' h' ⟨k, r, h1, h2, -⟩
    omega
  · rintro d rec hrec s' h' ⟨k, r, h1, h2, rfl, rfl, h3⟩
    unfold b_X1_lowestBehind_5
    by_cases hz : k = 4
    · subst hz
      rw [if_pos (show (4 : Int32) ≤ nI 4 by decide)]
      exact hk r h3
    · have hk : k < 4 := by omega
      have nx := fun v z => hrec (v, nI (k + 1)) h' ⟨k + 1, v, by omega, by omega, rfl, rfl, z⟩
      rw [rg_succ] at nx
      have w0 := cs_w hm hk (k := 0) (by omega)
      have w1 := cs_w hm hk (k := 1) (by omega)
      rw [if_neg (fun z => by rw [show (4 : Int32) = nI 4 from rfl, nI_leI (by omega) (by omega)] at z; omega), cs_t0 X, cs_rw X hm hk, gI_t, w0]
      dsimp only
      rw [nI_1]
      by_cases e : w k 0 < 0
      · rw [if_pos e]
        exact nx r (isMin_skip h3 (fun z => z.1 e))
      · rw [if_neg e, gI_t, w1]
        unfold f_X5_contains
        by_cases hb : bitp (w k 1) t
        · have hb' := hb
          unfold bitp at hb'
          rw [if_pos hb']
          dsimp only
          rw [if_neg (by decide), gR_t (cs_r3 hm hk), cs_t12 X hk, cs_lI12 X hk ht, cs_v hm hk ht]
          by_cases hv : v ≤ w k (3 + t)
          · rw [if_pos hv]
            exact nx r (isMin_skip h3 (fun z => z.2.2 hv))
          · rw [if_neg hv]
            have hP : (fun o : En => ¬ o 0 < 0 ∧ bitp (o 1) t ∧ ¬ v ≤ o (3 + t)) (w k) := ⟨e, hb, hv⟩
            have hne : ∀ q : En, ¬ q 0 < 0 → q 0 ≠ -1 := fun q z z2 => z (by rw [z2]; decide)
            have rneg : r < 0 → r = -1 := fun z => by
              rcases h3 with ⟨a, -⟩ | ⟨⟨o, a1, a2, a3⟩, -⟩
              · exact a
              · exact absurd z (by rw [← a3]; exact a2.1)
            by_cases hr : r < 0
            · rw [if_pos hr, gI_t, w0]
              exact nx _ (isMin_first h3 (rneg hr) (fun q _ z => hne q z.1) hP)
            · rw [if_neg hr, gI_t, w0]
              have hr2 : r ≠ -1 := fun z => hr (by rw [z]; decide)
              by_cases hle : r ≤ w k 0
              · rw [if_pos hle]
                exact nx r (isMin_more h3 hr2 hP hle)
              · rw [if_neg hle, gI_t, w0]
                exact nx _ (isMin_less h3 hr2 hP hle)
        · have hb' := hb
          unfold bitp at hb'
          rw [if_neg hb']
          dsimp only
          rw [if_pos rfl]
          exact nx r (isMin_skip h3 (fun z => hb z.2.1))
/-- the version of the first entry of a table by which statements work -/
theorem c_leastV (X : SK sh ad s) (hm : CS h ad s c l w) {t : Int32} {K : Int32 → Hp → Prop} (k1 : ∀ i, i < l.length → hd l i 0 = t → ¬ hd l i 3 ≤ 0 → (∀ j, j < i → hd l j 0 = t → hd l j 3 ≤ 0) → K (hd l i 1) h) (k2 : (∀ j, j < l.length → hd l j 0 = t → hd l j 3 ≤ 0) → K (-1) h) : f_X1_leastVersionAtWork sh (ad s) t h K := by
  have hl8 := hm.2.2.2.1
  unfold f_X1_leastVersionAtWork
  refine lo_ind (fun d s' h' => ∃ k, k + d = l.length + 1 ∧ k ≤ l.length ∧ s' = nI k ∧ h' = h ∧ ∀ j, j < k → hd l j 0 = t → hd l j 3 ≤ 0) ?_ ?_ (d := l.length + 1) ⟨0, by omega, by omega, rfl, rfl, fun j hj => by omega⟩
  · rintro s' h' ⟨k, h1, h2, -⟩
    omega
  · rintro d rec hrec s' h' ⟨k, h1, h2, rfl, rfl, h3⟩
    unfold b_X1_leastVersionAtWork_2
    obtain ⟨pm, hp⟩ := CS_p hm
    rw [cs_t0 X, gI_t, hm.2.2.1]
    by_cases hz : k = l.length
    · rw [if_pos (nI_le (by omega) (by omega))]
      exact k2 (by rw [← hz]; exact h3)
    · have hkl : k < l.length := by omega
      rw [if_neg (nI_ge (by omega) (by omega)), cs_rd X hp hkl (by omega), nI_1]
      have nx : (hd l k 0 = t → hd l k 3 ≤ 0) → rec (nI (k + 1)) h' := fun z => hrec _ _ ⟨k + 1, by omega, by omega, rfl, rfl, fun j hj => by
        by_cases e : j = k
        · subst e; exact z
        · exact h3 j (by omega)⟩
      by_cases e0 : hd l k 0 = t
      · rw [if_pos e0, cs_rd X hp hkl (by omega)]
        by_cases e3 : hd l k 3 ≤ 0
        · rw [if_pos e3]
          exact nx (fun _ => e3)
        · rw [if_neg e3, cs_rd X hp hkl (by omega)]
          exact k1 k hkl e0 e3 h3
      · rw [if_neg e0]
        exact nx (fun z => absurd z e0)
end CB4

/-! the first state; the law's loop -/
def ey (l : List Nat) (N s k : Nat) : Nat := l.getD k (N + 2 * k + s)
theorem ey_lt {l : List Nat} {N s k : Nat} (h : k < l.length) : ey l N s k = ex l k := by
  unfold ey
  rw [ex_lt h, List.getD_eq_getElem?_getD, List.getElem?_eq_getElem h]; rfl
theorem ey_ge {l : List Nat} {N s k : Nat} (h : l.length ≤ k) : ey l N s k = N + 2 * k + s := by
  unfold ey
  rw [List.getD_eq_getElem?_getD, List.getElem?_eq_none h]; rfl
theorem ey_inj {l : List Nat} {N s : Nat} (h : l.Nodup) (hN : l.sum < N) : inj (ey l N s) := by
  intro p q e
  by_cases hp : p < l.length
  · by_cases hq : q < l.length
    · rw [ey_lt hp, ey_lt hq] at e; exact ex_inj h _ _ e
    · have h1 := le_sum (ex_mem hp)
      rw [ey_lt hp, ey_ge (by omega)] at e
      omega
  · by_cases hq : q < l.length
    · have h1 := le_sum (ex_mem hq)
      rw [ey_lt hq, ey_ge (by omega)] at e
      omega
    · rw [ey_ge (by omega), ey_ge (by omega)] at e; omega
theorem ey_ne {l m : List Nat} {N p q : Nat} (h : (l ++ m).Nodup) (hN : l.sum + m.sum < N) : ey l N 0 p ≠ ey m N 1 q := by
  intro e
  by_cases hp : p < l.length
  · by_cases hq : q < m.length
    · rw [ey_lt hp, ey_lt hq] at e
      exact nd_x h (ex_mem hp) (by rw [e]; exact ex_mem hq)
    · have h1 := le_sum (ex_mem hp)
      rw [ey_lt hp, ey_ge (by omega)] at e
      omega
  · by_cases hq : q < m.length
    · have h1 := le_sum (ex_mem hq)
      rw [ey_lt hq, ey_ge (by omega)] at e
      omega
    · rw [ey_ge (by omega), ey_ge (by omega)] at e; omega
theorem b0_ok : BS b0 := by
  refine ⟨fun i hi => ?_, fun i j hi hj => ?_⟩
  · unfold isB
    match i, hi with
    | 0, _ => exact Or.inl rfl
    | 1, _ => exact Or.inr (Or.inl rfl)
    | 2, _ => exact Or.inr (Or.inr (Or.inl rfl))
    | 3, _ => exact Or.inr (Or.inr (Or.inr (Or.inl rfl)))
    | 4, _ => exact Or.inr (Or.inr (Or.inr (Or.inr (Or.inl rfl))))
    | 5, _ => exact Or.inr (Or.inr (Or.inr (Or.inr (Or.inr rfl))))
  · have : ∀ i, i < 6 → ∀ j, j < 6 → b0 i = b0 j → i = j := by decide
    exact this i hi j hj
theorem RW_0 {W : Slots} (hw : ∀ n, n < 4 → ∀ j, j < 4 → W n j 0 = -1) : RW [] W := by
  refine ⟨fun o ho => absurd ho List.not_mem_nil, fun n j hn hj => Or.inl (hw n hn j hj), fun n j n' j' hn hj _ _ _ z => absurd (hw n hn j hj) z, fun n hn => ?_⟩
  show 0 = cntW (W n) 4
  have neg : ∀ j, j < 4 → W n j 0 < 0 := fun j hj => by rw [hw n hn j hj]; decide
  rw [cntW_s, if_pos (neg 3 (by omega)), cntW_s, if_pos (neg 2 (by omega)), cntW_s, if_pos (neg 1 (by omega)), cntW_s, if_pos (neg 0 (by omega))]
  rfl
section YF
variable {sh sh' : Sh} {ad ma : Nat → Nat} {h h' : Hp} {T : Nat} {L m : List Nat}
theorem lS_e {xs : Nat → Int32} {Ls k : Nat} {i : Int32} {K : Int32 → Prop} (e : i = nI k) (hk : k < Ls) (hL : Ls < 2 ^ 31) : lS xs Ls i K = K (xs k) := by
  subst e
  apply propext
  unfold lS
  rw [nI_clamp (by omega)]
  exact ⟨fun ⟨_, v, e, q⟩ => e ▸ q, fun q => ⟨nI_in hk hL, _, rfl, q⟩⟩
theorem law_end {Ls k : Nat} (hL : Ls ≤ 2048) (hk : k < 3000) : (Int32.ofNat Ls - (4 : Int32) < nI k) ↔ Ls < k + 4 := by
  show (nI Ls - (4 : Int32) < nI k) ↔ _
  by_cases c : 4 ≤ Ls
  · rw [show (4 : Int32) = nI 4 from rfl, nI_sub c, nI_ltI (by omega) (by omega)]
    omega
  · have : ∀ q, q < 4 → (nI q - (4 : Int32)).toInt < 0 := by decide
    have h1 := this Ls (by omega)
    refine ⟨fun _ => by omega, fun _ => ?_⟩
    rw [i32_lt, nI_toInt (by omega)]
    omega
end YF
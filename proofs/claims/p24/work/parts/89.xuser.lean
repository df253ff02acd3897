/-! the best room: the reference uses a table -/
def HM (ma : Nat → Nat) (h h' : Hp) : Prop := h'.2 = h.2 ∧ ∀ a, a ≠ ma 6 → a ≠ ma 7 → a ≠ ma 8 → h'.1 a = h.1 a
def HO (ma : Nat → Nat) (n : Nat) (h h' : Hp) : Prop := ∀ m, m ≠ n → gi h' (ma 8) m = gi h (ma 8) m ∧ ∀ i, i < 8 → gi h' (ma 6) (8 * m + i) = gi h (ma 6) (8 * m + i) ∧ gi h' (ma 7) (8 * m + i) = gi h (ma 7) (8 * m + i)
def RS (h : Hp) (ma : Nat → Nat) (n : Nat) (l : List En) : Prop := gi h (ma 8) n = nI l.length ∧ RH (fun i => gi h (ma 6) (8 * n + i)) (fun i => gi h (ma 7) (8 * n + i)) l
def PLc (fh : Nat → Int32) (n : Nat) (t : Int32) (i : Nat) (p : Int32) : Prop := (p = -1 ∧ ∀ j, j < i → fh j ≠ t) ∨ ∃ j, j < i ∧ p = nI (8 * n + j) ∧ fh j = t
def OD (fh fu : Nat → Int32) (n : Nat) (kk : Int32) (i : Nat) (o : Int32) : Prop := (o = -1 ∧ ∀ j, j < i → ¬ fu j < kk) ∨ ∃ j, j < i ∧ o = nI (8 * n + j) ∧ fu j < kk ∧ ∀ j', j' < i → fu j' < kk → fu j < fu j' ∨ (fu j = fu j' ∧ fh j ≤ fh j')
theorem RH_ext {fh fu fh' fu' : Nat → Int32} {l : List En} (h : RH fh fu l) (e : ∀ i, i < l.length → fh' i = fh i ∧ fu' i = fu i) : RH fh' fu' l := by
  obtain ⟨h1, h2, h3⟩ := h
  refine ⟨fun i hi => ?_, fun x hx => ?_, fun i j hi hj z => ?_⟩
  · rw [(e i hi).1, (e i hi).2]; exact h1 i hi
  · obtain ⟨i, i1, i2, i3⟩ := h2 x hx
    exact ⟨i, i1, by rw [(e i i1).1]; exact i2, by rw [(e i i1).2]; exact i3⟩
  · rw [(e i hi).1, (e j hj).1] at z; exact h3 i j hi hj z
theorem RH_list {fh fu : Nat → Int32} {l l' : List En} (h : RH fh fu l) (hl : l'.length = l.length) (e : ∀ i, i < l.length → hd l' i 0 = hd l i 0 ∧ hd l' i 4 = hd l i 4) : RH fh fu l' := by
  obtain ⟨h1, h2, h3⟩ := h
  refine ⟨fun i hi => ?_, fun x hx => ?_, fun i j hi hj z => h3 i j (by omega) (by omega) z⟩
  · obtain ⟨x, x1, x2, x3⟩ := h1 i (by omega)
    obtain ⟨p, p1, rfl⟩ := mem_hd x1
    exact ⟨hd l' p, hd_mem (by omega), by rw [x2, (e p p1).1], by rw [x3, (e p p1).2]⟩
  · obtain ⟨p, p1, rfl⟩ := mem_hd hx
    obtain ⟨i, i1, i2, i3⟩ := h2 (hd l p) (hd_mem (by omega))
    exact ⟨i, by omega, by rw [i2, (e p (by omega)).1], by rw [i3, (e p (by omega)).2]⟩
section XV
variable {sh : Sh} {ma : Nat → Nat} {h h' h'' : Hp} {n k tt rm : Nat} {l : List En} {g : Nat → Int32} {fh fu : Nat → Int32} {i : Nat} {kk o : Int32}
theorem HM.rf : HM ma h h := ⟨rfl, fun _ _ _ _ => rfl⟩
theorem HM.tr (a : HM ma h h') (b : HM ma h' h'') : HM ma h h'' := ⟨b.1.trans a.1, fun q q1 q2 q3 => (b.2 q q1 q2 q3).trans (a.2 q q1 q2 q3)⟩
theorem HO.rf : HO ma n h h := fun _ _ => ⟨rfl, fun _ _ => ⟨rfl, rfl⟩⟩
theorem HO.tr (a : HO ma n h h') (b : HO ma n h' h'') : HO ma n h h'' := fun m hm => ⟨((b m hm).1).trans (a m hm).1, fun i hi => ⟨(((b m hm).2 i hi).1).trans ((a m hm).2 i hi).1, (((b m hm).2 i hi).2).trans ((a m hm).2 i hi).2⟩⟩
theorem RS_HO {m : Nat} (a : RS h ma m l) (hl : l.length ≤ 8) (hm : m ≠ n) (b : HO ma n h h') : RS h' ma m l := ⟨((b m hm).1).trans a.1, RH_ext a.2 (fun i hi => (b m hm).2 i (by omega))⟩
theorem OD_keep (h : OD fh fu n kk i o) (c : ¬ fu i < kk) : OD fh fu n kk (i + 1) o := by
  rcases h with ⟨h1, h2⟩ | ⟨j, j1, j2, j3, j4⟩
  · refine Or.inl ⟨h1, fun j hj => ?_⟩
    by_cases z : j = i
    · subst z; exact c
    · exact h2 j (by omega)
  · refine Or.inr ⟨j, by omega, j2, j3, fun j' hj' hlt => ?_⟩
    by_cases z : j' = i
    · subst z; exact absurd hlt c
    · exact j4 j' (by omega) hlt
theorem OD_first (c : fu i < kk) (hno : ∀ j, j < i → ¬ fu j < kk) : OD fh fu n kk (i + 1) (nI (8 * n + i)) := by
  refine Or.inr ⟨i, by omega, rfl, c, fun j' hj' hlt => ?_⟩
  by_cases z : j' = i
  · subst z; exact Or.inr ⟨rfl, by rw [i32_le]; omega⟩
  · exact absurd hlt (hno j' (by omega))
theorem OD_new {j : Nat} (c : fu i < kk) (j2 : fu j < kk) (jm : ∀ j', j' < i → fu j' < kk → fu j < fu j' ∨ (fu j = fu j' ∧ fh j ≤ fh j')) (d : fu i < fu j ∨ (fu i = fu j ∧ ¬ fh j ≤ fh i)) : OD fh fu n kk (i + 1) (nI (8 * n + i)) := by
  refine Or.inr ⟨i, by omega, rfl, c, fun j' hj' hlt => ?_⟩
  by_cases z : j' = i
  · subst z; exact Or.inr ⟨rfl, by rw [i32_le]; omega⟩
  · have := jm j' (by omega) hlt
    simp only [i32_lt, i32_le, i32_eq] at this d ⊢
    omega
theorem OD_old {j : Nat} (j1 : j < i) (j2 : fu j < kk) (jm : ∀ j', j' < i → fu j' < kk → fu j < fu j' ∨ (fu j = fu j' ∧ fh j ≤ fh j')) (d : ¬ fu i < fu j) (e : fu i = fu j → fh j ≤ fh i) : OD fh fu n kk (i + 1) (nI (8 * n + j)) := by
  refine Or.inr ⟨j, by omega, rfl, j2, fun j' hj' hlt => ?_⟩
  by_cases z : j' = i
  · subst z
    simp only [i32_lt, i32_le, i32_eq] at d e ⊢
    omega
  · exact jm j' (by omega) hlt
end XV

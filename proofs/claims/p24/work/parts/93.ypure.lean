/-! the constructors: lists of addresses as places; what is told of places, told of other ones that are the same -/
def ex (m : List Nat) (k : Nat) : Nat := m.getD k (m.sum + 1 + k)
theorem ex_lt {m : List Nat} {k : Nat} (h : k < m.length) : ex m k = m[k] := by
  unfold ex
  rw [List.getD_eq_getElem?_getD, List.getElem?_eq_getElem h]; rfl
theorem ex_mem {m : List Nat} {k : Nat} (h : k < m.length) : ex m k ∈ m := by rw [ex_lt h]; exact List.getElem_mem h
theorem ex_ge {m : List Nat} {k : Nat} (h : m.length ≤ k) : ex m k = m.sum + 1 + k := by
  unfold ex
  rw [List.getD_eq_getElem?_getD, List.getElem?_eq_none h]; rfl
theorem le_sum {m : List Nat} {a : Nat} (h : a ∈ m) : a ≤ m.sum := by
  induction m with
  | nil => cases h
  | cons x t ih =>
    rw [List.sum_cons]
    rcases List.mem_cons.mp h with z | z
    · omega
    · have := ih z; omega
theorem ex_app1 {m m2 : List Nat} {k : Nat} (h : k < m.length) : ex (m ++ m2) k = ex m k := by
  rw [ex_lt (by rw [List.length_append]; omega), ex_lt h, List.getElem_append_left h]
theorem ex_app2 {m m2 : List Nat} {k : Nat} (h : k < m2.length) : ex (m ++ m2) (m.length + k) = ex m2 k := by
  rw [ex_lt (by rw [List.length_append]; omega), ex_lt h, List.getElem_append_right (by omega)]
  congr 1
  omega
theorem ex_last {m : List Nat} {q : Nat} : ex (m ++ [q]) m.length = q := by
  have := ex_app2 (m := m) (m2 := [q]) (k := 0) (by rw [List.length_singleton]; decide)
  rw [Nat.add_zero] at this
  rw [this]; rfl
theorem ex_inj {m : List Nat} (h : m.Nodup) : inj (ex m) := by
  intro p q e
  by_cases hp : p < m.length
  · by_cases hq : q < m.length
    · rw [ex_lt hp, ex_lt hq] at e
      exact (List.getElem_inj h).mp e
    · have h1 := le_sum (ex_mem hp)
      rw [e, ex_ge (by omega)] at h1
      omega
  · by_cases hq : q < m.length
    · have h1 := le_sum (ex_mem hq)
      rw [← e, ex_ge (by omega)] at h1
      omega
    · rw [ex_ge (by omega), ex_ge (by omega)] at e
      omega
/-- places that are the same, and hold the same -/
def SM (n : Nat) (ad : Nat → Nat) (B : Nat) (sh : Sh) (h : Hp) (ad' : Nat → Nat) (B' : Nat) (sh' : Sh) (h' : Hp) : Prop := ∀ j, j < n → ad' (B' + j) = ad (B + j) ∧ sh' (ad (B + j)) = sh (ad (B + j)) ∧ h'.1 (ad (B + j)) = h.1 (ad (B + j)) ∧ h'.2 (ad (B + j)) = h.2 (ad (B + j))
section YA
variable {ad ad' : Nat → Nat} {B B' N n : Nat} {sh sh' : Sh} {h h' : Hp} {g : Nat → Int32} {S : Nat → Ses} {W : Slots} {L : Ring} {c : Nat → Int32} {l : List En} {w : Nat → En}
theorem SM.sub (e : SM n ad B sh h ad' B' sh' h') {k n' : Nat} (hk : k + n' ≤ n) : SM n' ad (B + k) sh h ad' (B' + k) sh' h' := fun j hj => by
  have := e (k + j) (by omega)
  rw [← Nat.add_assoc, ← Nat.add_assoc] at this
  exact this
theorem SM.qa (e : SM n ad B sh h ad' B' sh' h') {j : Nat} (hj : j < n) : ad' (B' + j) = ad (B + j) := (e j hj).1
theorem SM.qa0 (e : SM n ad B sh h ad' B' sh' h') (hn : 0 < n) : ad' B' = ad B := (e 0 hn).1
theorem SM.qr (e : SM n ad B sh h ad' B' sh' h') {j k : Nat} (hj : j < n) : gr h' (ad' (B' + j)) k = gr h (ad (B + j)) k := by
  obtain ⟨e1, e2, e3, e4⟩ := e j hj
  show h'.2 _ _ = h.2 _ _
  rw [e1, e4]
theorem SM.qr0 (e : SM n ad B sh h ad' B' sh' h') {k : Nat} (hn : 0 < n) : gr h' (ad' B') k = gr h (ad B) k := e.qr (j := 0) hn
theorem SM.qi (e : SM n ad B sh h ad' B' sh' h') {j k : Nat} (hj : j < n) : gi h' (ad' (B' + j)) k = gi h (ad (B + j)) k := by
  obtain ⟨e1, e2, e3, e4⟩ := e j hj
  show h'.1 _ _ = h.1 _ _
  rw [e1, e3]
theorem SM.qi0 (e : SM n ad B sh h ad' B' sh' h') {k : Nat} (hn : 0 < n) : gi h' (ad' B') k = gi h (ad B) k := e.qi (j := 0) hn
theorem SM.qs (e : SM n ad B sh h ad' B' sh' h') {j : Nat} (hj : j < n) : sh' (ad' (B' + j)) = sh (ad (B + j)) := by
  obtain ⟨e1, e2, e3, e4⟩ := e j hj
  rw [e1, e2]
theorem SM.qs0 (e : SM n ad B sh h ad' B' sh' h') (hn : 0 < n) : sh' (ad' B') = sh (ad B) := e.qs (j := 0) hn
theorem SK_SM (e : SM 19 ad B sh h ad' B' sh' h') (t : SK sh ad B) : SK sh' ad' B' := by
  obtain ⟨t1, t2, t3, t4, t5⟩ := t
  refine ⟨by rw [e.qs0 (by omega)]; exact t1, by rw [e.qs (j := 1) (by omega)]; exact t2, fun j hj => ?_, by rw [e.qs (j := 10) (by omega)]; exact t4, fun j hj => ⟨?_, ?_⟩⟩
  · have := e.qs (j := 2 + j) (by omega)
    rw [← Nat.add_assoc, ← Nat.add_assoc] at this
    rw [this]; exact t3 j hj
  · have := e.qs (j := 11 + 2 * j) (by omega)
    rw [← Nat.add_assoc, ← Nat.add_assoc] at this
    rw [this]; exact (t5 j hj).1
  · have := e.qs (j := 12 + 2 * j) (by omega)
    rw [← Nat.add_assoc, ← Nat.add_assoc] at this
    rw [this]; exact (t5 j hj).2
theorem SP_SM (e : SM 19 ad B sh h ad' B' sh' h') (t : SP h ad B) : SP h' ad' B' := by
  obtain ⟨t1, t2, t3⟩ := t
  refine ⟨by rw [e.qr0 (by omega), e.qa (by omega)]; exact t1, by rw [e.qr0 (by omega), e.qa (by omega)]; exact t2, fun j hj => ⟨?_, ?_⟩⟩
  · have := e.qa (j := 11 + 2 * j) (by omega)
    rw [← Nat.add_assoc, ← Nat.add_assoc] at this
    rw [e.qr (j := 10) (by omega), this]; exact (t3 j hj).1
  · have a1 := e.qr (j := 11 + 2 * j) (k := 3) (by omega)
    have a2 := e.qa (j := 12 + 2 * j) (by omega)
    rw [← Nat.add_assoc, ← Nat.add_assoc] at a1 a2
    rw [a1, a2]; exact (t3 j hj).2
theorem HP_SM (e : SM 19 ad B sh h ad' B' sh' h') {pm : Nat → Nat} (t : HP h ad B pm) : HP h' ad' B' pm := by
  obtain ⟨t1, t2, t3⟩ := t
  refine ⟨t1, t2, fun j hj => ?_⟩
  have := e.qa (j := 2 + pm j) (by have := t1 j hj; omega)
  rw [← Nat.add_assoc, ← Nat.add_assoc] at this
  rw [e.qr (j := 1) (by omega), this]; exact t3 j hj
theorem CG_SM (e : SM 19 ad B sh h ad' B' sh' h') (t : CG h ad B) : CG h' ad' B' := by
  obtain ⟨t1, pm, t2⟩ := t
  exact ⟨SP_SM e t1, pm, HP_SM e t2⟩
theorem CS_SM (e : SM 19 ad B sh h ad' B' sh' h') (t : CS h ad B c l w) : CS h' ad' B' c l w := by
  obtain ⟨t1, t2, t3, t4, ⟨pm, t5, t6⟩, t7⟩ := t
  refine ⟨SP_SM e t1, fun k hk => by rw [e.qi0 (by omega)]; exact t2 k hk, by rw [e.qi0 (by omega)]; exact t3, t4, ⟨pm, HP_SM e t5, fun j hj k hk => ?_⟩, fun j hj => ⟨fun k hk => ?_, fun t ht => ?_⟩⟩
  · have := e.qi (j := 2 + pm j) (k := k) (by have := t5.1 j (by omega); omega)
    rw [← Nat.add_assoc, ← Nat.add_assoc] at this
    rw [this]; exact t6 j hj k hk
  · have := e.qi (j := 11 + 2 * j) (k := k) (by omega)
    rw [← Nat.add_assoc, ← Nat.add_assoc] at this
    rw [this]; exact (t7 j hj).1 k hk
  · have := e.qi (j := 12 + 2 * j) (k := t) (by omega)
    rw [← Nat.add_assoc, ← Nat.add_assoc] at this
    rw [this]; exact (t7 j hj).2 t ht
theorem SM.ses (e : SM 84 ad B sh h ad' B' sh' h') {i : Nat} (hi : i < 4) : SM 19 ad (B + 8 + 19 * i) sh h ad' (B' + 8 + 19 * i) sh' h' := by
  have := e.sub (k := 8 + 19 * i) (n' := 19) (by omega)
  rw [← Nat.add_assoc, ← Nat.add_assoc] at this
  exact this
theorem TK_SM (e : SM 84 ad B sh h ad' B' sh' h') (t : TK sh ad B) : TK sh' ad' B' := by
  obtain ⟨t0, t1, t2, t3, t4, t5, t6, t7, t8⟩ := t
  exact ⟨by rw [e.qs0 (by omega)]; exact t0, by rw [e.qs (j := 1) (by omega)]; exact t1, by rw [e.qs (j := 2) (by omega)]; exact t2, by rw [e.qs (j := 3) (by omega)]; exact t3, by rw [e.qs (j := 4) (by omega)]; exact t4, by rw [e.qs (j := 5) (by omega)]; exact t5, by rw [e.qs (j := 6) (by omega)]; exact t6, by rw [e.qs (j := 7) (by omega)]; exact t7, fun i hi => SK_SM (e.ses hi) (t8 i hi)⟩
theorem TP_SM (e : SM 84 ad B sh h ad' B' sh' h') (t : TP h ad B) : TP h' ad' B' := by
  obtain ⟨t1, t2, t3, t4, t5, t6, t7, t8⟩ := t
  refine ⟨by rw [e.qr0 (by omega), e.qa (by omega)]; exact t1, by rw [e.qr0 (by omega), e.qa (by omega)]; exact t2, by rw [e.qr0 (by omega), e.qa (by omega)]; exact t3, by rw [e.qr0 (by omega), e.qa (by omega)]; exact t4, by rw [e.qr0 (by omega), e.qa (by omega)]; exact t5, by rw [e.qr0 (by omega), e.qa (by omega)]; exact t6, by rw [e.qr0 (by omega), e.qa (by omega)]; exact t7, fun i hi => ?_⟩
  have := e.qa (j := 8 + 19 * i) (by omega)
  rw [← Nat.add_assoc, ← Nat.add_assoc] at this
  rw [e.qr (j := 7) (by omega), this]; exact t8 i hi
theorem TG_SM (e : SM 84 ad B sh h ad' B' sh' h') (t : TG h ad B) : TG h' ad' B' := ⟨TP_SM e t.1, fun i hi => CG_SM (e.ses hi) (t.2 i hi)⟩
theorem CT_SM (e : SM 84 ad B sh h ad' B' sh' h') (t : CT h ad B N g S W L) : CT h' ad' B' N g S W L := by
  obtain ⟨t1, ⟨a1, a2, a3, a4, a5⟩, t3, t4, t5, t6⟩ := t
  refine ⟨TP_SM e t1, ⟨by rw [e.qi0 (by omega)]; exact a1, by rw [e.qi0 (by omega)]; exact a2, by rw [e.qi0 (by omega)]; exact a3, by rw [e.qi0 (by omega)]; exact a4, by rw [e.qi0 (by omega)]; exact a5⟩, fun k hk => ⟨by rw [e.qi (j := 1) (by omega)]; exact (t3 k hk).1, by rw [e.qi (j := 2) (by omega)]; exact (t3 k hk).2⟩, fun k hk => ⟨by rw [e.qi (j := 3) (by omega)]; exact (t4 k hk).1, by rw [e.qi (j := 4) (by omega)]; exact (t4 k hk).2⟩, fun k hk => ⟨by rw [e.qi (j := 5) (by omega)]; exact (t5 k hk).1, by rw [e.qi (j := 6) (by omega)]; exact (t5 k hk).2⟩, fun i hi => CS_SM (e.ses hi) (t6 i hi)⟩
end YA

/-! a call on both sides: end, would -/
section XH
variable {sh : Sh} {ad ma : Nat → Nat} {h h' h'' : Hp} {b : Nat → Nat} {m len T : Nat} {A : Nat → AS} {kp : Option AS} {tx : Nat → Int32}
/-- the row of the statement at a place -/
theorem RW_row {st : Nat} {os : List En} {W : Slots} (hRW : RW os W) (hO : OI st os) (hst : st ≤ 999) {n j p : Nat} (hn : n < 4) (hj : j < 4) (hp : p < os.length) (e : hd os p 0 = W n j 0) : hd os p 1 = nI n ∧ sm (hd os p) (W n j) := by
  rcases hRW.2.1 n j hn hj with z | ⟨o, o1, o2, o3⟩
  · obtain ⟨⟨q, q1, q2⟩, -⟩ := hO.1 _ (hd_mem hp)
    rw [z, q2] at e
    exact absurd e (nI_ne_m1 (by omega))
  · obtain ⟨i, i1, rfl⟩ := mem_hd o1
    have : i = p := OI_at hO i1 hp (o3.1.symm.trans e.symm)
    subst this
    exact ⟨o2, o3⟩
theorem end_pins {g : Nat → Int32} {N rm : Nat} {os : List En} {S : Nat → Ses} (hS : SI g N rm os S) {n p : Nat} (hn : n < 4) (hp : p < os.length) (h1 : hd os p 1 = nI n) : (∀ t, t < 6 → bitp (hd os p 2) t → 0 < pc os n t (hd os p (4 + t))) ∧ pins (hd os p) (S n).2 := by
  have key : ∀ t, t < 6 → bitp (hd os p 2) t → 0 < pc os n t (hd os p (4 + t)) := fun t ht hb => pc_pos.mpr ⟨_, hd_mem hp, h1, hb, rfl⟩
  refine ⟨key, fun t ht hb => ?_⟩
  obtain ⟨e, e1, e2, e3⟩ := (hS n hn).1.1.2.2.2.1 t _ ht (key t ht hb)
  obtain ⟨t', v, u, u1, u2, u3, u4, u5, u6, -⟩ := (hS n hn).1.1.1 e e1
  obtain ⟨i, i1, rfl⟩ := mem_hd e1
  exact ⟨by rw [← e3, u3]; exact nI_pos' (by omega), i, i1, e2, e3⟩
end XH

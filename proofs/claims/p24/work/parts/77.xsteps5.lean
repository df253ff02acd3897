/-! a call on both sides: snapshot, undo, the text's signs -/
section XI
variable {sh : Sh} {ad ma : Nat → Nat} {h h' h'' : Hp} {b : Nat → Nat} {m len T : Nat} {A : Nat → AS} {kp : Option AS} {tx : Nat → Int32}
theorem CI_text (X : WK sh ad ma) (hm : m ≤ 4) (c : CI ad b m A kp len tx h) (h2 : h'.2 = h.2) (h1 : ∀ q, q ≠ ad 590 → q ≠ ad 591 → h'.1 q = h.1 q) {len' : Nat} {tx' : Nat → Int32} (t : TXc h' ad len' tx') : CI ad b m A kp len' tx' h' := by
  have hi := X.1
  obtain ⟨c1, c2, c3, c4, c5, c6, c7, c8, c9, c10, c11⟩ := c
  have qb : ∀ i, i < 6 → QB ad h h' (b i) := fun i i1 j hj => ⟨h1 _ (ad_ne hi (fun z => (outB c1 i1 j hj).2.2.1 z.symm)) (ad_ne hi (fun z => (outB c1 i1 j hj).2.2.2 z.symm)), by rw [h2]⟩
  have qk : QB ad h h' 169 := fun j hj => ⟨h1 _ (ad_ne hi (by omega)) (ad_ne hi (by omega)), by rw [h2]⟩
  have e0 : ∀ k, gi h' (ad 0) k = gi h (ad 0) k := fun k => by show h'.1 _ _ = h.1 _ _; rw [h1 _ (ad_ne hi (by omega)) (ad_ne hi (by omega))]
  refine ⟨c1, XP_eq (by rw [h2]) (by rw [h2]) (by rw [h2]) c2, by rw [e0]; exact c3, CA_Q (qb 0 (by omega)) c4, TG_Q (qb 1 (by omega)) c5, fun i hi => CA_Q (qb _ (by omega)) (c6 i hi), fun i hi => TG_Q (qb _ (by omega)) (c7 i hi), ?_, TG_Q qk c9, t⟩
  rcases c8 with ⟨z1, z2⟩ | ⟨a, z1, z2, z3⟩
  · exact Or.inl ⟨z1, by rw [e0]; exact z2⟩
  · exact Or.inr ⟨a, z1, by rw [e0]; exact z2, CA_Q qk z3⟩
theorem x_lx (X : WK sh ad ma) {h : Hp} {k : Nat} (hk : k < 60) {K : Int32 → Prop} : lI sh h (ad 591) (nI k) K = K (gi h (ad 591) k) := lI_t (by rw [X.2.2.2.2.2.1]; exact hk) (by rw [X.2.2.2.2.2.1]; decide)
theorem x_sx (X : WK sh ad ma) {h : Hp} {k : Nat} (hk : k < 60) {v : Int32} {K : Hp → Prop} : sI sh h (ad 591) (nI k) v K = K (si h (ad 591) k v) := sI_t (by rw [X.2.2.2.2.2.1]; exact hk) (by rw [X.2.2.2.2.2.1]; decide)
end XI

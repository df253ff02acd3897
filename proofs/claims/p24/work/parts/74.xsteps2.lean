/-! a call on both sides: alter, set -/
section XF
variable {sh : Sh} {ad ma : Nat → Nat} {h h' h'' : Hp} {b : Nat → Nat} {m len T : Nat} {A : Nat → AS} {kp : Option AS} {tx : Nat → Int32}
/-- the entries by which statements work, and the open statements -/
theorem pin_os {g : Nat → Int32} {N rm st : Nat} {os : List En} {S : Nat → Ses} (hS : SI g N rm os S) (ho : OI st os) {t : Nat} (ht : t < 6) {P : Int32 → Prop} : (∃ e, pinE S (nI t) 4 e ∧ P (e 1)) ↔ ∃ o ∈ os, bitp (o 2) t ∧ P (o (4 + t)) := by
  constructor
  · rintro ⟨e, ⟨n, hn, e1, e2, e3⟩, hP⟩
    obtain ⟨t', v, u, u1, u2, u3, u4, u5, u6, u7, u8, u9⟩ := (hS n hn).1.1.1 e e1
    have et : t' = t := nI_inj (by omega) (by omega) (u2.symm.trans e2)
    subst et
    have hpos : 0 < pc os n t' (e 1) := by
      rcases Nat.eq_zero_or_pos (pc os n t' (e 1)) with z | z
      · rw [u8, z] at e3; exact absurd (show (nI 0 : Int32) ≤ 0 by decide) e3
      · exact z
    obtain ⟨o, o1, o2, o3, o4⟩ := pc_pos.mp hpos
    exact ⟨o, o1, o3, by rw [o4]; exact hP⟩
  · rintro ⟨o, o1, o2, hP⟩
    obtain ⟨-, n, hn, o3⟩ := ho.1 o o1
    have hpos : 0 < pc os n t (o (4 + t)) := pc_pos.mpr ⟨o, o1, o3, o2, rfl⟩
    obtain ⟨e, e1, e2, e3⟩ := (hS n hn).1.1.2.2.2.1 t _ ht hpos
    obtain ⟨t', v, u, u1, u2, u3, u4, u5, u6, u7, u8, u9⟩ := (hS n hn).1.1.1 e e1
    have et : t' = t := nI_inj (by omega) (by omega) (u2.symm.trans e2)
    subst et
    have hb := (hS n hn).1.1.2.2.2.2.2.1 t' (e 1) u1
    refine ⟨e, ⟨n, hn, e1, e2, ?_⟩, by rw [e3]; exact hP⟩
    rw [u8, e3]
    rw [e3] at hb
    exact fun z => by rw [show (0 : Int32) = nI 0 from rfl, nI_leI (by omega) (by omega)] at z; omega
theorem OI_nn {st : Nat} {os : List En} (ho : OI st os) (hst : st ≤ 999) : ∀ o ∈ os, ∃ q, q < 2 ^ 31 ∧ o 0 = nI q := fun o o1 => by
  obtain ⟨⟨q, q1, q2⟩, -⟩ := ho.1 o o1
  exact ⟨q, by omega, q2⟩
theorem MA_S {f g : Nat → Int32} {S S' : Nat → Ses} {os : List En} {rc : List (Int32 × Int32)} (hm : MA f g S os rc) (he : ∀ n, n < 4 → S' n = S n) : MA f g S' os rc := by
  obtain ⟨a1, a2, a3⟩ := hm
  exact ⟨a1, fun n hn => by rw [he n hn]; exact a2 n hn, a3⟩
end XF

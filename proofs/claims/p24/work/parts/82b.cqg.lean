section XCQ
theorem CQ_G {ad : Nat → Nat} {h : Hp} {B : Nat} {a : AQ} (c : CQ h ad B a) : TG h ad B := by
  obtain ⟨W, L, c1, c2⟩ := c
  exact CT_G c1
end XCQ

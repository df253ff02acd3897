/-! the constructor of the reference -/
theorem g00_hi {k : Nat} (h : 17 ≤ k) : g00 k = 0 := by
  unfold g00
  rw [if_neg (by omega), if_neg (by omega), if_neg (by omega)]
theorem MA_g00 : MA g00 g00 S00 [] [] := by
  refine ⟨fun _ _ => rfl, fun n hn => ⟨fun k hk => g00_hi (by omega), g00_hi (by omega), Nat.zero_le _, fun i hi => absurd hi (Nat.not_lt_zero i)⟩, ⟨g00_hi (by omega), Nat.zero_le _, fun p hp => absurd hp (Nat.not_lt_zero p)⟩, g00_hi (by omega), Nat.zero_le _, fun p hp => absurd hp (Nat.not_lt_zero p)⟩
theorem gi_fun {h : Hp} {a k : Nat} {v : Int32} : gi (si h a k v) a = va_up (gi h a) k v := by
  funext j
  by_cases c : j = k
  · subst c; rw [gi_si, va_up_self]
  · rw [gi_si_k c, va_up_off c]
theorem g00_up : va_up (va_up (va_up (va_up (va_up (va_up (va_up (va_up (fun _ => (0 : Int32)) 3 3) 4 3) 11 1) 12 1) 13 1) 14 1) 15 1) 16 1 = g00 := by
  funext j
  unfold g00 va_up
  repeat' split
  all_goals first | rfl | omega
section YD
variable {P m : List Nat} {sh sh' : Sh} {h h' : Hp} {a0 : Nat}
end YD

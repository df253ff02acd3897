/-! a call on both sides: count -/
section XL
variable {sh : Sh} {ad ma : Nat → Nat} {h h' : Hp} {T : Nat}
theorem satN_os {os : List En} {W : Slots} {st : Nat} (hRW : RW os W) (hO : OI st os) : satN W 4 = os.length := by
  rw [pcn_sum (fun o ho => (hO.1 o ho).2), hRW.2.2.2 0 (by omega), hRW.2.2.2 1 (by omega), hRW.2.2.2 2 (by omega), hRW.2.2.2 3 (by omega)]
  show 0 + cntW (W 0) 4 + cntW (W 1) 4 + cntW (W 2) 4 + cntW (W 3) 4 = _
  omega
end XL

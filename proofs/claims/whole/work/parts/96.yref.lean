/-! the constructor of the reference -/
theorem g00_hi {k : Nat} (h : 17 ≤ k) : g00 k = 0 := by
  unfold g00
  rw [if_neg (by omega), if_neg (by omega), if_neg (by omega)]
theorem MA_g00 : MA g00 g00 S00 [] [] := by
  refine ⟨fun _ _ => rfl, fun n hn => ⟨fun k hk => g00_hi (by omega), g00_hi (by omega), Nat.zero_le _, fun i hi => absurd hi (Nat.not_lt_zero i)⟩, ⟨g00_hi (by omega), Nat.zero_le _, fun p hp => absurd hp (Nat.not_lt_zero p)⟩, g00_hi (by omega), Nat.zero_le _, fun p hp => absurd hp (Nat.not_lt_zero p)⟩
theorem gi_fun {h : Hp} {a k : Nat} {v : Int32} : gi (si h a k v) a = va_up (gi h a) k v := by
  funext j
  by_cases c : j = k
  · subst c; rw [gi_si, va_up_self]
  · rw [gi_si_k c, va_up_off c]
theorem g00_up : va_up (va_up (va_up (va_up (va_up (va_up (va_up (va_up (fun _ => (0 : Int32)) 3 3) 4 3) 11 1) 12 1) 13 1) 14 1) 15 1) 16 1 = g00 := by
  funext j
  unfold g00 va_up
  repeat' split
  all_goals first | rfl | omega
section YD
variable {P m : List Nat} {sh sh' : Sh} {h h' : Hp} {a0 : Nat}
theorem k_X6 (hN : (P ++ [a0]).Nodup) (hs : (sh a0).1 = 6) (hb : ∀ j, gi h a0 j = 0) {K : List Nat → Sh → Hp → Prop} (hk : ∀ m sh' h', (P ++ m).Nodup → m.length = 9 → ex m 0 = a0 → MX sh' (ex m) h' → (∀ j, gi h' (ex m 0) j = 0) → gi h' (ex m 1) = g00 → Fr m sh h sh' h' → K (P ++ m) sh' h') : f_X6_init (P ++ [a0]) sh a0 h K := by
  unfold f_X6_init
  refine mkA (kd := kd6) (AB_0 hN hs) rfl (fun q1 s1 h1 A1 => ?_)
  refine mkA A1 rfl (fun q2 s2 h2 A2 => ?_)
  refine mkA A2 rfl (fun q3 s3 h3 A3 => ?_)
  refine mkA A3 rfl (fun q4 s4 h4 A4 => ?_)
  refine mkA A4 rfl (fun q5 s5 h5 A5 => ?_)
  refine mkA A5 rfl (fun q6 s6 h6 A6 => ?_)
  refine mkA A6 rfl (fun q7 s7 h7 A7 => ?_)
  refine mkA A7 rfl (fun q8 s8 h8 A8 => ?_)
  obtain ⟨n1, -, n3, n4, n5, n6, n8, n7⟩ := A8
  have refs : gr h8 a0 0 = some (ex ([a0] ++ [q1] ++ [q2] ++ [q3] ++ [q4] ++ [q5] ++ [q6] ++ [q7] ++ [q8]) 1) ∧ gr h8 a0 1 = some (ex ([a0] ++ [q1] ++ [q2] ++ [q3] ++ [q4] ++ [q5] ++ [q6] ++ [q7] ++ [q8]) 2) ∧ gr h8 a0 2 = some (ex ([a0] ++ [q1] ++ [q2] ++ [q3] ++ [q4] ++ [q5] ++ [q6] ++ [q7] ++ [q8]) 3) ∧ gr h8 a0 4 = some (ex ([a0] ++ [q1] ++ [q2] ++ [q3] ++ [q4] ++ [q5] ++ [q6] ++ [q7] ++ [q8]) 4) ∧ gr h8 a0 6 = some (ex ([a0] ++ [q1] ++ [q2] ++ [q3] ++ [q4] ++ [q5] ++ [q6] ++ [q7] ++ [q8]) 5) ∧ gr h8 a0 8 = some (ex ([a0] ++ [q1] ++ [q2] ++ [q3] ++ [q4] ++ [q5] ++ [q6] ++ [q7] ++ [q8]) 6) ∧ gr h8 a0 9 = some (ex ([a0] ++ [q1] ++ [q2] ++ [q3] ++ [q4] ++ [q5] ++ [q6] ++ [q7] ++ [q8]) 7) ∧ gr h8 a0 10 = some (ex ([a0] ++ [q1] ++ [q2] ++ [q3] ++ [q4] ++ [q5] ++ [q6] ++ [q7] ++ [q8]) 8) := ⟨n6 0, n6 1, n6 2, n6 4, n6 6, n6 8, n6 9, n6 10⟩
  have hl : ([a0] ++ [q1] ++ [q2] ++ [q3] ++ [q4] ++ [q5] ++ [q6] ++ [q7] ++ [q8]).length = 9 := rfl
  generalize [a0] ++ [q1] ++ [q2] ++ [q3] ++ [q4] ++ [q5] ++ [q6] ++ [q7] ++ [q8] = m at n1 n3 n5 n7 refs hl ⊢
  obtain ⟨r0, r1, r2, r4, r6, r8, r9, r10⟩ := refs
  have hi := ex_inj (nd_r n1)
  have X8 : MX s8 (ex m) h8 := ⟨hi, by rw [n3]; exact n4, (n5 1 (by omega) (by omega)).1, (n5 2 (by omega) (by omega)).1, (n5 3 (by omega) (by omega)).1, (n5 4 (by omega) (by omega)).1, (n5 5 (by omega) (by omega)).1, (n5 6 (by omega) (by omega)).1, (n5 7 (by omega) (by omega)).1, (n5 8 (by omega) (by omega)).1, by rw [n3]; exact r0, by rw [n3]; exact r1, by rw [n3]; exact r2, by rw [n3]; exact r4, by rw [n3]; exact r6, by rw [n3]; exact r8, by rw [n3]; exact r9, by rw [n3]; exact r10⟩
  have st : ∀ (X : MX s8 (ex m) h8) {h' : Hp} {k : Nat} {v : Int32} {C : Hp → Prop}, h'.2 = h8.2 → k < 623 → C (si h' (ex m 1) k v) → gR h' a0 0 fun q => ty s8 q 7 <| sI s8 h' q (nI k) v C := fun X {h' k v C} e hk' hc => by
    rw [gR_t (show gr h' a0 0 = some (ex m 1) by show h'.2 _ _ = _; rw [e]; exact r0), mx_t1 X, sI_t (by rw [X.2.2.1]; exact hk') (by rw [X.2.2.1]; decide)]
    exact hc
  refine st X8 (k := 3) rfl (by omega) ?_
  refine st X8 (k := 4) rfl (by omega) ?_
  refine st X8 (k := 11) rfl (by omega) ?_
  refine st X8 (k := 12) rfl (by omega) ?_
  refine st X8 (k := 13) rfl (by omega) ?_
  refine st X8 (k := 14) rfl (by omega) ?_
  refine st X8 (k := 15) rfl (by omega) ?_
  refine st X8 (k := 16) rfl (by omega) ?_
  have n01 : ex m 0 ≠ ex m 1 := fun z => absurd (hi _ _ z) (by omega)
  refine hk m _ _ n1 hl n3 (mx_s (mx_s (mx_s (mx_s (mx_s (mx_s (mx_s (mx_s X8)))))))) (fun j => ?_) ?_ ?_
  · rw [gi_si_ne n01, gi_si_ne n01, gi_si_ne n01, gi_si_ne n01, gi_si_ne n01, gi_si_ne n01, gi_si_ne n01, gi_si_ne n01, n3]
    show h8.1 a0 j = 0
    rw [n8]
    exact hb j
  · rw [gi_fun, gi_fun, gi_fun, gi_fun, gi_fun, gi_fun, gi_fun, gi_fun, show gi h8 (ex m 1) = fun _ => 0 from funext (n5 1 (by omega) (by omega)).2]
    exact g00_up
  · have f : ∀ {h' : Hp} {k : Nat} {v : Int32}, Fr m s8 h' s8 (si h' (ex m 1) k v) := Fr_si.mo (fun a ha => by rw [List.mem_singleton.mp ha]; exact ex_mem (by omega))
    exact (((((((n7.tr f).tr f).tr f).tr f).tr f).tr f).tr f).tr f
end YD

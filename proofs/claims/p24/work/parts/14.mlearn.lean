/-! the reference: what a session learns -/
def mark1 (t v : Int32) (e : En) : En := if e 0 = t ∧ e 1 < v then va_up e 5 1 else e
/-- an entry when its session learns of a notice of a table, of which there is the version v now -/
def lq (t v : Int32) (e : En) : Option En := if e 0 = t ∧ e 1 < v then (if e 3 = 0 then none else some (va_up e 5 1)) else some e
def lrn (tl : Nat → Nat) (ver : Nat → Int32) : Nat → Nat → List En → List En
  | 0, _, l => l
  | d + 1, k, l => lrn tl ver d (k + 1) (l.filterMap (lq (nI (tl k)) (ver (tl k))))
/-- no entry is stale and without a statement -/
def alive (l : List En) : Prop := ∀ e ∈ l, e 5 = 1 → ¬ e 3 = 0
theorem alive_lq {t v : Int32} {l : List En} (h : alive l) : alive (l.filterMap (lq t v)) := by
  intro e he h5
  obtain ⟨e0, h0, hq⟩ := List.mem_filterMap.mp he
  unfold lq at hq
  split at hq
  · split at hq
    · cases hq
    · next h3 =>
      cases hq
      rw [va_up_off (by decide)]
      exact h3
  · cases hq
    exact h e h0 h5
theorem fm_congr {p q : En → Option En} : ∀ {l : List En}, (∀ e ∈ l, p e = q e) → l.filterMap p = l.filterMap q
  | [], _ => rfl
  | a :: l, h => by
    rw [List.filterMap_cons, List.filterMap_cons, h a List.mem_cons_self, fm_congr (fun e he => h e (List.mem_cons_of_mem _ he))]
theorem clean_mark {t v : Int32} {l : List En} (h : alive l) : (l.map (mark1 t v)).filterMap liveE = l.filterMap (lq t v) := by
  rw [List.filterMap_map]
  refine fm_congr (fun e he => ?_)
  show liveE (mark1 t v e) = lq t v e
  unfold mark1 lq
  split
  · unfold liveE
    rw [va_up_self, va_up_off (by decide)]
    by_cases h3 : e 3 = 0
    · rw [if_pos ⟨rfl, h3⟩, if_pos h3]
    · rw [if_neg (fun z => h3 z.2), if_neg h3]
  · exact if_neg (fun z => h e he z.1 z.2)
theorem map_step {q : En → En} {l : List En} {j : Nat} (hj : j < l.length) : ((l.take j).map q ++ l.drop j).set j (q (hd l j)) = (l.take (j + 1)).map q ++ l.drop (j + 1) := by
  rw [List.drop_eq_getElem_cons hj, set_mid (by rw [List.length_map, List.length_take]; omega), List.take_succ_eq_append_getElem hj, List.map_append, List.append_assoc, hd_lt hj]
  rfl
theorem map_hd {q : En → En} {l : List En} {j : Nat} (hj : j < l.length) : hd ((l.take j).map q ++ l.drop j) j = hd l j := by
  unfold hd
  rw [List.getD_eq_getElem?_getD, List.getD_eq_getElem?_getD, List.getElem?_append_right (by rw [List.length_map, List.length_take]; omega), List.getElem?_drop]
  congr 2
  rw [List.length_map, List.length_take]
  omega
theorem map_len {q : En → En} {l : List En} {j : Nat} : ((l.take j).map q ++ l.drop j).length = l.length := by
  rw [List.length_append, List.length_map, List.length_take, List.length_drop]
  omega
section M5
variable {sh : Sh} {ma : Nat → Nat} {h : Hp} {f : Nat → Int32} {n : Nat} {c : Nat → Int32} {l : List En}
end M5

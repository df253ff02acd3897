/-! the reference: a statement starts -/
theorem lastN_lt (p : En → Prop) [DecidablePred p] (l : List En) : ∀ n, lastN p l n = -1 ∨ ∃ j, j < n ∧ lastN p l n = nI j ∧ p (hd l j) := by
  intro n
  induction n with
  | zero => exact Or.inl rfl
  | succ n ih =>
    unfold lastN
    split
    · next hz => exact Or.inr ⟨n, by omega, rfl, hz⟩
    · rcases ih with h | ⟨j, h1, h2⟩
      · exact Or.inl h
      · exact Or.inr ⟨j, by omega, h2⟩
def newE (t v sp num : Int32) : En := fun q => match q with | 0 => t | 1 => v | 2 => sp | 3 => 1 | 4 => num | _ => 0
/-- a statement uses a table: its session's counts and hand behind that, and the version it works by; none where there is no room -/
def u1 (rm num t v sp : Int32) (c : Nat → Int32) (l : List En) : Option ((Nat → Int32) × List En × Int32) :=
  if 0 ≤ lastI (fun e => e 0 = t ∧ e 5 = 0) l then
    some (va_up c 1 (c 1 + 1), l.set (lastI (fun e => e 0 = t ∧ e 5 = 0) l).toNatClampNeg (va_up (va_up (hd l (lastI (fun e => e 0 = t ∧ e 5 = 0) l).toNatClampNeg) 3 (hd l (lastI (fun e => e 0 = t ∧ e 5 = 0) l).toNatClampNeg 3 + 1)) 4 num), hd l (lastI (fun e => e 0 = t ∧ e 5 = 0) l).toNatClampNeg 1)
  else if nI (shr (rm - 1) l.length l).1.length < rm then
    some (va_up (va_up c 3 (c 3 + nI (shr (rm - 1) l.length l).2)) 2 (c 2 + 1), (shr (rm - 1) l.length l).1.insertIdx (insN t (shr (rm - 1) l.length l).1 (shr (rm - 1) l.length l).1.length) (newE t v sp num), v)
  else none
/-- all tables of a set from k on, d of them -/
noncomputable def uAll (g : Nat → Int32) (num set : Int32) : Nat → Nat → (Nat → Int32) → List En → Option ((Nat → Int32) × List En × (Nat → Int32))
  | 0, _, c, l => some (c, l, fun _ => 0)
  | d + 1, k, c, l =>
    if ((set >>> (nI k &&& 31)) &&& 1) = 1 then
      match u1 (g 4) num (nI k) (g (5 + k)) (g (11 + k)) c l with
      | none => none
      | some r => match uAll g num set d (k + 1) r.1 r.2.1 with
        | none => none
        | some q => some (q.1, q.2.1, va_up q.2.2 k r.2.2)
    else uAll g num set d (k + 1) c l
theorem MA_off {f g : Nat → Int32} {S : Nat → Ses} {os : List En} {rc : List (Int32 × Int32)} {k : Nat} {v : Int32} (hm : MA f g S os rc) (h1 : 438 + 10 * os.length ≤ k) (h2 : k < 598) : MA (va_up f k v) g S os rc := by
  obtain ⟨a1, a2, ⟨a3, a4, a5⟩, a6, a7, a8⟩ := hm
  refine ⟨fun j hj => by rw [va_up_off (by omega)]; exact a1 j hj, fun m hm => ?_, ⟨by rw [va_up_off (by omega)]; exact a3, a4, fun p hp q hq => by rw [va_up_off (by omega)]; exact a5 p hp q hq⟩, by rw [va_up_off (by omega)]; exact a6, a7, fun p hp => ⟨by rw [va_up_off (by omega)]; exact (a8 p hp).1, by rw [va_up_off (by omega)]; exact (a8 p hp).2⟩⟩
  obtain ⟨m1, m2, m3, m4⟩ := a2 m hm
  exact ⟨fun q hq => by rw [va_up_off (by omega)]; exact m1 q hq, by rw [va_up_off (by omega)]; exact m2, m3, fun i hi q hq => by rw [va_up_off (by omega)]; exact m4 i hi q hq⟩
theorem MS_ext {f : Nat → Int32} {n i : Nat} {c : Nat → Int32} {l : List En} {e : En} (h : MS f n c l) (hi : i < l.length) (he : ∀ k, k < 6 → hd l i k = e k) : MS f n c (l.set i e) := by
  obtain ⟨m1, m2, m3, m4⟩ := h
  refine ⟨m1, by rw [List.length_set]; exact m2, by rw [List.length_set]; exact m3, fun j hj k hk => ?_⟩
  rw [List.length_set] at hj
  rw [hd_set hi]
  by_cases e1 : j = i
  · subst e1; rw [if_pos rfl, ← he k hk]; exact m4 j hj k hk
  · rw [if_neg e1]; exact m4 j hj k hk
theorem ins_set {l : List En} {i : Nat} {a b : En} (h : i ≤ l.length) : (l.insertIdx i a).set i b = l.insertIdx i b := by
  apply List.ext_getElem?
  intro j
  by_cases e : j = i
  · subst e
    rw [List.getElem?_set_self (by rw [len_ins h]; omega), List.getElem?_insertIdx, if_neg (by omega), if_pos rfl, if_pos (by omega)]
  · rw [List.getElem?_set_ne (Ne.symm e), List.getElem?_insertIdx, List.getElem?_insertIdx]
    split
    · rfl
    · first | rfl | rw [if_neg e, if_neg e]
section M9
variable {sh : Sh} {ma : Nat → Nat} {h : Hp} {f g : Nat → Int32} {S : Nat → Ses} {os : List En} {rc : List (Int32 × Int32)}
end M9

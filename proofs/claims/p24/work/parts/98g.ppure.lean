/-! numbers: bits of sets of tables, counts, least versions -/
def bst (b : Bool) (k : Nat) (x : Int32) : Int32 := if b = true then x ||| ((1 : Int32) <<< (nI k &&& 31)) else x
def bs6 (b0 b1 b2 b3 b4 b5 : Bool) : Int32 := bst b5 5 (bst b4 4 (bst b3 3 (bst b2 2 (bst b1 1 (bst b0 0 0)))))
def pk6 (b0 b1 b2 b3 b4 b5 : Bool) (t : Nat) : Bool := match t with | 0 => b0 | 1 => b1 | 2 => b2 | 3 => b3 | 4 => b4 | _ => b5
theorem bs6_bit : ∀ (b0 b1 b2 b3 b4 b5 : Bool) (t : Fin 6), ((bs6 b0 b1 b2 b3 b4 b5 >>> (nI t.val &&& 31)) &&& 1) = if pk6 b0 b1 b2 b3 b4 b5 t.val = true then 1 else 0 := by decide +kernel
theorem bs6_or : ∀ (b0 b1 b2 b3 b4 b5 : Bool) (t : Fin 6), bs6 b0 b1 b2 b3 b4 b5 ||| ((1 : Int32) <<< (nI t.val &&& 31)) = bs6 (b0 || t.val == 0) (b1 || t.val == 1) (b2 || t.val == 2) (b3 || t.val == 3) (b4 || t.val == 4) (b5 || t.val == 5) := by decide +kernel
noncomputable def pb (P : Nat → Prop) (k : Nat) : Bool := @decide (P k) (Classical.propDecidable _)
theorem pb_y {P : Nat → Prop} {k : Nat} (h : P k) : pb P k = true := by unfold pb; exact @decide_eq_true _ (Classical.propDecidable _) h
theorem pb_n {P : Nat → Prop} {k : Nat} (h : ¬ P k) : pb P k = false := by unfold pb; exact @decide_eq_false _ (Classical.propDecidable _) h
theorem tcS_bst {P : Nat → Prop} {k : Nat} : tcS P (k + 1) = bst (pb P k) k (tcS P k) := by
  by_cases c : P k
  · rw [tcS_y c, pb_y c]; rfl
  · rw [tcS_n c, pb_n c]; rfl
theorem tcS_6 {P : Nat → Prop} : tcS P 6 = bs6 (pb P 0) (pb P 1) (pb P 2) (pb P 3) (pb P 4) (pb P 5) := by
  rw [tcS_bst, tcS_bst, tcS_bst, tcS_bst, tcS_bst, tcS_bst]; rfl
theorem pk6_pb {P : Nat → Prop} {t : Nat} (ht : t < 6) : pk6 (pb P 0) (pb P 1) (pb P 2) (pb P 3) (pb P 4) (pb P 5) t = pb P t := by
  match t, ht with
  | 0, _ => rfl
  | 1, _ => rfl
  | 2, _ => rfl
  | 3, _ => rfl
  | 4, _ => rfl
  | 5, _ => rfl
theorem tcS_b1 {P : Nat → Prop} {t : Nat} (ht : t < 6) (h : P t) : ((tcS P 6 >>> (nI t &&& 31)) &&& 1) = 1 := by
  rw [tcS_6]
  have := bs6_bit (pb P 0) (pb P 1) (pb P 2) (pb P 3) (pb P 4) (pb P 5) ⟨t, ht⟩
  rw [pk6_pb ht, pb_y h] at this
  exact this
theorem tcS_b0 {P : Nat → Prop} {t : Nat} (ht : t < 6) (h : ¬ P t) : ((tcS P 6 >>> (nI t &&& 31)) &&& 1) = 0 := by
  rw [tcS_6]
  have := bs6_bit (pb P 0) (pb P 1) (pb P 2) (pb P 3) (pb P 4) (pb P 5) ⟨t, ht⟩
  rw [pk6_pb ht, pb_n h] at this
  exact this
theorem pb_or {P Q : Nat → Prop} {t k : Nat} (h : ∀ q, Q q ↔ P q ∨ q = t) : pb Q k = (pb P k || t == k) := by
  by_cases c : t = k
  · subst c
    rw [pb_y ((h t).mpr (Or.inr rfl)), beq_self_eq_true, Bool.or_true]
  · have e : (t == k) = false := beq_eq_false_iff_ne.mpr c
    rw [e, Bool.or_false]
    by_cases p : P k
    · rw [pb_y p, pb_y ((h k).mpr (Or.inl p))]
    · rw [pb_n p, pb_n (fun z => ((h k).mp z).elim p (fun z => c z.symm))]
/-- one more table in a set -/
theorem tcS_add {P Q : Nat → Prop} {t : Nat} (ht : t < 6) (h : ∀ q, Q q ↔ P q ∨ q = t) : tcS P 6 ||| ((1 : Int32) <<< (nI t &&& 31)) = tcS Q 6 := by
  rw [tcS_6, tcS_6]
  have := bs6_or (pb P 0) (pb P 1) (pb P 2) (pb P 3) (pb P 4) (pb P 5) ⟨t, ht⟩
  rw [pb_or h, pb_or h, pb_or h, pb_or h, pb_or h, pb_or h]
  exact this
theorem tcS_cg {P Q : Nat → Prop} (h : ∀ t, t < 6 → (P t ↔ Q t)) : tcS P 6 = tcS Q 6 := tcS_congr 6 h
def bt (s t : Nat) : Bool := ((nI s >>> (nI t &&& 31)) &&& 1) == 1
theorem set_bs6 : ∀ s : Fin 64, bs6 (bt s.val 0) (bt s.val 1) (bt s.val 2) (bt s.val 3) (bt s.val 4) (bt s.val 5) = nI s.val := by decide +kernel
theorem tcS_set {s : Nat} (hs : s ≤ 63) : tcS (fun t => bitp (nI s) t) 6 = nI s := by
  rw [tcS_6]
  have e : ∀ t, pb (fun t => bitp (nI s) t) t = bt s t := fun t => by
    unfold bt
    by_cases c : bitp (nI s) t
    · rw [pb_y (P := fun t => bitp (nI s) t) c]; exact (beq_iff_eq.mpr c).symm
    · rw [pb_n (P := fun t => bitp (nI s) t) c]; exact (beq_eq_false_iff_ne.mpr c).symm
  rw [e, e, e, e, e, e]
  exact set_bs6 ⟨s, by omega⟩
theorem bit01 : ∀ (s : Fin 64) (t : Fin 6), ((nI s.val >>> (nI t.val &&& 31)) &&& 1) = 0 ∨ ((nI s.val >>> (nI t.val &&& 31)) &&& 1) = 1 := by decide +kernel
theorem olN_tcS {set : Int32} {v g : Nat → Int32} : ∀ k, olN set v g k = tcS (fun t => bitp set t ∧ ¬ g (5 + t) ≤ v t) k := by
  intro k
  induction k with
  | zero => rfl
  | succ k ih =>
    rw [olN_s, ih]
    by_cases c : ((set >>> (nI k &&& 31)) &&& 1) = 1 ∧ ¬ g (5 + k) ≤ v k
    · rw [if_pos c, tcS_y (P := fun t => bitp set t ∧ ¬ g (5 + t) ≤ v t) c]
    · rw [if_neg c, tcS_n (P := fun t => bitp set t ∧ ¬ g (5 + t) ≤ v t) c]
theorem tcS_none {P : Nat → Prop} (h : ∀ t, t < 6 → ¬ P t) : tcS P 6 = 0 := by
  rw [tcS_n (h 5 (by omega)), tcS_n (h 4 (by omega)), tcS_n (h 3 (by omega)), tcS_n (h 2 (by omega)), tcS_n (h 1 (by omega)), tcS_n (h 0 (by omega))]; rfl
/-- how many entries of a table aren't stale, among the first k -/
def fcN (t : Nat) (l : List En) : Nat → Nat
  | 0 => 0
  | k + 1 => fcN t l k + if hd l k 0 = nI t ∧ hd l k 5 = 0 then 1 else 0
theorem fcN_s {t k : Nat} {l : List En} : fcN t l (k + 1) = fcN t l k + if hd l k 0 = nI t ∧ hd l k 5 = 0 then 1 else 0 := rfl
def hcN (S : Nat → Ses) (t : Nat) : Nat → Nat
  | 0 => 0
  | n + 1 => hcN S t n + fcN t (S n).2 (S n).2.length
theorem fcN_0 {t : Nat} {l : List En} : ∀ k, (∀ i, i < k → ¬ (hd l i 0 = nI t ∧ hd l i 5 = 0)) → fcN t l k = 0 := by
  intro k
  induction k with
  | zero => intro _; rfl
  | succ k ih =>
    intro h
    unfold fcN
    rw [ih (fun i hi => h i (by omega)), if_neg (h k (by omega))]
theorem fcN_1 {t j : Nat} {l : List En} (hj : hd l j 0 = nI t ∧ hd l j 5 = 0) : ∀ k, j < k → (∀ i, i < k → hd l i 0 = nI t ∧ hd l i 5 = 0 → i = j) → fcN t l k = 1 := by
  intro k
  induction k with
  | zero => intro h; omega
  | succ k ih =>
    intro h1 h2
    unfold fcN
    by_cases c : j = k
    · subst c
      rw [fcN_0 j (fun i hi z => by have := h2 i (by omega) z; omega), if_pos hj]
    · rw [ih (by omega) (fun i hi => h2 i (by omega)), if_neg (fun z => c (h2 k (by omega) z).symm)]
theorem fcN_le {t : Nat} {l : List En} : ∀ k, fcN t l k ≤ k := by
  intro k
  induction k with
  | zero => exact Nat.le_refl _
  | succ k ih => unfold fcN; split <;> omega
theorem hcN_hwN {S : Nat → Ses} {t : Nat} (hu : ∀ n, n < 4 → uniqF (nI t) (S n).2) (h8 : ∀ n, n < 4 → (S n).2.length ≤ 8) : ∀ n, n ≤ 4 → hcN S t n = hwN S (nI t) n := by
  intro n
  induction n with
  | zero => intro _; rfl
  | succ n ih =>
    intro hn
    have hl := h8 n (by omega)
    rw [hwN_s]
    unfold hcN
    rw [ih (by omega)]
    rcases lastN_lt (fun e => e 0 = nI t ∧ e 5 = 0) (S n).2 (S n).2.length with z | ⟨j, j1, j2, j3⟩
    · have hz : lastI (fun e => e 0 = nI t ∧ e 5 = 0) (S n).2 = -1 := z
      rw [if_pos (by rw [hz]; decide), fcN_0 _ (fun i hi y => lastI_none (p := fun e => e 0 = nI t ∧ e 5 = 0) (by omega) hz _ (hd_mem hi) y)]
      rfl
    · have hz : lastI (fun e => e 0 = nI t ∧ e 5 = 0) (S n).2 = nI j := j2
      rw [if_neg (by rw [hz]; exact nI_pos (by omega)), fcN_1 j3 _ j1 (fun i hi y => hu n (by omega) i j hi j1 y.1 y.2 j3.1 j3.2)]
theorem mn_one {Q Q' : En → Prop} {val : En → Int32} {d r : Int32} {e : En} (h : mn Q val d r) (hq : ∀ x, Q' x ↔ Q x ∨ x = e) (hd : val e < d) : mn Q' val d (if r ≤ val e then r else val e) := by
  rcases h with ⟨h1, h2⟩ | ⟨⟨o, o1, o2⟩, h2⟩
  · rw [if_neg (fun z => by rw [h1] at z; rw [Int32.le_iff_toInt_le] at z; rw [Int32.lt_iff_toInt_lt] at hd; omega)]
    refine Or.inr ⟨⟨e, (hq e).mpr (Or.inr rfl), rfl⟩, fun x hx => ?_⟩
    rcases (hq x).mp hx with z | z
    · exact absurd z (h2 x)
    · rw [z]; exact Int32.le_refl _
  · by_cases c : r ≤ val e
    · rw [if_pos c]
      refine Or.inr ⟨⟨o, (hq o).mpr (Or.inl o1), o2⟩, fun x hx => ?_⟩
      rcases (hq x).mp hx with z | z
      · exact h2 x z
      · rw [z]; exact c
    · rw [if_neg c]
      refine Or.inr ⟨⟨e, (hq e).mpr (Or.inr rfl), rfl⟩, fun x hx => ?_⟩
      rcases (hq x).mp hx with z | z
      · have := h2 x z
        rw [Int32.le_iff_toInt_le] at c this ⊢
        omega
      · rw [z]; exact Int32.le_refl _

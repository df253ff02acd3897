/-! commands on whole states, told once for both sides -/
abbrev AQ : Type := (Nat → Int32) × (Nat → Ses) × List En × List (Int32 × Int32)
def nQ (a : AQ) : Nat := (a.1 1).toNatClampNeg
def sQ (a : AQ) : Nat := (a.1 2).toNatClampNeg
def tQ (a : AQ) : Nat := (a.1 0).toNatClampNeg
def PQ (T : Nat) (a : AQ) : Prop := ∃ rm, INV T (nQ a) (tQ a) rm (sQ a) a.1 a.2.1 a.2.2.1 a.2.2.2
def CQ (h : Hp) (ad : Nat → Nat) (B : Nat) (a : AQ) : Prop := ∃ W L, CT h ad B (nQ a) a.1 a.2.1 W L ∧ RW a.2.2.1 W ∧ RLt a.2.2.2 L (sQ a)
/-- rows that tell the same -/
def eqr (o o' : En) : Prop := (∀ k, k < 4 → o' k = o k) ∧ ∀ t, t < 6 → bitp (o 2) t → o' (4 + t) = o (4 + t)
def EQO : List En → List En → Prop
  | [], [] => True
  | a :: l, b :: m => eqr a b ∧ EQO l m
  | _, _ => False
def RQ (f : Nat → Int32) (a : AQ) : Prop := ∃ os', MA f a.1 a.2.1 os' a.2.2.2 ∧ EQO a.2.2.1 os'
theorem eqr_rf {o : En} : eqr o o := ⟨fun _ _ => rfl, fun _ _ _ => rfl⟩
theorem EQO_rf : ∀ {l : List En}, EQO l l
  | [] => trivial
  | _ :: _ => ⟨eqr_rf, EQO_rf⟩
theorem EQO_len : ∀ {l m : List En}, EQO l m → m.length = l.length
  | [], [], _ => rfl
  | [], _ :: _, h => h.elim
  | _ :: _, [], h => h.elim
  | _ :: _, _ :: _, h => by rw [List.length_cons, List.length_cons, EQO_len h.2]
theorem EQO_hd : ∀ {l m : List En}, EQO l m → ∀ p, p < l.length → eqr (hd l p) (hd m p)
  | [], [], _, p, hp => absurd hp (Nat.not_lt_zero p)
  | [], _ :: _, h, _, _ => h.elim
  | _ :: _, [], h, _, _ => h.elim
  | a :: l, b :: m, h, 0, _ => h.1
  | a :: l, b :: m, h, p + 1, hp => EQO_hd (l := l) (m := m) h.2 p (by rw [List.length_cons] at hp; omega)
theorem EQO_app : ∀ {l m l' m' : List En}, EQO l m → EQO l' m' → EQO (l ++ l') (m ++ m')
  | [], [], _, _, _, h' => h'
  | [], _ :: _, _, _, h, _ => h.elim
  | _ :: _, [], _, _, h, _ => h.elim
  | _ :: _, _ :: _, _, _, h, h' => ⟨h.1, EQO_app h.2 h'⟩
theorem EQO_erase : ∀ {l m : List En}, EQO l m → ∀ p, EQO (l.eraseIdx p) (m.eraseIdx p)
  | [], [], _, _ => trivial
  | [], _ :: _, h, _ => h.elim
  | _ :: _, [], h, _ => h.elim
  | _ :: _, _ :: _, h, 0 => h.2
  | _ :: _, _ :: _, h, p + 1 => ⟨h.1, EQO_erase h.2 p⟩
theorem EQO_mem : ∀ {l m : List En}, EQO l m → (∀ o ∈ l, ∃ o' ∈ m, eqr o o') ∧ ∀ o' ∈ m, ∃ o ∈ l, eqr o o'
  | [], [], _ => ⟨fun _ h => absurd h List.not_mem_nil, fun _ h => absurd h List.not_mem_nil⟩
  | [], _ :: _, h => h.elim
  | _ :: _, [], h => h.elim
  | a :: l, b :: m, h => by
    obtain ⟨h1, h2⟩ := EQO_mem h.2
    refine ⟨fun o ho => ?_, fun o ho => ?_⟩
    · rcases List.mem_cons.mp ho with z | z
      · subst z; exact ⟨b, List.mem_cons_self, h.1⟩
      · obtain ⟨o', q1, q2⟩ := h1 o z
        exact ⟨o', List.mem_cons_of_mem _ q1, q2⟩
    · rcases List.mem_cons.mp ho with z | z
      · subst z; exact ⟨a, List.mem_cons_self, h.1⟩
      · obtain ⟨o', q1, q2⟩ := h2 o z
        exact ⟨o', List.mem_cons_of_mem _ q1, q2⟩
theorem eqr_pin {o o' : En} (h : eqr o o') {n t : Nat} (ht : t < 6) {v : Int32} : (o' 1 = nI n ∧ ((o' 2 >>> (nI t &&& 31)) &&& 1) = 1 ∧ o' (4 + t) = v) ↔ (o 1 = nI n ∧ ((o 2 >>> (nI t &&& 31)) &&& 1) = 1 ∧ o (4 + t) = v) := by
  rw [h.1 1 (by omega), h.1 2 (by omega)]
  constructor
  · rintro ⟨a, b, c⟩; exact ⟨a, b, by rw [← h.2 t ht b]; exact c⟩
  · rintro ⟨a, b, c⟩; exact ⟨a, b, by rw [h.2 t ht b]; exact c⟩
theorem EQO_pc : ∀ {l m : List En}, EQO l m → ∀ n t v, t < 6 → pc m n t v = pc l n t v
  | [], [], _, _, _, _, _ => rfl
  | [], _ :: _, h, _, _, _, _ => h.elim
  | _ :: _, [], h, _, _, _, _ => h.elim
  | a :: l, b :: m, h, n, t, v, ht => by
    have ih := EQO_pc h.2 n t v ht
    unfold pc at ih ⊢
    rw [List.countP_cons, List.countP_cons, ih]
    congr 1
    by_cases c : a 1 = nI n ∧ ((a 2 >>> (nI t &&& 31)) &&& 1) = 1 ∧ a (4 + t) = v
    · rw [if_pos (decide_eq_true ((eqr_pin h.1 ht).mpr c)), if_pos (decide_eq_true c)]
    · rw [if_neg (by rw [decide_eq_false (fun z => c ((eqr_pin h.1 ht).mp z))]; decide), if_neg (by rw [decide_eq_false c]; decide)]
theorem EQO_pcn : ∀ {l m : List En}, EQO l m → ∀ n, pcn m n = pcn l n
  | [], [], _, _ => rfl
  | [], _ :: _, h, _ => h.elim
  | _ :: _, [], h, _ => h.elim
  | a :: l, b :: m, h, n => by
    have ih := EQO_pcn h.2 n
    unfold pcn at ih ⊢
    rw [List.countP_cons, List.countP_cons, ih, h.1.1 1 (by omega)]
theorem EQO_pw : ∀ {l m : List En}, EQO l m → l.Pairwise (fun a b => a 0 ≠ b 0) → m.Pairwise (fun a b => a 0 ≠ b 0)
  | [], [], _, h => h
  | [], _ :: _, h, _ => h.elim
  | _ :: _, [], h, _ => h.elim
  | a :: l, b :: m, h, hp => by
    rw [List.pairwise_cons] at hp ⊢
    refine ⟨fun o' ho' => ?_, EQO_pw h.2 hp.2⟩
    obtain ⟨o, ho, he⟩ := (EQO_mem h.2).2 o' ho'
    rw [h.1.1 0 (by omega), he.1 0 (by omega)]
    exact hp.1 o ho
section XM
variable {T N tk rm st : Nat} {g : Nat → Int32} {S : Nat → Ses} {os os' : List En} {rc : List (Int32 × Int32)} {W : Slots}
theorem OI_eq (h : OI st os) (e : EQO os os') : OI st os' := by
  obtain ⟨h1, h2, h3⟩ := h
  refine ⟨fun o' ho' => ?_, EQO_pw e h2, fun n hn => by rw [EQO_pcn e]; exact h3 n hn⟩
  obtain ⟨o, ho, he⟩ := (EQO_mem e).2 o' ho'
  rw [he.1 0 (by omega), he.1 1 (by omega)]
  exact h1 o ho
theorem SI_eq (h : SI g N rm os S) (e : EQO os os') : SI g N rm os' S := fun n hn => ⟨⟨HIw_cf (h n hn).1.1 (fun t v ht => EQO_pc e n t v ht), (h n hn).1.2⟩, (h n hn).2⟩
theorem INV_eq (h : INV T N tk rm st g S os rc) (e : EQO os os') : INV T N tk rm st g S os' rc := ⟨h.1, SI_eq h.2.1 e, OI_eq h.2.2.1 e, h.2.2.2⟩
theorem sm_eq {o o' w : En} (e : eqr o o') (h : sm o w) : sm o' w := ⟨h.1.trans (e.1 0 (by omega)).symm, h.2.1.trans (e.1 2 (by omega)).symm, h.2.2.1.trans (e.1 3 (by omega)).symm, fun t ht hb => by
  rw [e.1 2 (by omega)] at hb
  rw [e.2 t ht hb]
  exact h.2.2.2 t ht hb⟩
theorem RW_eq (h : RW os W) (e : EQO os os') : RW os' W := by
  obtain ⟨h1, h2, h3, h4⟩ := h
  obtain ⟨e1, e2⟩ := EQO_mem e
  refine ⟨fun o' ho' => ?_, fun n j hn hj => ?_, h3, fun n hn => by rw [EQO_pcn e]; exact h4 n hn⟩
  · obtain ⟨o, ho, he⟩ := e2 o' ho'
    obtain ⟨n, j, q1, q2, q3, q4⟩ := h1 o ho
    exact ⟨n, j, q1, q2, (he.1 1 (by omega)).trans q3, sm_eq he q4⟩
  · rcases h2 n j hn hj with z | ⟨o, ho, q3, q4⟩
    · exact Or.inl z
    · obtain ⟨o', ho', he⟩ := e1 o ho
      exact Or.inr ⟨o', ho', (he.1 1 (by omega)).trans q3, sm_eq he q4⟩
end XM
/-- a row as a place holds it -/
def cw (o : En) : En := fun k => match k with | 0 => o 0 | 1 => o 2 | 2 => o 3 | k + 3 => o (4 + k)
theorem sm_cw {o : En} : sm o (cw o) := ⟨rfl, rfl, rfl, fun t _ _ => by
  show cw o (3 + t) = o (4 + t)
  rw [Nat.add_comm 3 t]
  rfl⟩
def rowC (st n s tick : Int32) (v : Nat → Int32) : En := fun k => match k with | 0 => st | 1 => n | 2 => s | 3 => tick | k + 4 => v k
theorem rowC_v {st n s tick : Int32} {v : Nat → Int32} {t : Nat} : rowC st n s tick v (4 + t) = v t := by rw [Nat.add_comm]; rfl
noncomputable def pick {α : Type} (P : Prop) (x y : α) : α := @ite α P (Classical.propDecidable P) x y
theorem pick_y {α : Type} {P : Prop} {x y : α} (h : P) : pick P x y = x := by unfold pick; rw [if_pos h]
theorem pick_n {α : Type} {P : Prop} {x y : α} (h : ¬ P) : pick P x y = y := by unfold pick; rw [if_neg h]
def kQ (a : AQ) (n : Nat) : Nat := ((a.2.1 n).1 0).toNatClampNeg
/-- the one place of an open statement -/
def oQ (a : AQ) (x : Nat) : Nat := a.2.2.1.findIdx (fun o => decide (o 0 = nI x))
def eQ (a : AQ) (p n : Nat) : List En × Nat := shr (a.1 4) ((a.2.1 n).2.filterMap (rq (cw (hd a.2.2.1 p)))).length ((a.2.1 n).2.filterMap (rq (cw (hd a.2.2.1 p))))
noncomputable def stepC (a : AQ) (x y : Nat) : Int32 × AQ :=
  pick (¬ (x < 6 ∧ y < 8)) (-1, a) (pick ((∃ o ∈ a.2.2.1, bitp (o 2) x ∧ ¬ a.1 (5 + x) ≤ o (4 + x)) ∨ a.1 (11 + x) = (1 : Int32) <<< (nI y &&& 31)) (-2, a)
    (pick (nQ a = 100) (-3, a) (a.1 (5 + x) + 1, (altG a.1 x y (nQ a), (if a.1 3 = 0 then comeN (altG a.1 x y (nQ a)) (nQ a) a.2.1 4 else a.2.1), a.2.2.1, a.2.2.2))))
noncomputable def stepS (a : AQ) (x y : Nat) : Int32 × AQ :=
  pick (¬ (x < 4 ∧ 1 ≤ y ∧ y ≤ 63)) (-1, a) (pick (pcn a.2.2.1 x = 4 ∨ sQ a = 999) (-3, a)
    (match uAll a.1 (nI (sQ a)) (nI y) 6 0 (askC (nQ a) (kQ a x) (a.2.1 x).1) (askL a.1 (nQ a) (kQ a x) (a.2.1 x).2) with
      | none => (-3, a)
      | some r => (nI (sQ a), (va_up a.1 2 (nI (sQ a + 1)), va_up a.2.1 x (r.1, r.2.1), a.2.2.1 ++ [rowC (nI (sQ a)) (nI x) (nI y) (a.1 0) r.2.2], rem12 a.2.2.2 (nI x, nI y)))))
noncomputable def stepE (a : AQ) (x : Nat) : Int32 × AQ :=
  pick (∀ o ∈ a.2.2.1, o 0 ≠ nI x) (-2, a)
    (nI ((a.2.1 (hd a.2.2.1 (oQ a x) 1).toNatClampNeg).2.length - (eQ a (oQ a x) (hd a.2.2.1 (oQ a x) 1).toNatClampNeg).1.length), (a.1, va_up a.2.1 (hd a.2.2.1 (oQ a x) 1).toNatClampNeg (va_up (a.2.1 (hd a.2.2.1 (oQ a x) 1).toNatClampNeg).1 3 ((a.2.1 (hd a.2.2.1 (oQ a x) 1).toNatClampNeg).1 3 + nI (eQ a (oQ a x) (hd a.2.2.1 (oQ a x) 1).toNatClampNeg).2), (eQ a (oQ a x) (hd a.2.2.1 (oQ a x) 1).toNatClampNeg).1), a.2.2.1.eraseIdx (oQ a x), a.2.2.2))
noncomputable def stepT (a : AQ) (x : Nat) : Int32 × AQ :=
  pick (¬ (1 ≤ x ∧ x ≤ 99)) (-1, a) (nI (4 * (tkS a.1 (nQ a) x (tQ a) a.2.1).2), (va_up a.1 0 (nI (tQ a + x)), (tkS a.1 (nQ a) x (tQ a) a.2.1).1, a.2.2.1, a.2.2.2))
noncomputable def stepA (a : AQ) (l x y : Nat) : Int32 × AQ := if l = 99 then stepC a x y else if l = 115 then stepS a x y else if l = 101 then stepE a x else stepT a x
theorem oQ_at {a : AQ} {x p st : Nat} (ho : OI st a.2.2.1) (hp : p < a.2.2.1.length) (e : hd a.2.2.1 p 0 = nI x) : oQ a x = p := by
  have ex : ∃ o ∈ a.2.2.1, decide (o 0 = nI x) = true := ⟨_, hd_mem hp, decide_eq_true e⟩
  have hlt : oQ a x < a.2.2.1.length := List.findIdx_lt_length_of_exists ex
  have h0 : decide ((a.2.2.1[oQ a x]) 0 = nI x) = true := List.findIdx_getElem (w := hlt)
  rw [← hd_lt hlt] at h0
  exact OI_at ho hlt hp ((of_decide_eq_true h0).trans e.symm)
theorem oQ_some {a : AQ} {x : Nat} (h : ¬ ∀ o ∈ a.2.2.1, o 0 ≠ nI x) : oQ a x < a.2.2.1.length ∧ hd a.2.2.1 (oQ a x) 0 = nI x := by
  have ex : ∃ o ∈ a.2.2.1, decide (o 0 = nI x) = true := by
    apply Classical.byContradiction
    intro z
    exact h (fun o ho e => z ⟨o, ho, decide_eq_true e⟩)
  have hlt : oQ a x < a.2.2.1.length := List.findIdx_lt_length_of_exists ex
  have h0 : decide ((a.2.2.1[oQ a x]) 0 = nI x) = true := List.findIdx_getElem (w := hlt)
  rw [← hd_lt hlt] at h0
  exact ⟨hlt, of_decide_eq_true h0⟩
section XN
variable {T : Nat} {a : AQ}
theorem PQ_of {T N tk rm st : Nat} {g : Nat → Int32} {S : Nat → Ses} {os : List En} {rc : List (Int32 × Int32)} (hT : T < 2 ^ 30) (h : INV T N tk rm st g S os rc) : PQ T (g, S, os, rc) ∧ nQ (g, S, os, rc) = N ∧ tQ (g, S, os, rc) = tk ∧ sQ (g, S, os, rc) = st := by
  have n1 : nQ (g, S, os, rc) = N := by show (g 1).toNatClampNeg = N; rw [h.1.1.2.1, nI_clamp (by have := h.1.1.1; omega)]
  have n2 : tQ (g, S, os, rc) = tk := by show (g 0).toNatClampNeg = tk; rw [h.1.2.1.1, nI_clamp (by have := h.1.2.1.2.1; omega)]
  have n3 : sQ (g, S, os, rc) = st := by show (g 2).toNatClampNeg = st; rw [h.1.2.2.2.2.1.1, nI_clamp (by have := h.1.2.2.2.2.1.2; omega)]
  exact ⟨⟨rm, by rw [n1, n2, n3]; exact h⟩, n1, n2, n3⟩
theorem kQ_of {N rm : Nat} {g : Nat → Int32} {S : Nat → Ses} {os : List En} {rc : List (Int32 × Int32)} (hS : SI g N rm os S) (hN : N ≤ 100) {n : Nat} (hn : n < 4) : (S n).1 0 = nI (kQ (g, S, os, rc) n) ∧ kQ (g, S, os, rc) n ≤ N := by
  obtain ⟨-, kn, h1, h2⟩ := hS n hn
  have : kQ (g, S, os, rc) n = kn := by show ((S n).1 0).toNatClampNeg = kn; rw [h2, nI_clamp (by omega)]
  rw [this]
  exact ⟨h2, h1⟩
theorem step_PQ (h : PQ T a) (hT : T < 2 ^ 29) {l x y : Nat} (hx : x < 2 ^ 20) (hr : ¬ (stepA a l x y).1 < 0) : PQ (T + 99) (stepA a l x y).2 := by
  obtain ⟨rm, hI⟩ := h
  have hm1 : ((-1 : Int32)) < 0 := by decide
  have hm2 : ((-2 : Int32)) < 0 := by decide
  have hm3 : ((-3 : Int32)) < 0 := by decide
  unfold stepA at hr ⊢
  by_cases c1 : l = 99
  · rw [if_pos c1] at hr ⊢
    unfold stepC at hr ⊢
    by_cases d1 : ¬ (x < 6 ∧ y < 8)
    · rw [pick_y d1] at hr; exact absurd hm1 hr
    · rw [pick_n d1] at hr ⊢
      by_cases d2 : (∃ o ∈ a.2.2.1, bitp (o 2) x ∧ ¬ a.1 (5 + x) ≤ o (4 + x)) ∨ a.1 (11 + x) = (1 : Int32) <<< (nI y &&& 31)
      · rw [pick_y d2] at hr; exact absurd hm2 hr
      · rw [pick_n d2] at hr ⊢
        by_cases d3 : nQ a = 100
        · rw [pick_y d3] at hr; exact absurd hm3 hr
        · rw [pick_n d3]
          have hN := hI.1.1.1
          have d1' : x < 6 := by
            apply Classical.byContradiction; intro z; exact d1 (fun q => z q.1)
          have := INV_alt (j := y) hI (by omega) (by omega) d1'
          exact (PQ_of (by omega) (INV_T this (by omega))).1
  · rw [if_neg c1] at hr ⊢
    by_cases c2 : l = 115
    · rw [if_pos c2] at hr ⊢
      unfold stepS at hr ⊢
      by_cases d1 : ¬ (x < 4 ∧ 1 ≤ y ∧ y ≤ 63)
      · rw [pick_y d1] at hr; exact absurd hm1 hr
      · rw [pick_n d1] at hr ⊢
        by_cases d2 : pcn a.2.2.1 x = 4 ∨ sQ a = 999
        · rw [pick_y d2] at hr; exact absurd hm3 hr
        · rw [pick_n d2] at hr ⊢
          split at hr
          · exact absurd hm3 hr
          · next r e =>
            have d1' : x < 4 ∧ 1 ≤ y ∧ y ≤ 63 := by
              apply Classical.byContradiction; intro z; exact d1 z
            obtain ⟨k1, k2⟩ := kQ_of (rc := a.2.2.2) hI.2.1 hI.1.1.1 d1'.1
            have hs9 := hI.1.2.2.2.2.1.2
            have := INV_start hI d1'.1 k2 k1 d1'.2.1 d1'.2.2 (by have : sQ a ≠ 999 := fun z => d2 (Or.inr z); omega) (fun z => d2 (Or.inl z)) e (row := rowC (nI (sQ a)) (nI x) (nI y) (a.1 0) r.2.2) rfl rfl rfl (fun t _ _ => rowC_v)
            exact (PQ_of (by omega) (INV_T this (by omega))).1
    · rw [if_neg c2] at hr ⊢
      by_cases c3 : l = 101
      · rw [if_pos c3] at hr ⊢
        unfold stepE at hr ⊢
        by_cases d1 : ∀ o ∈ a.2.2.1, o 0 ≠ nI x
        · rw [pick_y d1] at hr; exact absurd hm2 hr
        · rw [pick_n d1]
          obtain ⟨p1, p2⟩ := oQ_some d1
          obtain ⟨-, n, hn, ho⟩ := hI.2.2.1.1 _ (hd_mem p1)
          have en : (hd a.2.2.1 (oQ a x) 1).toNatClampNeg = n := by rw [ho, nI_clamp (by omega)]
          rw [en]
          have := INV_end hI hn p1 ho sm_cw
          exact (PQ_of (by omega) (INV_T this (by omega))).1
      · rw [if_neg c3] at hr ⊢
        unfold stepT at hr ⊢
        by_cases d1 : ¬ (1 ≤ x ∧ x ≤ 99)
        · rw [pick_y d1] at hr; exact absurd hm1 hr
        · rw [pick_n d1]
          have d1' : 1 ≤ x ∧ x ≤ 99 := by
            apply Classical.byContradiction; intro z; exact d1 z
          have := INV_tick hI x
          exact (PQ_of (by omega) (INV_T this (by omega))).1
end XN

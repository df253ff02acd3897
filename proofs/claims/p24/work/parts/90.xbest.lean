/-! the best room: the latest statements done once more -/
def gB (rm : Nat) : Nat → Int32 := va_up g00 4 (nI rm)
def S00 : Nat → Ses := fun _ => (fun _ => 0, [])
def aB (rm : Nat) : AQ := (gB rm, S00, [], [])
theorem gB3 : gB 3 = g00 := va_up_id rfl
theorem gB_z {rm j : Nat} (hj : j = 0 ∨ j = 1 ∨ j = 2 ∨ (5 ≤ j ∧ j < 11)) : gB rm j = 0 := by
  unfold gB
  rw [va_up_off (by omega)]
  unfold g00
  rw [if_neg (by omega), if_neg (by omega), if_neg (by omega)]
theorem gB_4 {rm : Nat} : gB rm 4 = nI rm := va_up_self _ _ _
theorem INV_0 {rm : Nat} (hrm : 1 ≤ rm ∧ rm ≤ 8) : INV 0 0 0 rm 0 (gB rm) S00 [] [] := by
  refine ⟨⟨⟨by omega, gB_z (by omega), fun k hk => by omega⟩, ⟨gB_z (by omega), Nat.le_refl _, fun k hk => by omega⟩, ⟨3, ?_, by omega⟩, ⟨gB_4, hrm⟩, ⟨gB_z (by omega), by omega⟩, fun t ht => ⟨0, gB_z (by omega), Nat.le_refl _⟩⟩, fun n hn => ⟨⟨⟨fun e he => absurd he List.not_mem_nil, List.Pairwise.nil, fun t ht i j hi => absurd hi (Nat.not_lt_zero i), fun t v ht hp => absurd hp (Nat.lt_irrefl 0), Nat.zero_le _, fun t v ht => Nat.zero_le _, by omega⟩, Or.inl (Nat.zero_le _)⟩, 0, Nat.le_refl _, rfl⟩, ⟨fun o ho => absurd ho List.not_mem_nil, List.Pairwise.nil, fun n hn => Nat.zero_le _⟩, ⟨rfl, fun p hp => absurd hp (Nat.not_lt_zero p)⟩⟩
  unfold gB
  rw [va_up_off (by decide)]
  rfl
noncomputable def bstep (a : AQ) (x : Int32 × Int32) : Option AQ := if (stepS a x.1.toNatClampNeg x.2.toNatClampNeg).1 < 0 then none else some (stepE (stepS a x.1.toNatClampNeg x.2.toNatClampNeg).2 (sQ a)).2
noncomputable def brun : List (Int32 × Int32) → AQ → Option AQ
  | [], a => some a
  | x :: l, a => match bstep a x with
    | none => none
    | some a' => brun l a'
def bres : Option AQ → Int32
  | none => -1
  | some a => ldN a.2.1 4
def BR (rm k : Nat) (a : AQ) : Prop := PQ (198 * k) a ∧ a.2.2.1 = [] ∧ (∀ j, j ≠ 2 → a.1 j = gB rm j) ∧ a.1 2 = nI k ∧ (∀ n, n < 4 → ∀ e ∈ (a.2.1 n).2, ∃ q, q < k ∧ e 4 = nI q) ∧ ∃ m, m ≤ 6 * k ∧ ldN a.2.1 4 = nI m
theorem ldN_up {S : Nat → Ses} {n : Nat} (hn : n < 4) {c : Nat → Int32} {l : List En} {v : Int32} (hc : c 2 = (S n).1 2 + v) : ldN (va_up S n (c, l)) 4 = ldN S 4 + v := by
  have e : ∀ i, i ≠ n → va_up S n (c, l) i = S i := fun i hi => va_up_off hi
  have e0 : (va_up S n (c, l) n).1 2 = (S n).1 2 + v := by rw [va_up_self]; exact hc
  unfold ldN
  unfold ldN
  unfold ldN
  unfold ldN
  unfold ldN
  match n, hn with
  | 0, _ => rw [e0, e 1 (by decide), e 2 (by decide), e 3 (by decide)]; ac_rfl
  | 1, _ => rw [e0, e 0 (by decide), e 2 (by decide), e 3 (by decide)]; ac_rfl
  | 2, _ => rw [e0, e 0 (by decide), e 1 (by decide), e 3 (by decide)]; ac_rfl
  | 3, _ => rw [e0, e 0 (by decide), e 1 (by decide), e 2 (by decide)]; ac_rfl
theorem BR_0 {rm : Nat} (hrm : 1 ≤ rm ∧ rm ≤ 8) : BR rm 0 (aB rm) := by
  refine ⟨(PQ_of (by omega) (INV_0 hrm)).1, rfl, fun j _ => rfl, show gB rm 2 = 0 from gB_z (by omega), fun n hn e he => absurd he List.not_mem_nil, 0, Nat.le_refl _, ?_⟩
  show ldN S00 4 = nI 0
  rfl
section XW
variable {rm k n s tt : Nat} {a : AQ} {l : List En} {g : Nat → Int32}
theorem BR_BL (h : BR rm k a) (hrm : 1 ≤ rm ∧ rm ≤ 8) (hk : k < 1000) (hn : n < 4) : gz a.1 ∧ a.1 4 = nI rm ∧ nQ a = 0 ∧ sQ a = k ∧ kQ a n = 0 ∧ BL a.1 rm k 0 (a.2.1 n).2 := by
  obtain ⟨⟨rm', hI⟩, ho, hg, h2, h4, -⟩ := h
  have z1 : a.1 1 = 0 := by rw [hg 1 (by decide)]; exact gB_z (by omega)
  have n1 : nQ a = 0 := by unfold nQ; rw [z1]; rfl
  have s1 : sQ a = k := by unfold sQ; rw [h2, nI_clamp (by omega)]
  have g4 : a.1 4 = nI rm := by rw [hg 4 (by decide)]; exact gB_4
  have hz : gz a.1 := fun t ht => by rw [hg (5 + t) (by omega)]; exact gB_z (by omega)
  have hr : rm' = rm := nI_inj (by have := hI.1.2.2.2.1.2; omega) (by omega) (hI.1.2.2.2.1.1.symm.trans g4)
  subst hr
  obtain ⟨hH, kn, kn1, kn2⟩ := hI.2.1 n hn
  have k0 : kQ a n = 0 := by
    unfold kQ
    rw [kn2, nI_clamp (by omega)]
    omega
  rw [ho] at hH
  have e3 : ∀ e ∈ (a.2.1 n).2, e 3 = 0 := fun e he => by
    obtain ⟨t, v, u, u1, u2, u3, u4, u5, u6, u7, u8, u9⟩ := hH.1.1 e he
    rw [u8]; rfl
  refine ⟨hz, g4, n1, s1, k0, ⟨16, _, by omega, hH⟩, fun e he => ?_, ?_⟩
  · obtain ⟨q, q1, q2⟩ := h4 n hn e he
    exact ⟨q, by omega, q2, ⟨fun _ => q1, fun _ => e3 e he⟩, fun z => by omega⟩
  · rcases hH.2 with z | z
    · exact z
    · cases hl : (a.2.1 n).2 with
      | nil => exact Nat.zero_le _
      | cons x t =>
        have hx : x ∈ (a.2.1 n).2 := by rw [hl]; exact List.mem_cons_self
        exact absurd (e3 x hx) (z x hx)
theorem uAll_BL (hz : gz g) (hg4 : g 4 = nI rm) (hrm : 1 ≤ rm ∧ rm ≤ 8) (hk : k < 1000) {set : Int32} : ∀ (d tt : Nat) (c : Nat → Int32) (l : List En) (r : (Nat → Int32) × List En × (Nat → Int32)), tt + d = 6 → BL g rm k tt l → uAll g (nI k) set d tt c l = some r → BL g rm k 6 r.2.1 ∧ ∃ j, j ≤ d ∧ r.1 2 = c 2 + nI j := by
  intro d
  induction d with
  | zero =>
    intro tt c l r ht hB e
    unfold uAll at e
    cases e
    have : tt = 6 := by omega
    subst this
    exact ⟨hB, 0, Nat.le_refl _, (Int32.add_zero _).symm⟩
  | succ d ih =>
    intro tt c l r ht hB e
    unfold uAll at e
    split at e
    · next hb =>
      rw [hg4] at e
      split at e
      · cases e
      · next r1 e1 =>
        obtain ⟨b1, b2⟩ := BL_next hz hB hrm (by omega) hk e1
        split at e
        · cases e
        · next r2 e2 =>
          cases e
          obtain ⟨c1, j, j1, j2⟩ := ih (tt + 1) _ _ _ (by omega) b1 e2
          refine ⟨c1, ?_⟩
          rcases b2 with w | w
          · exact ⟨j, by omega, by dsimp only; rw [j2, w]⟩
          · refine ⟨j + 1, by omega, ?_⟩
            dsimp only
            rw [j2, w, Int32.add_assoc, show (1 : Int32) = nI 1 from rfl, nI_add, Nat.add_comm 1]
    · obtain ⟨c1, j, j1, j2⟩ := ih (tt + 1) _ _ _ (by omega) (BL_skip hB (by omega)) e
      exact ⟨c1, j, by omega, j2⟩
theorem uAll_8 (hz : gz g) (hg4 : g 4 = nI 8) (hk : k < 1000) {set : Int32} : ∀ (d tt : Nat) (c : Nat → Int32) (l : List En), tt + d = 6 → BL g 8 k tt l → ∃ r, uAll g (nI k) set d tt c l = some r := by
  intro d
  induction d with
  | zero => intro tt c l _ _; exact ⟨_, rfl⟩
  | succ d ih =>
    intro tt c l ht hB
    unfold uAll
    by_cases hb : ((set >>> (nI tt &&& 31)) &&& 1) = 1
    · rw [if_pos hb, hg4]
      have h6 := BL_6 hz hB
      have go : ∀ r1, u1 (nI 8) (nI k) (nI tt) (g (5 + tt)) (g (11 + tt)) c l = some r1 → ∃ r, (match u1 (nI 8) (nI k) (nI tt) (g (5 + tt)) (g (11 + tt)) c l with
          | none => none
          | some r => match uAll g (nI k) set d (tt + 1) r.1 r.2.1 with
            | none => none
            | some q => some (q.1, q.2.1, va_up q.2.2 tt r.2.2)) = some r := fun r1 e1 => by
        obtain ⟨b1, -⟩ := BL_next hz hB (by omega) (by omega) hk e1
        obtain ⟨q, hq⟩ := ih (tt + 1) r1.1 r1.2.1 (by omega) b1
        rw [e1]
        dsimp only
        rw [hq]
        exact ⟨_, rfl⟩
      rcases BL_u1 hz hB (by omega) (by omega) (c := c) (sp := g (11 + tt)) with ⟨j, -, -, j3⟩ | ⟨-, j3, -⟩ | ⟨-, j3, -⟩ | ⟨-, -, x, i, -, j3⟩
      · exact go _ j3
      · omega
      · omega
      · exact go _ j3
    · rw [if_neg hb]
      exact ih (tt + 1) c l (by omega) (BL_skip hB (by omega))
theorem rq_map {w : En} (h5 : ∀ e ∈ l, e 5 = 0) : l.filterMap (rq w) = l.map (fun e => if ((w 1 >>> (nI (tb e) &&& 31)) &&& 1) = 1 ∧ w (3 + tb e) = e 1 then va_up e 3 (e 3 - 1) else e) := by
  rw [← List.filterMap_eq_map]
  refine fm_congr (fun e he => ?_)
  unfold rq
  by_cases c : ((w 1 >>> (nI (tb e) &&& 31)) &&& 1) = 1 ∧ w (3 + tb e) = e 1
  · rw [if_pos c, if_pos (h5 e he)]; exact congrArg some (if_pos c).symm
  · rw [if_neg c]; exact congrArg some (if_neg c).symm
theorem shr_no {rm : Nat} (hrm : rm < 2 ^ 31) (hl : l.length ≤ rm) : ∀ k, shr (nI rm) k l = (l, 0) := by
  intro k
  cases k with
  | zero => rfl
  | succ k =>
    unfold shr
    rw [if_neg]
    rw [nI_ltI (by omega) (by omega)]
    omega
/-- one statement, started and ended at once -/
theorem bstep_none (h : BR rm k a) (hrm : 1 ≤ rm ∧ rm ≤ 8) (hk : k < 100) (hn : n < 4) (hs : 1 ≤ s ∧ s ≤ 63) (e : uAll a.1 (nI k) (nI s) 6 0 (va_up (a.2.1 n).1 0 (nI 0)) (a.2.1 n).2 = none) : (stepS a n s).1 < 0 ∧ bstep a (nI n, nI s) = none := by
  obtain ⟨hz, g4, n1, s1, k0, hB⟩ := BR_BL h hrm (by omega) hn
  have e1 : (stepS a n s).1 < 0 := by
    unfold stepS
    rw [pick_n (fun z => z ⟨hn, hs⟩)]
    by_cases c : pcn a.2.2.1 n = 4 ∨ sQ a = 999
    · rw [pick_y c]; show (-3 : Int32) < 0; decide
    · rw [pick_n c, n1, s1, k0]
      show (match uAll a.1 (nI k) (nI s) 6 0 (va_up (a.2.1 n).1 0 (nI 0)) (a.2.1 n).2 with | none => ((-3 : Int32), a) | some r => _).1 < 0
      rw [e]
      show (-3 : Int32) < 0
      decide
  refine ⟨e1, ?_⟩
  unfold bstep
  dsimp only
  rw [nI_clamp (by omega), nI_clamp (by omega), if_pos e1]
theorem bstep_some (h : BR rm k a) (hrm : 1 ≤ rm ∧ rm ≤ 8) (hk : k < 100) (hn : n < 4) (hs : 1 ≤ s ∧ s ≤ 63) {r : (Nat → Int32) × List En × (Nat → Int32)} (e : uAll a.1 (nI k) (nI s) 6 0 (va_up (a.2.1 n).1 0 (nI 0)) (a.2.1 n).2 = some r) :
    (stepS a n s).1 = nI k ∧ ¬ (stepE (stepS a n s).2 k).1 < 0 ∧ ∃ a' x l'', bstep a (nI n, nI s) = some a' ∧ a' = (stepE (stepS a n s).2 k).2 ∧ BR rm (k + 1) a' ∧ a'.2.1 = va_up a.2.1 n (va_up r.1 3 x, l'') ∧ l''.length = r.2.1.length ∧ ∀ i, i < r.2.1.length → hd l'' i 0 = hd r.2.1 i 0 ∧ hd l'' i 4 = hd r.2.1 i 4 := by
  obtain ⟨hz, g4, n1, s1, k0, hB⟩ := BR_BL h hrm (by omega) hn
  obtain ⟨hP, ho, hg, h2, h4, m, hm1, hm2⟩ := h
  obtain ⟨hB6, j, j1, j2⟩ := uAll_BL hz g4 hrm (by omega) 6 0 _ _ r rfl hB e
  have eS : stepS a n s = (nI k, (va_up a.1 2 (nI (k + 1)), va_up a.2.1 n (r.1, r.2.1), [rowC (nI k) (nI n) (nI s) (a.1 0) r.2.2], rem12 a.2.2.2 (nI n, nI s))) := by
    unfold stepS
    rw [pick_n (fun z => z ⟨hn, hs⟩), pick_n (fun z => by
      rcases z with z | z
      · rw [ho] at z; exact absurd (show (0 : Nat) = 4 from z) (by decide)
      · omega), n1, s1, k0]
    show (match uAll a.1 (nI k) (nI s) 6 0 (va_up (a.2.1 n).1 0 (nI 0)) (a.2.1 n).2 with | none => ((-3 : Int32), a) | some r => _) = _
    rw [e, ho]
    rfl
  have hpos : ¬ (stepS a n s).1 < 0 := by rw [eS]; exact nI_pos (by omega)
  have P1 : PQ (198 * k + 99) (stepA a 115 n s).2 := step_PQ hP (by omega) (by omega) (show ¬ (stepA a 115 n s).1 < 0 from hpos)
  have P1' : PQ (198 * k + 99) (stepS a n s).2 := P1
  rw [eS] at P1'
  have oz : oQ (va_up a.1 2 (nI (k + 1)), va_up a.2.1 n (r.1, r.2.1), [rowC (nI k) (nI n) (nI s) (a.1 0) r.2.2], rem12 a.2.2.2 (nI n, nI s)) k = 0 := by
    obtain ⟨rm', hI⟩ := P1'
    exact oQ_at hI.2.2.1 (p := 0) (by show (0 : Nat) < 1; decide) rfl
  have hrow : hd [rowC (nI k) (nI n) (nI s) (a.1 0) r.2.2] 0 = rowC (nI k) (nI n) (nI s) (a.1 0) r.2.2 := rfl
  have hn0 : (rowC (nI k) (nI n) (nI s) (a.1 0) r.2.2 1).toNatClampNeg = n := by
    show (nI n).toNatClampNeg = n
    rw [nI_clamp (by omega)]
  have h5 : ∀ e ∈ r.2.1, e 5 = 0 := fun e he => (BL_e hz hB6 e he).2.2
  have hfm := rq_map (w := cw (rowC (nI k) (nI n) (nI s) (a.1 0) r.2.2)) h5
  have eE : stepE (stepS a n s).2 k = (nI (r.2.1.length - r.2.1.length), (va_up a.1 2 (nI (k + 1)), va_up a.2.1 n (va_up r.1 3 (r.1 3 + nI 0), r.2.1.map (fun e => if ((cw (rowC (nI k) (nI n) (nI s) (a.1 0) r.2.2) 1 >>> (nI (tb e) &&& 31)) &&& 1) = 1 ∧ cw (rowC (nI k) (nI n) (nI s) (a.1 0) r.2.2) (3 + tb e) = e 1 then va_up e 3 (e 3 - 1) else e)), [], rem12 a.2.2.2 (nI n, nI s))) := by
    rw [eS]
    unfold stepE eQ
    rw [oz]
    dsimp only
    rw [pick_n (fun z => z _ List.mem_cons_self rfl), hrow, hn0, va_up_self, hfm, va_up_off (show (4 : Nat) ≠ 2 by decide), g4, shr_no (by omega) (by rw [List.length_map]; exact hB6.2.2), va_up_up, List.length_map]
    rfl
  refine ⟨by rw [eS], by rw [eE]; exact nI_pos (by omega), _, _, _, ?_, rfl, ?_, by rw [eE], by rw [List.length_map], fun i hi => ?_⟩
  · unfold bstep
    dsimp only
    rw [nI_clamp (by omega), nI_clamp (by omega), if_neg hpos, s1]
  · have P2 : PQ (198 * k + 99 + 99) (stepA (stepS a n s).2 101 k 0).2 := step_PQ P1 (by omega) (by omega) (show ¬ (stepE (stepS a n s).2 k).1 < 0 from by rw [eE]; exact nI_pos (by omega))
    have P2' : PQ (198 * (k + 1)) (stepE (stepS a n s).2 k).2 := by
      rw [show 198 * (k + 1) = 198 * k + 99 + 99 by omega]; exact P2
    refine ⟨P2', by rw [eE], fun j hj => ?_, by rw [eE]; exact show va_up a.1 2 (nI (k + 1)) 2 = nI (k + 1) from va_up_self _ _ _, fun n' hn' e' he' => ?_, ?_⟩
    · rw [eE]
      show va_up a.1 2 (nI (k + 1)) j = _
      rw [va_up_off hj]
      exact hg j hj
    · rw [eE] at he'
      dsimp only at he'
      by_cases c : n' = n
      · subst c
        rw [va_up_self] at he'
        obtain ⟨y, y1, y2⟩ := List.mem_map.mp he'
        obtain ⟨q, q1, q2, -⟩ := hB6.2.1 y y1
        refine ⟨q, by omega, ?_⟩
        rw [← q2, ← y2]
        split
        · exact va_up_off (by decide)
        · rfl
      · rw [va_up_off c] at he'
        obtain ⟨q, q1, q2⟩ := h4 n' hn' e' he'
        exact ⟨q, by omega, q2⟩
    · refine ⟨m + j, by omega, ?_⟩
      rw [eE]
      show ldN (va_up a.2.1 n (va_up r.1 3 _, _)) 4 = _
      rw [ldN_up hn (v := nI j) (by rw [va_up_off (by decide), j2, va_up_off (by decide)]), hm2, nI_add]
  · rw [hd_map hi]
    split
    · exact ⟨va_up_off (by decide), va_up_off (by decide)⟩
    · exact ⟨rfl, rfl⟩
/-- with a room of 8 all can start -/
theorem brun_8 {rc : List (Int32 × Int32)} (hr : ∀ p, p < rc.length → (∃ n, n < 4 ∧ (rcd rc p).1 = nI n) ∧ ∃ s, 1 ≤ s ∧ s ≤ 63 ∧ (rcd rc p).2 = nI s) : ∀ (d k : Nat) (a : AQ), k + d = rc.length → rc.length ≤ 12 → BR 8 k a → ¬ bres (brun (rc.drop k) a) < 0 := by
  intro d
  induction d with
  | zero =>
    intro k a hk hl h
    have : rc.drop k = [] := List.drop_eq_nil_of_le (by omega)
    rw [this]
    obtain ⟨-, -, -, -, -, m, m1, m2⟩ := h
    show ¬ ldN a.2.1 4 < 0
    rw [m2]
    exact nI_pos (by omega)
  | succ d ih =>
    intro k a hk hl h
    obtain ⟨⟨n, hn, e1⟩, s, s1, s2, e2⟩ := hr k (by omega)
    have ed : rc.drop k = (nI n, nI s) :: rc.drop (k + 1) := by
      rw [List.drop_eq_getElem_cons (by omega)]
      congr 1
      have : rcd rc k = rc[k] := by
        unfold rcd
        rw [List.getD_eq_getElem?_getD, List.getElem?_eq_getElem (by omega)]; rfl
      rw [← this, ← e1, ← e2]
    obtain ⟨hz, g4, -, -, -, hB⟩ := BR_BL h (by omega) (by omega) hn
    obtain ⟨r, hu⟩ := uAll_8 hz g4 (by omega) 6 0 (va_up (a.2.1 n).1 0 (nI 0)) (a.2.1 n).2 rfl hB (set := nI s)
    obtain ⟨-, -, a', x, l'', b1, -, b2, -⟩ := bstep_some h (by omega) (by omega) hn ⟨s1, s2⟩ hu
    rw [ed]
    unfold brun
    rw [b1]
    exact ih (k + 1) a' (by omega) hl b2
end XW

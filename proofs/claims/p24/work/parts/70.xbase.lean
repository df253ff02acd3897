/-! the class's object, its states by turns; what lies in the reference's rows -/
abbrev AS : Type := (Nat → Int32) × (Nat → Ses) × (List En × List (Int32 × Int32)) × (Slots × Ring)
def nN (a : AS) : Nat := (a.1 1).toNatClampNeg
def CA (h : Hp) (ad : Nat → Nat) (B : Nat) (a : AS) : Prop := CT h ad B (nN a) a.1 a.2.1 a.2.2.2.1 a.2.2.2.2
def PA (T : Nat) (a : AS) : Prop := ∃ tk rm st, INV T (nN a) tk rm st a.1 a.2.1 a.2.2.1.1 a.2.2.1.2 ∧ RW a.2.2.1.1 a.2.2.2.1 ∧ RLt a.2.2.1.2 a.2.2.2.2 st
def isB (x : Nat) : Prop := x = 1 ∨ x = 85 ∨ x = 254 ∨ x = 338 ∨ x = 422 ∨ x = 506
def BS (b : Nat → Nat) : Prop := (∀ i, i < 6 → isB (b i)) ∧ ∀ i j, i < 6 → j < 6 → b i = b j → i = j
def WK (sh : Sh) (ad ma : Nat → Nat) : Prop := inj ad ∧ (∀ p q, ad p ≠ ma q) ∧ (sh (ad 0)).1 = 5 ∧ sh (ad 253) = (10, 4) ∧ (sh (ad 590)).1 = 3 ∧ sh (ad 591) = (7, 60) ∧ (∀ x, isB x → TK sh ad x) ∧ TK sh ad 169
/-- the class's references between its states -/
def XP (h : Hp) (ad : Nat → Nat) (b : Nat → Nat) : Prop := gr h (ad 0) 0 = some (ad (b 0)) ∧ gr h (ad 0) 1 = some (ad (b 1)) ∧ gr h (ad 0) 2 = some (ad 169) ∧ gr h (ad 0) 4 = some (ad 253) ∧ gr h (ad 0) 6 = some (ad 590) ∧ (∀ i, i < 4 → gr h (ad 253) i = some (ad (b (2 + i)))) ∧ gr h (ad 590) 0 = some (ad 591)
def TXc (h : Hp) (ad : Nat → Nat) (len : Nat) (tx : Nat → Int32) : Prop := gi h (ad 590) 1 = nI len ∧ ∀ i, i < len → gi h (ad 591) i = tx i
def CI (ad : Nat → Nat) (b : Nat → Nat) (m : Nat) (A : Nat → AS) (kp : Option AS) (len : Nat) (tx : Nat → Int32) (h : Hp) : Prop :=
  BS b ∧ XP h ad b ∧ gi h (ad 0) 5 = nI m ∧ CA h ad (b 0) (A 0) ∧ TG h ad (b 1) ∧ (∀ i, i < m → CA h ad (b (2 + i)) (A (1 + i))) ∧ (∀ i, i < 4 → TG h ad (b (2 + i))) ∧ ((kp = none ∧ gi h (ad 0) 3 = 0) ∨ ∃ a, kp = some a ∧ gi h (ad 0) 3 = 1 ∧ CA h ad 169 a) ∧ TG h ad 169 ∧ TXc h ad len tx
def PI (T m : Nat) (A : Nat → AS) (kp : Option AS) (len : Nat) (tx : Nat → Int32) : Prop := m ≤ 4 ∧ (∀ i, i ≤ m → PA T (A i)) ∧ (∀ a, kp = some a → PA T a) ∧ len ≤ 60 ∧ ∀ i, i < len → ∃ c, 32 ≤ c ∧ c ≤ 126 ∧ tx i = nI c
def EQm (ma : Nat → Nat) (h h' : Hp) : Prop := ∀ q, h'.1 (ma q) = h.1 (ma q) ∧ h'.2 (ma q) = h.2 (ma q)
def EQa (ad : Nat → Nat) (h h' : Hp) : Prop := ∀ q, h'.1 (ad q) = h.1 (ad q) ∧ h'.2 (ad q) = h.2 (ad q)
theorem farB_b {b : Nat → Nat} (hb : BS b) {i j : Nat} (hi : i < 6) (hj : j < 6) (hij : i ≠ j) : farB (b i) (b j) := by
  intro p q hp hq z
  have hne : b i ≠ b j := fun e => hij (hb.2 i j hi hj e)
  rcases hb.1 i hi with e | e | e | e | e | e <;> rcases hb.1 j hj with f | f | f | f | f | f <;> omega
theorem farB_k {b : Nat → Nat} (hb : BS b) {i : Nat} (hi : i < 6) : farB (b i) 169 ∧ farB 169 (b i) := by
  constructor <;> (intro p q hp hq z; rcases hb.1 i hi with e | e | e | e | e | e <;> omega)
theorem outB {b : Nat → Nat} (hb : BS b) {i : Nat} (hi : i < 6) : ∀ j, j < 84 → 0 ≠ b i + j ∧ 253 ≠ b i + j ∧ 590 ≠ b i + j ∧ 591 ≠ b i + j := by
  intro j hj
  rcases hb.1 i hi with e | e | e | e | e | e <;> omega
section XB
variable {sh : Sh} {ad ma : Nat → Nat} {h h' h'' : Hp} {b : Nat → Nat} {m len T : Nat} {A : Nat → AS} {kp : Option AS} {tx : Nat → Int32}
theorem EQm.rf : EQm ma h h := fun _ => ⟨rfl, rfl⟩
theorem EQm.tr (a : EQm ma h h') (c : EQm ma h' h'') : EQm ma h h'' := fun q => ⟨(c q).1.trans (a q).1, (c q).2.trans (a q).2⟩
theorem EQa.rf : EQa ad h h := fun _ => ⟨rfl, rfl⟩
theorem EQa.tr (a : EQa ad h h') (c : EQa ad h' h'') : EQa ad h h'' := fun q => ⟨(c q).1.trans (a q).1, (c q).2.trans (a q).2⟩
theorem FB_EQm (X : WK sh ad ma) {B : Nat} (hF : FB ad h h' B) : EQm ma h h' := fun q => hF _ (fun j _ z => X.2.1 (B + j) q z.symm)
theorem si_EQm (X : WK sh ad ma) {p k : Nat} {v : Int32} : EQm ma h (si h (ad p) k v) := fun q => ⟨by show va_up h.1 _ _ _ = _; rw [va_up_off (fun z => X.2.1 p q z.symm)], rfl⟩
theorem sr_EQm (X : WK sh ad ma) {p k : Nat} {v : Option Nat} : EQm ma h (sr h (ad p) k v) := fun q => ⟨rfl, by show va_up h.2 _ _ _ = _; rw [va_up_off (fun z => X.2.1 p q z.symm)]⟩
theorem si_EQa (X : WK sh ad ma) {p k : Nat} {v : Int32} : EQa ad h (si h (ma p) k v) := fun q => ⟨by show va_up h.1 _ _ _ = _; rw [va_up_off (fun z => X.2.1 q p z)], rfl⟩
theorem hset_EQa (X : WK sh ad ma) {p : Nat} {f : Nat → Int32} : EQa ad h (hset h (ma p) f) := fun q => ⟨by show va_up h.1 _ _ _ = _; rw [va_up_off (fun z => X.2.1 q p z)], rfl⟩
theorem EQa_QB (e : EQa ad h h') {B : Nat} : QB ad h h' B := fun j _ => e _
theorem CA_Q {B : Nat} {a : AS} (q : QB ad h h' B) (c : CA h ad B a) : CA h' ad B a := CT_Q q c
theorem gi_eq (e : EQa ad h h') {p k : Nat} : gi h' (ad p) k = gi h (ad p) k := by show h'.1 _ _ = h.1 _ _; rw [(e p).1]
theorem gr_eq (e : EQa ad h h') {p k : Nat} : gr h' (ad p) k = gr h (ad p) k := by show h'.2 _ _ = h.2 _ _; rw [(e p).2]
theorem gi_em (e : EQm ma h h') {p k : Nat} : gi h' (ma p) k = gi h (ma p) k := by show h'.1 _ _ = h.1 _ _; rw [(e p).1]
theorem gr_em (e : EQm ma h h') {p k : Nat} : gr h' (ma p) k = gr h (ma p) k := by show h'.2 _ _ = h.2 _ _; rw [(e p).2]
theorem XP_eq (h0 : h'.2 (ad 0) = h.2 (ad 0)) (h1 : h'.2 (ad 253) = h.2 (ad 253)) (h2 : h'.2 (ad 590) = h.2 (ad 590)) (x : XP h ad b) : XP h' ad b := by
  obtain ⟨x1, x2, x3, x4, x5, x6, x7⟩ := x
  exact ⟨by show h'.2 _ _ = _; rw [h0]; exact x1, by show h'.2 _ _ = _; rw [h0]; exact x2, by show h'.2 _ _ = _; rw [h0]; exact x3, by show h'.2 _ _ = _; rw [h0]; exact x4, by show h'.2 _ _ = _; rw [h0]; exact x5, fun i hi => by show h'.2 _ _ = _; rw [h1]; exact x6 i hi, by show h'.2 _ _ = _; rw [h2]; exact x7⟩
theorem CI_m (e : EQa ad h h') (c : CI ad b m A kp len tx h) : CI ad b m A kp len tx h' := by
  obtain ⟨c1, c2, c3, c4, c5, c6, c7, c8, c9, c10, c11⟩ := c
  refine ⟨c1, XP_eq (e 0).2 (e 253).2 (e 590).2 c2, by rw [gi_eq e]; exact c3, CA_Q (EQa_QB e) c4, TG_Q (EQa_QB e) c5, fun i hi => CA_Q (EQa_QB e) (c6 i hi), fun i hi => TG_Q (EQa_QB e) (c7 i hi), ?_, TG_Q (EQa_QB e) c9, by rw [gi_eq e]; exact c10, fun i hi => by rw [gi_eq e]; exact c11 i hi⟩
  rcases c8 with ⟨z1, z2⟩ | ⟨a, z1, z2, z3⟩
  · exact Or.inl ⟨z1, by rw [gi_eq e]; exact z2⟩
  · exact Or.inr ⟨a, z1, by rw [gi_eq e]; exact z2, CA_Q (EQa_QB e) z3⟩
theorem gi_fn (e : EQm ma h h') {p : Nat} : gi h' (ma p) = gi h (ma p) := by funext k; exact gi_em e
theorem INV_T {T' N tk rm st : Nat} {g : Nat → Int32} {S : Nat → Ses} {os : List En} {rc : List (Int32 × Int32)} (h : INV T N tk rm st g S os rc) (hT : T ≤ T') : INV T' N tk rm st g S os rc := by
  obtain ⟨⟨g1, ⟨g2, g3, g4⟩, g5⟩, h2⟩ := h
  exact ⟨⟨g1, ⟨g2, by omega, g4⟩, g5⟩, h2⟩
theorem PA_T {T' : Nat} {a : AS} (h : PA T a) (hT : T ≤ T') : PA T' a := by
  obtain ⟨tk, rm, st, h1, h2⟩ := h
  exact ⟨tk, rm, st, INV_T h1 hT, h2⟩
theorem PI_T {T' : Nat} (h : PI T m A kp len tx) (hT : T ≤ T') : PI T' m A kp len tx := by
  obtain ⟨h1, h2, h3, h4⟩ := h
  exact ⟨h1, fun i hi => PA_T (h2 i hi) hT, fun a ha => PA_T (h3 a ha) hT, h4⟩
/-- where only the trial has changed, and is in order -/
theorem CI_trial (X : WK sh ad ma) (c : CI ad b m A kp len tx h) (hF : FB ad h h' (b 1)) (hG : TG h' ad (b 1)) (hm : m ≤ 4) : CI ad b m A kp len tx h' := by
  have hi := X.1
  obtain ⟨c1, c2, c3, c4, c5, c6, c7, c8, c9, c10, c11⟩ := c
  have o := fun j (hj : j < 84) => outB c1 (i := 1) (by omega) j hj
  have e0 := hF (ad 0) (fun j hj => ad_ne hi (o j hj).1)
  have e1 := hF (ad 253) (fun j hj => ad_ne hi (o j hj).2.1)
  have e2 := hF (ad 590) (fun j hj => ad_ne hi (o j hj).2.2.1)
  have e3 := hF (ad 591) (fun j hj => ad_ne hi (o j hj).2.2.2)
  have qb : ∀ i, i < 6 → i ≠ 1 → QB ad h h' (b i) := fun i i1 i2 => FB_QB hi hF (farB_b c1 (by omega) i1 (Ne.symm i2))
  have qk : QB ad h h' 169 := FB_QB hi hF (farB_k c1 (by omega)).1
  refine ⟨c1, XP_eq e0.2 e1.2 e2.2 c2, by show h'.1 _ _ = _; rw [e0.1]; exact c3, CA_Q (qb 0 (by omega) (by omega)) c4, hG, fun i hi => CA_Q (qb _ (by omega) (by omega)) (c6 i hi), fun i hi => TG_Q (qb _ (by omega) (by omega)) (c7 i hi), ?_, TG_Q qk c9, by show h'.1 _ _ = _; rw [e2.1]; exact c10, fun i hi => by show h'.1 _ _ = _; rw [e3.1]; exact c11 i hi⟩
  rcases c8 with ⟨z1, z2⟩ | ⟨a, z1, z2, z3⟩
  · exact Or.inl ⟨z1, by show h'.1 _ _ = _; rw [e0.1]; exact z2⟩
  · exact Or.inr ⟨a, z1, by show h'.1 _ _ = _; rw [e0.1]; exact z2, CA_Q qk z3⟩
/-- the states when one more has come -/
def pushA (m : Nat) (A : Nat → AS) (a : AS) : Nat → AS := fun i => if i = 0 then a else if m = 4 then (if i = 4 then A 0 else A (i + 1)) else if i = 1 + m then A 0 else A i
def pushB (m : Nat) (b : Nat → Nat) : Nat → Nat := fun i => if i = 0 then b 1 else if m = 4 then (if i = 1 then b 2 else if i = 5 then b 0 else b (i + 1)) else if i = 1 then b (2 + m) else if i = 2 + m then b 0 else b i
theorem pushB_BS (hb : BS b) (hm : m ≤ 4) : BS (pushB m b) := by
  have key : ∀ i, i < 6 → ∃ k, k < 6 ∧ pushB m b i = b k ∧ k = (if i = 0 then 1 else if m = 4 then (if i = 1 then 2 else if i = 5 then 0 else i + 1) else if i = 1 then 2 + m else if i = 2 + m then 0 else i) := by
    intro i hi
    refine ⟨_, ?_, ?_, rfl⟩
    · repeat' split
      all_goals omega
    · unfold pushB
      repeat' split
      all_goals rfl
  refine ⟨fun i hi => ?_, fun i j hi hj e => ?_⟩
  · obtain ⟨k, k1, k2, -⟩ := key i hi
    rw [k2]
    exact hb.1 k k1
  · obtain ⟨k, k1, k2, k3⟩ := key i hi
    obtain ⟨q, q1, q2, q3⟩ := key j hj
    rw [k2, q2] at e
    have := hb.2 k q k1 q1 e
    rw [k3, q3] at this
    repeat' split at this
    all_goals omega
end XB

/-! the class's states: 84 places from a base on -/
def TK (sh : Sh) (ad : Nat → Nat) (B : Nat) : Prop := (sh (ad B)).1 = 2 ∧ sh (ad (B + 1)) = (7, 6) ∧ sh (ad (B + 2)) = (7, 6) ∧ sh (ad (B + 3)) = (7, 100) ∧ sh (ad (B + 4)) = (7, 100) ∧ sh (ad (B + 5)) = (7, 12) ∧ sh (ad (B + 6)) = (7, 12) ∧ sh (ad (B + 7)) = (9, 4) ∧ ∀ i, i < 4 → SK sh ad (B + 8 + 19 * i)
def TP (h : Hp) (ad : Nat → Nat) (B : Nat) : Prop := gr h (ad B) 3 = some (ad (B + 1)) ∧ gr h (ad B) 4 = some (ad (B + 2)) ∧ gr h (ad B) 6 = some (ad (B + 3)) ∧ gr h (ad B) 7 = some (ad (B + 4)) ∧ gr h (ad B) 9 = some (ad (B + 5)) ∧ gr h (ad B) 10 = some (ad (B + 6)) ∧ gr h (ad B) 11 = some (ad (B + 7)) ∧ ∀ i, i < 4 → gr h (ad (B + 7)) i = some (ad (B + 8 + 19 * i))
/-- a state's references are in order, whatever it holds -/
def TG (h : Hp) (ad : Nat → Nat) (B : Nat) : Prop := TP h ad B ∧ ∀ i, i < 4 → CG h ad (B + 8 + 19 * i)
abbrev Slots : Type := Nat → Nat → En
abbrev Ring : Type := Nat → Int32 × Int32
def CT (h : Hp) (ad : Nat → Nat) (B N : Nat) (g : Nat → Int32) (S : Nat → Ses) (W : Slots) (L : Ring) : Prop :=
  TP h ad B ∧ (gi h (ad B) 0 = g 0 ∧ gi h (ad B) 1 = g 3 ∧ gi h (ad B) 2 = g 4 ∧ gi h (ad B) 5 = g 1 ∧ gi h (ad B) 8 = g 2) ∧
  (∀ t, t < 6 → gi h (ad (B + 1)) t = g (5 + t) ∧ gi h (ad (B + 2)) t = g (11 + t)) ∧ (∀ k, k < N → gi h (ad (B + 3)) k = g (17 + k) ∧ gi h (ad (B + 4)) k = g (117 + k)) ∧
  (∀ p, p < 12 → gi h (ad (B + 5)) p = (L p).1 ∧ gi h (ad (B + 6)) p = (L p).2) ∧ ∀ i, i < 4 → CS h ad (B + 8 + 19 * i) (S i).1 (S i).2 (W i)
def FB (ad : Nat → Nat) (h h' : Hp) (B : Nat) : Prop := ∀ a, (∀ j, j < 84 → a ≠ ad (B + j)) → h'.1 a = h.1 a ∧ h'.2 a = h.2 a
def QB (ad : Nat → Nat) (h h' : Hp) (B : Nat) : Prop := ∀ j, j < 84 → h'.1 (ad (B + j)) = h.1 (ad (B + j)) ∧ h'.2 (ad (B + j)) = h.2 (ad (B + j))
def farB (B D : Nat) : Prop := ∀ i j, i < 84 → j < 84 → B + i ≠ D + j
section CC
variable {sh : Sh} {ad : Nat → Nat} {h h' h'' : Hp} {B N : Nat} {g : Nat → Int32} {S : Nat → Ses} {W : Slots} {L : Ring}
theorem FB.rf : FB ad h h B := fun _ _ => ⟨rfl, rfl⟩
theorem FB.tr (a : FB ad h h' B) (b : FB ad h' h'' B) : FB ad h h'' B := fun q hq => ⟨(b q hq).1.trans (a q hq).1, (b q hq).2.trans (a q hq).2⟩
theorem QB.tr (a : QB ad h h' B) (b : QB ad h' h'' B) : QB ad h h'' B := fun j hj => ⟨(b j hj).1.trans (a j hj).1, (b j hj).2.trans (a j hj).2⟩
theorem FS_FB {i : Nat} (hi4 : i < 4) (hF : FS ad h h' (B + 8 + 19 * i)) : FB ad h h' B := fun a ha => hF a (fun j hj => by
  have := ha (8 + 19 * i + j) (by omega)
  rw [show B + (8 + 19 * i + j) = B + 8 + 19 * i + j by omega] at this
  exact this)
theorem FB_QB (hi : inj ad) {D : Nat} (hF : FB ad h h' B) (hd : farB B D) : QB ad h h' D := fun j hj => hF _ (fun i hi2 z => hd i j hi2 hj (hi _ _ z).symm)
theorem FB_si {j k : Nat} {v : Int32} (hj : j < 84) : FB ad h (si h (ad (B + j)) k v) B := fun a ha => ⟨by show va_up h.1 _ _ a = _; rw [va_up_off (ha j hj)], rfl⟩
theorem FB_si0 {k : Nat} {v : Int32} : FB ad h (si h (ad B) k v) B := FB_si (j := 0) (by omega)
theorem QB_QS {i : Nat} (hi4 : i < 4) (q : QB ad h h' B) : QS ad h h' (B + 8 + 19 * i) := fun j hj => by
  have := q (8 + 19 * i + j) (by omega)
  rw [show B + (8 + 19 * i + j) = B + 8 + 19 * i + j by omega] at this
  exact this
theorem QB_gi (q : QB ad h h' B) {j k : Nat} (hj : j < 84) : gi h' (ad (B + j)) k = gi h (ad (B + j)) k := by
  show h'.1 _ _ = h.1 _ _; rw [(q j hj).1]
theorem QB_gr (q : QB ad h h' B) {j k : Nat} (hj : j < 84) : gr h' (ad (B + j)) k = gr h (ad (B + j)) k := by
  show h'.2 _ _ = h.2 _ _; rw [(q j hj).2]
theorem QB_gi0 (q : QB ad h h' B) {k : Nat} : gi h' (ad B) k = gi h (ad B) k := QB_gi q (j := 0) (by omega)
theorem QB_gr0 (q : QB ad h h' B) {k : Nat} : gr h' (ad B) k = gr h (ad B) k := QB_gr q (j := 0) (by omega)
theorem TP_Q (q : QB ad h h' B) (t : TP h ad B) : TP h' ad B := by
  obtain ⟨t1, t2, t3, t4, t5, t6, t7, t8⟩ := t
  refine ⟨?_, ?_, ?_, ?_, ?_, ?_, ?_, fun i hi => ?_⟩
  · rw [QB_gr0 q]; exact t1
  · rw [QB_gr0 q]; exact t2
  · rw [QB_gr0 q]; exact t3
  · rw [QB_gr0 q]; exact t4
  · rw [QB_gr0 q]; exact t5
  · rw [QB_gr0 q]; exact t6
  · rw [QB_gr0 q]; exact t7
  · rw [QB_gr q (by omega)]; exact t8 i hi
theorem TG_Q (q : QB ad h h' B) (t : TG h ad B) : TG h' ad B := ⟨TP_Q q t.1, fun i hi => CG_Q (QB_QS hi q) (t.2 i hi)⟩
theorem CT_Q (q : QB ad h h' B) (t : CT h ad B N g S W L) : CT h' ad B N g S W L := by
  obtain ⟨t1, ⟨a1, a2, a3, a4, a5⟩, t3, t4, t5, t6⟩ := t
  refine ⟨TP_Q q t1, ⟨?_, ?_, ?_, ?_, ?_⟩, fun t ht => ⟨?_, ?_⟩, fun k hk => ⟨?_, ?_⟩, fun p hp => ⟨?_, ?_⟩, fun i hi => CS_Q (QB_QS hi q) (t6 i hi)⟩
  · rw [QB_gi0 q]; exact a1
  · rw [QB_gi0 q]; exact a2
  · rw [QB_gi0 q]; exact a3
  · rw [QB_gi0 q]; exact a4
  · rw [QB_gi0 q]; exact a5
  · rw [QB_gi q (by omega)]; exact (t3 t ht).1
  · rw [QB_gi q (by omega)]; exact (t3 t ht).2
  · rw [QB_gi q (by omega)]; exact (t4 k hk).1
  · rw [QB_gi q (by omega)]; exact (t4 k hk).2
  · rw [QB_gi q (by omega)]; exact (t5 p hp).1
  · rw [QB_gi q (by omega)]; exact (t5 p hp).2
theorem CT_G (t : CT h ad B N g S W L) : TG h ad B := ⟨t.1, fun i hi => CS_G (t.2.2.2.2.2 i hi)⟩
/-- what lies outside its sessions -/
def out7 (ad : Nat → Nat) (h h' : Hp) (B : Nat) : Prop := ∀ j, j < 8 → h'.1 (ad (B + j)) = h.1 (ad (B + j)) ∧ h'.2 (ad (B + j)) = h.2 (ad (B + j))
theorem FS_out7 (hi : inj ad) {i : Nat} (hF : FS ad h h' (B + 8 + 19 * i)) : out7 ad h h' B := fun j hj => hF _ (fun k _ => ad_ne hi (by omega))
theorem o7_gi (q : out7 ad h h' B) {j k : Nat} (hj : j < 8) : gi h' (ad (B + j)) k = gi h (ad (B + j)) k := by
  show h'.1 _ _ = h.1 _ _; rw [(q j hj).1]
theorem o7_gr (q : out7 ad h h' B) {j k : Nat} (hj : j < 8) : gr h' (ad (B + j)) k = gr h (ad (B + j)) k := by
  show h'.2 _ _ = h.2 _ _; rw [(q j hj).2]
theorem o7_gi0 (q : out7 ad h h' B) {k : Nat} : gi h' (ad B) k = gi h (ad B) k := o7_gi q (j := 0) (by omega)
theorem o7_gr0 (q : out7 ad h h' B) {k : Nat} : gr h' (ad B) k = gr h (ad B) k := o7_gr q (j := 0) (by omega)
theorem TP_o7 (q : out7 ad h h' B) (t : TP h ad B) : TP h' ad B := by
  obtain ⟨t1, t2, t3, t4, t5, t6, t7, t8⟩ := t
  refine ⟨?_, ?_, ?_, ?_, ?_, ?_, ?_, fun i hi => ?_⟩
  · rw [o7_gr0 q]; exact t1
  · rw [o7_gr0 q]; exact t2
  · rw [o7_gr0 q]; exact t3
  · rw [o7_gr0 q]; exact t4
  · rw [o7_gr0 q]; exact t5
  · rw [o7_gr0 q]; exact t6
  · rw [o7_gr0 q]; exact t7
  · rw [o7_gr q (by omega)]; exact t8 i hi
theorem far_ses {i j : Nat} (hij : i ≠ j) : far (B + 8 + 19 * i) (B + 8 + 19 * j) := fun a b ha hb z => by omega
/-- one session has changed -/
theorem CT_S (hi : inj ad) (t : CT h ad B N g S W L) {i : Nat} {c : Nat → Int32} {l : List En} {w : Nat → En} (hs : CS h' ad (B + 8 + 19 * i) c l w) (hF : FS ad h h' (B + 8 + 19 * i)) : CT h' ad B N g (va_up S i (c, l)) (va_up W i w) L := by
  obtain ⟨t1, ⟨a1, a2, a3, a4, a5⟩, t3, t4, t5, t6⟩ := t
  have q := FS_out7 hi hF
  refine ⟨TP_o7 q t1, ⟨?_, ?_, ?_, ?_, ?_⟩, fun t ht => ⟨?_, ?_⟩, fun k hk => ⟨?_, ?_⟩, fun p hp => ⟨?_, ?_⟩, fun j hj => ?_⟩
  · rw [o7_gi0 q]; exact a1
  · rw [o7_gi0 q]; exact a2
  · rw [o7_gi0 q]; exact a3
  · rw [o7_gi0 q]; exact a4
  · rw [o7_gi0 q]; exact a5
  · rw [o7_gi q (by omega)]; exact (t3 t ht).1
  · rw [o7_gi q (by omega)]; exact (t3 t ht).2
  · rw [o7_gi q (by omega)]; exact (t4 k hk).1
  · rw [o7_gi q (by omega)]; exact (t4 k hk).2
  · rw [o7_gi q (by omega)]; exact (t5 p hp).1
  · rw [o7_gi q (by omega)]; exact (t5 p hp).2
  · by_cases e : j = i
    · subst e; rw [va_up_self, va_up_self]; exact hs
    · rw [va_up_off e, va_up_off e]
      exact CS_Q (FS_QS hi hF (far_ses (Ne.symm e))) (t6 j hj)
/-- the same, for the references alone -/
theorem TG_S (hi : inj ad) (t : TG h ad B) {i : Nat} (hs : CG h' ad (B + 8 + 19 * i)) (hF : FS ad h h' (B + 8 + 19 * i)) : TG h' ad B := by
  refine ⟨TP_o7 (FS_out7 hi hF) t.1, fun j hj => ?_⟩
  by_cases e : j = i
  · subst e; exact hs
  · exact CG_Q (FS_QS hi hF (far_ses (Ne.symm e))) (t.2 j hj)
/-- the reads of a state -/
theorem ct_t0 (T : TK sh ad B) {P : Prop} : ty sh (ad B) 2 P = P := ty_t T.1
theorem ct_t1 (T : TK sh ad B) {P : Prop} : ty sh (ad (B + 1)) 7 P = P := ty_t (by rw [T.2.1])
theorem ct_t2 (T : TK sh ad B) {P : Prop} : ty sh (ad (B + 2)) 7 P = P := ty_t (by rw [T.2.2.1])
theorem ct_t3 (T : TK sh ad B) {P : Prop} : ty sh (ad (B + 3)) 7 P = P := ty_t (by rw [T.2.2.2.1])
theorem ct_t4 (T : TK sh ad B) {P : Prop} : ty sh (ad (B + 4)) 7 P = P := ty_t (by rw [T.2.2.2.2.1])
theorem ct_t5 (T : TK sh ad B) {P : Prop} : ty sh (ad (B + 5)) 7 P = P := ty_t (by rw [T.2.2.2.2.2.1])
theorem ct_t6 (T : TK sh ad B) {P : Prop} : ty sh (ad (B + 6)) 7 P = P := ty_t (by rw [T.2.2.2.2.2.2.1])
theorem ct_t7 (T : TK sh ad B) {P : Prop} : ty sh (ad (B + 7)) 9 P = P := ty_t (by rw [T.2.2.2.2.2.2.2.1])
theorem ct_l1 (T : TK sh ad B) {h : Hp} {t : Nat} (ht : t < 6) {K : Int32 → Prop} : lI sh h (ad (B + 1)) (nI t) K = K (gi h (ad (B + 1)) t) := lI_t (by rw [T.2.1]; exact ht) (by rw [T.2.1]; decide)
theorem ct_s1 (T : TK sh ad B) {h : Hp} {t : Nat} (ht : t < 6) {v : Int32} {K : Hp → Prop} : sI sh h (ad (B + 1)) (nI t) v K = K (si h (ad (B + 1)) t v) := sI_t (by rw [T.2.1]; exact ht) (by rw [T.2.1]; decide)
theorem ct_l2 (T : TK sh ad B) {h : Hp} {t : Nat} (ht : t < 6) {K : Int32 → Prop} : lI sh h (ad (B + 2)) (nI t) K = K (gi h (ad (B + 2)) t) := lI_t (by rw [T.2.2.1]; exact ht) (by rw [T.2.2.1]; decide)
theorem ct_s2 (T : TK sh ad B) {h : Hp} {t : Nat} (ht : t < 6) {v : Int32} {K : Hp → Prop} : sI sh h (ad (B + 2)) (nI t) v K = K (si h (ad (B + 2)) t v) := sI_t (by rw [T.2.2.1]; exact ht) (by rw [T.2.2.1]; decide)
theorem ct_l3 (T : TK sh ad B) {h : Hp} {k : Nat} (hk : k < 100) {K : Int32 → Prop} : lI sh h (ad (B + 3)) (nI k) K = K (gi h (ad (B + 3)) k) := lI_t (by rw [T.2.2.2.1]; exact hk) (by rw [T.2.2.2.1]; decide)
theorem ct_s3 (T : TK sh ad B) {h : Hp} {k : Nat} (hk : k < 100) {v : Int32} {K : Hp → Prop} : sI sh h (ad (B + 3)) (nI k) v K = K (si h (ad (B + 3)) k v) := sI_t (by rw [T.2.2.2.1]; exact hk) (by rw [T.2.2.2.1]; decide)
theorem ct_l4 (T : TK sh ad B) {h : Hp} {k : Nat} (hk : k < 100) {K : Int32 → Prop} : lI sh h (ad (B + 4)) (nI k) K = K (gi h (ad (B + 4)) k) := lI_t (by rw [T.2.2.2.2.1]; exact hk) (by rw [T.2.2.2.2.1]; decide)
theorem ct_s4 (T : TK sh ad B) {h : Hp} {k : Nat} (hk : k < 100) {v : Int32} {K : Hp → Prop} : sI sh h (ad (B + 4)) (nI k) v K = K (si h (ad (B + 4)) k v) := sI_t (by rw [T.2.2.2.2.1]; exact hk) (by rw [T.2.2.2.2.1]; decide)
theorem ct_l5 (T : TK sh ad B) {h : Hp} {k : Nat} (hk : k < 12) {K : Int32 → Prop} : lI sh h (ad (B + 5)) (nI k) K = K (gi h (ad (B + 5)) k) := lI_t (by rw [T.2.2.2.2.2.1]; exact hk) (by rw [T.2.2.2.2.2.1]; decide)
theorem ct_s5 (T : TK sh ad B) {h : Hp} {k : Nat} (hk : k < 12) {v : Int32} {K : Hp → Prop} : sI sh h (ad (B + 5)) (nI k) v K = K (si h (ad (B + 5)) k v) := sI_t (by rw [T.2.2.2.2.2.1]; exact hk) (by rw [T.2.2.2.2.2.1]; decide)
theorem ct_l6 (T : TK sh ad B) {h : Hp} {k : Nat} (hk : k < 12) {K : Int32 → Prop} : lI sh h (ad (B + 6)) (nI k) K = K (gi h (ad (B + 6)) k) := lI_t (by rw [T.2.2.2.2.2.2.1]; exact hk) (by rw [T.2.2.2.2.2.2.1]; decide)
theorem ct_s6 (T : TK sh ad B) {h : Hp} {k : Nat} (hk : k < 12) {v : Int32} {K : Hp → Prop} : sI sh h (ad (B + 6)) (nI k) v K = K (si h (ad (B + 6)) k v) := sI_t (by rw [T.2.2.2.2.2.2.1]; exact hk) (by rw [T.2.2.2.2.2.2.1]; decide)
theorem ct_l7 (T : TK sh ad B) {h : Hp} {i q : Nat} (hi : i < 4) {K : Nat → Prop} (e : gr h (ad (B + 7)) i = some q) : lR sh h (ad (B + 7)) (nI i) K = K q := lR_t (by rw [T.2.2.2.2.2.2.2.1]; exact hi) (by rw [T.2.2.2.2.2.2.2.1]; decide) e
theorem ct_SK (T : TK sh ad B) {i : Nat} (hi : i < 4) : SK sh ad (B + 8 + 19 * i) := T.2.2.2.2.2.2.2.2 i hi
/-- a session of a state is looked up -/
theorem tp_ses (T : TK sh ad B) (p : TP h ad B) {i : Nat} (hi : i < 4) {K : Nat → Prop} : (gR h (ad B) 11 fun q => ty sh q 9 <| lR sh h q (nI i) K) = K (ad (B + 8 + 19 * i)) := by
  obtain ⟨t1, t2, t3, t4, t5, t6, t7, t8⟩ := p
  rw [gR_t t7, ct_t7 T, ct_l7 T hi (t8 i hi)]
theorem ct_ne_ses (hi : inj ad) {i p : Nat} (hp : p < 8) : ∀ j, j < 19 → ad (B + p) ≠ ad (B + 8 + 19 * i + j) := fun j _ => ad_ne hi (by omega)
theorem lt4 {k : Nat} (h : k < 4) : ¬ (4 : Int32) ≤ nI k := fun z => by rw [show (4 : Int32) = nI 4 from rfl, nI_leI (by omega) (by omega)] at z; omega
theorem ge4 : (4 : Int32) ≤ nI 4 := by decide
theorem lt6 {k : Nat} (h : k < 6) : ¬ (6 : Int32) ≤ nI k := fun z => by rw [show (6 : Int32) = nI 6 from rfl, nI_leI (by omega) (by omega)] at z; omega
theorem ge6 : (6 : Int32) ≤ nI 6 := by decide
/-- a notice comes to all sessions -/
theorem va_up_eta {α : Type} {f : Nat → α} {k : Nat} : va_up f k (f k) = f := va_up_id rfl
theorem c_arrive (T : TK sh ad B) (hi : inj ad) (hm : CT h ad B N g S W L) (ht : tgood g N) (hs : sgood N S) {i : Nat} (hiN : i < N) {K : Hp → Prop} (hk : ∀ h', CT h' ad B N g (comeN g i S 4) W L → FB ad h h' B → K h') : f_X2_arrive sh (ad B) (nI i) h K := by
  obtain ⟨t1, t2, t3⟩ := ht
  unfold f_X2_arrive
  refine lo_ind (fun d s' h' => ∃ k, k + d = 5 ∧ k ≤ 4 ∧ s' = nI k ∧ CT h' ad B N g (comeN g i S k) W L ∧ FB ad h h' B) ?_ ?_ (d := 5) ⟨0, by omega, by omega, rfl, hm, FB.rf⟩
  · rintro s' h' ⟨k, h1, h2, -⟩
    omega
  · rintro d rec hrec s' h' ⟨k, h1, h2, rfl, h3, h4⟩
    unfold b_X2_arrive_2
    by_cases hz : k = 4
    · subst hz
      rw [if_pos ge4]
      exact hk h' h3 h4
    · have hk4 : k < 4 := by omega
      have h3' := h3
      obtain ⟨p, ⟨a1, a2, a3, a4, a5⟩, b3, b4, b5, b6⟩ := h3
      have X := ct_SK T hk4
      have hcs := b6 k hk4
      have hck : comeN g i S k k = S k := if_neg (by omega)
      rw [hck] at hcs
      obtain ⟨hal, kn, hkn, hc0⟩ := hs k hk4
      have c0 := hcs.2.1 0 (by omega)
      rw [hc0] at c0
      rw [if_neg (lt4 hk4), ct_t0 T, tp_ses T p hk4, cs_t0 X, gI_t, c0, nI_1, nI_1]
      by_cases hle : kn ≤ i
      · rw [if_pos (nI_le hle (by omega)), tp_ses T p hk4, gR_t p.2.2.1, gR_t p.1, cs_t0 X]
        refine c_learn X hi hcs (ct_ne_ses hi (by omega)) (ct_ne_ses hi (by omega)) T.2.2.2.1 T.2.1 hc0 (by omega) (by omega) (tl := tlg g) (fun q hq => ⟨(t3 q (by omega)).1, by rw [(b4 q (by omega)).1]; exact (t3 q (by omega)).2⟩) (fun h5 h6 h7 => ?_)
        rw [lrn_ver t3 (fun t ht => (b3 t ht).1) _ _ _ (by omega), show kn + (i + 1 - kn) = i + 1 by omega] at h6
        have hco : come1 g i (S k) = (va_up (S k).1 0 (nI (i + 1)), lrn (tlg g) (verg g) (i + 1 - kn) kn (S k).2) := by
          unfold come1
          rw [hc0, nI_clamp (by omega), if_pos (nI_le hle (by omega))]
        have h8 := CT_S hi h3' h6 h7
        rw [← hco, comeN_succ, va_up_eta] at h8
        exact hrec _ _ ⟨k + 1, by omega, by omega, rfl, h8, h4.tr (FS_FB hk4 h7)⟩
      · rw [if_neg (fun z => hle (by rw [nI_leI (by omega) (by omega)] at z; exact z)), tp_ses T p hk4, cs_t0 X, gI_t, pI_t, hcs.2.1 5 (by omega)]
        have hco : come1 g i (S k) = (va_up (S k).1 5 ((S k).1 5 + 1), (S k).2) := by
          unfold come1
          rw [hc0, if_neg (fun z => hle (by rw [nI_leI (by omega) (by omega)] at z; exact z))]
        have h8 := CT_S hi h3' (CS_c hi hcs (k := 5) (v := (S k).1 5 + 1) (by omega)) FS_si0
        rw [← hco, comeN_succ, va_up_eta] at h8
        exact hrec _ _ ⟨k + 1, by omega, by omega, rfl, h8, h4.tr (FS_FB hk4 FS_si0)⟩
end CC

/-! the reference: a statement starts -/
theorem lastN_lt (p : En → Prop) [DecidablePred p] (l : List En) : ∀ n, lastN p l n = -1 ∨ ∃ j, j < n ∧ lastN p l n = nI j ∧ p (hd l j) := by
  intro n
  induction n with
  | zero => exact Or.inl rfl
  | succ n ih =>
    unfold lastN
    split
    · next hz => exact Or.inr ⟨n, by omega, rfl, hz⟩
    · rcases ih with h | ⟨j, h1, h2⟩
      · exact Or.inl h
      · exact Or.inr ⟨j, by omega, h2⟩
def newE (t v sp num : Int32) : En := fun q => match q with | 0 => t | 1 => v | 2 => sp | 3 => 1 | 4 => num | _ => 0
/-- a statement uses a table: its session's counts and hand behind that, and the version it works by; none where there is no room -/
def u1 (rm num t v sp : Int32) (c : Nat → Int32) (l : List En) : Option ((Nat → Int32) × List En × Int32) :=
  if 0 ≤ lastI (fun e => e 0 = t ∧ e 5 = 0) l then
    some (va_up c 1 (c 1 + 1), l.set (lastI (fun e => e 0 = t ∧ e 5 = 0) l).toNatClampNeg (va_up (va_up (hd l (lastI (fun e => e 0 = t ∧ e 5 = 0) l).toNatClampNeg) 3 (hd l (lastI (fun e => e 0 = t ∧ e 5 = 0) l).toNatClampNeg 3 + 1)) 4 num), hd l (lastI (fun e => e 0 = t ∧ e 5 = 0) l).toNatClampNeg 1)
  else if nI (shr (rm - 1) l.length l).1.length < rm then
    some (va_up (va_up c 3 (c 3 + nI (shr (rm - 1) l.length l).2)) 2 (c 2 + 1), (shr (rm - 1) l.length l).1.insertIdx (insN t (shr (rm - 1) l.length l).1 (shr (rm - 1) l.length l).1.length) (newE t v sp num), v)
  else none
/-- all tables of a set from k on, d of them -/
noncomputable def uAll (g : Nat → Int32) (num set : Int32) : Nat → Nat → (Nat → Int32) → List En → Option ((Nat → Int32) × List En × (Nat → Int32))
  | 0, _, c, l => some (c, l, fun _ => 0)
  | d + 1, k, c, l =>
    if ((set >>> (nI k &&& 31)) &&& 1) = 1 then
      match u1 (g 4) num (nI k) (g (5 + k)) (g (11 + k)) c l with
      | none => none
      | some r => match uAll g num set d (k + 1) r.1 r.2.1 with
        | none => none
        | some q => some (q.1, q.2.1, va_up q.2.2 k r.2.2)
    else uAll g num set d (k + 1) c l
theorem MA_off {f g : Nat → Int32} {S : Nat → Ses} {os : List En} {rc : List (Int32 × Int32)} {k : Nat} {v : Int32} (hm : MA f g S os rc) (h1 : 438 + 10 * os.length ≤ k) (h2 : k < 598) : MA (va_up f k v) g S os rc := by
  obtain ⟨a1, a2, ⟨a3, a4, a5⟩, a6, a7, a8⟩ := hm
  refine ⟨fun j hj => by rw [va_up_off (by omega)]; exact a1 j hj, fun m hm => ?_, ⟨by rw [va_up_off (by omega)]; exact a3, a4, fun p hp q hq => by rw [va_up_off (by omega)]; exact a5 p hp q hq⟩, by rw [va_up_off (by omega)]; exact a6, a7, fun p hp => ⟨by rw [va_up_off (by omega)]; exact (a8 p hp).1, by rw [va_up_off (by omega)]; exact (a8 p hp).2⟩⟩
  obtain ⟨m1, m2, m3, m4⟩ := a2 m hm
  exact ⟨fun q hq => by rw [va_up_off (by omega)]; exact m1 q hq, by rw [va_up_off (by omega)]; exact m2, m3, fun i hi q hq => by rw [va_up_off (by omega)]; exact m4 i hi q hq⟩
theorem MS_ext {f : Nat → Int32} {n i : Nat} {c : Nat → Int32} {l : List En} {e : En} (h : MS f n c l) (hi : i < l.length) (he : ∀ k, k < 6 → hd l i k = e k) : MS f n c (l.set i e) := by
  obtain ⟨m1, m2, m3, m4⟩ := h
  refine ⟨m1, by rw [List.length_set]; exact m2, by rw [List.length_set]; exact m3, fun j hj k hk => ?_⟩
  rw [List.length_set] at hj
  rw [hd_set hi]
  by_cases e1 : j = i
  · subst e1; rw [if_pos rfl, ← he k hk]; exact m4 j hj k hk
  · rw [if_neg e1]; exact m4 j hj k hk
theorem ins_set {l : List En} {i : Nat} {a b : En} (h : i ≤ l.length) : (l.insertIdx i a).set i b = l.insertIdx i b := by
  apply List.ext_getElem?
  intro j
  by_cases e : j = i
  · subst e
    rw [List.getElem?_set_self (by rw [len_ins h]; omega), List.getElem?_insertIdx, if_neg (by omega), if_pos rfl, if_pos (by omega)]
  · rw [List.getElem?_set_ne (Ne.symm e), List.getElem?_insertIdx, List.getElem?_insertIdx]
    split
    · rfl
    · first | rfl | rw [if_neg e, if_neg e]
section M9
variable {sh : Sh} {ma : Nat → Nat} {h : Hp} {f g : Nat → Int32} {S : Nat → Ses} {os : List En} {rc : List (Int32 × Int32)}
theorem m_uses (X : MX sh ma h) {n p rm : Nat} (hn : n < 4) (hrm : g 4 = nI rm) (hrm8 : 1 ≤ rm ∧ rm ≤ 8) (hp : p = os.length) (hp16 : p < 16) {num set : Int32} {Xc : Hp → Prop} {K : Int32 → Hp → Prop} {c : Nat → Int32} {l : List En} (hm : MA f g (va_up S n (c, l)) os rc)
    (k1 : ∀ f', uAll g num set 6 0 c l = none → K (-3) (hset h (ma 1) f'))
    (k2 : ∀ r f', uAll g num set 6 0 c l = some r → MA f' g (va_up S n (r.1, r.2.1)) os rc → (∀ j, j < 6 → bitp set j → f' (438 + 10 * p + 4 + j) = r.2.2 j) → Xc (hset h (ma 1) f')) :
    lo (b_X6_starts_92 sh (ma 0) (nI n) set num (nI p) (fun h => Xc h) K) (0 : Int32) (hset h (ma 1) f) := by
  subst hp
  refine lo_ind (fun d s h' => ∃ k f' c' l', d + k = 7 ∧ k ≤ 6 ∧ s = nI k ∧ h' = hset h (ma 1) f' ∧ MA f' g (va_up S n (c', l')) os rc ∧ (∀ f2, uAll g num set (6 - k) k c' l' = none → K (-3) (hset h (ma 1) f2)) ∧ (∀ r f2, uAll g num set (6 - k) k c' l' = some r → MA f2 g (va_up S n (r.1, r.2.1)) os rc → (∀ j, j < k → f2 (438 + 10 * os.length + 4 + j) = f' (438 + 10 * os.length + 4 + j)) → (∀ j, k ≤ j → j < 6 → bitp set j → f2 (438 + 10 * os.length + 4 + j) = r.2.2 j) → Xc (hset h (ma 1) f2))) ?_ ?_ (d := 7) ⟨0, f, c, l, by omega, by omega, rfl, rfl, hm, k1, fun r f2 h1 h2 _ h3 => k2 r f2 h1 h2 (fun j hj hb => h3 j (by omega) hj hb)⟩
  · rintro s h' ⟨k, f', c', l', h1, h2, -⟩
    omega
  · rintro d rec hrec s h' ⟨k, f', c', l', h1, h2, rfl, rfl, h3, h4, h5⟩
    have e0 : (0 : Int32) = nI 0 := rfl
    unfold b_X6_starts_92
    by_cases hz : k = 6
    · rw [if_pos (by subst hz; decide)]
      subst hz
      exact h5 (c', l', fun _ => 0) f' rfl h3 (fun _ _ => rfl) (fun j j1 j2 => by omega)
    · have hk6 : k < 6 := by omega
      rw [if_neg (fun z => by rw [show (6 : Int32) = nI 6 from rfl, nI_leI (by omega) (by omega)] at z; omega)]
      obtain ⟨d', hd'⟩ : ∃ d', 6 - k = d' + 1 := ⟨5 - k, by omega⟩
      have hd2 : 6 - (k + 1) = d' := by omega
      rw [hd'] at h4 h5
      unfold uAll at h4 h5
      by_cases hb : ((set >>> (nI k &&& 31)) &&& 1) = 1
      · rw [if_pos hb]
        rw [if_pos hb] at h4 h5
        have hms := h3.2.1 n hn
        rw [va_up_self] at hms
        have hl8 : l'.length ≤ 8 := hms.lenle
        have b4 := h3.1 4 (by omega)
        have b5 := h3.1 (5 + k) (by omega)
        have b11 := h3.1 (11 + k) (by omega)
        rw [mx_m X]
        refine m_entryOfF X hn hms ?_
        have upup : ∀ x : Ses, va_up (va_up S n (c', l')) n x = va_up S n x := fun x => by
          funext j; simp only [va_up]; split <;> rfl
        rcases lastN_lt (fun e => e 0 = nI k ∧ e 5 = 0) l' l'.length with e | ⟨j, j1, j2, j3⟩
        · have hlast : lastI (fun e => e 0 = nI k ∧ e 5 = 0) l' = -1 := e
          rw [hlast, if_neg (by decide)]
          have hu : u1 (g 4) num (nI k) (g (5 + k)) (g (11 + k)) c' l' = if nI (shr (g 4 - 1) l'.length l').1.length < g 4 then some (va_up (va_up c' 3 (c' 3 + nI (shr (g 4 - 1) l'.length l').2)) 2 (c' 2 + 1), (shr (g 4 - 1) l'.length l').1.insertIdx (insN (nI k) (shr (g 4 - 1) l'.length l').1 (shr (g 4 - 1) l'.length l').1.length) (newE (nI k) (g (5 + k)) (g (11 + k)) num), g (5 + k)) else none := by
            unfold u1
            rw [hlast, if_neg (by decide)]
          rw [hu] at h4 h5
          simp (disch := omega) only [i4, mx_m X, mx_r0 X, mx_t1 X, mx_ld X, b4]
          refine m_shrink X hn hms (fun f2 f3 f4 => ?_)
          generalize hsh : shr (g 4 - 1) l'.length l' = sr at f3 h4 h5
          have b6 := f3.2.1
          have b42 : f2 4 = g 4 := by rw [f4 _ (by omega)]; exact b4
          simp (disch := omega) only [i4, i6, mx_m X, mx_r0 X, mx_t1 X, of_t, mx_ld X, b6, b42]
          by_cases hfit : nI sr.1.length < g 4
          · rw [if_pos hfit]
            rw [if_pos hfit] at h4 h5
            have hlen : sr.1.length < rm := by
              rw [hrm, nI_ltI (by have := f3.lenle; omega) (by omega)] at hfit
              exact hfit
            have hins := insN_le (nI k) sr.1 sr.1.length
            refine m_load X hn f3 (by omega) hk6 (fun f5 en n0 n1 n2 n3 n5 f6 f7 => ?_)
            have hli : insN (nI k) sr.1 sr.1.length < (sr.1.insertIdx (insN (nI k) sr.1 sr.1.length) en).length := by rw [len_ins hins]; omega
            generalize hpos : insN (nI k) sr.1 sr.1.length = ps at f6 hli h4 h5 hins ⊢
            have hps : ps < 8 := by rw [len_ins hins] at hli; omega
            have a3 := f6.2.2.2 ps hli 3 (by omega)
            have a1 := f6.2.2.2 ps hli 1 (by omega)
            have a2 := f6.1 2 (by omega)
            rw [hd_ins hins, if_neg (by omega), if_pos rfl] at a1 a3
            rw [n3] at a3
            rw [n1] at a1
            have b52 : f2 (5 + k) = g (5 + k) := by rw [f4 _ (by omega)]; exact b5
            have b112 : f2 (11 + k) = g (11 + k) := by rw [f4 _ (by omega)]; exact b11
            rw [va_up_off (by decide)] at a2
            simp (disch := omega) only [i1, i2, i3, i4, mx_m X, mx_r0 X, mx_t1 X, of_t, ofE_t, ofO_t, mx_ld X, mx_st X, nI_add, va_up_off, va_up_self, a1, a2, a3, b52]
            have q1 := MS_c (v := c' 2 + nI 1) f6 (k := 2) (by omega)
            have q2 := MS_set (v := 0 + nI 1) q1 hli (k := 3) (by omega)
            have hli2 : ps < ((sr.1.insertIdx ps en).set ps (va_up (hd (sr.1.insertIdx ps en) ps) 3 (0 + nI 1))).length := by rw [List.length_set]; exact hli
            have q3 := MS_set (v := num) q2 hli2 (k := 4) (by omega)
            rw [hd_set hli, if_pos rfl, List.set_set, hd_ins hins, if_neg (by omega), if_pos rfl, ins_set hins] at q3
            have hli3 : ps < (sr.1.insertIdx ps (va_up (va_up en 3 (0 + nI 1)) 4 num)).length := by rw [len_ins hins]; omega
            have q4 := MS_ext (e := newE (nI k) (g (5 + k)) (g (11 + k)) num) q3 hli3 (fun q hq => by
              rw [hd_ins hins, if_neg (by omega), if_pos rfl]
              match q, hq with
              | 0, _ => rw [va_up_off (by decide), va_up_off (by decide)]; exact n0
              | 1, _ => rw [va_up_off (by decide), va_up_off (by decide)]; exact n1.trans b52
              | 2, _ => rw [va_up_off (by decide), va_up_off (by decide)]; exact n2.trans b112
              | 3, _ => rw [va_up_off (by decide), va_up_self]; rfl
              | 4, _ => rw [va_up_self]; rfl
              | 5, _ => rw [va_up_off (by decide), va_up_off (by decide)]; exact n5)
            rw [ins_set hins] at q4
            have q5 := MA_sess h3 hn q4 (((((f4.tr f7).tr (Out_set (by omega) (by omega))).tr (Out_set (by omega) (by omega))).tr (Out_set (by omega) (by omega))))
            rw [upup] at q5
            have q6 := MA_off (v := g (5 + k)) q5 (k := 438 + 10 * os.length + (4 + k)) (by omega) (by omega)
            refine hrec _ _ ⟨k + 1, _, _, _, by omega, by omega, rfl, rfl, q6, fun f8 u => ?_, fun r f8 u1' u2 u3 u4 => ?_⟩
            · rw [hd2] at u
              refine h4 f8 ?_
              dsimp only
              rw [show (nI 1 : Int32) = 1 from rfl] at u
              rw [u]
            · rw [hd2] at u1'
              refine h5 (r.1, r.2.1, va_up r.2.2 k (g (5 + k))) f8 ?_ u2 (fun j hj => ?_) (fun j j1 j2 j3 => ?_)
              · dsimp only
                rw [show (nI 1 : Int32) = 1 from rfl] at u1'
                rw [u1']
              · rw [u3 j (by omega), va_up_off (by omega)]
                rw [va_up_off (by omega), va_up_off (by omega), va_up_off (by omega), f7 _ (by omega), f4 _ (by omega)]
              · show f8 (438 + 10 * os.length + 4 + j) = va_up r.2.2 k (g (5 + k)) j
                by_cases ej : j = k
                · subst ej
                  rw [u3 j (by omega), va_up_at (by omega), va_up_self]
                · rw [va_up_off ej]
                  exact u4 j (by omega) j2 j3
          · rw [if_neg hfit]
            rw [if_neg hfit] at h4
            exact h4 _ rfl
        · have hlast : lastI (fun e => e 0 = nI k ∧ e 5 = 0) l' = nI j := j2
          have hu : u1 (g 4) num (nI k) (g (5 + k)) (g (11 + k)) c' l' = some (va_up c' 1 (c' 1 + 1), l'.set j (va_up (va_up (hd l' j) 3 (hd l' j 3 + 1)) 4 num), hd l' j 1) := by
            unfold u1
            rw [hlast, nI_clamp (by omega), if_pos (nI_pos' (by omega))]
          rw [hu] at h4 h5
          rw [hlast, if_pos (nI_pos' (by omega))]
          have a3 := hms.2.2.2 j j1 3 (by omega)
          have a1 := hms.2.2.2 j j1 1 (by omega)
          have c1 := hms.1 1 (by omega)
          simp (disch := omega) only [i1, i2, i3, i4, mx_m X, mx_r0 X, mx_t1 X, of_t, ofE_t, ofO_t, mx_ld X, mx_st X, nI_add, va_up_off, va_up_self, a1, a3, c1]
          have q1 := MS_c (v := c' 1 + nI 1) hms (k := 1) (by omega)
          have q2 := MS_set (v := hd l' j 3 + nI 1) q1 j1 (k := 3) (by omega)
          have hli2 : j < (l'.set j (va_up (hd l' j) 3 (hd l' j 3 + nI 1))).length := by rw [List.length_set]; exact j1
          have q3 := MS_set (v := num) q2 hli2 (k := 4) (by omega)
          rw [hd_set j1, if_pos rfl, List.set_set] at q3
          have q5 := MA_sess h3 hn q3 (((Out_set (by omega) (by omega)).tr (Out_set (by omega) (by omega))).tr (Out_set (by omega) (by omega)))
          rw [upup] at q5
          have q6 := MA_off (v := hd l' j 1) q5 (k := 438 + 10 * os.length + (4 + k)) (by omega) (by omega)
          refine hrec _ _ ⟨k + 1, _, _, _, by omega, by omega, rfl, rfl, q6, fun f8 u => ?_, fun r f8 u1' u2 u3 u4 => ?_⟩
          · rw [hd2] at u
            refine h4 f8 ?_
            dsimp only
            rw [show (nI 1 : Int32) = 1 from rfl] at u
            rw [u]
          · rw [hd2] at u1'
            refine h5 (r.1, r.2.1, va_up r.2.2 k (hd l' j 1)) f8 ?_ u2 (fun i hi => ?_) (fun i i1 i2 i3 => ?_)
            · dsimp only
              rw [show (nI 1 : Int32) = 1 from rfl] at u1'
              rw [u1']
            · rw [u3 i (by omega), va_up_off (by omega), va_up_off (by omega), va_up_off (by omega), va_up_off (by omega)]
            · show f8 (438 + 10 * os.length + 4 + i) = va_up r.2.2 k (hd l' j 1) i
              by_cases ej : i = k
              · subst ej
                rw [u3 i (by omega), va_up_at (by omega), va_up_self]
              · rw [va_up_off ej]
                exact u4 i (by omega) i2 i3
      · rw [if_neg hb]
        rw [if_neg hb] at h4 h5
        simp (disch := omega) only [i1, nI_add]
        refine hrec _ _ ⟨k + 1, f', c', l', by omega, by omega, rfl, rfl, h3, fun f2 u => h4 f2 (by rw [← hd2]; exact u), fun r f2 u1' u2 u3 u4 => h5 r f2 (by rw [← hd2]; exact u1') u2 (fun j hj => u3 j (by omega)) (fun j j1 j2 j3 => ?_)⟩
        by_cases ej : j = k
        · subst ej; exact absurd j3 hb
        · exact u4 j (by omega) j2 j3
end M9

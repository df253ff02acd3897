/-! the reference does a command -/
section XP1
variable {sh : Sh} {ma : Nat → Nat} {h : Hp} {f : Nat → Int32} {T0 : Nat} {a : AQ}
theorem r_does (X : MX sh ma h) (hc : RQ f a) (hp : PQ T0 a) (hT : T0 < 2 ^ 29) {l x y : Nat} (hl : l = 99 ∨ l = 115 ∨ l = 101 ∨ l = 116) (hx : x < 1000) (hy : y < 1000) (i13 : gi h (ma 0) 13 = nI l) (i14 : gi h (ma 0) 14 = nI x) (i15 : gi h (ma 0) 15 = nI y) {K : Int32 → Hp → Prop}
    (k0 : ∀ f', (stepA a l x y).1 < 0 → K (stepA a l x y).1 (hset h (ma 1) f'))
    (k1 : ∀ f', ¬ (stepA a l x y).1 < 0 → RQ f' (stepA a l x y).2 → K 0 (hset h (ma 1) f')) :
    f_X6_does sh (ma 0) (hset h (ma 1) f) K := by
  obtain ⟨os', hm, hE⟩ := hc
  obtain ⟨rm, hI⟩ := hp
  have hI' := INV_eq hI hE
  obtain ⟨eo1, eo2⟩ := EQO_mem hE
  have hI0 := hI
  obtain ⟨⟨ht, ⟨h0, h0', hd'⟩, -, ⟨hrm, hrm8⟩, ⟨hst, hst9⟩, hver⟩, hS, hO, hR⟩ := hI
  obtain ⟨-, hS', hO', -⟩ := hI'
  have hN := ht.1
  have g13 : ∀ f, gi (hset h (ma 1) f) (ma 0) 13 = nI l := fun f => (gi_o X (by omega)).trans i13
  have g14 : ∀ f, gi (hset h (ma 1) f) (ma 0) 14 = nI x := fun f => (gi_o X (by omega)).trans i14
  have g15 : ∀ f, gi (hset h (ma 1) f) (ma 0) 15 = nI y := fun f => (gi_o X (by omega)).trans i15
  have er : ∀ v f', stepA a l x y = (v, a) → v < 0 → K v (hset h (ma 1) f') := fun v f' e hv => by
    rw [e] at k0
    exact k0 f' hv
  -- the rows' conditions
  have cond : ∀ t, t < 6 → ((∃ o ∈ os', bitp (o 2) t ∧ ¬ a.1 (5 + t) ≤ o (4 + t)) ↔ ∃ o ∈ a.2.2.1, bitp (o 2) t ∧ ¬ a.1 (5 + t) ≤ o (4 + t)) := fun t ht6 => by
    constructor
    · rintro ⟨o', ho', b1, b2⟩
      obtain ⟨o, ho, he⟩ := eo2 o' ho'
      rw [he.1 2 (by omega)] at b1
      exact ⟨o, ho, b1, by rw [← he.2 t ht6 b1]; exact b2⟩
    · rintro ⟨o, ho, b1, b2⟩
      obtain ⟨o', ho', he⟩ := eo1 o ho
      exact ⟨o', ho', by rw [he.1 2 (by omega)]; exact b1, by rw [he.2 t ht6 b1]; exact b2⟩
  unfold f_X6_does
  rw [mx_m X, gI_t, g13]
  rcases hl with c | c | c | c
  · subst c
    have e0 : stepA a 99 x y = stepC a x y := rfl
    rw [e0] at k0 k1 er
    refine if_n (by decide) ?_
    rw [gI_t, g13]
    refine if_y rfl ?_
    rw [gI_t, g14, gI_t, g15]
    refine m_alterFault X hm (OI_nn hO' hst9) (fun z => ?_) (fun t t1 ex j j1 ey z => ?_) (fun t t1 ex j j1 ey z1 z2 => ?_)
    · refine if_n (by decide) ?_
      refine er _ _ ?_ (by decide)
      unfold stepC
      rw [pick_y (fun q => z.elim (fun z => z x q.1 rfl) (fun z => z y q.2 rfl))]
    · have et : x = t := nI_inj (by omega) (by omega) ex
      have ej : y = j := nI_inj (by omega) (by omega) ey
      subst et; subst ej
      refine if_n (by decide) ?_
      refine er _ _ ?_ (by decide)
      unfold stepC
      rw [pick_n (fun q => q ⟨t1, j1⟩), pick_y (z.imp (cond x t1).mp id)]
    · have et : x = t := nI_inj (by omega) (by omega) ex
      have ej : y = j := nI_inj (by omega) (by omega) ey
      subst et; subst ej
      have no : ¬ ((∃ o ∈ a.2.2.1, bitp (o 2) x ∧ ¬ a.1 (5 + x) ≤ o (4 + x)) ∨ a.1 (11 + x) = (1 : Int32) <<< (nI y &&& 31)) := fun z => z.elim (fun z => by
        obtain ⟨o, ho, b⟩ := (cond x t1).mpr z
        exact z1 o ho b) z2
      by_cases c100 : nQ a = 100
      · have nh : nI (nQ a) = nI 100 := by rw [c100]
        rw [ht.2.1, if_pos nh]
        refine if_n (by decide) ?_
        refine er _ _ ?_ (by decide)
        unfold stepC
        rw [pick_n (fun q => q ⟨t1, j1⟩), pick_n no, pick_y c100]
      · have hN1 : nQ a < 100 := by omega
        have nh : ¬ nI (nQ a) = nI 100 := fun z => c100 (nI_inj (by omega) (by omega) z)
        rw [ht.2.1, if_neg nh]
        refine if_y rfl ?_
        rw [gI_t, g13]
        refine if_y rfl ?_
        rw [gI_t, g14, gI_t, g15]
        have e := (show stepC a x y = _ from by unfold stepC; rw [pick_n (fun q => q ⟨t1, j1⟩), pick_n no, pick_n c100])
        obtain ⟨u, hu, hu2⟩ := hver x t1
        rw [e] at k1
        refine m_alters X hm ht hN1 (SI_good hS) t1 (fun f' hf' => ?_)
        exact k1 f' (by show ¬ (a.1 (5 + x) + 1) < 0; rw [hu, nI_1]; exact nI_pos (by omega)) ⟨os', hf', hE⟩
  · subst c
    have e0 : stepA a 115 x y = stepS a x y := rfl
    rw [e0] at k0 k1 er
    refine if_y rfl ?_
    rw [gI_t, g14]
    refine isS_t (fun n hn ex => ?_) (fun z => ?_)
    · refine if_n (by decide) ?_
      rw [gI_t, g15]
      refine in_t (a := 1) (b := 63) (by omega) (by omega) (fun s s1 s2 ey => ?_) (fun z _ => ?_)
      · refine if_n (by decide) ?_
        rw [gI_t, g14, gI_t, g15]
        have et : x = n := nI_inj (by omega) (by omega) ex
        have ej : y = s := nI_inj (by omega) (by omega) ey
        subst et; subst ej
        have kq : ∀ kn, (a.2.1 x).1 0 = nI kn → kn ≤ nQ a → kQ a x = kn := fun kn e hk => by
          show ((a.2.1 x).1 0).toNatClampNeg = kn
          rw [e, nI_clamp (by omega)]
        obtain ⟨-, kn, hkn, hc0⟩ := hS x hn
        refine m_starts X hm ht hn (SI_good hS) hrm hrm8 hst hst9 (fun z => ?_) hkn hc0 (fun f' z => ?_) (fun r f' row z1 z2 z3 r0 r1 r2 r3 r4 hma => ?_)
        · rw [cntN_pcn] at z
          have := pcn_sum (fun o ho => (hO'.1 o ho).2)
          have h1 := hO'.2.2 x hn
          have := hO'.2.2 0 (by omega)
          have := hO'.2.2 1 (by omega)
          have := hO'.2.2 2 (by omega)
          have := hO'.2.2 3 (by omega)
          have : pcn os' x ≤ 3 := by omega
          match x, hn with
          | 0, _ => omega
          | 1, _ => omega
          | 2, _ => omega
          | 3, _ => omega
        · rw [cntN_pcn, EQO_pcn hE] at z
          have e : stepS a x y = (-3, a) := by
            unfold stepS
            rw [pick_n (fun q => q ⟨hn, s1, s2⟩), kq kn hc0 hkn]
            rcases z with z | z | z
            · rw [pick_y (Or.inl z)]
            · rw [pick_y (Or.inr z)]
            · rw [z]
              by_cases q : pcn a.2.2.1 x = 4 ∨ sQ a = 999
              · rw [pick_y q]
              · rw [pick_n q]
          refine if_n (by decide) ?_
          exact er _ _ e (by decide)
        · rw [cntN_pcn, EQO_pcn hE] at z1
          have e := (show stepS a x y = _ from by
            unfold stepS
            rw [pick_n (fun q => q ⟨hn, s1, s2⟩), kq kn hc0 hkn, pick_n (fun q => q.elim z1 z2), z3])
          rw [e] at k1
          refine if_y (nI_pos' (by omega)) ?_
          refine k1 f' (nI_pos (by omega)) ⟨_, hma, EQO_app hE ⟨⟨fun k hk => ?_, fun t ht6 hb => ?_⟩, trivial⟩⟩
          · match k, hk with
            | 0, _ => exact r0
            | 1, _ => exact r1
            | 2, _ => exact r2
            | 3, _ => exact r3
          · rw [r4 t ht6 hb]
            exact rowC_v.symm
      · refine if_y rfl ?_
        refine er _ _ ?_ (by decide)
        unfold stepS
        rw [pick_y (fun q => z y q.2.1 q.2.2 rfl)]
    · refine if_y rfl ?_
      refine er _ _ ?_ (by decide)
      unfold stepS
      rw [pick_y (fun q => z x q.1 rfl)]
  · subst c
    have e0 : stepA a 101 x y = stepE a x := rfl
    rw [e0] at k0 k1 er
    refine if_n (by decide) ?_
    rw [gI_t, g13]
    refine if_n (by decide) ?_
    rw [gI_t, g13]
    refine if_y rfl ?_
    rw [gI_t, g14]
    refine m_endFault X hm (fun z => absurd (nI_pos' (by omega)) z) (fun _ z => ?_) (fun _ p p1 p2 p3 => ?_)
    · refine if_n (by decide) ?_
      refine er _ _ ?_ (by decide)
      unfold stepE
      rw [pick_y]
      intro o ho e
      obtain ⟨o', ho', he⟩ := eo1 o ho
      obtain ⟨i, i1, rfl⟩ := mem_hd ho'
      exact z i i1 ((he.1 0 (by omega)).trans e)
    · refine if_y rfl ?_
      rw [gI_t, g13]
      refine if_n (by decide) ?_
      rw [gI_t, g13]
      refine if_y rfl ?_
      rw [gI_t, g14]
      have plen : p < a.2.2.1.length := by rw [← EQO_len hE]; exact p1
      have he := EQO_hd hE p plen
      have p2' : hd a.2.2.1 p 0 = nI x := (he.1 0 (by omega)).symm.trans p2
      have hpq : oQ a x = p := oQ_at hO plen p2'
      obtain ⟨-, n, hn, ho1⟩ := hO'.1 _ (hd_mem p1)
      have ho1c : hd a.2.2.1 p 1 = nI n := (he.1 1 (by omega)).symm.trans ho1
      have en : (hd a.2.2.1 (oQ a x) 1).toNatClampNeg = n := by rw [hpq, ho1c, nI_clamp (by omega)]
      have hsome : ¬ ∀ o ∈ a.2.2.1, o 0 ≠ nI x := fun z => z _ (hd_mem plen) p2'
      obtain ⟨hpc, hpin⟩ := end_pins hS' hn p1 ho1
      obtain ⟨re1, re2⟩ := rel_eq (hS' n hn).1.1 (sm_eq he (sm_cw (o := hd a.2.2.1 p))) hpc
      have hl8 := SI_8 hS hn
      have hlF : ((a.2.1 n).2.filterMap (rq (cw (hd a.2.2.1 p)))).length ≤ (a.2.1 n).2.length := List.length_filterMap_le _ _
      have hsl := shr_len (a.1 4) ((a.2.1 n).2.filterMap (rq (cw (hd a.2.2.1 p)))).length ((a.2.1 n).2.filterMap (rq (cw (hd a.2.2.1 p)))) (by omega)
      have e := (show stepE a x = _ from by unfold stepE; rw [pick_n hsome, en, hpq])
      rw [e] at k1
      refine m_ends X hm hn p1 p2 p3 ho1 hpin (fun f' hf' => ?_)
      rw [re1] at hf'
      exact k1 f' (nI_pos (by omega)) ⟨_, hf', EQO_erase hE p⟩
  · subst c
    have e0 : stepA a 116 x y = stepT a x := rfl
    rw [e0] at k0 k1 er
    refine if_n (by decide) ?_
    rw [gI_t, g13]
    refine if_n (by decide) ?_
    rw [gI_t, g13]
    refine if_n (by decide) ?_
    rw [gI_t, g14]
    refine in_t (a := 1) (b := 99) (by omega) (by omega) (fun w w1 w2 ex => ?_) (fun z _ => ?_)
    · have et : x = w := nI_inj (by omega) (by omega) ex
      subst et
      refine if_n (by decide) ?_
      rw [gI_t, g13]
      refine if_n (by decide) ?_
      rw [gI_t, g13]
      refine if_n (by decide) ?_
      rw [gI_t, g14]
      have e := (show stepT a x = _ from by unfold stepT; rw [pick_n (fun z => z ⟨w1, w2⟩)])
      have hcnt := tkS_cnt (g := a.1) (N := nQ a) x (tQ a) a.2.1
      have hcnt2 : nQ a * x ≤ 100 * 99 := Nat.mul_le_mul hN w2
      rw [e] at k1
      refine m_ticks X hm ht (SI_good hS) h0 w2 (fun f' hf' => ?_)
      exact k1 f' (nI_pos (by omega)) ⟨os', hf', hE⟩
    · refine if_y rfl ?_
      refine er _ _ ?_ (by decide)
      unfold stepT
      rw [pick_y (fun q => z x q.1 q.2 rfl)]
end XP1

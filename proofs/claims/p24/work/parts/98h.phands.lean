/-! the law's look at all hands: a session's entries -/
theorem EQa_x {ad : Nat → Nat} {h : Hp} {x k : Nat} {v : Int32} (o : ∀ p, ad p ≠ x) : EQa ad h (si h x k v) := fun q => ⟨by show va_up h.1 _ _ _ = _; rw [va_up_off (o q)], rfl⟩
/-- what is told of an entry -/
theorem ent_f {T N tk rm st n k : Nat} {g : Nat → Int32} {S : Nat → Ses} {os : List En} {rc : List (Int32 × Int32)} (hI : INV T N tk rm st g S os rc) (hX : EX g N st S os) (hn : n < 4) (hk : k < (S n).2.length) :
    ∃ t v u c q, t < 6 ∧ hd (S n).2 k 0 = nI t ∧ hd (S n).2 k 1 = nI v ∧ g (5 + t) = nI u ∧ u ≤ 100 ∧ v ≤ u ∧ (hd (S n).2 k 5 = 0 ∨ hd (S n).2 k 5 = 1) ∧ hd (S n).2 k 3 = nI c ∧ c ≤ 16 ∧ (hd (S n).2 k 5 = 1 → c ≠ 0) ∧ hd (S n).2 k 4 = nI q ∧ q < st ∧ (v = u → hd (S n).2 k 2 = g (11 + t)) := by
  obtain ⟨-, h2, -⟩ := hI
  obtain ⟨⟨hH, -⟩, -⟩ := h2 n hn
  obtain ⟨t, v, u, u1, u2, u3, u4, u5, u6, u7, u8, u9⟩ := hH.1 _ (hd_mem hk)
  obtain ⟨⟨q, q1, q2⟩, x2⟩ := hX.1 n hn _ (hd_mem hk)
  have hc := hH.2.2.2.2.2.1 t (hd (S n).2 k 1) u1
  refine ⟨t, v, u, _, q, u1, u2, u3, u4, u5, u6, u7.elim Or.inl (fun z => Or.inr z.1), u8, hc, fun z y => ?_, q2, q1, fun z => (x2 t u1 u2).1 (by rw [u3, u4, z])⟩
  rw [y] at u8
  exact u9 z u8
section PH
variable {sh : Sh} {ad ma : Nat → Nat} {h : Hp} {b : Nat → Nat} {m len T : Nat} {A : Nat → AS} {kp : Option AS} {tx : Nat → Int32} {n : Nat} {x3 x4 : Nat} {tk rm st : Nat}
/-- the check of an entry -/
theorem ent_chk (X : WK sh ad ma) (c : CI ad b m A kp len tx h) (hI : INV T (nN (A 0)) tk rm st (A 0).1 (A 0).2.1 (A 0).2.2.1.1 (A 0).2.2.1.2) (hX : EX (A 0).1 (nN (A 0)) st (A 0).2.1 (A 0).2.2.1.1) (hn : n < 4) {k t v : Nat} (hk : k < ((A 0).2.1 n).2.length) (t6 : t < 6) (e0 : hd ((A 0).2.1 n).2 k 0 = nI t) (e1 : hd ((A 0).2.1 n).2 k 1 = nI v) (hv : v ≤ 100) {J : Int32 → Hp → Prop} (hJ : J 1 h) :
    f_X5_tableOf sh (ad 0) (nI t) (0 : Int32) h fun r55 h56 =>
    if r55 < nI v then
      J (0 : Int32) h56
    else
      f_X5_tableOf sh (ad 0) (nI t) (0 : Int32) h56 fun r57 h58 =>
      if nI v < r57 then
        f_X5_entry sh (ad 0) (nI n) (nI k) (4 : Int32) h58 fun r59 h60 =>
        f_X5_count sh (ad 0) (2 : Int32) h60 fun r61 h62 =>
        if r61 ≤ r59 then
          J (0 : Int32) h62
        else
          if nI k = 0 then
            J (1 : Int32) h62
          else
            f_X5_entry sh (ad 0) (nI n) (nI k - (1 : Int32)) (0 : Int32) h62 fun r63 h64 =>
            f_X5_entry sh (ad 0) (nI n) (nI k - (1 : Int32)) (1 : Int32) h64 fun r65 h66 =>
            if (((1000 : Int32) * nI t) + nI v) ≤ (((1000 : Int32) * r63) + r65) then
              J (0 : Int32) h66
            else
              J (1 : Int32) h66
      else
        f_X5_entry sh (ad 0) (nI n) (nI k) (2 : Int32) h58 fun r67 h68 =>
        f_X5_tableOf sh (ad 0) (nI t) (1 : Int32) h68 fun r69 h70 =>
        if r67 = r69 then
          f_X5_entry sh (ad 0) (nI n) (nI k) (4 : Int32) h70 fun r71 h72 =>
          f_X5_count sh (ad 0) (2 : Int32) h72 fun r73 h74 =>
          if r73 ≤ r71 then
            J (0 : Int32) h74
          else
            if nI k = 0 then
              J (1 : Int32) h74
            else
              f_X5_entry sh (ad 0) (nI n) (nI k - (1 : Int32)) (0 : Int32) h74 fun r75 h76 =>
              f_X5_entry sh (ad 0) (nI n) (nI k - (1 : Int32)) (1 : Int32) h76 fun r77 h78 =>
              if (((1000 : Int32) * nI t) + nI v) ≤ (((1000 : Int32) * r75) + r77) then
                J (0 : Int32) h78
              else
                J (1 : Int32) h78
        else
          J (0 : Int32) h70 := by
  have hl8 := SI_8 hI.2.1 hn
  have h5 : ∀ i, i < ((A 0).2.1 n).2.length → hd ((A 0).2.1 n).2 i 5 = 0 ∨ hd ((A 0).2.1 n).2 i 5 = 1 := fun i hi => SI_5 hI.2.1 n hn i hi
  obtain ⟨t', v', u, cc, q, w1, w2, w3, w4, w5, w6, w7, w8, w9, w10, w11, w12, w13⟩ := ent_f hI hX hn hk
  have et : t' = t := nI_inj (by omega) (by omega) (w2.symm.trans e0)
  subst et
  have ev : v' = v := nI_inj (by omega) (by omega) (w3.symm.trans e1)
  subst ev
  have hst : (A 0).1 2 = nI st := hI.1.2.2.2.2.1.1
  have hst9 : st ≤ 999 := hI.1.2.2.2.2.1.2
  -- the last check: the entry behind the one before it
  have last : (if nI k = 0 then J (1 : Int32) h else f_X5_entry sh (ad 0) (nI n) (nI k - (1 : Int32)) (0 : Int32) h fun r63 h64 => f_X5_entry sh (ad 0) (nI n) (nI k - (1 : Int32)) (1 : Int32) h64 fun r65 h66 => if (((1000 : Int32) * nI t') + nI v') ≤ (((1000 : Int32) * r63) + r65) then J (0 : Int32) h66 else J (1 : Int32) h66) := by
    by_cases k0 : k = 0
    · subst k0
      exact if_y rfl hJ
    · refine if_n (fun z => k0 (nI_inj (b := 0) (by omega) (by omega) z)) ?_
      rw [show (1 : Int32) = nI 1 from rfl, nI_sub (by omega)]
      have hk1 : k - 1 < ((A 0).2.1 n).2.length := by omega
      obtain ⟨t2, v2, u2, c2, q2, y1, y2, y3, y4, y5, y6, -⟩ := ent_f hI hX hn hk1
      refine t_ent X c hn hk1 (q := 0) (by omega) (h5 _ hk1) ?_
      refine t_ent X c hn hk1 (q := 1) (by omega) (h5 _ hk1) ?_
      rw [y2, y3, show (1000 : Int32) = nI 1000 from rfl, nI_mul, nI_mul, nI_add, nI_add]
      refine if_n (fun z => ?_) hJ
      rw [nI_leI (by omega) (by omega)] at z
      have hp := (hI.2.1 n hn).1.1.2.1
      rw [List.pairwise_iff_getElem] at hp
      have := hp (k - 1) k hk1 hk (by omega)
      rw [← hd_lt hk1, ← hd_lt hk] at this
      rcases this with y | ⟨ya, yb⟩
      · rw [y2, w2, nI_ltI (by omega) (by omega)] at y; omega
      · rw [y2, w2] at ya
        rw [y3, w3, nI_ltI (by omega) (by omega)] at yb
        have := nI_inj (by omega) (by omega) ya
        omega
  have use4 : ∀ {P : Int32 → Hp → Prop}, P (nI q) h → f_X5_entry sh (ad 0) (nI n) (nI k) (4 : Int32) h P := fun hp => t_ent X c hn hk (q := 4) (by omega) (h5 _ hk) (by rw [w11]; exact hp)
  refine t_tab0 X c t6 ?_
  rw [w4]
  refine if_n (fun z => by rw [nI_ltI (by omega) (by omega)] at z; omega) ?_
  refine t_tab0 X c t6 ?_
  rw [w4]
  by_cases cu : v' < u
  · refine if_y (nI_lt' (by omega) (by omega) cu) ?_
    refine use4 ?_
    refine t_cnt2 X c ?_
    rw [hst]
    exact if_n (fun z => by rw [nI_leI (by omega) (by omega)] at z; omega) last
  · refine if_n (fun z => cu (lt_nI (by omega) (by omega) z)) ?_
    refine t_ent X c hn hk (q := 2) (by omega) (h5 _ hk) ?_
    refine t_tab1 X c t6 ?_
    rw [w13 (by omega)]
    refine if_y rfl ?_
    refine use4 ?_
    refine t_cnt2 X c ?_
    rw [hst]
    exact if_n (fun z => by rw [nI_leI (by omega) (by omega)] at z; omega) last
/-- a session's entries -/
theorem hands_in (X : WK sh ad ma) (c : CI ad b m A kp len tx h) (hI : INV T (nN (A 0)) tk rm st (A 0).1 (A 0).2.1 (A 0).2.2.1.1 (A 0).2.2.1.2) (hX : EX (A 0).1 (nN (A 0)) st (A 0).2.1 (A 0).2.2.1.1) (hn : n < 4) (s3 : sh x3 = (7, 6)) (s4 : sh x4 = (7, 6)) (n34 : x3 ≠ x4) (o3 : ∀ p, ad p ≠ x3) (o4 : ∀ p, ad p ≠ x4)
    {H : Nat → Nat} {Q0 : Nat → En → Prop} (hH : ∀ t, t < 6 → gi h x3 t = nI (H t)) (hM : ∀ t, t < 6 → mn (Q0 t) (fun e => e 1) 9999 (gi h x4 t)) {x1 x2 : Int32} {Xc : Int32 → Int32 → Hp → Prop} {K : Int32 → Hp → Prop}
    (hx : ∀ w h', CI ad b m A kp len tx h' → ((∀ i, i < ((A 0).2.1 n).2.length → ¬ hd ((A 0).2.1 n).2 i 3 = 0) → w = 1) → (∀ t, t < 6 → gi h' x3 t = nI (H t + fcN t ((A 0).2.1 n).2 ((A 0).2.1 n).2.length)) → (∀ t, t < 6 → mn (fun e => Q0 t e ∨ (e ∈ ((A 0).2.1 n).2 ∧ e 0 = nI t ∧ ¬ e 3 ≤ 0)) (fun e => e 1) 9999 (gi h' x4 t)) → Xc (sum5 ((A 0).2.1 n).2 ((A 0).2.1 n).2.length) w h') :
    lo (b_L_areHandsSo_87 sh (ad 0) x1 x2 x3 x4 (nI n) (nI ((A 0).2.1 n).2.length) Xc K) ((0 : Int32), (1 : Int32), (0 : Int32)) h := by
  have hl8 := SI_8 hI.2.1 hn
  have h5 : ∀ i, i < ((A 0).2.1 n).2.length → hd ((A 0).2.1 n).2 i 5 = 0 ∨ hd ((A 0).2.1 n).2 i 5 = 1 := fun i hi => SI_5 hI.2.1 n hn i hi
  refine lo_ind (fun d s h' => ∃ k w, k + d = ((A 0).2.1 n).2.length + 1 ∧ k ≤ ((A 0).2.1 n).2.length ∧ s = (sum5 ((A 0).2.1 n).2 k, w, nI k) ∧ CI ad b m A kp len tx h' ∧ ((∀ i, i < k → ¬ hd ((A 0).2.1 n).2 i 3 = 0) → w = 1) ∧ (∀ t, t < 6 → gi h' x3 t = nI (H t + fcN t ((A 0).2.1 n).2 k)) ∧ (∀ t, t < 6 → mn (fun e => Q0 t e ∨ ∃ i, i < k ∧ e = hd ((A 0).2.1 n).2 i ∧ e 0 = nI t ∧ ¬ e 3 ≤ 0) (fun e => e 1) 9999 (gi h' x4 t))) ?_ ?_ (d := ((A 0).2.1 n).2.length + 1) ⟨0, 1, by omega, by omega, rfl, c, fun _ => rfl, hH, fun t ht => mn_iff (hM t ht) (fun x => ⟨Or.inl, fun z => z.elim id (fun ⟨i, i1, _⟩ => absurd i1 (Nat.not_lt_zero i))⟩)⟩
  · rintro s h' ⟨k, w, h1, h2, -⟩
    omega
  · rintro d rec hrec s h' ⟨k, w, h1, h2, rfl, c', hw, hH', hM'⟩
    unfold b_L_areHandsSo_87
    dsimp only
    by_cases hz : k = ((A 0).2.1 n).2.length
    · rw [if_pos (nI_le (by omega) (by omega)), hz]
      rw [hz] at hw hH' hM'
      refine hx w h' c' hw hH' (fun t ht => mn_iff (hM' t ht) (fun x => ⟨fun z => z.elim Or.inl (fun ⟨i, i1, i2, i3⟩ => Or.inr ⟨by rw [i2]; exact hd_mem i1, i3⟩), fun z => z.elim Or.inl (fun ⟨z1, z2⟩ => ?_)⟩))
      obtain ⟨i, i1, i2⟩ := mem_hd z1
      exact Or.inr ⟨i, i1, i2.symm, z2⟩
    · have hk : k < ((A 0).2.1 n).2.length := by omega
      obtain ⟨t, v, u, cc, q, w1, w2, w3, w4, w5, w6, w7, w8, w9, w10, w11, w12, w13⟩ := ent_f hI hX hn hk
      rw [if_neg (nI_ge (by omega) (by omega)), x_t0 X]
      refine t_ent X c' hn hk (q := 0) (by omega) (h5 k hk) ?_
      refine t_ent X c' hn hk (q := 1) (by omega) (h5 k hk) ?_
      refine t_ent X c' hn hk (q := 3) (by omega) (h5 k hk) ?_
      refine t_ent X c' hn hk (q := 5) (by omega) (h5 k hk) ?_
      rw [w2, w3, w8]
      refine dj_i (hd ((A 0).2.1 n).2 k 5) h' ?_ (fun J hJ => by rcases w7 with e | e <;> rw [e] at hJ ⊢ <;> first | exact if_n (by decide) hJ | exact if_y rfl hJ)
      refine dj_i (hd ((A 0).2.1 n).2 k 5) h' ?_ (fun J hJ => by rcases w7 with e | e <;> rw [e] at hJ ⊢ <;> first | exact if_y rfl hJ | exact if_n (by decide) hJ)
      obtain ⟨w', q1, q2⟩ : ∃ w' : Int32, ((∀ i, i < k + 1 → ¬ hd ((A 0).2.1 n).2 i 3 = 0) → w' = 1) ∧ ∀ J : Int32 → Hp → Prop, J w' h' → if w = 0 then J (0 : Int32) h' else if nI cc ≤ 0 then J (0 : Int32) h' else J (1 : Int32) h' := by
        by_cases c0 : w = 0
        · exact ⟨0, fun z => by
            have e := hw (fun i hi => z i (by omega))
            rw [e] at c0
            exact absurd c0 (by decide), fun J hJ => if_y c0 hJ⟩
        · by_cases c1 : nI cc ≤ 0
          · refine ⟨0, fun z => ?_, fun J hJ => if_n c0 (if_y c1 hJ)⟩
            exfalso
            rw [show (0 : Int32) = nI 0 from rfl, nI_leI (by omega) (by omega)] at c1
            refine z k (by omega) ?_
            rw [w8, show cc = 0 by omega]; rfl
          · exact ⟨1, fun _ => rfl, fun J hJ => if_n c0 (if_n c1 hJ)⟩
      refine dj_i w' h' ?_ (fun J hJ => q2 J hJ)
      rw [ty_t (by rw [s3]), lI_t (by rw [s3]; exact w1) (by rw [s3]; decide), hH' t w1]
      obtain ⟨fv, f1, f2⟩ : ∃ fv : Nat, fv = (if hd ((A 0).2.1 n).2 k 0 = nI t ∧ hd ((A 0).2.1 n).2 k 5 = 0 then 1 else 0) ∧ ∀ J : Int32 → Hp → Prop, J (nI fv) h' → if hd ((A 0).2.1 n).2 k 5 = 0 then J (1 : Int32) h' else J (0 : Int32) h' := by
        by_cases c5 : hd ((A 0).2.1 n).2 k 5 = 0
        · exact ⟨1, (if_pos ⟨w2, c5⟩).symm, fun J hJ => if_y c5 hJ⟩
        · exact ⟨0, (if_neg (fun z => c5 z.2)).symm, fun J hJ => if_n c5 hJ⟩
      refine dj_i (nI fv) h' ?_ (fun J hJ => f2 J hJ)
      rw [sI_t (by rw [s3]; exact w1) (by rw [s3]; decide), nI_add]
      have g4 : ∀ z y, gi (si h' x3 t y) x4 z = gi h' x4 z := fun z y => gi_si_ne (Ne.symm n34)
      have c36 : CI ad b m A kp len tx (si h' x3 t (nI (H t + fcN t ((A 0).2.1 n).2 k + fv))) := CI_m (EQa_x o3) c'
      have h36 : ∀ s, s < 6 → gi (si h' x3 t (nI (H t + fcN t ((A 0).2.1 n).2 k + fv))) x3 s = nI (H s + fcN s ((A 0).2.1 n).2 (k + 1)) := fun s hs => by
        rw [fcN_s]
        by_cases e : s = t
        · subst e
          rw [gi_si, f1, Nat.add_assoc]
        · rw [gi_si_k e, hH' s hs, if_neg (fun z => e (nI_inj (by omega) (by omega) (z.1.symm.trans w2))), Nat.add_zero]
      have m36 : ∀ s, s < 6 → mn (fun e => Q0 s e ∨ ∃ i, i < k ∧ e = hd ((A 0).2.1 n).2 i ∧ e 0 = nI s ∧ ¬ e 3 ≤ 0) (fun e => e 1) 9999 (gi (si h' x3 t (nI (H t + fcN t ((A 0).2.1 n).2 k + fv))) x4 s) := fun s hs => by
        rw [g4]; exact hM' s hs
      generalize si h' x3 t (nI (H t + fcN t ((A 0).2.1 n).2 k + fv)) = h2 at c36 h36 m36 ⊢
      obtain ⟨nv, p1, p2⟩ : ∃ nv : Int32, mn (fun e => Q0 t e ∨ ∃ i, i < k + 1 ∧ e = hd ((A 0).2.1 n).2 i ∧ e 0 = nI t ∧ ¬ e 3 ≤ 0) (fun e => e 1) 9999 nv ∧ ∀ J : Int32 → Hp → Prop, J nv h2 → if nI cc ≤ 0 then (ty sh x4 7 <| lI sh h2 x4 (nI t) fun v41 => J v41 h2) else (ty sh x4 7 <| lI sh h2 x4 (nI t) fun v44 => if v44 ≤ nI v then (lI sh h2 x4 (nI t) fun v47 => J v47 h2) else J (nI v) h2) := by
        have hm := m36 t w1
        have rd : ∀ {P : Int32 → Prop}, lI sh h2 x4 (nI t) P = P (gi h2 x4 t) := lI_t (by rw [s4]; exact w1) (by rw [s4]; decide)
        by_cases c1 : nI cc ≤ 0
        · refine ⟨gi h2 x4 t, mn_iff hm (fun x => ⟨fun z => z.elim Or.inl (fun ⟨i, i1, i2⟩ => Or.inr ⟨i, by omega, i2⟩), fun z => z.elim Or.inl (fun ⟨i, i1, i2, i3, i4⟩ => ?_)⟩), fun J hJ => if_y c1 (by rw [ty_t (by rw [s4]), rd]; exact hJ)⟩
          by_cases e : i = k
          · subst e
            rw [i2, w8] at i4
            exact absurd c1 i4
          · exact Or.inr ⟨i, by omega, i2, i3, i4⟩
        · refine ⟨_, mn_one (e := hd ((A 0).2.1 n).2 k) hm (fun x => ⟨fun z => z.elim (fun z => Or.inl (Or.inl z)) (fun ⟨i, i1, i2, i3⟩ => ?_), fun z => z.elim (fun z => z.elim Or.inl (fun ⟨i, i1, i2⟩ => Or.inr ⟨i, by omega, i2⟩)) (fun z => Or.inr ⟨k, by omega, z, by rw [z]; exact w2, by rw [z, w8]; exact c1⟩)⟩) ?_, fun J hJ => if_n c1 (by
            rw [ty_t (by rw [s4]), rd]
            rw [w3] at hJ
            by_cases c2 : gi h2 x4 t ≤ nI v
            · rw [if_pos c2] at hJ ⊢
              rw [rd]; exact hJ
            · rw [if_neg c2] at hJ ⊢
              exact hJ)⟩
          · by_cases e : i = k
            · subst e; exact Or.inr i2
            · exact Or.inl (Or.inr ⟨i, by omega, i2, i3⟩)
          · show hd ((A 0).2.1 n).2 k 1 < 9999
            rw [w3, show (9999 : Int32) = nI 9999 from rfl, nI_ltI (by omega) (by omega)]
            omega
      refine dj_i nv h2 ?_ (fun J hJ => p2 J hJ)
      rw [ty_t (by rw [s4]), sI_t (by rw [s4]; exact w1) (by rw [s4]; decide)]
      have c49 : CI ad b m A kp len tx (si h2 x4 t nv) := CI_m (EQa_x o4) c36
      have h49 : ∀ s, s < 6 → gi (si h2 x4 t nv) x3 s = nI (H s + fcN s ((A 0).2.1 n).2 (k + 1)) := fun s hs => by
        rw [gi_si_ne n34]; exact h36 s hs
      have m49 : ∀ s, s < 6 → mn (fun e => Q0 s e ∨ ∃ i, i < k + 1 ∧ e = hd ((A 0).2.1 n).2 i ∧ e 0 = nI s ∧ ¬ e 3 ≤ 0) (fun e => e 1) 9999 (gi (si h2 x4 t nv) x4 s) := fun s hs => by
        by_cases e : s = t
        · subst e
          rw [gi_si]; exact p1
        · rw [gi_si_k e]
          refine mn_iff (m36 s hs) (fun x => ⟨fun z => z.elim Or.inl (fun ⟨i, i1, i2⟩ => Or.inr ⟨i, by omega, i2⟩), fun z => z.elim Or.inl (fun ⟨i, i1, i2, i3, i4⟩ => ?_)⟩)
          by_cases ei : i = k
          · subst ei
            rw [i2, w2] at i3
            exact absurd (nI_inj (by omega) (by omega) i3).symm e
          · exact Or.inr ⟨i, by omega, i2, i3, i4⟩
      generalize si h2 x4 t nv = h3 at c49 h49 m49 ⊢
      refine dj_i (1 : Int32) h3 ?_ (fun J hJ => ?_)
      · refine if_n (by decide) ?_
        rw [nI_1]
        exact hrec _ _ ⟨k + 1, w', by omega, by omega, by rw [sum5_s], c49, q1, h49, m49⟩
      · have chk := ent_chk X c49 hI hX hn hk w1 w2 w3 (by omega) hJ
        refine if_n (nI_pos (by omega)) ?_
        by_cases c1 : 0 < nI cc
        · exact if_y c1 chk
        · refine if_n c1 ?_
          have c0 : cc = 0 := by
            rw [show (0 : Int32) = nI 0 from rfl, nI_ltI (by omega) (by omega)] at c1
            omega
          rcases w7 with e | e
          · exact if_y e chk
          · exact absurd c0 (w10 e)
end PH

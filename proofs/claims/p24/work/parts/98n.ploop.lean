/-! the law's rounds; the first state -/
section PN
variable {sh : Sh} {h : Hp} {L : List Nat} {xs : Nat → Int32} {Ls x1 : Nat}
theorem cell_i {k : Nat} (hk : k < 2 ^ 31) (hL : Ls < 2 ^ 31) {K : Int32 → Hp → Prop} (hK : ∀ v, K v h) : f_L_cell xs Ls (nI k) h K := by
  unfold f_L_cell
  by_cases c : Int32.ofNat Ls ≤ nI k
  · exact dj_i (((7919 : Int32) * (nI k + (3 : Int32))) * (nI k + (11 : Int32))) h (hK _) (fun J hJ => if_y c hJ)
  · have hlt : k < Ls := by
      rcases Nat.lt_or_ge k Ls with z | z
      · exact z
      · exact absurd (nI_le z hk) c
    exact dj_i (xs (nI k).toNatClampNeg) h (hK _) (fun J hJ => if_n c ⟨nI_in hlt hL, _, rfl, hJ⟩)
theorem fin_i {T m : Nat} {a : AS} (M : MW L sh x1 T m a h) : fin_law x1 L sh h := by
  obtain ⟨ad, ma, rfl, X, hL, I⟩ := M
  unfold fin_law dj
  rw [x_t0 X]
  refine j_cnt2 X I ?_
  by_cases c : a.1 2 = 0
  · exact if_y c rfl
  · refine if_n c ?_
    refine t_best X I c (q := 0) (by omega) (fun x f h2 ⟨p, q, p1, p2, p3, q1, q2, q3⟩ I2 => ?_)
    rw [if_pos (show nI 0 = (0 : Int32) from rfl), p3]
    refine if_n (fun z => by rw [show (1 : Int32) = nI 1 from rfl, nI_ltI (by omega) (by omega)] at z; omega) ?_
    refine t_best X I2 c (q := 0) (by omega) (fun x f h3 ⟨p, q, p1, p2, p3, q1, q2, q3⟩ I3 => ?_)
    rw [if_pos (show nI 0 = (0 : Int32) from rfl), p3]
    refine if_n (fun z => by rw [show (8 : Int32) = nI 8 from rfl, nI_ltI (by omega) (by omega)] at z; omega) ?_
    refine t_best X I3 c (q := 1) (by omega) (fun x f h4 ⟨p, q, p1, p2, p3, q1, q2, q3⟩ I4 => ?_)
    rw [if_neg (show ¬ nI 1 = (0 : Int32) by decide), q3]
    exact if_n (fun z => by rw [show (1 : Int32) = nI 1 from rfl, nI_ltI (by omega) (by omega)] at z; omega) rfl
theorem law_loop (hLs : Ls < 2 ^ 31) : ∀ (n k : Nat) (L : List Nat) (sh : Sh) (h : Hp) (m : Nat) (a : AS), k + n = 57 → k ≤ 56 → MW L sh x1 (100 * k) m a h → lpw x1 xs Ls n (nI k) L sh h := by
  intro n
  induction n with
  | zero => intro k L sh h m a h1 h2; omega
  | succ n ih =>
    intro k L sh h m a h1 h2 M
    show b_law x1 xs Ls (lpw x1 xs Ls n) (nI k) L sh h
    revert ih
    generalize lpw x1 xs Ls n = rec
    intro ih
    unfold b_law
    by_cases hz : k = 56
    · subst hz
      exact if_y (by decide) (fin_i M)
    · have hk : k < 56 := by omega
      refine if_n (fun z => by rw [show (56 : Int32) = nI 56 from rfl, nI_leI (by omega) (by omega)] at z; omega) ?_
      refine cell_i (by omega) hLs (fun v => ?_)
      obtain ⟨ad, ma, rfl, X, hL, I⟩ := M
      obtain ⟨q, hq16, hq⟩ := pk_andE v (m := (15 : Int32)) 4 (by decide)
      have hT : 100 * k < 2 ^ 29 := by omega
      have t6 : lwN (v >>> ((4 : Int32) &&& 31)) 6 < 6 := lwN_lt (by omega)
      have j3 : lwN (v >>> ((7 : Int32) &&& 31)) 3 < 3 := lwN_lt (by omega)
      have s63 : lwN (v >>> ((7 : Int32) &&& 31)) 63 < 63 := lwN_lt (by omega)
      -- what comes behind the call and its checks
      have cont : ∀ m' a' h', MJ ad (100 * k + 100) m' a' h' → f_L_areHandsSo L sh (ad 0) h' fun r44 L46 s47 h45 => if r44 = 0 then False else if (nI k - nI k / (3 : Int32) * (3 : Int32)) = (1 : Int32) then f_L_low s47 (v >>> ((7 : Int32) &&& 31)) (63 : Int32) h45 fun r49 h50 => f_L_isStartSo s47 (ad 0) ((v >>> ((5 : Int32) &&& 31)) &&& (3 : Int32)) ((1 : Int32) + r49) h50 fun r51 h52 => if r51 = 0 then False else rec (nI k + (1 : Int32)) L46 s47 h52 else rec (nI k + (1 : Int32)) L46 s47 h45 := fun m' a' h' I' => by
        refine k_hands ⟨ad, ma, rfl, X, hL, I'⟩ (fun L' sh' h2 M2 => ?_)
        refine if_n (by decide) ?_
        rw [nI_1]
        by_cases c3 : (nI k - nI k / (3 : Int32) * (3 : Int32)) = (1 : Int32)
        · refine if_y c3 ?_
          refine low_i (n := 63) rfl (by omega) (by omega) ?_
          obtain ⟨n', hn', en'⟩ := pk_andE (v >>> ((5 : Int32) &&& 31)) (m := (3 : Int32)) 2 (by decide)
          rw [en', show (1 : Int32) = nI 1 from rfl, nI_add]
          obtain ⟨ad2, ma2, e2, X2, hL2, I2⟩ := M2
          rw [← e2]
          refine k_isStart X2 I2 (by omega) (by omega) (by omega) (fun h3 m3 a3 I3 => ?_)
          refine if_n (by decide) ?_
          exact ih (k + 1) L' sh' h3 m3 a3 (by omega) (by omega) ⟨ad2, ma2, e2, X2, hL2, by rw [show 100 * (k + 1) = 100 * k + 100 by omega]; exact I3⟩
        · refine if_n c3 ?_
          exact ih (k + 1) L' sh' h2 m' a' (by omega) (by omega) (by rw [show 100 * (k + 1) = 100 * k + 100 by omega]; exact M2)
      refine low_i (n := 6) rfl (by omega) (by omega) ?_
      rw [x_t0 X]
      refine j_tab0 X I t6 ?_
      refine j_tab1 X I t6 ?_
      -- the call
      have call : ∀ cv : Int32, (cv = 0 ∨ cv = 1) → ((∀ e, pinE a.2.1 (nI (lwN (v >>> ((4 : Int32) &&& 31)) 6)) 4 e → a.1 (5 + lwN (v >>> ((4 : Int32) &&& 31)) 6) ≤ e 1) ↔ cv = 1) → ∀ P : Int32 → Hp → Prop, (∀ r m' a' h', MJ ad (100 * k + 100) m' a' h' →
          (∃ iv : Int32, (if (3 : Int32) ≤ (v &&& (15 : Int32)) then iv = 0 else iv = 1) ∧ ¬ r < (-3 : Int32) ∧ (iv = 0 ∨ (iv = 1 ∧ (r < 0 ∨ (¬ cv = 0 ∧ r = a.1 (5 + lwN (v >>> ((4 : Int32) &&& 31)) 6) + 1 ∧ a'.1 (11 + lwN (v >>> ((4 : Int32) &&& 31)) 6) = a.1 (11 + lwN (v >>> ((4 : Int32) &&& 31)) 6) ^^^ ((1 : Int32) <<< (nI (lwN (v >>> ((7 : Int32) &&& 31)) 3) &&& 31)))) ∧ (r = -2 → cv = 0 ∨ a.1 (11 + lwN (v >>> ((4 : Int32) &&& 31)) 6) = (1 : Int32) <<< (nI (lwN (v >>> ((7 : Int32) &&& 31)) 3) &&& 31))))) → P r h') → f_L_does sh (ad 0) v h P := fun cv hcv hcan P hP => by
        refine does_i X I hT hq hq16 (fun q3 => ?_) (fun q3 r h' m' a' hr I' => ?_)
        · have n3 : ¬ (3 : Int32) ≤ (v &&& (15 : Int32)) := fun z => by rw [hq, show (3 : Int32) = nI 3 from rfl, nI_leI (by omega) (by omega)] at z; omega
          refine t_alter X I hT t6 (by omega) (fun h' hd' I' => ?_) (fun h' I' => ?_) (fun h' m' a' hok hneg hs I' => ?_)
          · refine hP _ m a h' (MJ_T I' (by omega)) ⟨1, if_n n3 rfl, by decide, Or.inr ⟨rfl, Or.inl (by decide), fun _ => ?_⟩⟩
            rcases hcv with z | z
            · exact Or.inl z
            · rcases hd' with ⟨e, e1, e2⟩ | y
              · exact absurd (hcan.mpr z e e1) e2
              · exact Or.inr y
          · exact hP _ m a h' (MJ_T I' (by omega)) ⟨1, if_n n3 rfl, by decide, Or.inr ⟨rfl, Or.inl (by decide), fun z => absurd z (by decide)⟩⟩
          · exact hP _ m' a' h' (MJ_T I' (by omega)) ⟨1, if_n n3 rfl, lt_m3 hneg, Or.inr ⟨rfl, Or.inr ⟨by rw [hcan.mp hok]; decide, rfl, hs⟩, fun z => absurd (show (a.1 (5 + lwN (v >>> ((4 : Int32) &&& 31)) 6) + 1) < 0 by rw [z]; decide) hneg⟩⟩
        · have y3 : (3 : Int32) ≤ (v &&& (15 : Int32)) := by rw [hq, show (3 : Int32) = nI 3 from rfl, nI_leI (by omega) (by omega)]; omega
          exact hP _ m' a' h' I' ⟨0, if_y y3 rfl, hr, Or.inl rfl⟩
      -- the checks of its answer
      have chk : ∀ cv : Int32, (cv = 0 ∨ cv = 1) → ((∀ e, pinE a.2.1 (nI (lwN (v >>> ((4 : Int32) &&& 31)) 6)) 4 e → a.1 (5 + lwN (v >>> ((4 : Int32) &&& 31)) 6) ≤ e 1) ↔ cv = 1) → f_L_does sh (ad 0) v h fun r27 h28 =>
          dj (fun v29 h30 =>
            dj (fun v32 h33 =>
              dj (fun v39 h40 =>
                if v39 = 0 then False else
                f_L_areHandsSo L sh (ad 0) h40 fun r44 L46 s47 h45 => if r44 = 0 then False else if (nI k - nI k / (3 : Int32) * (3 : Int32)) = (1 : Int32) then f_L_low s47 (v >>> ((7 : Int32) &&& 31)) (63 : Int32) h45 fun r49 h50 => f_L_isStartSo s47 (ad 0) ((v >>> ((5 : Int32) &&& 31)) &&& (3 : Int32)) ((1 : Int32) + r49) h50 fun r51 h52 => if r51 = 0 then False else rec (nI k + (1 : Int32)) L46 s47 h52 else rec (nI k + (1 : Int32)) L46 s47 h45)
                (fun J41 =>
                if v32 = 0 then J41 (0 : Int32) h33
                else if v29 = 0 then J41 (1 : Int32) h33
                else if r27 = (-2 : Int32) then
                  if cv = 0 then J41 (1 : Int32) h33
                  else
                    f_L_low sh (v >>> ((7 : Int32) &&& 31)) (3 : Int32) h33 fun r42 h43 =>
                    if a.1 (11 + lwN (v >>> ((4 : Int32) &&& 31)) 6) = ((1 : Int32) <<< (r42 &&& 31)) then J41 (1 : Int32) h43 else J41 (0 : Int32) h43
                else J41 (1 : Int32) h33))
              (fun J34 =>
              if r27 < (-3 : Int32) then J34 (0 : Int32) h30
              else if v29 = 0 then J34 (1 : Int32) h30
              else if r27 < 0 then J34 (1 : Int32) h30
              else if cv = 0 then J34 (0 : Int32) h30
              else if r27 = (a.1 (5 + lwN (v >>> ((4 : Int32) &&& 31)) 6) + (1 : Int32)) then
                f_X5_tableOf sh (ad 0) (nI (lwN (v >>> ((4 : Int32) &&& 31)) 6)) (1 : Int32) h30 fun r35 h36 =>
                f_L_low sh (v >>> ((7 : Int32) &&& 31)) (3 : Int32) h36 fun r37 h38 =>
                if r35 = (a.1 (11 + lwN (v >>> ((4 : Int32) &&& 31)) 6) ^^^ ((1 : Int32) <<< (r37 &&& 31))) then J34 (1 : Int32) h38 else J34 (0 : Int32) h38
              else J34 (0 : Int32) h30))
            (fun J31 => if (3 : Int32) ≤ (v &&& (15 : Int32)) then J31 (0 : Int32) h28 else J31 (1 : Int32) h28) := fun cv hcv hcan => by
        refine call cv hcv hcan _ (fun r m' a' h' I' ⟨iv, i1, i2, i3⟩ => ?_)
        refine dj_i iv h' ?_ (fun J hJ => by
          by_cases c : (3 : Int32) ≤ (v &&& (15 : Int32))
          · rw [if_pos c] at i1 ⊢; rw [← i1]; exact hJ
          · rw [if_neg c] at i1 ⊢; rw [← i1]; exact hJ)
        refine dj_i (1 : Int32) h' ?_ (fun J hJ => ?_)
        · refine dj_i (1 : Int32) h' ?_ (fun J hJ => ?_)
          · exact if_n (by decide) (cont m' a' h' I')
          · refine if_n (by decide) ?_
            by_cases c0 : iv = 0
            · exact if_y c0 hJ
            · refine if_n c0 ?_
              rcases i3 with z | ⟨-, -, z⟩
              · exact absurd z c0
              · by_cases c2 : r = -2
                · refine if_y c2 ?_
                  by_cases cc : cv = 0
                  · exact if_y cc hJ
                  · refine if_n cc (low_i (n := 3) rfl (by omega) (by omega) ?_)
                    exact if_y ((z c2).elim (fun y => absurd y cc) id) hJ
                · exact if_n c2 hJ
        · refine if_n i2 ?_
          by_cases c0 : iv = 0
          · exact if_y c0 hJ
          · refine if_n c0 ?_
            rcases i3 with z | ⟨-, z, -⟩
            · exact absurd z c0
            · by_cases cn : r < 0
              · exact if_y cn hJ
              · refine if_n cn ?_
                rcases z with z | ⟨z1, z2, z3⟩
                · exact absurd z cn
                · refine if_n z1 (if_y z2 ?_)
                  refine j_tab1 X I' t6 ?_
                  refine low_i (n := 3) rfl (by omega) (by omega) ?_
                  exact if_y z3 hJ
      refine j_tab4 X I t6 (fun can => ?_) (fun ⟨e, z1, z2⟩ => ?_)
      · exact dj_i (1 : Int32) h (chk 1 (Or.inr rfl) ⟨fun _ => rfl, fun _ => can⟩) (fun J hJ => if_y rfl hJ)
      · exact dj_i (0 : Int32) h (chk 0 (Or.inl rfl) ⟨fun z => absurd (z e z1) z2, fun z => absurd z (by decide)⟩) (fun J hJ => if_n (by decide) hJ)
theorem first24 (hx : XF L sh h) : ∃ a, MW L sh (ex L 0) 0 0 a h := by
  obtain ⟨lL, W, Lr, ⟨c1, ⟨c2, c3, c4⟩, c5⟩, ⟨o1, o2, o3, o4, o5⟩, ⟨p1, p2, p3⟩, ⟨t1, t2, t3, t4⟩, hW⟩ := hx
  have hs : L.sum < L.sum + 1 := Nat.lt_succ_self _
  generalize L.sum + 1 = N at hs
  have ia : inj (ey L N 0) := ey_inj c1 hs
  have ea : ∀ k, k < 592 → ey L N 0 k = ex L k := fun k hk => ey_lt (by omega)
  have sm : ∀ B, B + 84 ≤ 592 → SM 84 (ex L) B sh h (ey L N 0) B sh h := fun B hB j hj => ⟨ea _ (by omega), rfl, rfl, rfl⟩
  have gr' : ∀ k f, k < 592 → gr h (ey L N 0 k) f = gr h (ex L k) f := fun k f hk => by rw [ea k hk]
  have gi' : ∀ k f, k < 592 → gi h (ey L N 0 k) f = gi h (ex L k) f := fun k f hk => by rw [ea k hk]
  have s' : ∀ k, k < 592 → sh (ey L N 0 k) = sh (ex L k) := fun k hk => by rw [ea k hk]
  have cb : ∀ B ∈ [506, 422, 338, 254, 169, 85], TK sh (ey L N 0) B ∧ TG h (ey L N 0) B := fun B hB => by
    obtain ⟨d1, d2, d3⟩ := c5 B hB
    exact ⟨TK_SM (sm B (by omega)) d2, TG_SM (sm B (by omega)) d3⟩
  have k1 := TK_SM (sm 1 (by omega)) c3
  have k2 := CT_SM (sm 1 (by omega)) c4
  have xr : ∀ r ∈ [((6 : Nat), (590 : Nat)), (4, 253), (2, 169), (1, 85), (0, 1)], gr h (ey L N 0 0) r.1 = some (ey L N 0 r.2) := fun r hr => by
    obtain ⟨q1, q2⟩ := o4 r hr
    rw [gr' 0 _ (by omega), ea _ (by omega)]
    exact q2
  refine ⟨(g00, S00, ([], []), (W, Lr)), ey L N 0, fun q => N + 2 * q + 1, ea 0 (by omega), ⟨ia, ?_, by rw [s' 0 (by omega)]; exact o3, by rw [s' 253 (by omega)]; exact p2, by rw [s' 590 (by omega)]; exact t1, by rw [s' 591 (by omega)]; exact t2, fun x hx => ?_, (cb 169 (by decide)).1⟩, fun p hp => by rw [ea p hp]; exact ex_mem (by omega), b0, fun _ => (g00, S00, ([], []), (W, Lr)), none, 0, fun _ => 0, ⟨b0_ok, ⟨xr (0, 1) (by decide), xr (1, 85) (by decide), xr (2, 169) (by decide), xr (4, 253) (by decide), xr (6, 590) (by decide), fun i hi => ?_, ?_⟩, ?_, ?_, (cb 85 (by decide)).2, fun i hi => by omega, fun i hi => ?_, Or.inl ⟨rfl, ?_⟩, (cb 169 (by decide)).2, ?_, fun i hi => by omega⟩, by omega, fun i hi => ?_, rfl⟩
  · intro p q z
    replace z : ey L N 0 p = N + 2 * q + 1 := z
    by_cases hp : p < L.length
    · have h1 := le_sum (ex_mem hp)
      rw [ey_lt hp] at z
      omega
    · rw [ey_ge (by omega)] at z; omega
  · rcases hx with z | z | z | z | z | z
    · rw [z]; exact k1
    · rw [z]; exact (cb 85 (by decide)).1
    · rw [z]; exact (cb 254 (by decide)).1
    · rw [z]; exact (cb 338 (by decide)).1
    · rw [z]; exact (cb 422 (by decide)).1
    · rw [z]; exact (cb 506 (by decide)).1
  · have hb : b0 (2 + i) < 592 := by
      have : ∀ i, i < 4 → b0 (2 + i) < 592 := by decide
      exact this i hi
    rw [gr' 253 i (by omega), ea _ hb]
    exact p3 i hi
  · rw [gr' 590 0 (by omega), ea 591 (by omega)]; exact t3
  · rw [gi' 0 5 (by omega)]; exact o5 5 (by decide)
  · exact k2
  · have : ∀ i, i < 4 → b0 (2 + i) ∈ [506, 422, 338, 254, 169, 85] := by decide
    exact (cb _ (this i hi)).2
  · rw [gi' 0 3 (by omega)]; exact o5 3 (by decide)
  · rw [gi' 590 1 (by omega)]; exact t4
  · have hI := INV_0 (rm := 3) (by omega)
    rw [gB3] at hI
    exact ⟨0, 3, 0, hI, RW_0 hW, fun p hp => absurd hp (Nat.not_lt_zero p), fun n hn e he => absurd he List.not_mem_nil, fun o ho => absurd ho List.not_mem_nil⟩
theorem law_all (xs : Nat → Int32) (Ls : Nat) (hL : Ls ≤ 260) : f_law [] sh0 h0 xs Ls := by
  unfold f_law
  refine nw_i (fun q hq => ?_)
  refine k_X5 (by rw [va_up_self]) (fun L sh' h' e hx => ?_)
  obtain ⟨a, M⟩ := first24 hx
  rw [e] at M
  exact law_loop (by omega) 57 0 L sh' h' 0 a (by omega) (by omega) M
end PN

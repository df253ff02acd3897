/-! printed by gen.py: each method as conditions on what comes behind it -/
def f_X0_comesBehind (sh : Sh) (a0 : Nat) (p1 : Int32) (p2 : Int32) (h : Hp) (K : Int32 → Hp → Prop) : Prop :=
  ty sh a0 0 <|
  gI h a0 0 fun v2 =>
  if p1 < v2 then
    K (1 : Int32) h
  else
    gI h a0 0 fun v3 =>
    if v3 = p1 then
      gI h a0 1 fun v4 =>
      if v4 ≤ p2 then
        K (0 : Int32) h
      else
        K (1 : Int32) h
    else
      K (0 : Int32) h

def f_X0_copyFrom (sh : Sh) (a0 : Nat) (p1 : Nat) (h : Hp) (K : Hp → Prop) : Prop :=
  ty sh p1 0 <|
  gI h p1 0 fun v2 =>
  ty sh a0 0 <|
  pI h a0 0 v2 fun h4 =>
  gI h4 p1 1 fun v5 =>
  pI h4 a0 1 v5 fun h6 =>
  gI h6 p1 2 fun v7 =>
  pI h6 a0 2 v7 fun h8 =>
  gI h8 p1 3 fun v9 =>
  pI h8 a0 3 v9 fun h10 =>
  gI h10 p1 4 fun v11 =>
  pI h10 a0 4 v11 fun h12 =>
  gI h12 p1 5 fun v13 =>
  bz v13 <|
  pI h12 a0 5 v13 fun h14 =>
  K h14

def b_X1_clear_37 (sh : Sh) (x0 : Nat) (Xc : Hp → Prop) (rec : Int32 → Hp → Prop) (s : Int32) (h : Hp) : Prop :=
  if (4 : Int32) ≤ s then
    Xc h
  else
    ty sh x0 1 <|
    gR h x0 8 fun q10 =>
    ty sh q10 11 <|
    lR sh h q10 s fun q12 =>
    ty sh q12 4 <|
    pI h q12 0 (-1 : Int32) fun h15 =>
    rec (s + (1 : Int32)) h15

def f_X1_clear (sh : Sh) (a0 : Nat) (h : Hp) (K : Hp → Prop) : Prop :=
  ty sh a0 1 <|
  pI h a0 0 (0 : Int32) fun h2 =>
  pI h2 a0 1 (0 : Int32) fun h3 =>
  pI h3 a0 2 (0 : Int32) fun h4 =>
  pI h4 a0 3 (0 : Int32) fun h5 =>
  pI h5 a0 4 (0 : Int32) fun h6 =>
  pI h6 a0 5 (0 : Int32) fun h7 =>
  pI h7 a0 6 (0 : Int32) fun h8 =>
  lo (b_X1_clear_37 sh a0
    (fun  h16 =>
      K h16)) (0 : Int32) h8

def b_X4_copyFrom_26 (sh : Sh) (x0 : Nat) (x1 : Nat) (Xc : Hp → Prop) (rec : Int32 → Hp → Prop) (s : Int32) (h : Hp) : Prop :=
  if (6 : Int32) ≤ s then
    Xc h
  else
    ty sh x0 4 <|
    gR h x0 3 fun q10 =>
    ty sh x1 4 <|
    gR h x1 3 fun q12 =>
    ty sh q12 7 <|
    lI sh h q12 s fun v14 =>
    ty sh q10 7 <|
    sI sh h q10 s v14 fun h17 =>
    rec (s + (1 : Int32)) h17

def f_X4_copyFrom (sh : Sh) (a0 : Nat) (p1 : Nat) (h : Hp) (K : Hp → Prop) : Prop :=
  ty sh p1 4 <|
  gI h p1 0 fun v2 =>
  ty sh a0 4 <|
  pI h a0 0 v2 fun h4 =>
  gI h4 p1 1 fun v5 =>
  pI h4 a0 1 v5 fun h6 =>
  gI h6 p1 2 fun v7 =>
  pI h6 a0 2 v7 fun h8 =>
  lo (b_X4_copyFrom_26 sh a0 p1
    (fun  h19 =>
      K h19)) (0 : Int32) h8

def b_X1_copyFrom_58 (sh : Sh) (x0 : Nat) (x1 : Nat) (Xc : Hp → Prop) (rec : Int32 → Hp → Prop) (s : Int32) (h : Hp) : Prop :=
  ty sh x0 1 <|
  gI h x0 6 fun v18 =>
  if v18 ≤ s then
    Xc h
  else
    if (8 : Int32) ≤ s then
      Xc h
    else
      gR h x0 7 fun q19 =>
      ty sh q19 8 <|
      lR sh h q19 s fun q21 =>
      ty sh x1 1 <|
      gR h x1 7 fun q24 =>
      ty sh q24 8 <|
      lR sh h q24 s fun q26 =>
      ty sh q21 0 <|
      f_X0_copyFrom sh q21 q26 h fun h30 =>
      rec (s + (1 : Int32)) h30

def b_X1_copyFrom_95 (sh : Sh) (x0 : Nat) (x1 : Nat) (Xc : Hp → Prop) (rec : Int32 → Hp → Prop) (s : Int32) (h : Hp) : Prop :=
  if (4 : Int32) ≤ s then
    Xc h
  else
    ty sh x0 1 <|
    gR h x0 8 fun q33 =>
    ty sh q33 11 <|
    lR sh h q33 s fun q35 =>
    ty sh x1 1 <|
    gR h x1 8 fun q38 =>
    ty sh q38 11 <|
    lR sh h q38 s fun q40 =>
    ty sh q35 4 <|
    f_X4_copyFrom sh q35 q40 h fun h44 =>
    rec (s + (1 : Int32)) h44

def f_X1_copyFrom (sh : Sh) (a0 : Nat) (p1 : Nat) (h : Hp) (K : Hp → Prop) : Prop :=
  ty sh p1 1 <|
  gI h p1 0 fun v2 =>
  ty sh a0 1 <|
  pI h a0 0 v2 fun h4 =>
  gI h4 p1 1 fun v5 =>
  pI h4 a0 1 v5 fun h6 =>
  gI h6 p1 2 fun v7 =>
  pI h6 a0 2 v7 fun h8 =>
  gI h8 p1 3 fun v9 =>
  pI h8 a0 3 v9 fun h10 =>
  gI h10 p1 4 fun v11 =>
  pI h10 a0 4 v11 fun h12 =>
  gI h12 p1 5 fun v13 =>
  pI h12 a0 5 v13 fun h14 =>
  gI h14 p1 6 fun v15 =>
  pI h14 a0 6 v15 fun h16 =>
  lo (b_X1_copyFrom_58 sh a0 p1
    (fun  h31 =>
      lo (b_X1_copyFrom_95 sh a0 p1
        (fun  h45 =>
          K h45)) (0 : Int32) h31)) (0 : Int32) h16

def b_X1_freshEntryOf_2 (sh : Sh) (x0 : Nat) (x1 : Int32) (Xc : Hp → Prop) (K : Int32 → Hp → Prop) (rec : Int32 → Hp → Prop) (s : Int32) (h : Hp) : Prop :=
  ty sh x0 1 <|
  gI h x0 6 fun v2 =>
  if v2 ≤ s then
    Xc h
  else
    gR h x0 7 fun q3 =>
    ty sh q3 8 <|
    lR sh h q3 s fun q5 =>
    ty sh q5 0 <|
    gI h q5 0 fun v8 =>
    if v8 = x1 then
      gR h x0 7 fun q9 =>
      ty sh q9 8 <|
      lR sh h q9 s fun q11 =>
      ty sh q11 0 <|
      gI h q11 5 fun v14 =>
      if v14 = 0 then
        K s h
      else
        rec (s + (1 : Int32)) h
    else
      rec (s + (1 : Int32)) h

def f_X1_freshEntryOf (sh : Sh) (a0 : Nat) (p1 : Int32) (h : Hp) (K : Int32 → Hp → Prop) : Prop :=
  lo (b_X1_freshEntryOf_2 sh a0 p1
    (fun  h15 =>
      K (-1 : Int32) h15) K) (0 : Int32) h

def b_X1_workWithNumber_2 (sh : Sh) (x0 : Nat) (x1 : Int32) (Xc : Hp → Prop) (K : Option Nat → Hp → Prop) (rec : Int32 → Hp → Prop) (s : Int32) (h : Hp) : Prop :=
  if (4 : Int32) ≤ s then
    Xc h
  else
    ty sh x0 1 <|
    gR h x0 8 fun q2 =>
    ty sh q2 11 <|
    lR sh h q2 s fun q4 =>
    ty sh q4 4 <|
    gI h q4 0 fun v7 =>
    if v7 = x1 then
      gR h x0 8 fun q8 =>
      ty sh q8 11 <|
      lR sh h q8 s fun q10 =>
      K (some q10) h
    else
      rec (s + (1 : Int32)) h

def f_X1_workWithNumber (sh : Sh) (a0 : Nat) (p1 : Int32) (h : Hp) (K : Option Nat → Hp → Prop) : Prop :=
  lo (b_X1_workWithNumber_2 sh a0 p1
    (fun  h12 =>
      K none h12) K) (0 : Int32) h

def f_X1_idleWork (sh : Sh) (a0 : Nat) (h : Hp) (K : Option Nat → Hp → Prop) : Prop :=
  ty sh a0 1 <|
  f_X1_workWithNumber sh a0 (-1 : Int32) h fun r2 h3 =>
  K r2 h3

def b_X1_takeOut_19 (sh : Sh) (x0 : Nat) (x2 : Nat) (Xc : Hp → Prop) (rec : Int32 → Hp → Prop) (s : Int32) (h : Hp) : Prop :=
  ty sh x0 1 <|
  gI h x0 6 fun v9 =>
  if v9 ≤ s then
    Xc h
  else
    gR h x0 7 fun q10 =>
    gR h x0 7 fun q11 =>
    ty sh q11 8 <|
    lR sh h q11 (s + (1 : Int32)) fun q13 =>
    ty sh q10 8 <|
    ty sh q13 0 <|
    sR sh h q10 s q13 fun h17 =>
    rec (s + (1 : Int32)) h17

def f_X1_takeOut (sh : Sh) (a0 : Nat) (p1 : Int32) (h : Hp) (K : Hp → Prop) : Prop :=
  ty sh a0 1 <|
  gR h a0 7 fun q2 =>
  ty sh q2 8 <|
  lR sh h q2 p1 fun q4 =>
  gI h a0 6 fun v6 =>
  pI h a0 6 (v6 - (1 : Int32)) fun h7 =>
  lo (b_X1_takeOut_19 sh a0 q4
    (fun  h19 =>
      gR h19 a0 7 fun q20 =>
      gI h19 a0 6 fun v21 =>
      ty sh q20 8 <|
      ty sh q4 0 <|
      sR sh h19 q20 v21 q4 fun h24 =>
      K h24)) p1 h7

def b_X1_learn_33 (sh : Sh) (x0 : Nat) (x1 : Int32) (x2 : Nat) (x3 : Nat) (x4 : Int32) (Xc : Hp → Prop) (rec : Int32 → Hp → Prop) (s : Int32) (h : Hp) : Prop :=
  if s < 0 then
    Xc h
  else
    ty sh x0 1 <|
    gR h x0 7 fun q10 =>
    ty sh q10 8 <|
    lR sh h q10 s fun q12 =>
    ty sh q12 0 <|
    gI h q12 0 fun v15 =>
    if v15 = x4 then
      gR h x0 7 fun q16 =>
      ty sh q16 8 <|
      lR sh h q16 s fun q18 =>
      ty sh q18 0 <|
      gI h q18 1 fun v21 =>
      ty sh x3 7 <|
      lI sh h x3 x4 fun v23 =>
      if v23 ≤ v21 then
        rec (s + (-1 : Int32)) h
      else
        gR h x0 7 fun q25 =>
        ty sh q25 8 <|
        lR sh h q25 s fun q27 =>
        ty sh q27 0 <|
        pI h q27 5 (1 : Int32) fun h30 =>
        gR h30 x0 7 fun q31 =>
        ty sh q31 8 <|
        lR sh h30 q31 s fun q33 =>
        ty sh q33 0 <|
        gI h30 q33 3 fun v36 =>
        if v36 = 0 then
          f_X1_takeOut sh x0 s h30 fun h38 =>
          rec (s + (-1 : Int32)) h38
        else
          rec (s + (-1 : Int32)) h30
    else
      rec (s + (-1 : Int32)) h

def b_X1_learn_0 (sh : Sh) (x0 : Nat) (x1 : Int32) (x2 : Nat) (x3 : Nat) (Xc : Hp → Prop) (rec : Unit → Hp → Prop) (s : Unit) (h : Hp) : Prop :=
  ty sh x0 1 <|
  gI h x0 0 fun v2 =>
  if x1 ≤ v2 then
    Xc h
  else
    gI h x0 0 fun v3 =>
    if (100 : Int32) ≤ v3 then
      Xc h
    else
      gI h x0 0 fun v4 =>
      ty sh x2 7 <|
      lI sh h x2 v4 fun v6 =>
      gI h x0 6 fun v8 =>
      lo (b_X1_learn_33 sh x0 x1 x2 x3 v6
        (fun  h39 =>
          gI h39 x0 0 fun v40 =>
          pI h39 x0 0 (v40 + (1 : Int32)) fun h41 =>
          rec () h41)) (v8 - (1 : Int32)) h

def f_X1_learn (sh : Sh) (a0 : Nat) (p1 : Int32) (p2 : Nat) (p3 : Nat) (h : Hp) (K : Hp → Prop) : Prop :=
  lo (b_X1_learn_0 sh a0 p1 p2 p3
    (fun  h42 =>
      K h42)) () h

def b_X1_leastVersionAtWork_2 (sh : Sh) (x0 : Nat) (x1 : Int32) (Xc : Hp → Prop) (K : Int32 → Hp → Prop) (rec : Int32 → Hp → Prop) (s : Int32) (h : Hp) : Prop :=
  ty sh x0 1 <|
  gI h x0 6 fun v2 =>
  if v2 ≤ s then
    Xc h
  else
    gR h x0 7 fun q3 =>
    ty sh q3 8 <|
    lR sh h q3 s fun q5 =>
    ty sh q5 0 <|
    gI h q5 0 fun v8 =>
    if v8 = x1 then
      gR h x0 7 fun q9 =>
      ty sh q9 8 <|
      lR sh h q9 s fun q11 =>
      ty sh q11 0 <|
      gI h q11 3 fun v14 =>
      if v14 ≤ 0 then
        rec (s + (1 : Int32)) h
      else
        gR h x0 7 fun q15 =>
        ty sh q15 8 <|
        lR sh h q15 s fun q17 =>
        ty sh q17 0 <|
        gI h q17 1 fun v20 =>
        K v20 h
    else
      rec (s + (1 : Int32)) h

def f_X1_leastVersionAtWork (sh : Sh) (a0 : Nat) (p1 : Int32) (h : Hp) (K : Int32 → Hp → Prop) : Prop :=
  lo (b_X1_leastVersionAtWork_2 sh a0 p1
    (fun  h21 =>
      K (-1 : Int32) h21) K) (0 : Int32) h

def b_X1_longestUnused_4 (sh : Sh) (x0 : Nat) (Xc : Int32 → Hp → Prop) (rec : Int32 × Int32 → Hp → Prop) (s : Int32 × Int32) (h : Hp) : Prop :=
  ty sh x0 1 <|
  gI h x0 6 fun v2 =>
  if v2 ≤ s.2 then
    Xc s.1 h
  else
    gR h x0 7 fun q3 =>
    ty sh q3 8 <|
    lR sh h q3 s.2 fun q5 =>
    ty sh q5 0 <|
    gI h q5 3 fun v8 =>
    if v8 = 0 then
      if s.1 < 0 then
        rec (s.2, s.2 + (1 : Int32)) h
      else
        gR h x0 7 fun q9 =>
        ty sh q9 8 <|
        lR sh h q9 s.2 fun q11 =>
        ty sh q11 0 <|
        gI h q11 4 fun v14 =>
        gR h x0 7 fun q15 =>
        ty sh q15 8 <|
        lR sh h q15 s.1 fun q17 =>
        ty sh q17 0 <|
        gI h q17 4 fun v20 =>
        if v20 ≤ v14 then
          rec (s.1, s.2 + (1 : Int32)) h
        else
          rec (s.2, s.2 + (1 : Int32)) h
    else
      rec (s.1, s.2 + (1 : Int32)) h

def f_X1_longestUnused (sh : Sh) (a0 : Nat) (h : Hp) (K : Int32 → Hp → Prop) : Prop :=
  lo (b_X1_longestUnused_4 sh a0
    (fun y21 h22 =>
      K y21 h22)) ((-1 : Int32), (0 : Int32)) h

def f_X5_contains (sh : Sh) (p0 : Int32) (p1 : Int32) (h : Hp) (K : Int32 → Hp → Prop) : Prop :=
  if ((p0 >>> (p1 &&& 31)) &&& (1 : Int32)) = (1 : Int32) then
    K (1 : Int32) h
  else
    K (0 : Int32) h

def b_X1_lowestBehind_5 (sh : Sh) (x0 : Nat) (x1 : Int32) (x2 : Int32) (Xc : Int32 → Hp → Prop) (rec : Int32 × Int32 → Hp → Prop) (s : Int32 × Int32) (h : Hp) : Prop :=
  if (4 : Int32) ≤ s.2 then
    Xc s.1 h
  else
    ty sh x0 1 <|
    gR h x0 8 fun q2 =>
    ty sh q2 11 <|
    lR sh h q2 s.2 fun q4 =>
    ty sh q4 4 <|
    gI h q4 0 fun v7 =>
    if v7 < 0 then
      rec (s.1, s.2 + (1 : Int32)) h
    else
      gI h q4 1 fun v8 =>
      f_X5_contains sh v8 x1 h fun r9 h10 =>
      if r9 = 0 then
        rec (s.1, s.2 + (1 : Int32)) h10
      else
        gR h10 q4 3 fun q11 =>
        ty sh q11 7 <|
        lI sh h10 q11 x1 fun v13 =>
        if x2 ≤ v13 then
          rec (s.1, s.2 + (1 : Int32)) h10
        else
          if s.1 < 0 then
            gI h10 q4 0 fun v15 =>
            rec (v15, s.2 + (1 : Int32)) h10
          else
            gI h10 q4 0 fun v16 =>
            if s.1 ≤ v16 then
              rec (s.1, s.2 + (1 : Int32)) h10
            else
              gI h10 q4 0 fun v17 =>
              rec (v17, s.2 + (1 : Int32)) h10

def f_X1_lowestBehind (sh : Sh) (a0 : Nat) (p1 : Int32) (p2 : Int32) (h : Hp) (K : Int32 → Hp → Prop) : Prop :=
  lo (b_X1_lowestBehind_5 sh a0 p1 p2
    (fun y18 h19 =>
      K y18 h19)) ((-1 : Int32), (0 : Int32)) h

def b_X1_putIn_17 (sh : Sh) (x0 : Nat) (x1 : Int32) (x2 : Int32) (x3 : Int32) (x4 : Nat) (Xc : Int32 → Hp → Prop) (rec : Int32 → Hp → Prop) (s : Int32) (h : Hp) : Prop :=
  if s ≤ 0 then
    Xc s h
  else
    ty sh x0 1 <|
    gR h x0 7 fun q9 =>
    ty sh q9 8 <|
    lR sh h q9 (s - (1 : Int32)) fun q11 =>
    ty sh q11 0 <|
    f_X0_comesBehind sh q11 x1 x2 h fun r14 h15 =>
    if r14 = 0 then
      Xc s h15
    else
      gR h15 x0 7 fun q16 =>
      gR h15 x0 7 fun q17 =>
      ty sh q17 8 <|
      lR sh h15 q17 (s - (1 : Int32)) fun q19 =>
      ty sh q16 8 <|
      ty sh q19 0 <|
      sR sh h15 q16 s q19 fun h23 =>
      rec (s + (-1 : Int32)) h23

def f_X1_putIn (sh : Sh) (a0 : Nat) (p1 : Int32) (p2 : Int32) (p3 : Int32) (h : Hp) (K : Int32 → Hp → Prop) : Prop :=
  ty sh a0 1 <|
  gR h a0 7 fun q2 =>
  gI h a0 6 fun v3 =>
  ty sh q2 8 <|
  lR sh h q2 v3 fun q5 =>
  gI h a0 6 fun v7 =>
  lo (b_X1_putIn_17 sh a0 p1 p2 p3 q5
    (fun y25 h26 =>
      gR h26 a0 7 fun q27 =>
      ty sh q27 8 <|
      ty sh q5 0 <|
      sR sh h26 q27 y25 q5 fun h30 =>
      pI h30 q5 0 p1 fun h32 =>
      pI h32 q5 1 p2 fun h33 =>
      pI h33 q5 2 p3 fun h34 =>
      pI h34 q5 3 (0 : Int32) fun h35 =>
      pI h35 q5 5 (0 : Int32) fun h36 =>
      gI h36 a0 6 fun v37 =>
      pI h36 a0 6 (v37 + (1 : Int32)) fun h38 =>
      K y25 h38)) v7 h

def f_X4_worksBy (sh : Sh) (a0 : Nat) (p1 : Nat) (h : Hp) (K : Int32 → Hp → Prop) : Prop :=
  ty sh a0 4 <|
  gI h a0 1 fun v2 =>
  ty sh p1 0 <|
  gI h p1 0 fun v4 =>
  f_X5_contains sh v2 v4 h fun r5 h6 =>
  if r5 = 0 then
    K (0 : Int32) h6
  else
    gR h6 a0 3 fun q7 =>
    gI h6 p1 0 fun v8 =>
    ty sh q7 7 <|
    lI sh h6 q7 v8 fun v10 =>
    gI h6 p1 1 fun v12 =>
    if v10 = v12 then
      K (1 : Int32) h6
    else
      K (0 : Int32) h6

def b_X1_shrinkTo_5 (sh : Sh) (x0 : Nat) (x1 : Int32) (Xc : Hp → Prop) (K : Hp → Prop) (rec : Int32 → Hp → Prop) (s : Int32) (h : Hp) : Prop :=
  if s ≤ x1 then
    Xc h
  else
    ty sh x0 1 <|
    f_X1_longestUnused sh x0 h fun r4 h5 =>
    if 0 ≤ r4 then
      f_X1_takeOut sh x0 r4 h5 fun h7 =>
      gI h7 x0 3 fun v8 =>
      pI h7 x0 3 (v8 + (1 : Int32)) fun h9 =>
      rec (s + (-1 : Int32)) h9
    else
      K h5

def f_X1_shrinkTo (sh : Sh) (a0 : Nat) (p1 : Int32) (h : Hp) (K : Hp → Prop) : Prop :=
  ty sh a0 1 <|
  gI h a0 6 fun v2 =>
  lo (b_X1_shrinkTo_5 sh a0 p1
    (fun  h10 =>
      K h10) K) v2 h

def b_X1_release_13 (sh : Sh) (x0 : Nat) (x1 : Nat) (x2 : Int32) (x3 : Int32) (Xc : Hp → Prop) (rec : Int32 → Hp → Prop) (s : Int32) (h : Hp) : Prop :=
  if s < 0 then
    Xc h
  else
    ty sh x0 1 <|
    gR h x0 7 fun q5 =>
    ty sh q5 8 <|
    lR sh h q5 s fun q7 =>
    ty sh x1 4 <|
    f_X4_worksBy sh x1 q7 h fun r10 h11 =>
    if r10 = 0 then
      rec (s + (-1 : Int32)) h11
    else
      ty sh q7 0 <|
      gI h11 q7 3 fun v13 =>
      pI h11 q7 3 (v13 - (1 : Int32)) fun h14 =>
      gI h14 q7 5 fun v15 =>
      if v15 = 0 then
        rec (s + (-1 : Int32)) h14
      else
        gI h14 q7 3 fun v16 =>
        if v16 = 0 then
          f_X1_takeOut sh x0 s h14 fun h18 =>
          rec (s + (-1 : Int32)) h18
        else
          rec (s + (-1 : Int32)) h14

def f_X1_release (sh : Sh) (a0 : Nat) (p1 : Nat) (p2 : Int32) (h : Hp) (K : Int32 → Hp → Prop) : Prop :=
  ty sh a0 1 <|
  gI h a0 6 fun v2 =>
  gI h a0 6 fun v3 =>
  lo (b_X1_release_13 sh a0 p1 p2 v2
    (fun  h19 =>
      ty sh p1 4 <|
      pI h19 p1 0 (-1 : Int32) fun h21 =>
      f_X1_shrinkTo sh a0 p2 h21 fun h23 =>
      gI h23 a0 6 fun v24 =>
      K (v2 - v24) h23)) (v3 - (1 : Int32)) h

def b_X1_staleInHand_4 (sh : Sh) (x0 : Nat) (Xc : Int32 → Hp → Prop) (rec : Int32 × Int32 → Hp → Prop) (s : Int32 × Int32) (h : Hp) : Prop :=
  ty sh x0 1 <|
  gI h x0 6 fun v2 =>
  if v2 ≤ s.2 then
    Xc s.1 h
  else
    gR h x0 7 fun q3 =>
    ty sh q3 8 <|
    lR sh h q3 s.2 fun q5 =>
    ty sh q5 0 <|
    gI h q5 5 fun v8 =>
    if v8 = 0 then
      rec (s.1, s.2 + (1 : Int32)) h
    else
      rec (s.1 + (1 : Int32), s.2 + (1 : Int32)) h

def f_X1_staleInHand (sh : Sh) (a0 : Nat) (h : Hp) (K : Int32 → Hp → Prop) : Prop :=
  lo (b_X1_staleInHand_4 sh a0
    (fun y9 h10 =>
      K y9 h10)) ((0 : Int32), (0 : Int32)) h

def b_X1_statementsAtWork_4 (sh : Sh) (x0 : Nat) (Xc : Int32 → Hp → Prop) (rec : Int32 × Int32 → Hp → Prop) (s : Int32 × Int32) (h : Hp) : Prop :=
  if (4 : Int32) ≤ s.2 then
    Xc s.1 h
  else
    ty sh x0 1 <|
    gR h x0 8 fun q2 =>
    ty sh q2 11 <|
    lR sh h q2 s.2 fun q4 =>
    ty sh q4 4 <|
    gI h q4 0 fun v7 =>
    if v7 < 0 then
      rec (s.1, s.2 + (1 : Int32)) h
    else
      rec (s.1 + (1 : Int32), s.2 + (1 : Int32)) h

def f_X1_statementsAtWork (sh : Sh) (a0 : Nat) (h : Hp) (K : Int32 → Hp → Prop) : Prop :=
  lo (b_X1_statementsAtWork_4 sh a0
    (fun y8 h9 =>
      K y8 h9)) ((0 : Int32), (0 : Int32)) h

def f_X1_use (sh : Sh) (a0 : Nat) (p1 : Nat) (p2 : Int32) (p3 : Int32) (p4 : Int32) (p5 : Int32) (h : Hp) (K : Int32 → Hp → Prop) : Prop :=
  ty sh a0 1 <|
  f_X1_freshEntryOf sh a0 p2 h fun r2 h3 =>
  if r2 < 0 then
    f_X1_shrinkTo sh a0 (p5 - (1 : Int32)) h3 fun h5 =>
    gI h5 a0 6 fun v6 =>
    if p5 ≤ v6 then
      K (0 : Int32) h5
    else
      gI h5 a0 6 fun v7 =>
      if v7 < (8 : Int32) then
        f_X1_putIn sh a0 p2 p3 p4 h5 fun r8 h9 =>
        gI h9 a0 2 fun v10 =>
        pI h9 a0 2 (v10 + (1 : Int32)) fun h11 =>
        gR h11 a0 7 fun q12 =>
        ty sh q12 8 <|
        lR sh h11 q12 r8 fun q14 =>
        ty sh p1 4 <|
        gI h11 p1 0 fun v17 =>
        ty sh q14 0 <|
        pI h11 q14 4 v17 fun h19 =>
        gI h19 q14 3 fun v20 =>
        pI h19 q14 3 (v20 + (1 : Int32)) fun h21 =>
        gR h21 p1 3 fun q22 =>
        gI h21 q14 1 fun v23 =>
        ty sh q22 7 <|
        sI sh h21 q22 p2 v23 fun h25 =>
        K (1 : Int32) h25
      else
        K (0 : Int32) h5
  else
    gI h3 a0 1 fun v27 =>
    pI h3 a0 1 (v27 + (1 : Int32)) fun h28 =>
    gR h28 a0 7 fun q29 =>
    ty sh q29 8 <|
    lR sh h28 q29 r2 fun q31 =>
    ty sh p1 4 <|
    gI h28 p1 0 fun v34 =>
    ty sh q31 0 <|
    pI h28 q31 4 v34 fun h36 =>
    gI h36 q31 3 fun v37 =>
    pI h36 q31 3 (v37 + (1 : Int32)) fun h38 =>
    gR h38 p1 3 fun q39 =>
    gI h38 q31 1 fun v40 =>
    ty sh q39 7 <|
    sI sh h38 q39 p2 v40 fun h42 =>
    K (1 : Int32) h42

def f_X1_workOf (sh : Sh) (a0 : Nat) (p1 : Int32) (h : Hp) (K : Option Nat → Hp → Prop) : Prop :=
  if 0 ≤ p1 then
    ty sh a0 1 <|
    f_X1_workWithNumber sh a0 p1 h fun r2 h3 =>
    K r2 h3
  else
    K none h

def b_X2_adjust_55 (sh : Sh) (x0 : Nat) (x3 : Int32) (Xc : Hp → Prop) (rec : Int32 → Hp → Prop) (s : Int32) (h : Hp) : Prop :=
  if (4 : Int32) ≤ s then
    Xc h
  else
    ty sh x0 2 <|
    gR h x0 11 fun q5 =>
    ty sh q5 9 <|
    lR sh h q5 s fun q7 =>
    gI h x0 2 fun v9 =>
    ty sh q7 1 <|
    f_X1_shrinkTo sh q7 v9 h fun h12 =>
    rec (s + (1 : Int32)) h12

def f_X2_adjust (sh : Sh) (a0 : Nat) (p1 : Int32) (p2 : Int32) (h : Hp) (K : Int32 → Hp → Prop) : Prop :=
  if p1 = 0 then
    if p2 < 0 then
      if p1 = (1 : Int32) then
        if p2 < (1 : Int32) then
          K (-1 : Int32) h
        else
          if (8 : Int32) < p2 then
            K (-1 : Int32) h
          else
            ty sh a0 2 <|
            gI h a0 2 fun v15 =>
            pI h a0 2 p2 fun h16 =>
            lo (b_X2_adjust_55 sh a0 v15
              (fun  h17 =>
                K v15 h17)) (0 : Int32) h16
      else
        K (-1 : Int32) h
    else
      if (20 : Int32) < p2 then
        if p1 = (1 : Int32) then
          if p2 < (1 : Int32) then
            K (-1 : Int32) h
          else
            if (8 : Int32) < p2 then
              K (-1 : Int32) h
            else
              ty sh a0 2 <|
              gI h a0 2 fun v19 =>
              pI h a0 2 p2 fun h20 =>
              lo (b_X2_adjust_55 sh a0 v19
                (fun  h21 =>
                  K v19 h21)) (0 : Int32) h20
        else
          K (-1 : Int32) h
      else
        ty sh a0 2 <|
        gI h a0 1 fun v23 =>
        pI h a0 1 p2 fun h24 =>
        K v23 h24
  else
    if p1 = (1 : Int32) then
      if p2 < (1 : Int32) then
        K (-1 : Int32) h
      else
        if (8 : Int32) < p2 then
          K (-1 : Int32) h
        else
          ty sh a0 2 <|
          gI h a0 2 fun v2 =>
          pI h a0 2 p2 fun h3 =>
          lo (b_X2_adjust_55 sh a0 v2
            (fun  h13 =>
              K v2 h13)) (0 : Int32) h3
    else
      K (-1 : Int32) h

def b_X2_arrive_2 (sh : Sh) (x0 : Nat) (x1 : Int32) (Xc : Hp → Prop) (rec : Int32 → Hp → Prop) (s : Int32) (h : Hp) : Prop :=
  if (4 : Int32) ≤ s then
    Xc h
  else
    ty sh x0 2 <|
    gR h x0 11 fun q2 =>
    ty sh q2 9 <|
    lR sh h q2 s fun q4 =>
    ty sh q4 1 <|
    gI h q4 0 fun v7 =>
    if v7 ≤ x1 then
      gR h x0 11 fun q8 =>
      ty sh q8 9 <|
      lR sh h q8 s fun q10 =>
      gR h x0 6 fun q12 =>
      gR h x0 3 fun q13 =>
      ty sh q10 1 <|
      f_X1_learn sh q10 (x1 + (1 : Int32)) q12 q13 h fun h16 =>
      rec (s + (1 : Int32)) h16
    else
      gR h x0 11 fun q17 =>
      ty sh q17 9 <|
      lR sh h q17 s fun q19 =>
      ty sh q19 1 <|
      gI h q19 5 fun v22 =>
      pI h q19 5 (v22 + (1 : Int32)) fun h23 =>
      rec (s + (1 : Int32)) h23

def f_X2_arrive (sh : Sh) (a0 : Nat) (p1 : Int32) (h : Hp) (K : Hp → Prop) : Prop :=
  lo (b_X2_arrive_2 sh a0 p1
    (fun  h24 =>
      K h24)) (0 : Int32) h

def b_X2_begin_117 (sh : Sh) (x0 : Nat) (x1 : Int32) (x2 : Int32) (x3 : Nat) (x4 : Nat) (Xc : Hp → Prop) (K : Int32 → Hp → Prop) (rec : Int32 → Hp → Prop) (s : Int32) (h : Hp) : Prop :=
  if (6 : Int32) ≤ s then
    Xc h
  else
    f_X5_contains sh x2 s h fun r19 h20 =>
    if r19 = 0 then
      rec (s + (1 : Int32)) h20
    else
      ty sh x0 2 <|
      gR h20 x0 3 fun q22 =>
      ty sh q22 7 <|
      lI sh h20 q22 s fun v24 =>
      gR h20 x0 4 fun q26 =>
      ty sh q26 7 <|
      lI sh h20 q26 s fun v28 =>
      gI h20 x0 2 fun v30 =>
      ty sh x3 1 <|
      f_X1_use sh x3 x4 s v24 v28 v30 h20 fun r32 h33 =>
      if r32 = 0 then
        K (-3 : Int32) h33
      else
        rec (s + (1 : Int32)) h33

def f_X2_begin (sh : Sh) (a0 : Nat) (p1 : Int32) (p2 : Int32) (h : Hp) (K : Int32 → Hp → Prop) : Prop :=
  if p1 < 0 then
    K (-1 : Int32) h
  else
    if (4 : Int32) ≤ p1 then
      K (-1 : Int32) h
    else
      if p2 < (1 : Int32) then
        K (-1 : Int32) h
      else
        if p2 ≤ (63 : Int32) then
          ty sh a0 2 <|
          gR h a0 11 fun q2 =>
          ty sh q2 9 <|
          lR sh h q2 p1 fun q4 =>
          ty sh q4 1 <|
          f_X1_idleWork sh q4 h fun r7 h8 =>
          nn r7
            (K (-3 : Int32) h8)
          fun q9 =>
            gI h8 a0 8 fun v10 =>
            if v10 < (999 : Int32) then
              gI h8 q4 0 fun v11 =>
              gI h8 a0 5 fun v12 =>
              if v12 ≤ v11 then
                gI h8 a0 8 fun v13 =>
                ty sh q9 4 <|
                pI h8 q9 0 v13 fun h15 =>
                pI h15 q9 1 p2 fun h16 =>
                gI h16 a0 0 fun v17 =>
                pI h16 q9 2 v17 fun h18 =>
                lo (b_X2_begin_117 sh a0 p1 p2 q4 q9
                  (fun  h34 =>
                    gR h34 a0 9 fun q35 =>
                    gI h34 a0 8 fun v36 =>
                    ty sh q35 7 <|
                    sI sh h34 q35 (v36 - v36 / (12 : Int32) * (12 : Int32)) p1 fun h38 =>
                    gR h38 a0 10 fun q40 =>
                    gI h38 a0 8 fun v41 =>
                    ty sh q40 7 <|
                    sI sh h38 q40 (v41 - v41 / (12 : Int32) * (12 : Int32)) p2 fun h43 =>
                    gI h43 a0 8 fun v45 =>
                    pI h43 a0 8 (v45 + (1 : Int32)) fun h46 =>
                    gI h46 q9 0 fun v47 =>
                    K v47 h46) K) (0 : Int32) h18
              else
                gI h8 a0 5 fun v48 =>
                gR h8 a0 6 fun q49 =>
                gR h8 a0 3 fun q50 =>
                f_X1_learn sh q4 v48 q49 q50 h8 fun h52 =>
                gI h52 q4 4 fun v53 =>
                pI h52 q4 4 (v53 + (1 : Int32)) fun h54 =>
                gI h54 a0 8 fun v55 =>
                ty sh q9 4 <|
                pI h54 q9 0 v55 fun h57 =>
                pI h57 q9 1 p2 fun h58 =>
                gI h58 a0 0 fun v59 =>
                pI h58 q9 2 v59 fun h60 =>
                lo (b_X2_begin_117 sh a0 p1 p2 q4 q9
                  (fun  h61 =>
                    gR h61 a0 9 fun q62 =>
                    gI h61 a0 8 fun v63 =>
                    ty sh q62 7 <|
                    sI sh h61 q62 (v63 - v63 / (12 : Int32) * (12 : Int32)) p1 fun h65 =>
                    gR h65 a0 10 fun q67 =>
                    gI h65 a0 8 fun v68 =>
                    ty sh q67 7 <|
                    sI sh h65 q67 (v68 - v68 / (12 : Int32) * (12 : Int32)) p2 fun h70 =>
                    gI h70 a0 8 fun v72 =>
                    pI h70 a0 8 (v72 + (1 : Int32)) fun h73 =>
                    gI h73 q9 0 fun v74 =>
                    K v74 h73) K) (0 : Int32) h60
            else
              K (-3 : Int32) h8
        else
          K (-1 : Int32) h

def b_X2_leastVersionAtWork_5 (sh : Sh) (x0 : Nat) (x1 : Int32) (Xc : Int32 → Hp → Prop) (rec : Int32 × Int32 → Hp → Prop) (s : Int32 × Int32) (h : Hp) : Prop :=
  if (4 : Int32) ≤ s.2 then
    Xc s.1 h
  else
    ty sh x0 2 <|
    gR h x0 11 fun q2 =>
    ty sh q2 9 <|
    lR sh h q2 s.2 fun q4 =>
    ty sh q4 1 <|
    f_X1_leastVersionAtWork sh q4 x1 h fun r7 h8 =>
    if r7 < 0 then
      rec (s.1, s.2 + (1 : Int32)) h8
    else
      if s.1 < 0 then
        rec (r7, s.2 + (1 : Int32)) h8
      else
        if s.1 ≤ r7 then
          rec (s.1, s.2 + (1 : Int32)) h8
        else
          rec (r7, s.2 + (1 : Int32)) h8

def f_X2_leastVersionAtWork (sh : Sh) (a0 : Nat) (p1 : Int32) (h : Hp) (K : Int32 → Hp → Prop) : Prop :=
  lo (b_X2_leastVersionAtWork_5 sh a0 p1
    (fun y9 h10 =>
      K y9 h10)) ((-4 : Int32), (0 : Int32)) h

def f_X2_canChange (sh : Sh) (a0 : Nat) (p1 : Int32) (h : Hp) (K : Int32 → Hp → Prop) : Prop :=
  ty sh a0 2 <|
  f_X2_leastVersionAtWork sh a0 p1 h fun r2 h3 =>
  if r2 < 0 then
    K (1 : Int32) h3
  else
    gR h3 a0 3 fun q4 =>
    ty sh q4 7 <|
    lI sh h3 q4 p1 fun v6 =>
    if r2 < v6 then
      K (0 : Int32) h3
    else
      K (1 : Int32) h3

def f_X2_changeTable (sh : Sh) (a0 : Nat) (p1 : Int32) (p2 : Int32) (h : Hp) (K : Int32 → Hp → Prop) : Prop :=
  if p1 < 0 then
    K (-1 : Int32) h
  else
    if (6 : Int32) ≤ p1 then
      K (-1 : Int32) h
    else
      if p2 < 0 then
        K (-1 : Int32) h
      else
        if p2 < (8 : Int32) then
          ty sh a0 2 <|
          gR h a0 4 fun q2 =>
          ty sh q2 7 <|
          lI sh h q2 p1 fun v4 =>
          if (v4 ^^^ ((1 : Int32) <<< (p2 &&& 31))) = 0 then
            K (-2 : Int32) h
          else
            f_X2_canChange sh a0 p1 h fun r6 h7 =>
            if r6 = 0 then
              K (-2 : Int32) h7
            else
              gI h7 a0 5 fun v8 =>
              if v8 < (100 : Int32) then
                gR h7 a0 4 fun q9 =>
                ty sh q9 7 <|
                sI sh h7 q9 p1 (v4 ^^^ ((1 : Int32) <<< (p2 &&& 31))) fun h11 =>
                gR h11 a0 3 fun q13 =>
                ty sh q13 7 <|
                lI sh h11 q13 p1 fun v15 =>
                sI sh h11 q13 p1 (v15 + (1 : Int32)) fun h17 =>
                gR h17 a0 6 fun q19 =>
                gI h17 a0 5 fun v20 =>
                ty sh q19 7 <|
                sI sh h17 q19 v20 p1 fun h22 =>
                gR h22 a0 7 fun q24 =>
                gI h22 a0 5 fun v25 =>
                gI h22 a0 0 fun v26 =>
                gI h22 a0 1 fun v27 =>
                ty sh q24 7 <|
                sI sh h22 q24 v25 (v26 + v27) fun h29 =>
                gI h29 a0 5 fun v31 =>
                pI h29 a0 5 (v31 + (1 : Int32)) fun h32 =>
                gI h32 a0 1 fun v33 =>
                if v33 = 0 then
                  gI h32 a0 5 fun v38 =>
                  f_X2_arrive sh a0 (v38 - (1 : Int32)) h32 fun h40 =>
                  gR h40 a0 3 fun q41 =>
                  ty sh q41 7 <|
                  lI sh h40 q41 p1 fun v43 =>
                  K v43 h40
                else
                  gR h32 a0 3 fun q34 =>
                  ty sh q34 7 <|
                  lI sh h32 q34 p1 fun v36 =>
                  K v36 h32
              else
                K (-3 : Int32) h7
        else
          K (-1 : Int32) h

def b_X2_clear_27 (sh : Sh) (x0 : Nat) (Xc : Hp → Prop) (rec : Int32 → Hp → Prop) (s : Int32) (h : Hp) : Prop :=
  if (6 : Int32) ≤ s then
    Xc h
  else
    ty sh x0 2 <|
    gR h x0 3 fun q8 =>
    ty sh q8 7 <|
    sI sh h q8 s (0 : Int32) fun h10 =>
    gR h10 x0 4 fun q12 =>
    ty sh q12 7 <|
    sI sh h10 q12 s (1 : Int32) fun h14 =>
    rec (s + (1 : Int32)) h14

def b_X2_clear_55 (sh : Sh) (x0 : Nat) (Xc : Hp → Prop) (rec : Int32 → Hp → Prop) (s : Int32) (h : Hp) : Prop :=
  if (4 : Int32) ≤ s then
    Xc h
  else
    ty sh x0 2 <|
    gR h x0 11 fun q18 =>
    ty sh q18 9 <|
    lR sh h q18 s fun q20 =>
    ty sh q20 1 <|
    f_X1_clear sh q20 h fun h24 =>
    rec (s + (1 : Int32)) h24

def f_X2_clear (sh : Sh) (a0 : Nat) (h : Hp) (K : Hp → Prop) : Prop :=
  ty sh a0 2 <|
  pI h a0 0 (0 : Int32) fun h2 =>
  pI h2 a0 1 (3 : Int32) fun h3 =>
  pI h3 a0 2 (3 : Int32) fun h4 =>
  pI h4 a0 5 (0 : Int32) fun h5 =>
  pI h5 a0 8 (0 : Int32) fun h6 =>
  lo (b_X2_clear_27 sh a0
    (fun  h16 =>
      lo (b_X2_clear_55 sh a0
        (fun  h25 =>
          K h25)) (0 : Int32) h16)) (0 : Int32) h6

def b_X2_copyFrom_42 (sh : Sh) (x0 : Nat) (x1 : Nat) (Xc : Hp → Prop) (rec : Int32 → Hp → Prop) (s : Int32) (h : Hp) : Prop :=
  if (6 : Int32) ≤ s then
    Xc h
  else
    ty sh x0 2 <|
    gR h x0 3 fun q14 =>
    ty sh x1 2 <|
    gR h x1 3 fun q16 =>
    ty sh q16 7 <|
    lI sh h q16 s fun v18 =>
    ty sh q14 7 <|
    sI sh h q14 s v18 fun h21 =>
    gR h21 x0 4 fun q23 =>
    gR h21 x1 4 fun q24 =>
    ty sh q24 7 <|
    lI sh h21 q24 s fun v26 =>
    ty sh q23 7 <|
    sI sh h21 q23 s v26 fun h29 =>
    rec (s + (1 : Int32)) h29

def b_X2_copyFrom_80 (sh : Sh) (x0 : Nat) (x1 : Nat) (Xc : Hp → Prop) (rec : Int32 → Hp → Prop) (s : Int32) (h : Hp) : Prop :=
  ty sh x0 2 <|
  gI h x0 5 fun v33 =>
  if v33 ≤ s then
    Xc h
  else
    if (100 : Int32) ≤ s then
      Xc h
    else
      gR h x0 6 fun q34 =>
      ty sh x1 2 <|
      gR h x1 6 fun q36 =>
      ty sh q36 7 <|
      lI sh h q36 s fun v38 =>
      ty sh q34 7 <|
      sI sh h q34 s v38 fun h41 =>
      gR h41 x0 7 fun q43 =>
      gR h41 x1 7 fun q44 =>
      ty sh q44 7 <|
      lI sh h41 q44 s fun v46 =>
      ty sh q43 7 <|
      sI sh h41 q43 s v46 fun h49 =>
      rec (s + (1 : Int32)) h49

def b_X2_copyFrom_126 (sh : Sh) (x0 : Nat) (x1 : Nat) (Xc : Hp → Prop) (rec : Int32 → Hp → Prop) (s : Int32) (h : Hp) : Prop :=
  if (12 : Int32) ≤ s then
    Xc h
  else
    ty sh x0 2 <|
    gR h x0 9 fun q53 =>
    ty sh x1 2 <|
    gR h x1 9 fun q55 =>
    ty sh q55 7 <|
    lI sh h q55 s fun v57 =>
    ty sh q53 7 <|
    sI sh h q53 s v57 fun h60 =>
    gR h60 x0 10 fun q62 =>
    gR h60 x1 10 fun q63 =>
    ty sh q63 7 <|
    lI sh h60 q63 s fun v65 =>
    ty sh q62 7 <|
    sI sh h60 q62 s v65 fun h68 =>
    rec (s + (1 : Int32)) h68

def b_X2_copyFrom_164 (sh : Sh) (x0 : Nat) (x1 : Nat) (Xc : Hp → Prop) (rec : Int32 → Hp → Prop) (s : Int32) (h : Hp) : Prop :=
  if (4 : Int32) ≤ s then
    Xc h
  else
    ty sh x0 2 <|
    gR h x0 11 fun q72 =>
    ty sh q72 9 <|
    lR sh h q72 s fun q74 =>
    ty sh x1 2 <|
    gR h x1 11 fun q77 =>
    ty sh q77 9 <|
    lR sh h q77 s fun q79 =>
    ty sh q74 1 <|
    f_X1_copyFrom sh q74 q79 h fun h83 =>
    rec (s + (1 : Int32)) h83

def f_X2_copyFrom (sh : Sh) (a0 : Nat) (p1 : Nat) (h : Hp) (K : Hp → Prop) : Prop :=
  ty sh p1 2 <|
  gI h p1 0 fun v2 =>
  ty sh a0 2 <|
  pI h a0 0 v2 fun h4 =>
  gI h4 p1 1 fun v5 =>
  pI h4 a0 1 v5 fun h6 =>
  gI h6 p1 2 fun v7 =>
  pI h6 a0 2 v7 fun h8 =>
  gI h8 p1 5 fun v9 =>
  pI h8 a0 5 v9 fun h10 =>
  gI h10 p1 8 fun v11 =>
  pI h10 a0 8 v11 fun h12 =>
  lo (b_X2_copyFrom_42 sh a0 p1
    (fun  h31 =>
      lo (b_X2_copyFrom_80 sh a0 p1
        (fun  h51 =>
          lo (b_X2_copyFrom_126 sh a0 p1
            (fun  h70 =>
              lo (b_X2_copyFrom_164 sh a0 p1
                (fun  h84 =>
                  K h84)) (0 : Int32) h70)) (0 : Int32) h51)) (0 : Int32) h31)) (0 : Int32) h12

def b_X2_finish_8 (sh : Sh) (x0 : Nat) (x1 : Int32) (Xc : Hp → Prop) (K : Int32 → Hp → Prop) (rec : Int32 → Hp → Prop) (s : Int32) (h : Hp) : Prop :=
  if (4 : Int32) ≤ s then
    Xc h
  else
    ty sh x0 2 <|
    gR h x0 11 fun q2 =>
    ty sh q2 9 <|
    lR sh h q2 s fun q4 =>
    ty sh q4 1 <|
    f_X1_workOf sh q4 x1 h fun r7 h8 =>
    nn r7
      (rec (s + (1 : Int32)) h8)
    fun q9 =>
      gR h8 x0 11 fun q10 =>
      ty sh q10 9 <|
      lR sh h8 q10 s fun q12 =>
      gI h8 x0 2 fun v14 =>
      ty sh q12 1 <|
      f_X1_release sh q12 q9 v14 h8 fun r16 h17 =>
      K r16 h17

def f_X2_finish (sh : Sh) (a0 : Nat) (p1 : Int32) (h : Hp) (K : Int32 → Hp → Prop) : Prop :=
  if 0 ≤ p1 then
    lo (b_X2_finish_8 sh a0 p1
      (fun  h18 =>
        K (-2 : Int32) h18) K) (0 : Int32) h
  else
    K (-1 : Int32) h

def b_X2_handsWith_4 (sh : Sh) (x0 : Nat) (x1 : Int32) (Xc : Int32 → Hp → Prop) (rec : Int32 × Int32 → Hp → Prop) (s : Int32 × Int32) (h : Hp) : Prop :=
  if (4 : Int32) ≤ s.2 then
    Xc s.1 h
  else
    ty sh x0 2 <|
    gR h x0 11 fun q2 =>
    ty sh q2 9 <|
    lR sh h q2 s.2 fun q4 =>
    ty sh q4 1 <|
    f_X1_freshEntryOf sh q4 x1 h fun r7 h8 =>
    if r7 < 0 then
      rec (s.1, s.2 + (1 : Int32)) h8
    else
      rec (s.1 + (1 : Int32), s.2 + (1 : Int32)) h8

def f_X2_handsWith (sh : Sh) (a0 : Nat) (p1 : Int32) (h : Hp) (K : Int32 → Hp → Prop) : Prop :=
  lo (b_X2_handsWith_4 sh a0 p1
    (fun y9 h10 =>
      K y9 h10)) ((0 : Int32), (0 : Int32)) h

def b_X2_loadsOfAll_4 (sh : Sh) (x0 : Nat) (Xc : Int32 → Hp → Prop) (rec : Int32 × Int32 → Hp → Prop) (s : Int32 × Int32) (h : Hp) : Prop :=
  if (4 : Int32) ≤ s.2 then
    Xc s.1 h
  else
    ty sh x0 2 <|
    gR h x0 11 fun q2 =>
    ty sh q2 9 <|
    lR sh h q2 s.2 fun q4 =>
    ty sh q4 1 <|
    gI h q4 2 fun v7 =>
    rec (s.1 + v7, s.2 + (1 : Int32)) h

def f_X2_loadsOfAll (sh : Sh) (a0 : Nat) (h : Hp) (K : Int32 → Hp → Prop) : Prop :=
  lo (b_X2_loadsOfAll_4 sh a0
    (fun y8 h9 =>
      K y8 h9)) ((0 : Int32), (0 : Int32)) h

def b_X2_noticesOnTheirWay_4 (sh : Sh) (x0 : Nat) (Xc : Int32 → Hp → Prop) (rec : Int32 × Int32 → Hp → Prop) (s : Int32 × Int32) (h : Hp) : Prop :=
  ty sh x0 2 <|
  gI h x0 5 fun v2 =>
  if v2 ≤ s.2 then
    Xc s.1 h
  else
    if (100 : Int32) ≤ s.2 then
      Xc s.1 h
    else
      gR h x0 7 fun q3 =>
      ty sh q3 7 <|
      lI sh h q3 s.2 fun v5 =>
      gI h x0 0 fun v7 =>
      if v5 ≤ v7 then
        rec (s.1, s.2 + (1 : Int32)) h
      else
        rec (s.1 + (1 : Int32), s.2 + (1 : Int32)) h

def f_X2_noticesOnTheirWay (sh : Sh) (a0 : Nat) (h : Hp) (K : Int32 → Hp → Prop) : Prop :=
  lo (b_X2_noticesOnTheirWay_4 sh a0
    (fun y8 h9 =>
      K y8 h9)) ((0 : Int32), (0 : Int32)) h

def b_X2_pass_34 (sh : Sh) (x0 : Nat) (x1 : Int32) (x3 : Int32) (x4 : Int32) (Xc : Int32 → Hp → Prop) (rec : Int32 × Int32 → Hp → Prop) (s : Int32 × Int32) (h : Hp) : Prop :=
  ty sh x0 2 <|
  gI h x0 5 fun v3 =>
  if v3 ≤ s.2 then
    Xc s.1 h
  else
    if (100 : Int32) ≤ s.2 then
      Xc s.1 h
    else
      gR h x0 7 fun q4 =>
      ty sh q4 7 <|
      lI sh h q4 s.2 fun v6 =>
      gI h x0 0 fun v8 =>
      if v6 = (v8 + x4) then
        f_X2_arrive sh x0 s.2 h fun h10 =>
        rec (s.1 + (4 : Int32), s.2 + (1 : Int32)) h10
      else
        rec (s.1, s.2 + (1 : Int32)) h

def b_X2_pass_25 (sh : Sh) (x0 : Nat) (x1 : Int32) (x3 : Int32) (Xc : Int32 → Hp → Prop) (rec : Int32 × Int32 → Hp → Prop) (s : Int32 × Int32) (h : Hp) : Prop :=
  if x3 < s.2 then
    Xc s.1 h
  else
    lo (b_X2_pass_34 sh x0 x1 x3 s.2
      (fun y11 h12 =>
        rec (y11, s.2 + (1 : Int32)) h12)) (s.1, (0 : Int32)) h

def f_X2_pass (sh : Sh) (a0 : Nat) (p1 : Int32) (h : Hp) (K : Int32 → Hp → Prop) : Prop :=
  if p1 < (1 : Int32) then
    K (-1 : Int32) h
  else
    if p1 ≤ (99 : Int32) then
      ev (if (20 : Int32) < p1 then (20 : Int32) else p1) fun v1 =>
      lo (b_X2_pass_25 sh a0 p1 v1
        (fun y13 h14 =>
          ty sh a0 2 <|
          gI h14 a0 0 fun v16 =>
          pI h14 a0 0 (v16 + p1) fun h17 =>
          K y13 h17)) ((0 : Int32), (1 : Int32)) h
    else
      K (-1 : Int32) h

def b_X2_sessionWith_2 (sh : Sh) (x0 : Nat) (x1 : Int32) (Xc : Hp → Prop) (K : Int32 → Hp → Prop) (rec : Int32 → Hp → Prop) (s : Int32) (h : Hp) : Prop :=
  if (4 : Int32) ≤ s then
    Xc h
  else
    ty sh x0 2 <|
    gR h x0 11 fun q2 =>
    ty sh q2 9 <|
    lR sh h q2 s fun q4 =>
    ty sh q4 1 <|
    f_X1_workOf sh q4 x1 h fun r7 h8 =>
    nn r7
      (rec (s + (1 : Int32)) h8)
    fun q9 =>
      K s h8

def f_X2_sessionWith (sh : Sh) (a0 : Nat) (p1 : Int32) (h : Hp) (K : Int32 → Hp → Prop) : Prop :=
  lo (b_X2_sessionWith_2 sh a0 p1
    (fun  h10 =>
      K (-1 : Int32) h10) K) (0 : Int32) h

def b_X2_statementsAtWork_4 (sh : Sh) (x0 : Nat) (Xc : Int32 → Hp → Prop) (rec : Int32 × Int32 → Hp → Prop) (s : Int32 × Int32) (h : Hp) : Prop :=
  if (4 : Int32) ≤ s.2 then
    Xc s.1 h
  else
    ty sh x0 2 <|
    gR h x0 11 fun q2 =>
    ty sh q2 9 <|
    lR sh h q2 s.2 fun q4 =>
    ty sh q4 1 <|
    f_X1_statementsAtWork sh q4 h fun r7 h8 =>
    rec (s.1 + r7, s.2 + (1 : Int32)) h8

def f_X2_statementsAtWork (sh : Sh) (a0 : Nat) (h : Hp) (K : Int32 → Hp → Prop) : Prop :=
  lo (b_X2_statementsAtWork_4 sh a0
    (fun y9 h10 =>
      K y9 h10)) ((0 : Int32), (0 : Int32)) h

def b_X2_tablesThatCanChange_4 (sh : Sh) (x0 : Nat) (Xc : Int32 → Hp → Prop) (rec : Int32 × Int32 → Hp → Prop) (s : Int32 × Int32) (h : Hp) : Prop :=
  if (6 : Int32) ≤ s.2 then
    Xc s.1 h
  else
    ty sh x0 2 <|
    f_X2_canChange sh x0 s.2 h fun r2 h3 =>
    if r2 = 0 then
      rec (s.1, s.2 + (1 : Int32)) h3
    else
      rec (s.1 ||| ((1 : Int32) <<< (s.2 &&& 31)), s.2 + (1 : Int32)) h3

def f_X2_tablesThatCanChange (sh : Sh) (a0 : Nat) (h : Hp) (K : Int32 → Hp → Prop) : Prop :=
  lo (b_X2_tablesThatCanChange_4 sh a0
    (fun y4 h5 =>
      K y4 h5)) ((0 : Int32), (0 : Int32)) h

def b_X4_outrunBy_4 (sh : Sh) (x0 : Nat) (x1 : Nat) (Xc : Int32 → Hp → Prop) (rec : Int32 × Int32 → Hp → Prop) (s : Int32 × Int32) (h : Hp) : Prop :=
  if (6 : Int32) ≤ s.2 then
    Xc s.1 h
  else
    ty sh x0 4 <|
    gI h x0 1 fun v2 =>
    f_X5_contains sh v2 s.2 h fun r3 h4 =>
    if r3 = 0 then
      rec (s.1, s.2 + (1 : Int32)) h4
    else
      gR h4 x0 3 fun q5 =>
      ty sh q5 7 <|
      lI sh h4 q5 s.2 fun v7 =>
      ty sh x1 7 <|
      lI sh h4 x1 s.2 fun v10 =>
      if v10 ≤ v7 then
        rec (s.1, s.2 + (1 : Int32)) h4
      else
        rec (s.1 ||| ((1 : Int32) <<< (s.2 &&& 31)), s.2 + (1 : Int32)) h4

def f_X4_outrunBy (sh : Sh) (a0 : Nat) (p1 : Nat) (h : Hp) (K : Int32 → Hp → Prop) : Prop :=
  lo (b_X4_outrunBy_4 sh a0 p1
    (fun y12 h13 =>
      K y12 h13)) ((0 : Int32), (0 : Int32)) h

def b_X5_record_40 (sh : Sh) (x0 : Nat) (x1 : Nat) (Xc : Hp → Prop) (rec : Int32 → Hp → Prop) (s : Int32) (h : Hp) : Prop :=
  if (4 : Int32) ≤ s then
    Xc h
  else
    ty sh x0 5 <|
    gR h x0 4 fun q8 =>
    gR h x0 4 fun q9 =>
    ty sh q9 10 <|
    lR sh h q9 s fun q11 =>
    ty sh q8 10 <|
    ty sh q11 2 <|
    sR sh h q8 (s - (1 : Int32)) q11 fun h15 =>
    rec (s + (1 : Int32)) h15

def f_X5_record (sh : Sh) (a0 : Nat) (h : Hp) (K : Hp → Prop) : Prop :=
  ty sh a0 5 <|
  gR h a0 4 fun q2 =>
  ty sh q2 10 <|
  lR sh h q2 (0 : Int32) fun q4 =>
  gI h a0 5 fun v6 =>
  if (4 : Int32) ≤ v6 then
    lo (b_X5_record_40 sh a0 q4
      (fun  h17 =>
        gR h17 a0 4 fun q18 =>
        gI h17 a0 5 fun v19 =>
        gR h17 a0 0 fun q20 =>
        ty sh q18 10 <|
        ty sh q20 2 <|
        sR sh h17 q18 (v19 - (1 : Int32)) q20 fun h23 =>
        gR h23 a0 1 fun q25 =>
        pR h23 a0 0 q25 fun h26 =>
        pR h26 a0 1 q4 fun h27 =>
        K h27)) (1 : Int32) h
  else
    gR h a0 4 fun q28 =>
    gI h a0 5 fun v29 =>
    ty sh q28 10 <|
    lR sh h q28 v29 fun q31 =>
    gI h a0 5 fun v33 =>
    pI h a0 5 (v33 + (1 : Int32)) fun h34 =>
    gR h34 a0 4 fun q35 =>
    gI h34 a0 5 fun v36 =>
    gR h34 a0 0 fun q37 =>
    ty sh q35 10 <|
    ty sh q37 2 <|
    sR sh h34 q35 (v36 - (1 : Int32)) q37 fun h40 =>
    gR h40 a0 1 fun q42 =>
    pR h40 a0 0 q42 fun h43 =>
    pR h43 a0 1 q31 fun h44 =>
    K h44

def f_X5_settle (sh : Sh) (a0 : Nat) (p1 : Int32) (h : Hp) (K : Int32 → Hp → Prop) : Prop :=
  if p1 < 0 then
    K p1 h
  else
    ty sh a0 5 <|
    f_X5_record sh a0 h fun h3 =>
    K p1 h3

def f_X5_alter (sh : Sh) (a0 : Nat) (p1 : Int32) (p2 : Int32) (h : Hp) (K : Int32 → Hp → Prop) : Prop :=
  ty sh a0 5 <|
  gR h a0 1 fun q2 =>
  gR h a0 0 fun q3 =>
  ty sh q2 2 <|
  f_X2_copyFrom sh q2 q3 h fun h6 =>
  gR h6 a0 1 fun q7 =>
  ty sh q7 2 <|
  f_X2_changeTable sh q7 p1 p2 h6 fun r9 h10 =>
  f_X5_settle sh a0 r9 h10 fun r11 h12 =>
  K r11 h12

def b_X5_loadsWithRoom_30 (sh : Sh) (x0 : Nat) (Xc : Hp → Prop) (K : Int32 → Hp → Prop) (rec : Int32 → Hp → Prop) (s : Int32) (h : Hp) : Prop :=
  ty sh x0 5 <|
  gR h x0 0 fun q14 =>
  ty sh q14 2 <|
  gI h q14 8 fun v16 =>
  if v16 ≤ s then
    Xc h
  else
    gR h x0 1 fun q17 =>
    gR h x0 0 fun q18 =>
    ty sh q18 2 <|
    gR h q18 9 fun q20 =>
    ty sh q20 7 <|
    lI sh h q20 (s - s / (12 : Int32) * (12 : Int32)) fun v22 =>
    gR h x0 0 fun q24 =>
    ty sh q24 2 <|
    gR h q24 10 fun q26 =>
    ty sh q26 7 <|
    lI sh h q26 (s - s / (12 : Int32) * (12 : Int32)) fun v28 =>
    ty sh q17 2 <|
    f_X2_begin sh q17 v22 v28 h fun r31 h32 =>
    if 0 ≤ r31 then
      gR h32 x0 1 fun q33 =>
      ty sh q33 2 <|
      f_X2_finish sh q33 r31 h32 fun r35 h36 =>
      rec (s + (1 : Int32)) h36
    else
      K (-1 : Int32) h32

def f_X5_loadsWithRoom (sh : Sh) (a0 : Nat) (p1 : Int32) (h : Hp) (K : Int32 → Hp → Prop) : Prop :=
  ty sh a0 5 <|
  gR h a0 1 fun q2 =>
  ty sh q2 2 <|
  f_X2_clear sh q2 h fun h5 =>
  gR h5 a0 1 fun q6 =>
  ty sh q6 2 <|
  pI h5 q6 2 p1 fun h8 =>
  gR h8 a0 0 fun q9 =>
  ty sh q9 2 <|
  gI h8 q9 8 fun v11 =>
  ev (if (0 : Int32) < (v11 - (12 : Int32)) then (v11 - (12 : Int32)) else (0 : Int32)) fun v12 =>
  lo (b_X5_loadsWithRoom_30 sh a0
    (fun  h37 =>
      gR h37 a0 1 fun q38 =>
      ty sh q38 2 <|
      f_X2_loadsOfAll sh q38 h37 fun r40 h41 =>
      K r40 h41) K) v12 h8

def b_X5_bestRoom_31 (sh : Sh) (x0 : Nat) (x1 : Int32) (Xc : Int32 → Int32 → Hp → Prop) (rec : Int32 × Int32 × Int32 → Hp → Prop) (s : Int32 × Int32 × Int32) (h : Hp) : Prop :=
  if (8 : Int32) < s.2.2 then
    Xc s.1 s.2.1 h
  else
    ty sh x0 5 <|
    f_X5_loadsWithRoom sh x0 s.2.2 h fun r6 h7 =>
    if r6 < 0 then
      rec (s.1, s.2.1, s.2.2 + (1 : Int32)) h7
    else
      if s.2.1 < 0 then
        rec (s.2.2, r6, s.2.2 + (1 : Int32)) h7
      else
        if s.2.1 ≤ r6 then
          rec (s.1, s.2.1, s.2.2 + (1 : Int32)) h7
        else
          rec (s.2.2, r6, s.2.2 + (1 : Int32)) h7

def f_X5_bestRoom (sh : Sh) (a0 : Nat) (p1 : Int32) (h : Hp) (K : Int32 → Hp → Prop) : Prop :=
  if p1 < 0 then
    K (-1 : Int32) h
  else
    if p1 ≤ (1 : Int32) then
      ty sh a0 5 <|
      gR h a0 0 fun q2 =>
      ty sh q2 2 <|
      gI h q2 8 fun v4 =>
      if v4 = 0 then
        K (-4 : Int32) h
      else
        lo (b_X5_bestRoom_31 sh a0 p1
          (fun y8 y9 h10 =>
            if p1 = 0 then
              K y8 h10
            else
              K y9 h10)) ((-1 : Int32), (-1 : Int32), (1 : Int32)) h
    else
      K (-1 : Int32) h

def f_X5_count (sh : Sh) (a0 : Nat) (p1 : Int32) (h : Hp) (K : Int32 → Hp → Prop) : Prop :=
  if p1 = (0 : Int32) then
    ty sh a0 5 <|
    gR h a0 0 fun q2 =>
    ty sh q2 2 <|
    gI h q2 0 fun v4 =>
    K v4 h
  else
    if p1 = (1 : Int32) then
      ty sh a0 5 <|
      gR h a0 0 fun q6 =>
      ty sh q6 2 <|
      gI h q6 5 fun v8 =>
      K v8 h
    else
      if p1 = (2 : Int32) then
        ty sh a0 5 <|
        gR h a0 0 fun q10 =>
        ty sh q10 2 <|
        gI h q10 8 fun v12 =>
        K v12 h
      else
        if p1 = (3 : Int32) then
          ty sh a0 5 <|
          gR h a0 0 fun q14 =>
          ty sh q14 2 <|
          f_X2_statementsAtWork sh q14 h fun r16 h17 =>
          K r16 h17
        else
          if p1 = (4 : Int32) then
            ty sh a0 5 <|
            gI h a0 5 fun v19 =>
            K v19 h
          else
            if p1 = (5 : Int32) then
              ty sh a0 5 <|
              gR h a0 6 fun q21 =>
              ty sh q21 3 <|
              gI h q21 1 fun v23 =>
              K v23 h
            else
              if p1 = (6 : Int32) then
                ty sh a0 5 <|
                gI h a0 3 fun v25 =>
                if v25 = 0 then
                  K (0 : Int32) h
                else
                  K (1 : Int32) h
              else
                if p1 = (7 : Int32) then
                  ty sh a0 5 <|
                  gR h a0 0 fun q27 =>
                  ty sh q27 2 <|
                  f_X2_tablesThatCanChange sh q27 h fun r29 h30 =>
                  K r29 h30
                else
                  if p1 = (8 : Int32) then
                    ty sh a0 5 <|
                    gR h a0 0 fun q32 =>
                    ty sh q32 2 <|
                    f_X2_loadsOfAll sh q32 h fun r34 h35 =>
                    K r34 h35
                  else
                    if p1 = (9 : Int32) then
                      K (-1 : Int32) h
                    else
                      if p1 = (10 : Int32) then
                        K (-1 : Int32) h
                      else
                        if p1 = (11 : Int32) then
                          K (-1 : Int32) h
                        else
                          if p1 = (12 : Int32) then
                            K (-1 : Int32) h
                          else
                            if p1 = (13 : Int32) then
                              K (-1 : Int32) h
                            else
                              if p1 = (14 : Int32) then
                                K (-1 : Int32) h
                              else
                                if p1 = (15 : Int32) then
                                  K (-1 : Int32) h
                                else
                                  if p1 = (16 : Int32) then
                                    K (-1 : Int32) h
                                  else
                                    if p1 = (17 : Int32) then
                                      K (-1 : Int32) h
                                    else
                                      if p1 = (18 : Int32) then
                                        K (-1 : Int32) h
                                      else
                                        if p1 = (19 : Int32) then
                                          K (-1 : Int32) h
                                        else
                                          if p1 = (20 : Int32) then
                                            ty sh a0 5 <|
                                            gR h a0 0 fun q37 =>
                                            ty sh q37 2 <|
                                            gI h q37 1 fun v39 =>
                                            K v39 h
                                          else
                                            if p1 = (21 : Int32) then
                                              ty sh a0 5 <|
                                              gR h a0 0 fun q41 =>
                                              ty sh q41 2 <|
                                              gI h q41 2 fun v43 =>
                                              K v43 h
                                            else
                                              K (-1 : Int32) h

def f_X5_end (sh : Sh) (a0 : Nat) (p1 : Int32) (h : Hp) (K : Int32 → Hp → Prop) : Prop :=
  ty sh a0 5 <|
  gR h a0 1 fun q2 =>
  gR h a0 0 fun q3 =>
  ty sh q2 2 <|
  f_X2_copyFrom sh q2 q3 h fun h6 =>
  gR h6 a0 1 fun q7 =>
  ty sh q7 2 <|
  f_X2_finish sh q7 p1 h6 fun r9 h10 =>
  f_X5_settle sh a0 r9 h10 fun r11 h12 =>
  K r11 h12

def f_X5_entry (sh : Sh) (a0 : Nat) (p1 : Int32) (p2 : Int32) (p3 : Int32) (h : Hp) (K : Int32 → Hp → Prop) : Prop :=
  if p1 < 0 then
    K (-1 : Int32) h
  else
    if (4 : Int32) ≤ p1 then
      K (-1 : Int32) h
    else
      if p2 < 0 then
        K (-1 : Int32) h
      else
        if p3 < 0 then
          K (-1 : Int32) h
        else
          if p3 ≤ (5 : Int32) then
            ty sh a0 5 <|
            gR h a0 0 fun q2 =>
            ty sh q2 2 <|
            gR h q2 11 fun q4 =>
            ty sh q4 9 <|
            lR sh h q4 p1 fun q6 =>
            ty sh q6 1 <|
            gI h q6 6 fun v9 =>
            if p2 < v9 then
              gR h q6 7 fun q10 =>
              ty sh q10 8 <|
              lR sh h q10 p2 fun q12 =>
              if p3 = (0 : Int32) then
                ty sh q12 0 <|
                gI h q12 0 fun v15 =>
                K v15 h
              else
                if p3 = (1 : Int32) then
                  ty sh q12 0 <|
                  gI h q12 1 fun v17 =>
                  K v17 h
                else
                  if p3 = (2 : Int32) then
                    ty sh q12 0 <|
                    gI h q12 2 fun v19 =>
                    K v19 h
                  else
                    if p3 = (3 : Int32) then
                      ty sh q12 0 <|
                      gI h q12 3 fun v21 =>
                      K v21 h
                    else
                      if p3 = (4 : Int32) then
                        ty sh q12 0 <|
                        gI h q12 4 fun v23 =>
                        K v23 h
                      else
                        ty sh q12 0 <|
                        gI h q12 5 fun v25 =>
                        if v25 = 0 then
                          K (0 : Int32) h
                        else
                          K (1 : Int32) h
            else
              K (-4 : Int32) h
          else
            K (-1 : Int32) h

def b_X5_inTheWay_17 (sh : Sh) (x0 : Nat) (x1 : Int32) (Xc : Int32 → Hp → Prop) (rec : Int32 × Int32 → Hp → Prop) (s : Int32 × Int32) (h : Hp) : Prop :=
  if (4 : Int32) ≤ s.2 then
    Xc s.1 h
  else
    ty sh x0 5 <|
    gR h x0 0 fun q2 =>
    ty sh q2 2 <|
    gR h q2 11 fun q4 =>
    ty sh q4 9 <|
    lR sh h q4 s.2 fun q6 =>
    gR h x0 0 fun q8 =>
    ty sh q8 2 <|
    gR h q8 3 fun q10 =>
    ty sh q10 7 <|
    lI sh h q10 x1 fun v12 =>
    ty sh q6 1 <|
    f_X1_lowestBehind sh q6 x1 v12 h fun r15 h16 =>
    if r15 < 0 then
      rec (s.1, s.2 + (1 : Int32)) h16
    else
      if s.1 < 0 then
        rec (r15, s.2 + (1 : Int32)) h16
      else
        if s.1 ≤ r15 then
          rec (s.1, s.2 + (1 : Int32)) h16
        else
          rec (r15, s.2 + (1 : Int32)) h16

def f_X5_inTheWay (sh : Sh) (a0 : Nat) (p1 : Int32) (h : Hp) (K : Int32 → Hp → Prop) : Prop :=
  if p1 < 0 then
    K (-1 : Int32) h
  else
    if p1 < (6 : Int32) then
      lo (b_X5_inTheWay_17 sh a0 p1
        (fun y17 h18 =>
          K y17 h18)) ((-4 : Int32), (0 : Int32)) h
    else
      K (-1 : Int32) h

def f_X5_sessionOf (sh : Sh) (a0 : Nat) (p1 : Int32) (p2 : Int32) (h : Hp) (K : Int32 → Hp → Prop) : Prop :=
  if p1 < 0 then
    K (-1 : Int32) h
  else
    if p1 < (4 : Int32) then
      ty sh a0 5 <|
      gR h a0 0 fun q2 =>
      ty sh q2 2 <|
      gR h q2 11 fun q4 =>
      ty sh q4 9 <|
      lR sh h q4 p1 fun q6 =>
      if p2 = (0 : Int32) then
        ty sh q6 1 <|
        gI h q6 0 fun v9 =>
        K v9 h
      else
        if p2 = (1 : Int32) then
          gR h a0 0 fun q10 =>
          ty sh q10 2 <|
          f_X2_noticesOnTheirWay sh q10 h fun r12 h13 =>
          K r12 h13
        else
          if p2 = (2 : Int32) then
            ty sh q6 1 <|
            gI h q6 6 fun v15 =>
            K v15 h
          else
            if p2 = (3 : Int32) then
              ty sh q6 1 <|
              f_X1_staleInHand sh q6 h fun r17 h18 =>
              K r17 h18
            else
              if p2 = (4 : Int32) then
                ty sh q6 1 <|
                f_X1_statementsAtWork sh q6 h fun r20 h21 =>
                K r20 h21
              else
                if p2 = (5 : Int32) then
                  ty sh q6 1 <|
                  gI h q6 1 fun v23 =>
                  K v23 h
                else
                  if p2 = (6 : Int32) then
                    ty sh q6 1 <|
                    gI h q6 2 fun v25 =>
                    K v25 h
                  else
                    if p2 = (7 : Int32) then
                      ty sh q6 1 <|
                      gI h q6 3 fun v27 =>
                      K v27 h
                    else
                      if p2 = (8 : Int32) then
                        ty sh q6 1 <|
                        gI h q6 4 fun v29 =>
                        K v29 h
                      else
                        if p2 = (9 : Int32) then
                          ty sh q6 1 <|
                          gI h q6 5 fun v31 =>
                          K v31 h
                        else
                          K (-1 : Int32) h
    else
      K (-1 : Int32) h

def f_X5_set (sh : Sh) (a0 : Nat) (p1 : Int32) (p2 : Int32) (h : Hp) (K : Int32 → Hp → Prop) : Prop :=
  ty sh a0 5 <|
  gR h a0 1 fun q2 =>
  gR h a0 0 fun q3 =>
  ty sh q2 2 <|
  f_X2_copyFrom sh q2 q3 h fun h6 =>
  gR h6 a0 1 fun q7 =>
  ty sh q7 2 <|
  f_X2_adjust sh q7 p1 p2 h6 fun r9 h10 =>
  f_X5_settle sh a0 r9 h10 fun r11 h12 =>
  K r11 h12

def f_X5_start (sh : Sh) (a0 : Nat) (p1 : Int32) (p2 : Int32) (h : Hp) (K : Int32 → Hp → Prop) : Prop :=
  ty sh a0 5 <|
  gR h a0 1 fun q2 =>
  gR h a0 0 fun q3 =>
  ty sh q2 2 <|
  f_X2_copyFrom sh q2 q3 h fun h6 =>
  gR h6 a0 1 fun q7 =>
  ty sh q7 2 <|
  f_X2_begin sh q7 p1 p2 h6 fun r9 h10 =>
  f_X5_settle sh a0 r9 h10 fun r11 h12 =>
  K r11 h12

def f_X5_statement (sh : Sh) (a0 : Nat) (p1 : Int32) (p2 : Int32) (h : Hp) (K : Int32 → Hp → Prop) : Prop :=
  if p1 < 0 then
    K (-1 : Int32) h
  else
    if p2 < 0 then
      K (-1 : Int32) h
    else
      if p2 ≤ (3 : Int32) then
        ty sh a0 5 <|
        gR h a0 0 fun q2 =>
        ty sh q2 2 <|
        f_X2_sessionWith sh q2 p1 h fun r4 h5 =>
        if r4 < 0 then
          K (-4 : Int32) h5
        else
          if r4 < (4 : Int32) then
            gR h5 a0 0 fun q6 =>
            ty sh q6 2 <|
            gR h5 q6 11 fun q8 =>
            ty sh q8 9 <|
            lR sh h5 q8 r4 fun q10 =>
            ty sh q10 1 <|
            f_X1_workOf sh q10 p1 h5 fun r13 h14 =>
            nn r13
              (K (-4 : Int32) h14)
            fun q15 =>
              if p2 = (0 : Int32) then
                K r4 h14
              else
                if p2 = (1 : Int32) then
                  ty sh q15 4 <|
                  gI h14 q15 1 fun v17 =>
                  K v17 h14
                else
                  if p2 = (2 : Int32) then
                    ty sh q15 4 <|
                    gI h14 q15 2 fun v19 =>
                    K v19 h14
                  else
                    gR h14 a0 0 fun q20 =>
                    ty sh q20 2 <|
                    gR h14 q20 3 fun q22 =>
                    ty sh q15 4 <|
                    f_X4_outrunBy sh q15 q22 h14 fun r24 h25 =>
                    K r24 h25
          else
            K (-4 : Int32) h5
      else
        K (-1 : Int32) h

def f_X5_tableOf (sh : Sh) (a0 : Nat) (p1 : Int32) (p2 : Int32) (h : Hp) (K : Int32 → Hp → Prop) : Prop :=
  if p1 < 0 then
    K (-1 : Int32) h
  else
    if p1 < (6 : Int32) then
      if p2 = (0 : Int32) then
        ty sh a0 5 <|
        gR h a0 0 fun q2 =>
        ty sh q2 2 <|
        gR h q2 3 fun q4 =>
        ty sh q4 7 <|
        lI sh h q4 p1 fun v6 =>
        K v6 h
      else
        if p2 = (1 : Int32) then
          ty sh a0 5 <|
          gR h a0 0 fun q9 =>
          ty sh q9 2 <|
          gR h q9 4 fun q11 =>
          ty sh q11 7 <|
          lI sh h q11 p1 fun v13 =>
          K v13 h
        else
          if p2 = (2 : Int32) then
            ty sh a0 5 <|
            gR h a0 0 fun q16 =>
            ty sh q16 2 <|
            f_X2_leastVersionAtWork sh q16 p1 h fun r18 h19 =>
            K r18 h19
          else
            if p2 = (3 : Int32) then
              ty sh a0 5 <|
              gR h a0 0 fun q21 =>
              ty sh q21 2 <|
              f_X2_handsWith sh q21 p1 h fun r23 h24 =>
              K r23 h24
            else
              if p2 = (4 : Int32) then
                ty sh a0 5 <|
                gR h a0 0 fun q26 =>
                ty sh q26 2 <|
                f_X2_canChange sh q26 p1 h fun r28 h29 =>
                if r28 = 0 then
                  K (0 : Int32) h29
                else
                  K (1 : Int32) h29
              else
                K (-1 : Int32) h
    else
      K (-1 : Int32) h

def f_X5_tick (sh : Sh) (a0 : Nat) (p1 : Int32) (h : Hp) (K : Int32 → Hp → Prop) : Prop :=
  ty sh a0 5 <|
  gR h a0 1 fun q2 =>
  gR h a0 0 fun q3 =>
  ty sh q2 2 <|
  f_X2_copyFrom sh q2 q3 h fun h6 =>
  gR h6 a0 1 fun q7 =>
  ty sh q7 2 <|
  f_X2_pass sh q7 p1 h6 fun r9 h10 =>
  f_X5_settle sh a0 r9 h10 fun r11 h12 =>
  K r11 h12

def f_X5_undo (sh : Sh) (a0 : Nat) (h : Hp) (K : Int32 → Hp → Prop) : Prop :=
  ty sh a0 5 <|
  gI h a0 5 fun v2 =>
  if 0 < v2 then
    gI h a0 5 fun v3 =>
    pI h a0 5 (v3 - (1 : Int32)) fun h4 =>
    gR h4 a0 4 fun q5 =>
    gI h4 a0 5 fun v6 =>
    ty sh q5 10 <|
    lR sh h4 q5 v6 fun q8 =>
    gR h4 a0 4 fun q10 =>
    gI h4 a0 5 fun v11 =>
    gR h4 a0 0 fun q12 =>
    ty sh q10 10 <|
    ty sh q12 2 <|
    sR sh h4 q10 v11 q12 fun h15 =>
    pR h15 a0 0 q8 fun h17 =>
    gI h17 a0 5 fun v18 =>
    K v18 h17
  else
    K (-2 : Int32) h

def f_X5_would (sh : Sh) (a0 : Nat) (p1 : Int32) (p2 : Int32) (p3 : Int32) (h : Hp) (K : Int32 → Hp → Prop) : Prop :=
  if p1 < 0 then
    K (-1 : Int32) h
  else
    if (4 : Int32) ≤ p1 then
      K (-1 : Int32) h
    else
      if p3 < 0 then
        K (-1 : Int32) h
      else
        if p3 ≤ (3 : Int32) then
          ty sh a0 5 <|
          gR h a0 1 fun q2 =>
          gR h a0 0 fun q3 =>
          ty sh q2 2 <|
          f_X2_copyFrom sh q2 q3 h fun h6 =>
          gR h6 a0 1 fun q7 =>
          ty sh q7 2 <|
          f_X2_begin sh q7 p1 p2 h6 fun r9 h10 =>
          if 0 ≤ r9 then
            gR h10 a0 0 fun q11 =>
            ty sh q11 2 <|
            gR h10 q11 11 fun q13 =>
            ty sh q13 9 <|
            lR sh h10 q13 p1 fun q15 =>
            gR h10 a0 1 fun q17 =>
            ty sh q17 2 <|
            gR h10 q17 11 fun q19 =>
            ty sh q19 9 <|
            lR sh h10 q19 p1 fun q21 =>
            if p3 = (0 : Int32) then
              ty sh q21 1 <|
              gI h10 q21 1 fun v24 =>
              ty sh q15 1 <|
              gI h10 q15 1 fun v26 =>
              K (v24 - v26) h10
            else
              if p3 = (1 : Int32) then
                ty sh q21 1 <|
                gI h10 q21 2 fun v28 =>
                ty sh q15 1 <|
                gI h10 q15 2 fun v30 =>
                K (v28 - v30) h10
              else
                if p3 = (2 : Int32) then
                  ty sh q21 1 <|
                  gI h10 q21 3 fun v32 =>
                  ty sh q15 1 <|
                  gI h10 q15 3 fun v34 =>
                  K (v32 - v34) h10
                else
                  ty sh q21 1 <|
                  gI h10 q21 0 fun v36 =>
                  ty sh q15 1 <|
                  gI h10 q15 0 fun v38 =>
                  K (v36 - v38) h10
          else
            K r9 h10
        else
          K (-1 : Int32) h

/-! printed by gen.py: each method as conditions on what comes behind it -/
def f_X0_comesBehind (sh : Sh) (a0 : Nat) (p1 : Int32) (p2 : Int32) (h : Hp) (K : Int32 → Hp → Prop) : Prop :=
  ty sh a0 0 <|
  gI h a0 0 fun v2 =>
  if p1 < v2 then
    K (1 : Int32) h
  else
    gI h a0 0 fun v3 =>
    if v3 = p1 then
      gI h a0 1 fun v4 =>
      if v4 ≤ p2 then
        K (0 : Int32) h
      else
        K (1 : Int32) h
    else
      K (0 : Int32) h

def f_X0_copyFrom (sh : Sh) (a0 : Nat) (p1 : Nat) (h : Hp) (K : Hp → Prop) : Prop :=
  ty sh p1 0 <|
  gI h p1 0 fun v2 =>
  ty sh a0 0 <|
  pI h a0 0 v2 fun h4 =>
  gI h4 p1 1 fun v5 =>
  pI h4 a0 1 v5 fun h6 =>
  gI h6 p1 2 fun v7 =>
  pI h6 a0 2 v7 fun h8 =>
  gI h8 p1 3 fun v9 =>
  pI h8 a0 3 v9 fun h10 =>
  gI h10 p1 4 fun v11 =>
  pI h10 a0 4 v11 fun h12 =>
  gI h12 p1 5 fun v13 =>
  bz v13 <|
  pI h12 a0 5 v13 fun h14 =>
  K h14

def b_X1_clear_37 (sh : Sh) (x0 : Nat) (Xc : Hp → Prop) (rec : Int32 → Hp → Prop) (s : Int32) (h : Hp) : Prop :=
  if (4 : Int32) ≤ s then
    Xc h
  else
    ty sh x0 1 <|
    gR h x0 8 fun q10 =>
    ty sh q10 11 <|
    lR sh h q10 s fun q12 =>
    ty sh q12 4 <|
    pI h q12 0 (-1 : Int32) fun h15 =>
    rec (s + (1 : Int32)) h15

def f_X1_clear (sh : Sh) (a0 : Nat) (h : Hp) (K : Hp → Prop) : Prop :=
  ty sh a0 1 <|
  pI h a0 0 (0 : Int32) fun h2 =>
  pI h2 a0 1 (0 : Int32) fun h3 =>
  pI h3 a0 2 (0 : Int32) fun h4 =>
  pI h4 a0 3 (0 : Int32) fun h5 =>
  pI h5 a0 4 (0 : Int32) fun h6 =>
  pI h6 a0 5 (0 : Int32) fun h7 =>
  pI h7 a0 6 (0 : Int32) fun h8 =>
  lo (b_X1_clear_37 sh a0
    (fun  h16 =>
      K h16)) (0 : Int32) h8

def b_X4_copyFrom_26 (sh : Sh) (x0 : Nat) (x1 : Nat) (Xc : Hp → Prop) (rec : Int32 → Hp → Prop) (s : Int32) (h : Hp) : Prop :=
  if (6 : Int32) ≤ s then
    Xc h
  else
    ty sh x0 4 <|
    gR h x0 3 fun q10 =>
    ty sh x1 4 <|
    gR h x1 3 fun q12 =>
    ty sh q12 7 <|
    lI sh h q12 s fun v14 =>
    ty sh q10 7 <|
    sI sh h q10 s v14 fun h17 =>
    rec (s + (1 : Int32)) h17

def f_X4_copyFrom (sh : Sh) (a0 : Nat) (p1 : Nat) (h : Hp) (K : Hp → Prop) : Prop :=
  ty sh p1 4 <|
  gI h p1 0 fun v2 =>
  ty sh a0 4 <|
  pI h a0 0 v2 fun h4 =>
  gI h4 p1 1 fun v5 =>
  pI h4 a0 1 v5 fun h6 =>
  gI h6 p1 2 fun v7 =>
  pI h6 a0 2 v7 fun h8 =>
  lo (b_X4_copyFrom_26 sh a0 p1
    (fun  h19 =>
      K h19)) (0 : Int32) h8

def b_X1_copyFrom_58 (sh : Sh) (x0 : Nat) (x1 : Nat) (Xc : Hp → Prop) (rec : Int32 → Hp → Prop) (s : Int32) (h : Hp) : Prop :=
  ty sh x0 1 <|
  gI h x0 6 fun v18 =>
  if v18 ≤ s then
    Xc h
  else
    if (8 : Int32) ≤ s then
      Xc h
    else
      gR h x0 7 fun q19 =>
      ty sh q19 8 <|
      lR sh h q19 s fun q21 =>
      ty sh x1 1 <|
      gR h x1 7 fun q24 =>
      ty sh q24 8 <|
      lR sh h q24 s fun q26 =>
      ty sh q21 0 <|
      f_X0_copyFrom sh q21 q26 h fun h30 =>
      rec (s + (1 : Int32)) h30

def b_X1_copyFrom_95 (sh : Sh) (x0 : Nat) (x1 : Nat) (Xc : Hp → Prop) (rec : Int32 → Hp → Prop) (s : Int32) (h : Hp) : Prop :=
  if (4 : Int32) ≤ s then
    Xc h
  else
    ty sh x0 1 <|
    gR h x0 8 fun q33 =>
    ty sh q33 11 <|
    lR sh h q33 s fun q35 =>
    ty sh x1 1 <|
    gR h x1 8 fun q38 =>
    ty sh q38 11 <|
    lR sh h q38 s fun q40 =>
    ty sh q35 4 <|
    f_X4_copyFrom sh q35 q40 h fun h44 =>
    rec (s + (1 : Int32)) h44

def f_X1_copyFrom (sh : Sh) (a0 : Nat) (p1 : Nat) (h : Hp) (K : Hp → Prop) : Prop :=
  ty sh p1 1 <|
  gI h p1 0 fun v2 =>
  ty sh a0 1 <|
  pI h a0 0 v2 fun h4 =>
  gI h4 p1 1 fun v5 =>
  pI h4 a0 1 v5 fun h6 =>
  gI h6 p1 2 fun v7 =>
  pI h6 a0 2 v7 fun h8 =>
  gI h8 p1 3 fun v9 =>
  pI h8 a0 3 v9 fun h10 =>
  gI h10 p1 4 fun v11 =>
  pI h10 a0 4 v11 fun h12 =>
  gI h12 p1 5 fun v13 =>
  pI h12 a0 5 v13 fun h14 =>
  gI h14 p1 6 fun v15 =>
  pI h14 a0 6 v15 fun h16 =>
  lo (b_X1_copyFrom_58 sh a0 p1
    (fun  h31 =>
      lo (b_X1_copyFrom_95 sh a0 p1
        (fun  h45 =>
          K h45)) (0 : Int32) h31)) (0 : Int32) h16

def b_X1_freshEntryOf_2 (sh : Sh) (x0 : Nat) (x1 : Int32) (Xc : Hp → Prop) (K : Int32 → Hp → Prop) (rec : Int32 → Hp → Prop) (s : Int32) (h : Hp) : Prop :=
  ty sh x0 1 <|
  gI h x0 6 fun v2 =>
  if v2 ≤ s then
    Xc h
  else
    gR h x0 7 fun q3 =>
    ty sh q3 8 <|
    lR sh h q3 s fun q5 =>
    ty sh q5 0 <|
    gI h q5 0 fun v8 =>
    if v8 = x1 then
      gR h x0 7 fun q9 =>
      ty sh q9 8 <|
      lR sh h q9 s fun q11 =>
      ty sh q11 0 <|
      gI h q11 5 fun v14 =>
      if v14 = 0 then
        K s h
      else
        rec (s + (1 : Int32)) h
    else
      rec (s + (1 : Int32)) h

def f_X1_freshEntryOf (sh : Sh) (a0 : Nat) (p1 : Int32) (h : Hp) (K : Int32 → Hp → Prop) : Prop :=
  lo (b_X1_freshEntryOf_2 sh a0 p1
    (fun  h15 =>
      K (-1 : Int32) h15) K) (0 : Int32) h

def b_X1_workWithNumber_2 (sh : Sh) (x0 : Nat) (x1 : Int32) (Xc : Hp → Prop) (K : Option Nat → Hp → Prop) (rec : Int32 → Hp → Prop) (s : Int32) (h : Hp) : Prop :=
  if (4 : Int32) ≤ s then
    Xc h
  else
    ty sh x0 1 <|
    gR h x0 8 fun q2 =>
    ty sh q2 11 <|
    lR sh h q2 s fun q4 =>
    ty sh q4 4 <|
    gI h q4 0 fun v7 =>
    if v7 = x1 then
      gR h x0 8 fun q8 =>
      ty sh q8 11 <|
      lR sh h q8 s fun q10 =>
      K (some q10) h
    else
      rec (s + (1 : Int32)) h

def f_X1_workWithNumber (sh : Sh) (a0 : Nat) (p1 : Int32) (h : Hp) (K : Option Nat → Hp → Prop) : Prop :=
  lo (b_X1_workWithNumber_2 sh a0 p1
    (fun  h12 =>
      K none h12) K) (0 : Int32) h

def f_X1_idleWork (sh : Sh) (a0 : Nat) (h : Hp) (K : Option Nat → Hp → Prop) : Prop :=
  ty sh a0 1 <|
  f_X1_workWithNumber sh a0 (-1 : Int32) h fun r2 h3 =>
  K r2 h3

def b_X1_takeOut_19 (sh : Sh) (x0 : Nat) (x2 : Nat) (Xc : Hp → Prop) (rec : Int32 → Hp → Prop) (s : Int32) (h : Hp) : Prop :=
  ty sh x0 1 <|
  gI h x0 6 fun v9 =>
  if v9 ≤ s then
    Xc h
  else
    gR h x0 7 fun q10 =>
    gR h x0 7 fun q11 =>
    ty sh q11 8 <|
    lR sh h q11 (s + (1 : Int32)) fun q13 =>
    ty sh q10 8 <|
    ty sh q13 0 <|
    sR sh h q10 s q13 fun h17 =>
    rec (s + (1 : Int32)) h17

def f_X1_takeOut (sh : Sh) (a0 : Nat) (p1 : Int32) (h : Hp) (K : Hp → Prop) : Prop :=
  ty sh a0 1 <|
  gR h a0 7 fun q2 =>
  ty sh q2 8 <|
  lR sh h q2 p1 fun q4 =>
  gI h a0 6 fun v6 =>
  pI h a0 6 (v6 - (1 : Int32)) fun h7 =>
  lo (b_X1_takeOut_19 sh a0 q4
    (fun  h19 =>
      gR h19 a0 7 fun q20 =>
      gI h19 a0 6 fun v21 =>
      ty sh q20 8 <|
      ty sh q4 0 <|
      sR sh h19 q20 v21 q4 fun h24 =>
      K h24)) p1 h7

def b_X1_learn_33 (sh : Sh) (x0 : Nat) (x1 : Int32) (x2 : Nat) (x3 : Nat) (x4 : Int32) (Xc : Hp → Prop) (rec : Int32 → Hp → Prop) (s : Int32) (h : Hp) : Prop :=
  if s < 0 then
    Xc h
  else
    ty sh x0 1 <|
    gR h x0 7 fun q10 =>
    ty sh q10 8 <|
    lR sh h q10 s fun q12 =>
    ty sh q12 0 <|
    gI h q12 0 fun v15 =>
    if v15 = x4 then
      gR h x0 7 fun q16 =>
      ty sh q16 8 <|
      lR sh h q16 s fun q18 =>
      ty sh q18 0 <|
      gI h q18 1 fun v21 =>
      ty sh x3 7 <|
      lI sh h x3 x4 fun v23 =>
      if v23 ≤ v21 then
        rec (s + (-1 : Int32)) h
      else
        gR h x0 7 fun q25 =>
        ty sh q25 8 <|
        lR sh h q25 s fun q27 =>
        ty sh q27 0 <|
        pI h q27 5 (1 : Int32) fun h30 =>
        gR h30 x0 7 fun q31 =>
        ty sh q31 8 <|
        lR sh h30 q31 s fun q33 =>
        ty sh q33 0 <|
        gI h30 q33 3 fun v36 =>
        if v36 = 0 then
          f_X1_takeOut sh x0 s h30 fun h38 =>
          rec (s + (-1 : Int32)) h38
        else
          rec (s + (-1 : Int32)) h30
    else
      rec (s + (-1 : Int32)) h

def b_X1_learn_0 (sh : Sh) (x0 : Nat) (x1 : Int32) (x2 : Nat) (x3 : Nat) (Xc : Hp → Prop) (rec : Unit → Hp → Prop) (s : Unit) (h : Hp) : Prop :=
  ty sh x0 1 <|
  gI h x0 0 fun v2 =>
  if x1 ≤ v2 then
    Xc h
  else
    gI h x0 0 fun v3 =>
    if (100 : Int32) ≤ v3 then
      Xc h
    else
      gI h x0 0 fun v4 =>
      ty sh x2 7 <|
      lI sh h x2 v4 fun v6 =>
      gI h x0 6 fun v8 =>
      lo (b_X1_learn_33 sh x0 x1 x2 x3 v6
        (fun  h39 =>
          gI h39 x0 0 fun v40 =>
          pI h39 x0 0 (v40 + (1 : Int32)) fun h41 =>
          rec () h41)) (v8 - (1 : Int32)) h

def f_X1_learn (sh : Sh) (a0 : Nat) (p1 : Int32) (p2 : Nat) (p3 : Nat) (h : Hp) (K : Hp → Prop) : Prop :=
  lo (b_X1_learn_0 sh a0 p1 p2 p3
    (fun  h42 =>
      K h42)) () h

def b_X1_leastVersionAtWork_2 (sh : Sh) (x0 : Nat) (x1 : Int32) (Xc : Hp → Prop) (K : Int32 → Hp → Prop) (rec : Int32 → Hp → Prop) (s : Int32) (h : Hp) : Prop :=
  ty sh x0 1 <|
  gI h x0 6 fun v2 =>
  if v2 ≤ s then
    Xc h
  else
    gR h x0 7 fun q3 =>
    ty sh q3 8 <|
    lR sh h q3 s fun q5 =>
    ty sh q5 0 <|
    gI h q5 0 fun v8 =>
    if v8 = x1 then
      gR h x0 7 fun q9 =>
      ty sh q9 8 <|
      lR sh h q9 s fun q11 =>
      ty sh q11 0 <|
      gI h q11 3 fun v14 =>
      if v14 ≤ 0 then
        rec (s + (1 : Int32)) h
      else
        gR h x0 7 fun q15 =>
        ty sh q15 8 <|
        lR sh h q15 s fun q17 =>
        ty sh q17 0 <|
        gI h q17 1 fun v20 =>
        K v20 h
    else
      rec (s + (1 : Int32)) h

def f_X1_leastVersionAtWork (sh : Sh) (a0 : Nat) (p1 : Int32) (h : Hp) (K : Int32 → Hp → Prop) : Prop :=
  lo (b_X1_leastVersionAtWork_2 sh a0 p1
    (fun  h21 =>
      K (-1 : Int32) h21) K) (0 : Int32) h

def b_X1_longestUnused_4 (sh : Sh) (x0 : Nat) (Xc : Int32 → Hp → Prop) (rec : Int32 × Int32 → Hp → Prop) (s : Int32 × Int32) (h : Hp) : Prop :=
  ty sh x0 1 <|
  gI h x0 6 fun v2 =>
  if v2 ≤ s.2 then
    Xc s.1 h
  else
    gR h x0 7 fun q3 =>
    ty sh q3 8 <|
    lR sh h q3 s.2 fun q5 =>
    ty sh q5 0 <|
    gI h q5 3 fun v8 =>
    if v8 = 0 then
      if s.1 < 0 then
        rec (s.2, s.2 + (1 : Int32)) h
      else
        gR h x0 7 fun q9 =>
        ty sh q9 8 <|
        lR sh h q9 s.2 fun q11 =>
        ty sh q11 0 <|
        gI h q11 4 fun v14 =>
        gR h x0 7 fun q15 =>
        ty sh q15 8 <|
        lR sh h q15 s.1 fun q17 =>
        ty sh q17 0 <|
        gI h q17 4 fun v20 =>
        if v20 ≤ v14 then
          rec (s.1, s.2 + (1 : Int32)) h
        else
          rec (s.2, s.2 + (1 : Int32)) h
    else
      rec (s.1, s.2 + (1 : Int32)) h

def f_X1_longestUnused (sh : Sh) (a0 : Nat) (h : Hp) (K : Int32 → Hp → Prop) : Prop :=
  lo (b_X1_longestUnused_4 sh a0
    (fun y21 h22 =>
      K y21 h22)) ((-1 : Int32), (0 : Int32)) h

def f_X5_contains (sh : Sh) (p0 : Int32) (p1 : Int32) (h : Hp) (K : Int32 → Hp → Prop) : Prop :=
  if ((p0 >>> (p1 &&& 31)) &&& (1 : Int32)) = (1 : Int32) then
    K (1 : Int32) h
  else
    K (0 : Int32) h

def b_X1_lowestBehind_5 (sh : Sh) (x0 : Nat) (x1 : Int32) (x2 : Int32) (Xc : Int32 → Hp → Prop) (rec : Int32 × Int32 → Hp → Prop) (s : Int32 × Int32) (h : Hp) : Prop :=
  if (4 : Int32) ≤ s.2 then
    Xc s.1 h
  else
    ty sh x0 1 <|
    gR h x0 8 fun q2 =>
    ty sh q2 11 <|
    lR sh h q2 s.2 fun q4 =>
    ty sh q4 4 <|
    gI h q4 0 fun v7 =>
    if v7 < 0 then
      rec (s.1, s.2 + (1 : Int32)) h
    else
      gI h q4 1 fun v8 =>
      f_X5_contains sh v8 x1 h fun r9 h10 =>
      if r9 = 0 then
        rec (s.1, s.2 + (1 : Int32)) h10
      else
        gR h10 q4 3 fun q11 =>
        ty sh q11 7 <|
        lI sh h10 q11 x1 fun v13 =>
        if x2 ≤ v13 then
          rec (s.1, s.2 + (1 : Int32)) h10
        else
          if s.1 < 0 then
            gI h10 q4 0 fun v15 =>
            rec (v15, s.2 + (1 : Int32)) h10
          else
            gI h10 q4 0 fun v16 =>
            if s.1 ≤ v16 then
              rec (s.1, s.2 + (1 : Int32)) h10
            else
              gI h10 q4 0 fun v17 =>
              rec (v17, s.2 + (1 : Int32)) h10

def f_X1_lowestBehind (sh : Sh) (a0 : Nat) (p1 : Int32) (p2 : Int32) (h : Hp) (K : Int32 → Hp → Prop) : Prop :=
  lo (b_X1_lowestBehind_5 sh a0 p1 p2
    (fun y18 h19 =>
      K y18 h19)) ((-1 : Int32), (0 : Int32)) h

def b_X1_putIn_17 (sh : Sh) (x0 : Nat) (x1 : Int32) (x2 : Int32) (x3 : Int32) (x4 : Nat) (Xc : Int32 → Hp → Prop) (rec : Int32 → Hp → Prop) (s : Int32) (h : Hp) : Prop :=
  if s ≤ 0 then
    Xc s h
  else
    ty sh x0 1 <|
    gR h x0 7 fun q9 =>
    ty sh q9 8 <|
    lR sh h q9 (s - (1 : Int32)) fun q11 =>
    ty sh q11 0 <|
    f_X0_comesBehind sh q11 x1 x2 h fun r14 h15 =>
    if r14 = 0 then
      Xc s h15
    else
      gR h15 x0 7 fun q16 =>
      gR h15 x0 7 fun q17 =>
      ty sh q17 8 <|
      lR sh h15 q17 (s - (1 : Int32)) fun q19 =>
      ty sh q16 8 <|
      ty sh q19 0 <|
      sR sh h15 q16 s q19 fun h23 =>
      rec (s + (-1 : Int32)) h23

def f_X1_putIn (sh : Sh) (a0 : Nat) (p1 : Int32) (p2 : Int32) (p3 : Int32) (h : Hp) (K : Int32 → Hp → Prop) : Prop :=
  ty sh a0 1 <|
  gR h a0 7 fun q2 =>
  gI h a0 6 fun v3 =>
  ty sh q2 8 <|
  lR sh h q2 v3 fun q5 =>
  gI h a0 6 fun v7 =>
  lo (b_X1_putIn_17 sh a0 p1 p2 p3 q5
    (fun y25 h26 =>
      gR h26 a0 7 fun q27 =>
      ty sh q27 8 <|
      ty sh q5 0 <|
      sR sh h26 q27 y25 q5 fun h30 =>
      pI h30 q5 0 p1 fun h32 =>
      pI h32 q5 1 p2 fun h33 =>
      pI h33 q5 2 p3 fun h34 =>
      pI h34 q5 3 (0 : Int32) fun h35 =>
      pI h35 q5 5 (0 : Int32) fun h36 =>
      gI h36 a0 6 fun v37 =>
      pI h36 a0 6 (v37 + (1 : Int32)) fun h38 =>
      K y25 h38)) v7 h

def f_X4_worksBy (sh : Sh) (a0 : Nat) (p1 : Nat) (h : Hp) (K : Int32 → Hp → Prop) : Prop :=
  ty sh a0 4 <|
  gI h a0 1 fun v2 =>
  ty sh p1 0 <|
  gI h p1 0 fun v4 =>
  f_X5_contains sh v2 v4 h fun r5 h6 =>
  if r5 = 0 then
    K (0 : Int32) h6
  else
    gR h6 a0 3 fun q7 =>
    gI h6 p1 0 fun v8 =>
    ty sh q7 7 <|
    lI sh h6 q7 v8 fun v10 =>
    gI h6 p1 1 fun v12 =>
    if v10 = v12 then
      K (1 : Int32) h6
    else
      K (0 : Int32) h6

def b_X1_shrinkTo_5 (sh : Sh) (x0 : Nat) (x1 : Int32) (Xc : Hp → Prop) (K : Hp → Prop) (rec : Int32 → Hp → Prop) (s : Int32) (h : Hp) : Prop :=
  if s ≤ x1 then
    Xc h
  else
    ty sh x0 1 <|
    f_X1_longestUnused sh x0 h fun r4 h5 =>
    if 0 ≤ r4 then
      f_X1_takeOut sh x0 r4 h5 fun h7 =>
      gI h7 x0 3 fun v8 =>
      pI h7 x0 3 (v8 + (1 : Int32)) fun h9 =>
      rec (s + (-1 : Int32)) h9
    else
      K h5

def f_X1_shrinkTo (sh : Sh) (a0 : Nat) (p1 : Int32) (h : Hp) (K : Hp → Prop) : Prop :=
  ty sh a0 1 <|
  gI h a0 6 fun v2 =>
  lo (b_X1_shrinkTo_5 sh a0 p1
    (fun  h10 =>
      K h10) K) v2 h

def b_X1_release_13 (sh : Sh) (x0 : Nat) (x1 : Nat) (x2 : Int32) (x3 : Int32) (Xc : Hp → Prop) (rec : Int32 → Hp → Prop) (s : Int32) (h : Hp) : Prop :=
  if s < 0 then
    Xc h
  else
    ty sh x0 1 <|
    gR h x0 7 fun q5 =>
    ty sh q5 8 <|
    lR sh h q5 s fun q7 =>
    ty sh x1 4 <|
    f_X4_worksBy sh x1 q7 h fun r10 h11 =>
    if r10 = 0 then
      rec (s + (-1 : Int32)) h11
    else
      ty sh q7 0 <|
      gI h11 q7 3 fun v13 =>
      pI h11 q7 3 (v13 - (1 : Int32)) fun h14 =>
      gI h14 q7 5 fun v15 =>
      if v15 = 0 then
        rec (s + (-1 : Int32)) h14
      else
        gI h14 q7 3 fun v16 =>
        if v16 = 0 then
          f_X1_takeOut sh x0 s h14 fun h18 =>
          rec (s + (-1 : Int32)) h18
        else
          rec (s + (-1 : Int32)) h14

def f_X1_release (sh : Sh) (a0 : Nat) (p1 : Nat) (p2 : Int32) (h : Hp) (K : Int32 → Hp → Prop) : Prop :=
  ty sh a0 1 <|
  gI h a0 6 fun v2 =>
  gI h a0 6 fun v3 =>
  lo (b_X1_release_13 sh a0 p1 p2 v2
    (fun  h19 =>
      ty sh p1 4 <|
      pI h19 p1 0 (-1 : Int32) fun h21 =>
      f_X1_shrinkTo sh a0 p2 h21 fun h23 =>
      gI h23 a0 6 fun v24 =>
      K (v2 - v24) h23)) (v3 - (1 : Int32)) h

def b_X1_staleInHand_4 (sh : Sh) (x0 : Nat) (Xc : Int32 → Hp → Prop) (rec : Int32 × Int32 → Hp → Prop) (s : Int32 × Int32) (h : Hp) : Prop :=
  ty sh x0 1 <|
  gI h x0 6 fun v2 =>
  if v2 ≤ s.2 then
    Xc s.1 h
  else
    gR h x0 7 fun q3 =>
    ty sh q3 8 <|
    lR sh h q3 s.2 fun q5 =>
    ty sh q5 0 <|
    gI h q5 5 fun v8 =>
    if v8 = 0 then
      rec (s.1, s.2 + (1 : Int32)) h
    else
      rec (s.1 + (1 : Int32), s.2 + (1 : Int32)) h

def f_X1_staleInHand (sh : Sh) (a0 : Nat) (h : Hp) (K : Int32 → Hp → Prop) : Prop :=
  lo (b_X1_staleInHand_4 sh a0
    (fun y9 h10 =>
      K y9 h10)) ((0 : Int32), (0 : Int32)) h

def b_X1_statementsAtWork_4 (sh : Sh) (x0 : Nat) (Xc : Int32 → Hp → Prop) (rec : Int32 × Int32 → Hp → Prop) (s : Int32 × Int32) (h : Hp) : Prop :=
  if (4 : Int32) ≤ s.2 then
    Xc s.1 h
  else
    ty sh x0 1 <|
    gR h x0 8 fun q2 =>
    ty sh q2 11 <|
    lR sh h q2 s.2 fun q4 =>
    ty sh q4 4 <|
    gI h q4 0 fun v7 =>
    if v7 < 0 then
      rec (s.1, s.2 + (1 : Int32)) h
    else
      rec (s.1 + (1 : Int32), s.2 + (1 : Int32)) h

def f_X1_statementsAtWork (sh : Sh) (a0 : Nat) (h : Hp) (K : Int32 → Hp → Prop) : Prop :=
  lo (b_X1_statementsAtWork_4 sh a0
    (fun y8 h9 =>
      K y8 h9)) ((0 : Int32), (0 : Int32)) h

def f_X1_use (sh : Sh) (a0 : Nat) (p1 : Nat) (p2 : Int32) (p3 : Int32) (p4 : Int32) (p5 : Int32) (h : Hp) (K : Int32 → Hp → Prop) : Prop :=
  ty sh a0 1 <|
  f_X1_freshEntryOf sh a0 p2 h fun r2 h3 =>
  if r2 < 0 then
    f_X1_shrinkTo sh a0 (p5 - (1 : Int32)) h3 fun h5 =>
    gI h5 a0 6 fun v6 =>
    if p5 ≤ v6 then
      K (0 : Int32) h5
    else
      gI h5 a0 6 fun v7 =>
      if v7 < (8 : Int32) then
        f_X1_putIn sh a0 p2 p3 p4 h5 fun r8 h9 =>
        gI h9 a0 2 fun v10 =>
        pI h9 a0 2 (v10 + (1 : Int32)) fun h11 =>
        gR h11 a0 7 fun q12 =>
        ty sh q12 8 <|
        lR sh h11 q12 r8 fun q14 =>
        ty sh p1 4 <|
        gI h11 p1 0 fun v17 =>
        ty sh q14 0 <|
        pI h11 q14 4 v17 fun h19 =>
        gI h19 q14 3 fun v20 =>
        pI h19 q14 3 (v20 + (1 : Int32)) fun h21 =>
        gR h21 p1 3 fun q22 =>
        gI h21 q14 1 fun v23 =>
        ty sh q22 7 <|
        sI sh h21 q22 p2 v23 fun h25 =>
        K (1 : Int32) h25
      else
        K (0 : Int32) h5
  else
    gI h3 a0 1 fun v27 =>
    pI h3 a0 1 (v27 + (1 : Int32)) fun h28 =>
    gR h28 a0 7 fun q29 =>
    ty sh q29 8 <|
    lR sh h28 q29 r2 fun q31 =>
    ty sh p1 4 <|
    gI h28 p1 0 fun v34 =>
    ty sh q31 0 <|
    pI h28 q31 4 v34 fun h36 =>
    gI h36 q31 3 fun v37 =>
    pI h36 q31 3 (v37 + (1 : Int32)) fun h38 =>
    gR h38 p1 3 fun q39 =>
    gI h38 q31 1 fun v40 =>
    ty sh q39 7 <|
    sI sh h38 q39 p2 v40 fun h42 =>
    K (1 : Int32) h42

def f_X1_workOf (sh : Sh) (a0 : Nat) (p1 : Int32) (h : Hp) (K : Option Nat → Hp → Prop) : Prop :=
  if 0 ≤ p1 then
    ty sh a0 1 <|
    f_X1_workWithNumber sh a0 p1 h fun r2 h3 =>
    K r2 h3
  else
    K none h

def b_X2_adjust_55 (sh : Sh) (x0 : Nat) (x3 : Int32) (Xc : Hp → Prop) (rec : Int32 → Hp → Prop) (s : Int32) (h : Hp) : Prop :=
  if (4 : Int32) ≤ s then
    Xc h
  else
    ty sh x0 2 <|
    gR h x0 11 fun q5 =>
    ty sh q5 9 <|
    lR sh h q5 s fun q7 =>
    gI h x0 2 fun v9 =>
    ty sh q7 1 <|
    f_X1_shrinkTo sh q7 v9 h fun h12 =>
    rec (s + (1 : Int32)) h12

def f_X2_adjust (sh : Sh) (a0 : Nat) (p1 : Int32) (p2 : Int32) (h : Hp) (K : Int32 → Hp → Prop) : Prop :=
  if p1 = 0 then
    if p2 < 0 then
      if p1 = (1 : Int32) then
        if p2 < (1 : Int32) then
          K (-1 : Int32) h
        else
          if (8 : Int32) < p2 then
            K (-1 : Int32) h
          else
            ty sh a0 2 <|
            gI h a0 2 fun v15 =>
            pI h a0 2 p2 fun h16 =>
            lo (b_X2_adjust_55 sh a0 v15
              (fun  h17 =>
                K v15 h17)) (0 : Int32) h16
      else
        K (-1 : Int32) h
    else
      if (20 : Int32) < p2 then
        if p1 = (1 : Int32) then
          if p2 < (1 : Int32) then
            K (-1 : Int32) h
          else
            if (8 : Int32) < p2 then
              K (-1 : Int32) h
            else
              ty sh a0 2 <|
              gI h a0 2 fun v19 =>
              pI h a0 2 p2 fun h20 =>
              lo (b_X2_adjust_55 sh a0 v19
                (fun  h21 =>
                  K v19 h21)) (0 : Int32) h20
        else
          K (-1 : Int32) h
      else
        ty sh a0 2 <|
        gI h a0 1 fun v23 =>
        pI h a0 1 p2 fun h24 =>
        K v23 h24
  else
    if p1 = (1 : Int32) then
      if p2 < (1 : Int32) then
        K (-1 : Int32) h
      else
        if (8 : Int32) < p2 then
          K (-1 : Int32) h
        else
          ty sh a0 2 <|
          gI h a0 2 fun v2 =>
          pI h a0 2 p2 fun h3 =>
          lo (b_X2_adjust_55 sh a0 v2
            (fun  h13 =>
              K v2 h13)) (0 : Int32) h3
    else
      K (-1 : Int32) h

def b_X2_arrive_2 (sh : Sh) (x0 : Nat) (x1 : Int32) (Xc : Hp → Prop) (rec : Int32 → Hp → Prop) (s : Int32) (h : Hp) : Prop :=
  if (4 : Int32) ≤ s then
    Xc h
  else
    ty sh x0 2 <|
    gR h x0 11 fun q2 =>
    ty sh q2 9 <|
    lR sh h q2 s fun q4 =>
    ty sh q4 1 <|
    gI h q4 0 fun v7 =>
    if v7 ≤ x1 then
      gR h x0 11 fun q8 =>
      ty sh q8 9 <|
      lR sh h q8 s fun q10 =>
      gR h x0 6 fun q12 =>
      gR h x0 3 fun q13 =>
      ty sh q10 1 <|
      f_X1_learn sh q10 (x1 + (1 : Int32)) q12 q13 h fun h16 =>
      rec (s + (1 : Int32)) h16
    else
      gR h x0 11 fun q17 =>
      ty sh q17 9 <|
      lR sh h q17 s fun q19 =>
      ty sh q19 1 <|
      gI h q19 5 fun v22 =>
      pI h q19 5 (v22 + (1 : Int32)) fun h23 =>
      rec (s + (1 : Int32)) h23

def f_X2_arrive (sh : Sh) (a0 : Nat) (p1 : Int32) (h : Hp) (K : Hp → Prop) : Prop :=
  lo (b_X2_arrive_2 sh a0 p1
    (fun  h24 =>
      K h24)) (0 : Int32) h

def b_X2_begin_117 (sh : Sh) (x0 : Nat) (x1 : Int32) (x2 : Int32) (x3 : Nat) (x4 : Nat) (Xc : Hp → Prop) (K : Int32 → Hp → Prop) (rec : Int32 → Hp → Prop) (s : Int32) (h : Hp) : Prop :=
  if (6 : Int32) ≤ s then
    Xc h
  else
    f_X5_contains sh x2 s h fun r19 h20 =>
    if r19 = 0 then
      rec (s + (1 : Int32)) h20
    else
      ty sh x0 2 <|
      gR h20 x0 3 fun q22 =>
      ty sh q22 7 <|
      lI sh h20 q22 s fun v24 =>
      gR h20 x0 4 fun q26 =>
      ty sh q26 7 <|
      lI sh h20 q26 s fun v28 =>
      gI h20 x0 2 fun v30 =>
      ty sh x3 1 <|
      f_X1_use sh x3 x4 s v24 v28 v30 h20 fun r32 h33 =>
      if r32 = 0 then
        K (-3 : Int32) h33
      else
        rec (s + (1 : Int32)) h33

def f_X2_begin (sh : Sh) (a0 : Nat) (p1 : Int32) (p2 : Int32) (h : Hp) (K : Int32 → Hp → Prop) : Prop :=
  if p1 < 0 then
    K (-1 : Int32) h
  else
    if (4 : Int32) ≤ p1 then
      K (-1 : Int32) h
    else
      if p2 < (1 : Int32) then
        K (-1 : Int32) h
      else
        if p2 ≤ (63 : Int32) then
          ty sh a0 2 <|
          gR h a0 11 fun q2 =>
          ty sh q2 9 <|
          lR sh h q2 p1 fun q4 =>
          ty sh q4 1 <|
          f_X1_idleWork sh q4 h fun r7 h8 =>
          nn r7
            (K (-3 : Int32) h8)
          fun q9 =>
            gI h8 a0 8 fun v10 =>
            if v10 < (999 : Int32) then
              gI h8 q4 0 fun v11 =>
              gI h8 a0 5 fun v12 =>
              if v12 ≤ v11 then
                gI h8 a0 8 fun v13 =>
                ty sh q9 4 <|
                pI h8 q9 0 v13 fun h15 =>
                pI h15 q9 1 p2 fun h16 =>
                gI h16 a0 0 fun v17 =>
                pI h16 q9 2 v17 fun h18 =>
                lo (b_X2_begin_117 sh a0 p1 p2 q4 q9
                  (fun  h34 =>
                    gR h34 a0 9 fun q35 =>
                    gI h34 a0 8 fun v36 =>
                    ty sh q35 7 <|
                    sI sh h34 q35 (v36 - v36 / (12 : Int32) * (12 : Int32)) p1 fun h38 =>
                    gR h38 a0 10 fun q40 =>
                    gI h38 a0 8 fun v41 =>
                    ty sh q40 7 <|
                    sI sh h38 q40 (v41 - v41 / (12 : Int32) * (12 : Int32)) p2 fun h43 =>
                    gI h43 a0 8 fun v45 =>
                    pI h43 a0 8 (v45 + (1 : Int32)) fun h46 =>
                    gI h46 q9 0 fun v47 =>
                    K v47 h46) K) (0 : Int32) h18
              else
                gI h8 a0 5 fun v48 =>
                gR h8 a0 6 fun q49 =>
                gR h8 a0 3 fun q50 =>
                f_X1_learn sh q4 v48 q49 q50 h8 fun h52 =>
                gI h52 q4 4 fun v53 =>
                pI h52 q4 4 (v53 + (1 : Int32)) fun h54 =>
                gI h54 a0 8 fun v55 =>
                ty sh q9 4 <|
                pI h54 q9 0 v55 fun h57 =>
                pI h57 q9 1 p2 fun h58 =>
                gI h58 a0 0 fun v59 =>
                pI h58 q9 2 v59 fun h60 =>
                lo (b_X2_begin_117 sh a0 p1 p2 q4 q9
                  (fun  h61 =>
                    gR h61 a0 9 fun q62 =>
                    gI h61 a0 8 fun v63 =>
                    ty sh q62 7 <|
                    sI sh h61 q62 (v63 - v63 / (12 : Int32) * (12 : Int32)) p1 fun h65 =>
                    gR h65 a0 10 fun q67 =>
                    gI h65 a0 8 fun v68 =>
                    ty sh q67 7 <|
                    sI sh h65 q67 (v68 - v68 / (12 : Int32) * (12 : Int32)) p2 fun h70 =>
                    gI h70 a0 8 fun v72 =>
                    pI h70 a0 8 (v72 + (1 : Int32)) fun h73 =>
                    gI h73 q9 0 fun v74 =>
                    K v74 h73) K) (0 : Int32) h60
            else
              K (-3 : Int32) h8
        else
          K (-1 : Int32) h

def b_X2_leastVersionAtWork_5 (sh : Sh) (x0 : Nat) (x1 : Int32) (Xc : Int32 → Hp → Prop) (rec : Int32 × Int32 → Hp → Prop) (s : Int32 × Int32) (h : Hp) : Prop :=
  if (4 : Int32) ≤ s.2 then
    Xc s.1 h
  else
    ty sh x0 2 <|
    gR h x0 11 fun q2 =>
    ty sh q2 9 <|
    lR sh h q2 s.2 fun q4 =>
    ty sh q4 1 <|
    f_X1_leastVersionAtWork sh q4 x1 h fun r7 h8 =>
    if r7 < 0 then
      rec (s.1, s.2 + (1 : Int32)) h8
    else
      if s.1 < 0 then
        rec (r7, s.2 + (1 : Int32)) h8
      else
        if s.1 ≤ r7 then
          rec (s.1, s.2 + (1 : Int32)) h8
        else
          rec (r7, s.2 + (1 : Int32)) h8

def f_X2_leastVersionAtWork (sh : Sh) (a0 : Nat) (p1 : Int32) (h : Hp) (K : Int32 → Hp → Prop) : Prop :=
  lo (b_X2_leastVersionAtWork_5 sh a0 p1
    (fun y9 h10 =>
      K y9 h10)) ((-4 : Int32), (0 : Int32)) h

def f_X2_canChange (sh : Sh) (a0 : Nat) (p1 : Int32) (h : Hp) (K : Int32 → Hp → Prop) : Prop :=
  ty sh a0 2 <|
  f_X2_leastVersionAtWork sh a0 p1 h fun r2 h3 =>
  if r2 < 0 then
    K (1 : Int32) h3
  else
    gR h3 a0 3 fun q4 =>
    ty sh q4 7 <|
    lI sh h3 q4 p1 fun v6 =>
    if r2 < v6 then
      K (0 : Int32) h3
    else
      K (1 : Int32) h3

def f_X2_changeTable (sh : Sh) (a0 : Nat) (p1 : Int32) (p2 : Int32) (h : Hp) (K : Int32 → Hp → Prop) : Prop :=
  if p1 < 0 then
    K (-1 : Int32) h
  else
    if (6 : Int32) ≤ p1 then
      K (-1 : Int32) h
    else
      if p2 < 0 then
        K (-1 : Int32) h
      else
        if p2 < (8 : Int32) then
          ty sh a0 2 <|
          gR h a0 4 fun q2 =>
          ty sh q2 7 <|
          lI sh h q2 p1 fun v4 =>
          if (v4 ^^^ ((1 : Int32) <<< (p2 &&& 31))) = 0 then
            K (-2 : Int32) h
          else
            f_X2_canChange sh a0 p1 h fun r6 h7 =>
            if r6 = 0 then
              K (-2 : Int32) h7
            else
              gI h7 a0 5 fun v8 =>
              if v8 < (100 : Int32) then
                gR h7 a0 4 fun q9 =>
                ty sh q9 7 <|
                sI sh h7 q9 p1 (v4 ^^^ ((1 : Int32) <<< (p2 &&& 31))) fun h11 =>
                gR h11 a0 3 fun q13 =>
                ty sh q13 7 <|
                lI sh h11 q13 p1 fun v15 =>
                sI sh h11 q13 p1 (v15 + (1 : Int32)) fun h17 =>
                gR h17 a0 6 fun q19 =>
                gI h17 a0 5 fun v20 =>
                ty sh q19 7 <|
                sI sh h17 q19 v20 p1 fun h22 =>
                gR h22 a0 7 fun q24 =>
                gI h22 a0 5 fun v25 =>
                gI h22 a0 0 fun v26 =>
                gI h22 a0 1 fun v27 =>
                ty sh q24 7 <|
                sI sh h22 q24 v25 (v26 + v27) fun h29 =>
                gI h29 a0 5 fun v31 =>
                pI h29 a0 5 (v31 + (1 : Int32)) fun h32 =>
                gI h32 a0 1 fun v33 =>
                if v33 = 0 then
                  gI h32 a0 5 fun v38 =>
                  f_X2_arrive sh a0 (v38 - (1 : Int32)) h32 fun h40 =>
                  gR h40 a0 3 fun q41 =>
                  ty sh q41 7 <|
                  lI sh h40 q41 p1 fun v43 =>
                  K v43 h40
                else
                  gR h32 a0 3 fun q34 =>
                  ty sh q34 7 <|
                  lI sh h32 q34 p1 fun v36 =>
                  K v36 h32
              else
                K (-3 : Int32) h7
        else
          K (-1 : Int32) h

def b_X2_clear_27 (sh : Sh) (x0 : Nat) (Xc : Hp → Prop) (rec : Int32 → Hp → Prop) (s : Int32) (h : Hp) : Prop :=
  if (6 : Int32) ≤ s then
    Xc h
  else
    ty sh x0 2 <|
    gR h x0 3 fun q8 =>
    ty sh q8 7 <|
    sI sh h q8 s (0 : Int32) fun h10 =>
    gR h10 x0 4 fun q12 =>
    ty sh q12 7 <|
    sI sh h10 q12 s (1 : Int32) fun h14 =>
    rec (s + (1 : Int32)) h14

def b_X2_clear_55 (sh : Sh) (x0 : Nat) (Xc : Hp → Prop) (rec : Int32 → Hp → Prop) (s : Int32) (h : Hp) : Prop :=
  if (4 : Int32) ≤ s then
    Xc h
  else
    ty sh x0 2 <|
    gR h x0 11 fun q18 =>
    ty sh q18 9 <|
    lR sh h q18 s fun q20 =>
    ty sh q20 1 <|
    f_X1_clear sh q20 h fun h24 =>
    rec (s + (1 : Int32)) h24

def f_X2_clear (sh : Sh) (a0 : Nat) (h : Hp) (K : Hp → Prop) : Prop :=
  ty sh a0 2 <|
  pI h a0 0 (0 : Int32) fun h2 =>
  pI h2 a0 1 (3 : Int32) fun h3 =>
  pI h3 a0 2 (3 : Int32) fun h4 =>
  pI h4 a0 5 (0 : Int32) fun h5 =>
  pI h5 a0 8 (0 : Int32) fun h6 =>
  lo (b_X2_clear_27 sh a0
    (fun  h16 =>
      lo (b_X2_clear_55 sh a0
        (fun  h25 =>
          K h25)) (0 : Int32) h16)) (0 : Int32) h6

def b_X2_copyFrom_42 (sh : Sh) (x0 : Nat) (x1 : Nat) (Xc : Hp → Prop) (rec : Int32 → Hp → Prop) (s : Int32) (h : Hp) : Prop :=
  if (6 : Int32) ≤ s then
    Xc h
  else
    ty sh x0 2 <|
    gR h x0 3 fun q14 =>
    ty sh x1 2 <|
    gR h x1 3 fun q16 =>
    ty sh q16 7 <|
    lI sh h q16 s fun v18 =>
    ty sh q14 7 <|
    sI sh h q14 s v18 fun h21 =>
    gR h21 x0 4 fun q23 =>
    gR h21 x1 4 fun q24 =>
    ty sh q24 7 <|
    lI sh h21 q24 s fun v26 =>
    ty sh q23 7 <|
    sI sh h21 q23 s v26 fun h29 =>
    rec (s + (1 : Int32)) h29

def b_X2_copyFrom_80 (sh : Sh) (x0 : Nat) (x1 : Nat) (Xc : Hp → Prop) (rec : Int32 → Hp → Prop) (s : Int32) (h : Hp) : Prop :=
  ty sh x0 2 <|
  gI h x0 5 fun v33 =>
  if v33 ≤ s then
    Xc h
  else
    if (100 : Int32) ≤ s then
      Xc h
    else
      gR h x0 6 fun q34 =>
      ty sh x1 2 <|
      gR h x1 6 fun q36 =>
      ty sh q36 7 <|
      lI sh h q36 s fun v38 =>
      ty sh q34 7 <|
      sI sh h q34 s v38 fun h41 =>
      gR h41 x0 7 fun q43 =>
      gR h41 x1 7 fun q44 =>
      ty sh q44 7 <|
      lI sh h41 q44 s fun v46 =>
      ty sh q43 7 <|
      sI sh h41 q43 s v46 fun h49 =>
      rec (s + (1 : Int32)) h49

def b_X2_copyFrom_126 (sh : Sh) (x0 : Nat) (x1 : Nat) (Xc : Hp → Prop) (rec : Int32 → Hp → Prop) (s : Int32) (h : Hp) : Prop :=
  if (12 : Int32) ≤ s then
    Xc h
  else
    ty sh x0 2 <|
    gR h x0 9 fun q53 =>
    ty sh x1 2 <|
    gR h x1 9 fun q55 =>
    ty sh q55 7 <|
    lI sh h q55 s fun v57 =>
    ty sh q53 7 <|
    sI sh h q53 s v57 fun h60 =>
    gR h60 x0 10 fun q62 =>
    gR h60 x1 10 fun q63 =>
    ty sh q63 7 <|
    lI sh h60 q63 s fun v65 =>
    ty sh q62 7 <|
    sI sh h60 q62 s v65 fun h68 =>
    rec (s + (1 : Int32)) h68

def b_X2_copyFrom_164 (sh : Sh) (x0 : Nat) (x1 : Nat) (Xc : Hp → Prop) (rec : Int32 → Hp → Prop) (s : Int32) (h : Hp) : Prop :=
  if (4 : Int32) ≤ s then
    Xc h
  else
    ty sh x0 2 <|
    gR h x0 11 fun q72 =>
    ty sh q72 9 <|
    lR sh h q72 s fun q74 =>
    ty sh x1 2 <|
    gR h x1 11 fun q77 =>
    ty sh q77 9 <|
    lR sh h q77 s fun q79 =>
    ty sh q74 1 <|
    f_X1_copyFrom sh q74 q79 h fun h83 =>
    rec (s + (1 : Int32)) h83

def f_X2_copyFrom (sh : Sh) (a0 : Nat) (p1 : Nat) (h : Hp) (K : Hp → Prop) : Prop :=
  ty sh p1 2 <|
  gI h p1 0 fun v2 =>
  ty sh a0 2 <|
  pI h a0 0 v2 fun h4 =>
  gI h4 p1 1 fun v5 =>
  pI h4 a0 1 v5 fun h6 =>
  gI h6 p1 2 fun v7 =>
  pI h6 a0 2 v7 fun h8 =>
  gI h8 p1 5 fun v9 =>
  pI h8 a0 5 v9 fun h10 =>
  gI h10 p1 8 fun v11 =>
  pI h10 a0 8 v11 fun h12 =>
  lo (b_X2_copyFrom_42 sh a0 p1
    (fun  h31 =>
      lo (b_X2_copyFrom_80 sh a0 p1
        (fun  h51 =>
          lo (b_X2_copyFrom_126 sh a0 p1
            (fun  h70 =>
              lo (b_X2_copyFrom_164 sh a0 p1
                (fun  h84 =>
                  K h84)) (0 : Int32) h70)) (0 : Int32) h51)) (0 : Int32) h31)) (0 : Int32) h12

def b_X2_finish_8 (sh : Sh) (x0 : Nat) (x1 : Int32) (Xc : Hp → Prop) (K : Int32 → Hp → Prop) (rec : Int32 → Hp → Prop) (s : Int32) (h : Hp) : Prop :=
  if (4 : Int32) ≤ s then
    Xc h
  else
    ty sh x0 2 <|
    gR h x0 11 fun q2 =>
    ty sh q2 9 <|
    lR sh h q2 s fun q4 =>
    ty sh q4 1 <|
    f_X1_workOf sh q4 x1 h fun r7 h8 =>
    nn r7
      (rec (s + (1 : Int32)) h8)
    fun q9 =>
      gR h8 x0 11 fun q10 =>
      ty sh q10 9 <|
      lR sh h8 q10 s fun q12 =>
      gI h8 x0 2 fun v14 =>
      ty sh q12 1 <|
      f_X1_release sh q12 q9 v14 h8 fun r16 h17 =>
      K r16 h17

def f_X2_finish (sh : Sh) (a0 : Nat) (p1 : Int32) (h : Hp) (K : Int32 → Hp → Prop) : Prop :=
  if 0 ≤ p1 then
    lo (b_X2_finish_8 sh a0 p1
      (fun  h18 =>
        K (-2 : Int32) h18) K) (0 : Int32) h
  else
    K (-1 : Int32) h

def b_X2_handsWith_4 (sh : Sh) (x0 : Nat) (x1 : Int32) (Xc : Int32 → Hp → Prop) (rec : Int32 × Int32 → Hp → Prop) (s : Int32 × Int32) (h : Hp) : Prop :=
  if (4 : Int32) ≤ s.2 then
    Xc s.1 h
  else
    ty sh x0 2 <|
    gR h x0 11 fun q2 =>
    ty sh q2 9 <|
    lR sh h q2 s.2 fun q4 =>
    ty sh q4 1 <|
    f_X1_freshEntryOf sh q4 x1 h fun r7 h8 =>
    if r7 < 0 then
      rec (s.1, s.2 + (1 : Int32)) h8
    else
      rec (s.1 + (1 : Int32), s.2 + (1 : Int32)) h8

def f_X2_handsWith (sh : Sh) (a0 : Nat) (p1 : Int32) (h : Hp) (K : Int32 → Hp → Prop) : Prop :=
  lo (b_X2_handsWith_4 sh a0 p1
    (fun y9 h10 =>
      K y9 h10)) ((0 : Int32), (0 : Int32)) h

def b_X2_loadsOfAll_4 (sh : Sh) (x0 : Nat) (Xc : Int32 → Hp → Prop) (rec : Int32 × Int32 → Hp → Prop) (s : Int32 × Int32) (h : Hp) : Prop :=
  if (4 : Int32) ≤ s.2 then
    Xc s.1 h
  else
    ty sh x0 2 <|
    gR h x0 11 fun q2 =>
    ty sh q2 9 <|
    lR sh h q2 s.2 fun q4 =>
    ty sh q4 1 <|
    gI h q4 2 fun v7 =>
    rec (s.1 + v7, s.2 + (1 : Int32)) h

def f_X2_loadsOfAll (sh : Sh) (a0 : Nat) (h : Hp) (K : Int32 → Hp → Prop) : Prop :=
  lo (b_X2_loadsOfAll_4 sh a0
    (fun y8 h9 =>
      K y8 h9)) ((0 : Int32), (0 : Int32)) h

def b_X2_noticesOnTheirWay_4 (sh : Sh) (x0 : Nat) (Xc : Int32 → Hp → Prop) (rec : Int32 × Int32 → Hp → Prop) (s : Int32 × Int32) (h : Hp) : Prop :=
  ty sh x0 2 <|
  gI h x0 5 fun v2 =>
  if v2 ≤ s.2 then
    Xc s.1 h
  else
    if (100 : Int32) ≤ s.2 then
      Xc s.1 h
    else
      gR h x0 7 fun q3 =>
      ty sh q3 7 <|
      lI sh h q3 s.2 fun v5 =>
      gI h x0 0 fun v7 =>
      if v5 ≤ v7 then
        rec (s.1, s.2 + (1 : Int32)) h
      else
        rec (s.1 + (1 : Int32), s.2 + (1 : Int32)) h

def f_X2_noticesOnTheirWay (sh : Sh) (a0 : Nat) (h : Hp) (K : Int32 → Hp → Prop) : Prop :=
  lo (b_X2_noticesOnTheirWay_4 sh a0
    (fun y8 h9 =>
      K y8 h9)) ((0 : Int32), (0 : Int32)) h

def b_X2_pass_34 (sh : Sh) (x0 : Nat) (x1 : Int32) (x3 : Int32) (x4 : Int32) (Xc : Int32 → Hp → Prop) (rec : Int32 × Int32 → Hp → Prop) (s : Int32 × Int32) (h : Hp) : Prop :=
  ty sh x0 2 <|
  gI h x0 5 fun v3 =>
  if v3 ≤ s.2 then
    Xc s.1 h
  else
    if (100 : Int32) ≤ s.2 then
      Xc s.1 h
    else
      gR h x0 7 fun q4 =>
      ty sh q4 7 <|
      lI sh h q4 s.2 fun v6 =>
      gI h x0 0 fun v8 =>
      if v6 = (v8 + x4) then
        f_X2_arrive sh x0 s.2 h fun h10 =>
        rec (s.1 + (4 : Int32), s.2 + (1 : Int32)) h10
      else
        rec (s.1, s.2 + (1 : Int32)) h

def b_X2_pass_25 (sh : Sh) (x0 : Nat) (x1 : Int32) (x3 : Int32) (Xc : Int32 → Hp → Prop) (rec : Int32 × Int32 → Hp → Prop) (s : Int32 × Int32) (h : Hp) : Prop :=
  if x3 < s.2 then
    Xc s.1 h
  else
    lo (b_X2_pass_34 sh x0 x1 x3 s.2
      (fun y11 h12 =>
        rec (y11, s.2 + (1 : Int32)) h12)) (s.1, (0 : Int32)) h

def f_X2_pass (sh : Sh) (a0 : Nat) (p1 : Int32) (h : Hp) (K : Int32 → Hp → Prop) : Prop :=
  if p1 < (1 : Int32) then
    K (-1 : Int32) h
  else
    if p1 ≤ (99 : Int32) then
      ev (if (20 : Int32) < p1 then (20 : Int32) else p1) fun v1 =>
      lo (b_X2_pass_25 sh a0 p1 v1
        (fun y13 h14 =>
          ty sh a0 2 <|
          gI h14 a0 0 fun v16 =>
          pI h14 a0 0 (v16 + p1) fun h17 =>
          K y13 h17)) ((0 : Int32), (1 : Int32)) h
    else
      K (-1 : Int32) h

def f_X2_obey (sh : Sh) (a0 : Nat) (p1 : Int32) (p2 : Int32) (p3 : Int32) (h : Hp) (K : Int32 → Hp → Prop) : Prop :=
  if p1 = (99 : Int32) then
    ty sh a0 2 <|
    f_X2_changeTable sh a0 p2 p3 h fun r2 h3 =>
    K r2 h3
  else
    if p1 = (101 : Int32) then
      ty sh a0 2 <|
      f_X2_finish sh a0 p2 h fun r5 h6 =>
      K r5 h6
    else
      if p1 = (115 : Int32) then
        ty sh a0 2 <|
        f_X2_begin sh a0 p2 p3 h fun r8 h9 =>
        K r8 h9
      else
        if p1 = (116 : Int32) then
          ty sh a0 2 <|
          f_X2_pass sh a0 p2 h fun r11 h12 =>
          K r11 h12
        else
          K (-1 : Int32) h

def b_X2_sessionWith_2 (sh : Sh) (x0 : Nat) (x1 : Int32) (Xc : Hp → Prop) (K : Int32 → Hp → Prop) (rec : Int32 → Hp → Prop) (s : Int32) (h : Hp) : Prop :=
  if (4 : Int32) ≤ s then
    Xc h
  else
    ty sh x0 2 <|
    gR h x0 11 fun q2 =>
    ty sh q2 9 <|
    lR sh h q2 s fun q4 =>
    ty sh q4 1 <|
    f_X1_workOf sh q4 x1 h fun r7 h8 =>
    nn r7
      (rec (s + (1 : Int32)) h8)
    fun q9 =>
      K s h8

def f_X2_sessionWith (sh : Sh) (a0 : Nat) (p1 : Int32) (h : Hp) (K : Int32 → Hp → Prop) : Prop :=
  lo (b_X2_sessionWith_2 sh a0 p1
    (fun  h10 =>
      K (-1 : Int32) h10) K) (0 : Int32) h

def b_X2_statementsAtWork_4 (sh : Sh) (x0 : Nat) (Xc : Int32 → Hp → Prop) (rec : Int32 × Int32 → Hp → Prop) (s : Int32 × Int32) (h : Hp) : Prop :=
  if (4 : Int32) ≤ s.2 then
    Xc s.1 h
  else
    ty sh x0 2 <|
    gR h x0 11 fun q2 =>
    ty sh q2 9 <|
    lR sh h q2 s.2 fun q4 =>
    ty sh q4 1 <|
    f_X1_statementsAtWork sh q4 h fun r7 h8 =>
    rec (s.1 + r7, s.2 + (1 : Int32)) h8

def f_X2_statementsAtWork (sh : Sh) (a0 : Nat) (h : Hp) (K : Int32 → Hp → Prop) : Prop :=
  lo (b_X2_statementsAtWork_4 sh a0
    (fun y9 h10 =>
      K y9 h10)) ((0 : Int32), (0 : Int32)) h

def b_X2_tablesThatCanChange_4 (sh : Sh) (x0 : Nat) (Xc : Int32 → Hp → Prop) (rec : Int32 × Int32 → Hp → Prop) (s : Int32 × Int32) (h : Hp) : Prop :=
  if (6 : Int32) ≤ s.2 then
    Xc s.1 h
  else
    ty sh x0 2 <|
    f_X2_canChange sh x0 s.2 h fun r2 h3 =>
    if r2 = 0 then
      rec (s.1, s.2 + (1 : Int32)) h3
    else
      rec (s.1 ||| ((1 : Int32) <<< (s.2 &&& 31)), s.2 + (1 : Int32)) h3

def f_X2_tablesThatCanChange (sh : Sh) (a0 : Nat) (h : Hp) (K : Int32 → Hp → Prop) : Prop :=
  lo (b_X2_tablesThatCanChange_4 sh a0
    (fun y4 h5 =>
      K y4 h5)) ((0 : Int32), (0 : Int32)) h

def f_X3_signAt (sh : Sh) (a0 : Nat) (p1 : Int32) (h : Hp) (K : Int32 → Hp → Prop) : Prop :=
  if p1 < 0 then
    K (-1 : Int32) h
  else
    ty sh a0 3 <|
    gI h a0 1 fun v2 =>
    if v2 ≤ p1 then
      K (-1 : Int32) h
    else
      if (60 : Int32) ≤ p1 then
        K (-1 : Int32) h
      else
        gR h a0 0 fun q3 =>
        ty sh q3 7 <|
        lI sh h q3 p1 fun v5 =>
        K v5 h

def b_X3_readNumber_4 (sh : Sh) (x0 : Nat) (Xc : Int32 → Hp → Prop) (K : Int32 → Hp → Prop) (rec : Int32 × Int32 → Hp → Prop) (s : Int32 × Int32) (h : Hp) : Prop :=
  if (3 : Int32) ≤ s.2 then
    Xc s.1 h
  else
    ty sh x0 3 <|
    gI h x0 5 fun v2 =>
    f_X3_signAt sh x0 v2 h fun r3 h4 =>
    if r3 < (48 : Int32) then
      K s.1 h4
    else
      if r3 ≤ (57 : Int32) then
        ev (if s.1 < (0 : Int32) then (0 : Int32) else s.1) fun v5 =>
        gI h4 x0 5 fun v6 =>
        pI h4 x0 5 (v6 + (1 : Int32)) fun h7 =>
        rec ((v5 * (10 : Int32)) + (r3 - (48 : Int32)), s.2 + (1 : Int32)) h7
      else
        K s.1 h4

def f_X3_readNumber (sh : Sh) (a0 : Nat) (h : Hp) (K : Int32 → Hp → Prop) : Prop :=
  lo (b_X3_readNumber_4 sh a0
    (fun y8 h9 =>
      K y8 h9) K) ((-1 : Int32), (0 : Int32)) h

def f_X3_readCommand (sh : Sh) (a0 : Nat) (p1 : Int32) (h : Hp) (K : Int32 → Hp → Prop) : Prop :=
  ty sh a0 3 <|
  f_X3_signAt sh a0 p1 h fun r2 h3 =>
  pI h3 a0 2 r2 fun h4 =>
  pI h4 a0 5 (p1 + (1 : Int32)) fun h5 =>
  f_X3_readNumber sh a0 h5 fun r6 h7 =>
  pI h7 a0 3 r6 fun h8 =>
  pI h8 a0 4 (0 : Int32) fun h9 =>
  gI h9 a0 2 fun v10 =>
  if v10 = (99 : Int32) then
    gI h9 a0 3 fun v11 =>
    if v11 < 0 then
      K (0 : Int32) h9
    else
      gI h9 a0 5 fun v12 =>
      f_X3_signAt sh a0 v12 h9 fun r13 h14 =>
      if r13 = (44 : Int32) then
        gI h14 a0 5 fun v15 =>
        pI h14 a0 5 (v15 + (1 : Int32)) fun h16 =>
        f_X3_readNumber sh a0 h16 fun r17 h18 =>
        pI h18 a0 4 r17 fun h19 =>
        gI h19 a0 3 fun v20 =>
        if v20 < 0 then
          K (0 : Int32) h19
        else
          gI h19 a0 4 fun v21 =>
          if v21 < 0 then
            K (0 : Int32) h19
          else
            gI h19 a0 5 fun v22 =>
            f_X3_signAt sh a0 v22 h19 fun r23 h24 =>
            if r23 = (59 : Int32) then
              gI h24 a0 5 fun v25 =>
              pI h24 a0 5 (v25 + (1 : Int32)) fun h26 =>
              K (1 : Int32) h26
            else
              K (0 : Int32) h24
      else
        K (0 : Int32) h14
  else
    gI h9 a0 2 fun v27 =>
    if v27 = (115 : Int32) then
      gI h9 a0 3 fun v44 =>
      if v44 < 0 then
        K (0 : Int32) h9
      else
        gI h9 a0 5 fun v45 =>
        f_X3_signAt sh a0 v45 h9 fun r46 h47 =>
        if r46 = (44 : Int32) then
          gI h47 a0 5 fun v48 =>
          pI h47 a0 5 (v48 + (1 : Int32)) fun h49 =>
          f_X3_readNumber sh a0 h49 fun r50 h51 =>
          pI h51 a0 4 r50 fun h52 =>
          gI h52 a0 3 fun v53 =>
          if v53 < 0 then
            K (0 : Int32) h52
          else
            gI h52 a0 4 fun v54 =>
            if v54 < 0 then
              K (0 : Int32) h52
            else
              gI h52 a0 5 fun v55 =>
              f_X3_signAt sh a0 v55 h52 fun r56 h57 =>
              if r56 = (59 : Int32) then
                gI h57 a0 5 fun v58 =>
                pI h57 a0 5 (v58 + (1 : Int32)) fun h59 =>
                K (1 : Int32) h59
              else
                K (0 : Int32) h57
        else
          K (0 : Int32) h47
    else
      gI h9 a0 2 fun v28 =>
      if v28 = (101 : Int32) then
        gI h9 a0 3 fun v29 =>
        if v29 < 0 then
          K (0 : Int32) h9
        else
          gI h9 a0 4 fun v30 =>
          if v30 < 0 then
            K (0 : Int32) h9
          else
            gI h9 a0 5 fun v31 =>
            f_X3_signAt sh a0 v31 h9 fun r32 h33 =>
            if r32 = (59 : Int32) then
              gI h33 a0 5 fun v34 =>
              pI h33 a0 5 (v34 + (1 : Int32)) fun h35 =>
              K (1 : Int32) h35
            else
              K (0 : Int32) h33
      else
        gI h9 a0 2 fun v36 =>
        if v36 = (116 : Int32) then
          gI h9 a0 3 fun v37 =>
          if v37 < 0 then
            K (0 : Int32) h9
          else
            gI h9 a0 4 fun v38 =>
            if v38 < 0 then
              K (0 : Int32) h9
            else
              gI h9 a0 5 fun v39 =>
              f_X3_signAt sh a0 v39 h9 fun r40 h41 =>
              if r40 = (59 : Int32) then
                gI h41 a0 5 fun v42 =>
                pI h41 a0 5 (v42 + (1 : Int32)) fun h43 =>
                K (1 : Int32) h43
              else
                K (0 : Int32) h41
        else
          K (0 : Int32) h9

def b_X4_outrunBy_4 (sh : Sh) (x0 : Nat) (x1 : Nat) (Xc : Int32 → Hp → Prop) (rec : Int32 × Int32 → Hp → Prop) (s : Int32 × Int32) (h : Hp) : Prop :=
  if (6 : Int32) ≤ s.2 then
    Xc s.1 h
  else
    ty sh x0 4 <|
    gI h x0 1 fun v2 =>
    f_X5_contains sh v2 s.2 h fun r3 h4 =>
    if r3 = 0 then
      rec (s.1, s.2 + (1 : Int32)) h4
    else
      gR h4 x0 3 fun q5 =>
      ty sh q5 7 <|
      lI sh h4 q5 s.2 fun v7 =>
      ty sh x1 7 <|
      lI sh h4 x1 s.2 fun v10 =>
      if v10 ≤ v7 then
        rec (s.1, s.2 + (1 : Int32)) h4
      else
        rec (s.1 ||| ((1 : Int32) <<< (s.2 &&& 31)), s.2 + (1 : Int32)) h4

def f_X4_outrunBy (sh : Sh) (a0 : Nat) (p1 : Nat) (h : Hp) (K : Int32 → Hp → Prop) : Prop :=
  lo (b_X4_outrunBy_4 sh a0 p1
    (fun y12 h13 =>
      K y12 h13)) ((0 : Int32), (0 : Int32)) h

def b_X5_record_40 (sh : Sh) (x0 : Nat) (x1 : Nat) (Xc : Hp → Prop) (rec : Int32 → Hp → Prop) (s : Int32) (h : Hp) : Prop :=
  if (4 : Int32) ≤ s then
    Xc h
  else
    ty sh x0 5 <|
    gR h x0 4 fun q8 =>
    gR h x0 4 fun q9 =>
    ty sh q9 10 <|
    lR sh h q9 s fun q11 =>
    ty sh q8 10 <|
    ty sh q11 2 <|
    sR sh h q8 (s - (1 : Int32)) q11 fun h15 =>
    rec (s + (1 : Int32)) h15

def f_X5_record (sh : Sh) (a0 : Nat) (h : Hp) (K : Hp → Prop) : Prop :=
  ty sh a0 5 <|
  gR h a0 4 fun q2 =>
  ty sh q2 10 <|
  lR sh h q2 (0 : Int32) fun q4 =>
  gI h a0 5 fun v6 =>
  if (4 : Int32) ≤ v6 then
    lo (b_X5_record_40 sh a0 q4
      (fun  h17 =>
        gR h17 a0 4 fun q18 =>
        gI h17 a0 5 fun v19 =>
        gR h17 a0 0 fun q20 =>
        ty sh q18 10 <|
        ty sh q20 2 <|
        sR sh h17 q18 (v19 - (1 : Int32)) q20 fun h23 =>
        gR h23 a0 1 fun q25 =>
        pR h23 a0 0 q25 fun h26 =>
        pR h26 a0 1 q4 fun h27 =>
        K h27)) (1 : Int32) h
  else
    gR h a0 4 fun q28 =>
    gI h a0 5 fun v29 =>
    ty sh q28 10 <|
    lR sh h q28 v29 fun q31 =>
    gI h a0 5 fun v33 =>
    pI h a0 5 (v33 + (1 : Int32)) fun h34 =>
    gR h34 a0 4 fun q35 =>
    gI h34 a0 5 fun v36 =>
    gR h34 a0 0 fun q37 =>
    ty sh q35 10 <|
    ty sh q37 2 <|
    sR sh h34 q35 (v36 - (1 : Int32)) q37 fun h40 =>
    gR h40 a0 1 fun q42 =>
    pR h40 a0 0 q42 fun h43 =>
    pR h43 a0 1 q31 fun h44 =>
    K h44

def f_X5_settle (sh : Sh) (a0 : Nat) (p1 : Int32) (h : Hp) (K : Int32 → Hp → Prop) : Prop :=
  if p1 < 0 then
    K p1 h
  else
    ty sh a0 5 <|
    f_X5_record sh a0 h fun h3 =>
    K p1 h3

def f_X5_alter (sh : Sh) (a0 : Nat) (p1 : Int32) (p2 : Int32) (h : Hp) (K : Int32 → Hp → Prop) : Prop :=
  ty sh a0 5 <|
  gR h a0 1 fun q2 =>
  gR h a0 0 fun q3 =>
  ty sh q2 2 <|
  f_X2_copyFrom sh q2 q3 h fun h6 =>
  gR h6 a0 1 fun q7 =>
  ty sh q7 2 <|
  f_X2_changeTable sh q7 p1 p2 h6 fun r9 h10 =>
  f_X5_settle sh a0 r9 h10 fun r11 h12 =>
  K r11 h12

def b_X5_loadsWithRoom_30 (sh : Sh) (x0 : Nat) (Xc : Hp → Prop) (K : Int32 → Hp → Prop) (rec : Int32 → Hp → Prop) (s : Int32) (h : Hp) : Prop :=
  ty sh x0 5 <|
  gR h x0 0 fun q14 =>
  ty sh q14 2 <|
  gI h q14 8 fun v16 =>
  if v16 ≤ s then
    Xc h
  else
    gR h x0 1 fun q17 =>
    gR h x0 0 fun q18 =>
    ty sh q18 2 <|
    gR h q18 9 fun q20 =>
    ty sh q20 7 <|
    lI sh h q20 (s - s / (12 : Int32) * (12 : Int32)) fun v22 =>
    gR h x0 0 fun q24 =>
    ty sh q24 2 <|
    gR h q24 10 fun q26 =>
    ty sh q26 7 <|
    lI sh h q26 (s - s / (12 : Int32) * (12 : Int32)) fun v28 =>
    ty sh q17 2 <|
    f_X2_begin sh q17 v22 v28 h fun r31 h32 =>
    if 0 ≤ r31 then
      gR h32 x0 1 fun q33 =>
      ty sh q33 2 <|
      f_X2_finish sh q33 r31 h32 fun r35 h36 =>
      rec (s + (1 : Int32)) h36
    else
      K (-1 : Int32) h32

def f_X5_loadsWithRoom (sh : Sh) (a0 : Nat) (p1 : Int32) (h : Hp) (K : Int32 → Hp → Prop) : Prop :=
  ty sh a0 5 <|
  gR h a0 1 fun q2 =>
  ty sh q2 2 <|
  f_X2_clear sh q2 h fun h5 =>
  gR h5 a0 1 fun q6 =>
  ty sh q6 2 <|
  pI h5 q6 2 p1 fun h8 =>
  gR h8 a0 0 fun q9 =>
  ty sh q9 2 <|
  gI h8 q9 8 fun v11 =>
  ev (if (0 : Int32) < (v11 - (12 : Int32)) then (v11 - (12 : Int32)) else (0 : Int32)) fun v12 =>
  lo (b_X5_loadsWithRoom_30 sh a0
    (fun  h37 =>
      gR h37 a0 1 fun q38 =>
      ty sh q38 2 <|
      f_X2_loadsOfAll sh q38 h37 fun r40 h41 =>
      K r40 h41) K) v12 h8

def b_X5_bestRoom_31 (sh : Sh) (x0 : Nat) (x1 : Int32) (Xc : Int32 → Int32 → Hp → Prop) (rec : Int32 × Int32 × Int32 → Hp → Prop) (s : Int32 × Int32 × Int32) (h : Hp) : Prop :=
  if (8 : Int32) < s.2.2 then
    Xc s.1 s.2.1 h
  else
    ty sh x0 5 <|
    f_X5_loadsWithRoom sh x0 s.2.2 h fun r6 h7 =>
    if r6 < 0 then
      rec (s.1, s.2.1, s.2.2 + (1 : Int32)) h7
    else
      if s.2.1 < 0 then
        rec (s.2.2, r6, s.2.2 + (1 : Int32)) h7
      else
        if s.2.1 ≤ r6 then
          rec (s.1, s.2.1, s.2.2 + (1 : Int32)) h7
        else
          rec (s.2.2, r6, s.2.2 + (1 : Int32)) h7

def f_X5_bestRoom (sh : Sh) (a0 : Nat) (p1 : Int32) (h : Hp) (K : Int32 → Hp → Prop) : Prop :=
  if p1 < 0 then
    K (-1 : Int32) h
  else
    if p1 ≤ (1 : Int32) then
      ty sh a0 5 <|
      gR h a0 0 fun q2 =>
      ty sh q2 2 <|
      gI h q2 8 fun v4 =>
      if v4 = 0 then
        K (-4 : Int32) h
      else
        lo (b_X5_bestRoom_31 sh a0 p1
          (fun y8 y9 h10 =>
            if p1 = 0 then
              K y8 h10
            else
              K y9 h10)) ((-1 : Int32), (-1 : Int32), (1 : Int32)) h
    else
      K (-1 : Int32) h

def f_X5_clearText (sh : Sh) (a0 : Nat) (h : Hp) (K : Int32 → Hp → Prop) : Prop :=
  ty sh a0 5 <|
  gR h a0 6 fun q2 =>
  ty sh q2 3 <|
  gI h q2 1 fun v4 =>
  gR h a0 6 fun q5 =>
  ty sh q5 3 <|
  pI h q5 1 (0 : Int32) fun h7 =>
  K v4 h7

def f_X5_count (sh : Sh) (a0 : Nat) (p1 : Int32) (h : Hp) (K : Int32 → Hp → Prop) : Prop :=
  if p1 = (0 : Int32) then
    ty sh a0 5 <|
    gR h a0 0 fun q2 =>
    ty sh q2 2 <|
    gI h q2 0 fun v4 =>
    K v4 h
  else
    if p1 = (1 : Int32) then
      ty sh a0 5 <|
      gR h a0 0 fun q6 =>
      ty sh q6 2 <|
      gI h q6 5 fun v8 =>
      K v8 h
    else
      if p1 = (2 : Int32) then
        ty sh a0 5 <|
        gR h a0 0 fun q10 =>
        ty sh q10 2 <|
        gI h q10 8 fun v12 =>
        K v12 h
      else
        if p1 = (3 : Int32) then
          ty sh a0 5 <|
          gR h a0 0 fun q14 =>
          ty sh q14 2 <|
          f_X2_statementsAtWork sh q14 h fun r16 h17 =>
          K r16 h17
        else
          if p1 = (4 : Int32) then
            ty sh a0 5 <|
            gI h a0 5 fun v19 =>
            K v19 h
          else
            if p1 = (5 : Int32) then
              ty sh a0 5 <|
              gR h a0 6 fun q21 =>
              ty sh q21 3 <|
              gI h q21 1 fun v23 =>
              K v23 h
            else
              if p1 = (6 : Int32) then
                ty sh a0 5 <|
                gI h a0 3 fun v25 =>
                if v25 = 0 then
                  K (0 : Int32) h
                else
                  K (1 : Int32) h
              else
                if p1 = (7 : Int32) then
                  ty sh a0 5 <|
                  gR h a0 0 fun q27 =>
                  ty sh q27 2 <|
                  f_X2_tablesThatCanChange sh q27 h fun r29 h30 =>
                  K r29 h30
                else
                  if p1 = (8 : Int32) then
                    ty sh a0 5 <|
                    gR h a0 0 fun q32 =>
                    ty sh q32 2 <|
                    f_X2_loadsOfAll sh q32 h fun r34 h35 =>
                    K r34 h35
                  else
                    if p1 = (9 : Int32) then
                      K (-1 : Int32) h
                    else
                      if p1 = (10 : Int32) then
                        K (-1 : Int32) h
                      else
                        if p1 = (11 : Int32) then
                          K (-1 : Int32) h
                        else
                          if p1 = (12 : Int32) then
                            K (-1 : Int32) h
                          else
                            if p1 = (13 : Int32) then
                              K (-1 : Int32) h
                            else
                              if p1 = (14 : Int32) then
                                K (-1 : Int32) h
                              else
                                if p1 = (15 : Int32) then
                                  K (-1 : Int32) h
                                else
                                  if p1 = (16 : Int32) then
                                    K (-1 : Int32) h
                                  else
                                    if p1 = (17 : Int32) then
                                      K (-1 : Int32) h
                                    else
                                      if p1 = (18 : Int32) then
                                        K (-1 : Int32) h
                                      else
                                        if p1 = (19 : Int32) then
                                          K (-1 : Int32) h
                                        else
                                          if p1 = (20 : Int32) then
                                            ty sh a0 5 <|
                                            gR h a0 0 fun q37 =>
                                            ty sh q37 2 <|
                                            gI h q37 1 fun v39 =>
                                            K v39 h
                                          else
                                            if p1 = (21 : Int32) then
                                              ty sh a0 5 <|
                                              gR h a0 0 fun q41 =>
                                              ty sh q41 2 <|
                                              gI h q41 2 fun v43 =>
                                              K v43 h
                                            else
                                              K (-1 : Int32) h

def f_X5_noteFault (sh : Sh) (a0 : Nat) (p1 : Int32) (p2 : Int32) (p3 : Int32) (h : Hp) (K : Hp → Prop) : Prop :=
  ty sh a0 5 <|
  pI h a0 7 p1 fun h2 =>
  pI h2 a0 8 p2 fun h3 =>
  pI h3 a0 9 p3 fun h4 =>
  K h4

def b_X5_doCommands_20 (sh : Sh) (x0 : Nat) (Xc : Hp → Prop) (K : Int32 → Hp → Prop) (rec : Int32 × Int32 → Hp → Prop) (s : Int32 × Int32) (h : Hp) : Prop :=
  if (60 : Int32) ≤ s.2 then
    Xc h
  else
    ty sh x0 5 <|
    gR h x0 6 fun q9 =>
    ty sh q9 3 <|
    gI h q9 1 fun v11 =>
    if s.1 < v11 then
      gR h x0 6 fun q12 =>
      ty sh q12 3 <|
      f_X3_readCommand sh q12 s.1 h fun r14 h15 =>
      if r14 = 0 then
        f_X5_noteFault sh x0 s.1 (1 : Int32) (0 : Int32) h15 fun h35 =>
        K s.2 h35
      else
        gR h15 x0 1 fun q16 =>
        gR h15 x0 6 fun q17 =>
        ty sh q17 3 <|
        gI h15 q17 2 fun v19 =>
        gR h15 x0 6 fun q20 =>
        ty sh q20 3 <|
        gI h15 q20 3 fun v22 =>
        gR h15 x0 6 fun q23 =>
        ty sh q23 3 <|
        gI h15 q23 4 fun v25 =>
        ty sh q16 2 <|
        f_X2_obey sh q16 v19 v22 v25 h15 fun r27 h28 =>
        if 0 ≤ r27 then
          gR h28 x0 6 fun q29 =>
          ty sh q29 3 <|
          gI h28 q29 5 fun v31 =>
          rec (v31, s.2 + (1 : Int32)) h28
        else
          f_X5_noteFault sh x0 s.1 (2 : Int32) r27 h28 fun h33 =>
          K s.2 h33
    else
      K s.2 h

def f_X5_doCommands (sh : Sh) (a0 : Nat) (h : Hp) (K : Int32 → Hp → Prop) : Prop :=
  ty sh a0 5 <|
  gR h a0 1 fun q2 =>
  gR h a0 0 fun q3 =>
  ty sh q2 2 <|
  f_X2_copyFrom sh q2 q3 h fun h6 =>
  pI h6 a0 8 (0 : Int32) fun h7 =>
  lo (b_X5_doCommands_20 sh a0
    (fun  h36 =>
      K (60 : Int32) h36) K) ((0 : Int32), (0 : Int32)) h7

def f_X5_end (sh : Sh) (a0 : Nat) (p1 : Int32) (h : Hp) (K : Int32 → Hp → Prop) : Prop :=
  ty sh a0 5 <|
  gR h a0 1 fun q2 =>
  gR h a0 0 fun q3 =>
  ty sh q2 2 <|
  f_X2_copyFrom sh q2 q3 h fun h6 =>
  gR h6 a0 1 fun q7 =>
  ty sh q7 2 <|
  f_X2_finish sh q7 p1 h6 fun r9 h10 =>
  f_X5_settle sh a0 r9 h10 fun r11 h12 =>
  K r11 h12

def f_X5_entry (sh : Sh) (a0 : Nat) (p1 : Int32) (p2 : Int32) (p3 : Int32) (h : Hp) (K : Int32 → Hp → Prop) : Prop :=
  if p1 < 0 then
    K (-1 : Int32) h
  else
    if (4 : Int32) ≤ p1 then
      K (-1 : Int32) h
    else
      if p2 < 0 then
        K (-1 : Int32) h
      else
        if p3 < 0 then
          K (-1 : Int32) h
        else
          if p3 ≤ (5 : Int32) then
            ty sh a0 5 <|
            gR h a0 0 fun q2 =>
            ty sh q2 2 <|
            gR h q2 11 fun q4 =>
            ty sh q4 9 <|
            lR sh h q4 p1 fun q6 =>
            ty sh q6 1 <|
            gI h q6 6 fun v9 =>
            if p2 < v9 then
              gR h q6 7 fun q10 =>
              ty sh q10 8 <|
              lR sh h q10 p2 fun q12 =>
              if p3 = (0 : Int32) then
                ty sh q12 0 <|
                gI h q12 0 fun v15 =>
                K v15 h
              else
                if p3 = (1 : Int32) then
                  ty sh q12 0 <|
                  gI h q12 1 fun v17 =>
                  K v17 h
                else
                  if p3 = (2 : Int32) then
                    ty sh q12 0 <|
                    gI h q12 2 fun v19 =>
                    K v19 h
                  else
                    if p3 = (3 : Int32) then
                      ty sh q12 0 <|
                      gI h q12 3 fun v21 =>
                      K v21 h
                    else
                      if p3 = (4 : Int32) then
                        ty sh q12 0 <|
                        gI h q12 4 fun v23 =>
                        K v23 h
                      else
                        ty sh q12 0 <|
                        gI h q12 5 fun v25 =>
                        if v25 = 0 then
                          K (0 : Int32) h
                        else
                          K (1 : Int32) h
            else
              K (-4 : Int32) h
          else
            K (-1 : Int32) h

def f_X5_fault (sh : Sh) (a0 : Nat) (p1 : Int32) (h : Hp) (K : Int32 → Hp → Prop) : Prop :=
  if p1 < 0 then
    K (-1 : Int32) h
  else
    if p1 ≤ (2 : Int32) then
      ty sh a0 5 <|
      f_X5_doCommands sh a0 h fun r2 h3 =>
      gI h3 a0 8 fun v4 =>
      if v4 = 0 then
        K (-4 : Int32) h3
      else
        if p1 = (0 : Int32) then
          gI h3 a0 7 fun v5 =>
          K v5 h3
        else
          if p1 = (1 : Int32) then
            gI h3 a0 8 fun v6 =>
            K v6 h3
          else
            gI h3 a0 8 fun v7 =>
            if v7 = (2 : Int32) then
              gI h3 a0 9 fun v8 =>
              K v8 h3
            else
              K (-4 : Int32) h3
    else
      K (-1 : Int32) h

def b_X5_inTheWay_17 (sh : Sh) (x0 : Nat) (x1 : Int32) (Xc : Int32 → Hp → Prop) (rec : Int32 × Int32 → Hp → Prop) (s : Int32 × Int32) (h : Hp) : Prop :=
  if (4 : Int32) ≤ s.2 then
    Xc s.1 h
  else
    ty sh x0 5 <|
    gR h x0 0 fun q2 =>
    ty sh q2 2 <|
    gR h q2 11 fun q4 =>
    ty sh q4 9 <|
    lR sh h q4 s.2 fun q6 =>
    gR h x0 0 fun q8 =>
    ty sh q8 2 <|
    gR h q8 3 fun q10 =>
    ty sh q10 7 <|
    lI sh h q10 x1 fun v12 =>
    ty sh q6 1 <|
    f_X1_lowestBehind sh q6 x1 v12 h fun r15 h16 =>
    if r15 < 0 then
      rec (s.1, s.2 + (1 : Int32)) h16
    else
      if s.1 < 0 then
        rec (r15, s.2 + (1 : Int32)) h16
      else
        if s.1 ≤ r15 then
          rec (s.1, s.2 + (1 : Int32)) h16
        else
          rec (r15, s.2 + (1 : Int32)) h16

def f_X5_inTheWay (sh : Sh) (a0 : Nat) (p1 : Int32) (h : Hp) (K : Int32 → Hp → Prop) : Prop :=
  if p1 < 0 then
    K (-1 : Int32) h
  else
    if p1 < (6 : Int32) then
      lo (b_X5_inTheWay_17 sh a0 p1
        (fun y17 h18 =>
          K y17 h18)) ((-4 : Int32), (0 : Int32)) h
    else
      K (-1 : Int32) h

def f_X5_keep (sh : Sh) (a0 : Nat) (h : Hp) (K : Int32 → Hp → Prop) : Prop :=
  ty sh a0 5 <|
  gR h a0 2 fun q2 =>
  gR h a0 0 fun q3 =>
  ty sh q2 2 <|
  f_X2_copyFrom sh q2 q3 h fun h6 =>
  pI h6 a0 3 (1 : Int32) fun h7 =>
  gR h7 a0 2 fun q8 =>
  ty sh q8 2 <|
  gI h7 q8 0 fun v10 =>
  K v10 h7

def f_X5_notice (sh : Sh) (a0 : Nat) (p1 : Int32) (h : Hp) (K : Int32 → Hp → Prop) : Prop :=
  if 0 ≤ p1 then
    ty sh a0 5 <|
    gR h a0 0 fun q2 =>
    ty sh q2 2 <|
    gI h q2 5 fun v4 =>
    if v4 ≤ p1 then
      K (-4 : Int32) h
    else
      gR h a0 0 fun q5 =>
      ty sh q5 2 <|
      gR h q5 6 fun q7 =>
      ty sh q7 7 <|
      lI sh h q7 p1 fun v9 =>
      K v9 h
  else
    K (-1 : Int32) h

def f_X5_play (sh : Sh) (a0 : Nat) (h : Hp) (K : Int32 → Hp → Prop) : Prop :=
  ty sh a0 5 <|
  f_X5_doCommands sh a0 h fun r2 h3 =>
  gI h3 a0 8 fun v4 =>
  if v4 = 0 then
    f_X5_settle sh a0 r2 h3 fun r7 h8 =>
    K r7 h8
  else
    f_X5_settle sh a0 (-2 : Int32) h3 fun r5 h6 =>
    K r5 h6

def f_X5_restore (sh : Sh) (a0 : Nat) (h : Hp) (K : Int32 → Hp → Prop) : Prop :=
  ty sh a0 5 <|
  gI h a0 3 fun v2 =>
  if v2 = 0 then
    K (-2 : Int32) h
  else
    gR h a0 1 fun q3 =>
    gR h a0 2 fun q4 =>
    ty sh q3 2 <|
    f_X2_copyFrom sh q3 q4 h fun h7 =>
    gR h7 a0 1 fun q8 =>
    ty sh q8 2 <|
    gI h7 q8 0 fun v10 =>
    f_X5_settle sh a0 v10 h7 fun r11 h12 =>
    K r11 h12

def f_X5_sessionOf (sh : Sh) (a0 : Nat) (p1 : Int32) (p2 : Int32) (h : Hp) (K : Int32 → Hp → Prop) : Prop :=
  if p1 < 0 then
    K (-1 : Int32) h
  else
    if p1 < (4 : Int32) then
      ty sh a0 5 <|
      gR h a0 0 fun q2 =>
      ty sh q2 2 <|
      gR h q2 11 fun q4 =>
      ty sh q4 9 <|
      lR sh h q4 p1 fun q6 =>
      if p2 = (0 : Int32) then
        ty sh q6 1 <|
        gI h q6 0 fun v9 =>
        K v9 h
      else
        if p2 = (1 : Int32) then
          gR h a0 0 fun q10 =>
          ty sh q10 2 <|
          f_X2_noticesOnTheirWay sh q10 h fun r12 h13 =>
          K r12 h13
        else
          if p2 = (2 : Int32) then
            ty sh q6 1 <|
            gI h q6 6 fun v15 =>
            K v15 h
          else
            if p2 = (3 : Int32) then
              ty sh q6 1 <|
              f_X1_staleInHand sh q6 h fun r17 h18 =>
              K r17 h18
            else
              if p2 = (4 : Int32) then
                ty sh q6 1 <|
                f_X1_statementsAtWork sh q6 h fun r20 h21 =>
                K r20 h21
              else
                if p2 = (5 : Int32) then
                  ty sh q6 1 <|
                  gI h q6 1 fun v23 =>
                  K v23 h
                else
                  if p2 = (6 : Int32) then
                    ty sh q6 1 <|
                    gI h q6 2 fun v25 =>
                    K v25 h
                  else
                    if p2 = (7 : Int32) then
                      ty sh q6 1 <|
                      gI h q6 3 fun v27 =>
                      K v27 h
                    else
                      if p2 = (8 : Int32) then
                        ty sh q6 1 <|
                        gI h q6 4 fun v29 =>
                        K v29 h
                      else
                        if p2 = (9 : Int32) then
                          ty sh q6 1 <|
                          gI h q6 5 fun v31 =>
                          K v31 h
                        else
                          K (-1 : Int32) h
    else
      K (-1 : Int32) h

def f_X5_set (sh : Sh) (a0 : Nat) (p1 : Int32) (p2 : Int32) (h : Hp) (K : Int32 → Hp → Prop) : Prop :=
  ty sh a0 5 <|
  gR h a0 1 fun q2 =>
  gR h a0 0 fun q3 =>
  ty sh q2 2 <|
  f_X2_copyFrom sh q2 q3 h fun h6 =>
  gR h6 a0 1 fun q7 =>
  ty sh q7 2 <|
  f_X2_adjust sh q7 p1 p2 h6 fun r9 h10 =>
  f_X5_settle sh a0 r9 h10 fun r11 h12 =>
  K r11 h12

def f_X5_start (sh : Sh) (a0 : Nat) (p1 : Int32) (p2 : Int32) (h : Hp) (K : Int32 → Hp → Prop) : Prop :=
  ty sh a0 5 <|
  gR h a0 1 fun q2 =>
  gR h a0 0 fun q3 =>
  ty sh q2 2 <|
  f_X2_copyFrom sh q2 q3 h fun h6 =>
  gR h6 a0 1 fun q7 =>
  ty sh q7 2 <|
  f_X2_begin sh q7 p1 p2 h6 fun r9 h10 =>
  f_X5_settle sh a0 r9 h10 fun r11 h12 =>
  K r11 h12

def f_X5_statement (sh : Sh) (a0 : Nat) (p1 : Int32) (p2 : Int32) (h : Hp) (K : Int32 → Hp → Prop) : Prop :=
  if p1 < 0 then
    K (-1 : Int32) h
  else
    if p2 < 0 then
      K (-1 : Int32) h
    else
      if p2 ≤ (3 : Int32) then
        ty sh a0 5 <|
        gR h a0 0 fun q2 =>
        ty sh q2 2 <|
        f_X2_sessionWith sh q2 p1 h fun r4 h5 =>
        if r4 < 0 then
          K (-4 : Int32) h5
        else
          if r4 < (4 : Int32) then
            gR h5 a0 0 fun q6 =>
            ty sh q6 2 <|
            gR h5 q6 11 fun q8 =>
            ty sh q8 9 <|
            lR sh h5 q8 r4 fun q10 =>
            ty sh q10 1 <|
            f_X1_workOf sh q10 p1 h5 fun r13 h14 =>
            nn r13
              (K (-4 : Int32) h14)
            fun q15 =>
              if p2 = (0 : Int32) then
                K r4 h14
              else
                if p2 = (1 : Int32) then
                  ty sh q15 4 <|
                  gI h14 q15 1 fun v17 =>
                  K v17 h14
                else
                  if p2 = (2 : Int32) then
                    ty sh q15 4 <|
                    gI h14 q15 2 fun v19 =>
                    K v19 h14
                  else
                    gR h14 a0 0 fun q20 =>
                    ty sh q20 2 <|
                    gR h14 q20 3 fun q22 =>
                    ty sh q15 4 <|
                    f_X4_outrunBy sh q15 q22 h14 fun r24 h25 =>
                    K r24 h25
          else
            K (-4 : Int32) h5
      else
        K (-1 : Int32) h

def f_X5_tableOf (sh : Sh) (a0 : Nat) (p1 : Int32) (p2 : Int32) (h : Hp) (K : Int32 → Hp → Prop) : Prop :=
  if p1 < 0 then
    K (-1 : Int32) h
  else
    if p1 < (6 : Int32) then
      if p2 = (0 : Int32) then
        ty sh a0 5 <|
        gR h a0 0 fun q2 =>
        ty sh q2 2 <|
        gR h q2 3 fun q4 =>
        ty sh q4 7 <|
        lI sh h q4 p1 fun v6 =>
        K v6 h
      else
        if p2 = (1 : Int32) then
          ty sh a0 5 <|
          gR h a0 0 fun q9 =>
          ty sh q9 2 <|
          gR h q9 4 fun q11 =>
          ty sh q11 7 <|
          lI sh h q11 p1 fun v13 =>
          K v13 h
        else
          if p2 = (2 : Int32) then
            ty sh a0 5 <|
            gR h a0 0 fun q16 =>
            ty sh q16 2 <|
            f_X2_leastVersionAtWork sh q16 p1 h fun r18 h19 =>
            K r18 h19
          else
            if p2 = (3 : Int32) then
              ty sh a0 5 <|
              gR h a0 0 fun q21 =>
              ty sh q21 2 <|
              f_X2_handsWith sh q21 p1 h fun r23 h24 =>
              K r23 h24
            else
              if p2 = (4 : Int32) then
                ty sh a0 5 <|
                gR h a0 0 fun q26 =>
                ty sh q26 2 <|
                f_X2_canChange sh q26 p1 h fun r28 h29 =>
                if r28 = 0 then
                  K (0 : Int32) h29
                else
                  K (1 : Int32) h29
              else
                K (-1 : Int32) h
    else
      K (-1 : Int32) h

def f_X5_tick (sh : Sh) (a0 : Nat) (p1 : Int32) (h : Hp) (K : Int32 → Hp → Prop) : Prop :=
  ty sh a0 5 <|
  gR h a0 1 fun q2 =>
  gR h a0 0 fun q3 =>
  ty sh q2 2 <|
  f_X2_copyFrom sh q2 q3 h fun h6 =>
  gR h6 a0 1 fun q7 =>
  ty sh q7 2 <|
  f_X2_pass sh q7 p1 h6 fun r9 h10 =>
  f_X5_settle sh a0 r9 h10 fun r11 h12 =>
  K r11 h12

def f_X5_type (sh : Sh) (a0 : Nat) (p1 : Int32) (h : Hp) (K : Int32 → Hp → Prop) : Prop :=
  if p1 < (32 : Int32) then
    K (-1 : Int32) h
  else
    if p1 ≤ (126 : Int32) then
      ty sh a0 5 <|
      gR h a0 6 fun q2 =>
      ty sh q2 3 <|
      gI h q2 1 fun v4 =>
      if v4 < (60 : Int32) then
        gR h a0 6 fun q5 =>
        ty sh q5 3 <|
        gR h q5 0 fun q7 =>
        gR h a0 6 fun q8 =>
        ty sh q8 3 <|
        gI h q8 1 fun v10 =>
        ty sh q7 7 <|
        sI sh h q7 v10 p1 fun h12 =>
        gR h12 a0 6 fun q14 =>
        ty sh q14 3 <|
        gI h12 q14 1 fun v16 =>
        pI h12 q14 1 (v16 + (1 : Int32)) fun h17 =>
        gR h17 a0 6 fun q18 =>
        ty sh q18 3 <|
        gI h17 q18 1 fun v20 =>
        K v20 h17
      else
        K (-3 : Int32) h
    else
      K (-1 : Int32) h

def f_X5_undo (sh : Sh) (a0 : Nat) (h : Hp) (K : Int32 → Hp → Prop) : Prop :=
  ty sh a0 5 <|
  gI h a0 5 fun v2 =>
  if 0 < v2 then
    gI h a0 5 fun v3 =>
    pI h a0 5 (v3 - (1 : Int32)) fun h4 =>
    gR h4 a0 4 fun q5 =>
    gI h4 a0 5 fun v6 =>
    ty sh q5 10 <|
    lR sh h4 q5 v6 fun q8 =>
    gR h4 a0 4 fun q10 =>
    gI h4 a0 5 fun v11 =>
    gR h4 a0 0 fun q12 =>
    ty sh q10 10 <|
    ty sh q12 2 <|
    sR sh h4 q10 v11 q12 fun h15 =>
    pR h15 a0 0 q8 fun h17 =>
    gI h17 a0 5 fun v18 =>
    K v18 h17
  else
    K (-2 : Int32) h

def f_X5_would (sh : Sh) (a0 : Nat) (p1 : Int32) (p2 : Int32) (p3 : Int32) (h : Hp) (K : Int32 → Hp → Prop) : Prop :=
  if p1 < 0 then
    K (-1 : Int32) h
  else
    if (4 : Int32) ≤ p1 then
      K (-1 : Int32) h
    else
      if p3 < 0 then
        K (-1 : Int32) h
      else
        if p3 ≤ (3 : Int32) then
          ty sh a0 5 <|
          gR h a0 1 fun q2 =>
          gR h a0 0 fun q3 =>
          ty sh q2 2 <|
          f_X2_copyFrom sh q2 q3 h fun h6 =>
          gR h6 a0 1 fun q7 =>
          ty sh q7 2 <|
          f_X2_begin sh q7 p1 p2 h6 fun r9 h10 =>
          if 0 ≤ r9 then
            gR h10 a0 0 fun q11 =>
            ty sh q11 2 <|
            gR h10 q11 11 fun q13 =>
            ty sh q13 9 <|
            lR sh h10 q13 p1 fun q15 =>
            gR h10 a0 1 fun q17 =>
            ty sh q17 2 <|
            gR h10 q17 11 fun q19 =>
            ty sh q19 9 <|
            lR sh h10 q19 p1 fun q21 =>
            if p3 = (0 : Int32) then
              ty sh q21 1 <|
              gI h10 q21 1 fun v24 =>
              ty sh q15 1 <|
              gI h10 q15 1 fun v26 =>
              K (v24 - v26) h10
            else
              if p3 = (1 : Int32) then
                ty sh q21 1 <|
                gI h10 q21 2 fun v28 =>
                ty sh q15 1 <|
                gI h10 q15 2 fun v30 =>
                K (v28 - v30) h10
              else
                if p3 = (2 : Int32) then
                  ty sh q21 1 <|
                  gI h10 q21 3 fun v32 =>
                  ty sh q15 1 <|
                  gI h10 q15 3 fun v34 =>
                  K (v32 - v34) h10
                else
                  ty sh q21 1 <|
                  gI h10 q21 0 fun v36 =>
                  ty sh q15 1 <|
                  gI h10 q15 0 fun v38 =>
                  K (v36 - v38) h10
          else
            K r9 h10
        else
          K (-1 : Int32) h

def f_X6_of (sh : Sh) (p0 : Int32) (p1 : Int32) (h : Hp) (K : Int32 → Hp → Prop) : Prop :=
  K (((217 : Int32) + ((55 : Int32) * p0)) + p1) h

def b_X6_allLoads_4 (sh : Sh) (x0 : Nat) (Xc : Int32 → Hp → Prop) (rec : Int32 × Int32 → Hp → Prop) (s : Int32 × Int32) (h : Hp) : Prop :=
  if (4 : Int32) ≤ s.2 then
    Xc s.1 h
  else
    ty sh x0 6 <|
    gR h x0 0 fun q2 =>
    f_X6_of sh s.2 (2 : Int32) h fun r3 h4 =>
    ty sh q2 7 <|
    lI sh h4 q2 r3 fun v6 =>
    rec (s.1 + v6, s.2 + (1 : Int32)) h4

def f_X6_allLoads (sh : Sh) (a0 : Nat) (h : Hp) (K : Int32 → Hp → Prop) : Prop :=
  lo (b_X6_allLoads_4 sh a0
    (fun y8 h9 =>
      K y8 h9)) ((0 : Int32), (0 : Int32)) h

def f_X6_in (sh : Sh) (p0 : Int32) (p1 : Int32) (p2 : Int32) (h : Hp) (K : Int32 → Hp → Prop) : Prop :=
  if p0 < p1 then
    K (0 : Int32) h
  else
    if p2 < p0 then
      K (0 : Int32) h
    else
      K (1 : Int32) h

def f_X6_isTable (sh : Sh) (p0 : Int32) (h : Hp) (K : Int32 → Hp → Prop) : Prop :=
  f_X6_in sh p0 (0 : Int32) (5 : Int32) h fun r1 h2 =>
  bz r1 <|
  K r1 h2

def f_X6_ofOpen (sh : Sh) (p0 : Int32) (p1 : Int32) (h : Hp) (K : Int32 → Hp → Prop) : Prop :=
  K (((438 : Int32) + ((10 : Int32) * p0)) + p1) h

def b_X6_inWay_5 (sh : Sh) (x0 : Nat) (x1 : Int32) (Xc : Int32 → Hp → Prop) (rec : Int32 × Int32 → Hp → Prop) (s : Int32 × Int32) (h : Hp) : Prop :=
  ty sh x0 6 <|
  gR h x0 0 fun q2 =>
  ty sh q2 7 <|
  lI sh h q2 (437 : Int32) fun v4 =>
  if v4 ≤ s.2 then
    Xc s.1 h
  else
    gR h x0 0 fun q6 =>
    f_X6_ofOpen sh s.2 (2 : Int32) h fun r7 h8 =>
    ty sh q6 7 <|
    lI sh h8 q6 r7 fun v10 =>
    if ((v10 >>> (x1 &&& 31)) &&& (1 : Int32)) = (1 : Int32) then
      gR h8 x0 0 fun q12 =>
      f_X6_ofOpen sh s.2 ((4 : Int32) + x1) h8 fun r13 h14 =>
      ty sh q12 7 <|
      lI sh h14 q12 r13 fun v16 =>
      gR h14 x0 0 fun q18 =>
      ty sh q18 7 <|
      lI sh h14 q18 ((5 : Int32) + x1) fun v20 =>
      if v20 ≤ v16 then
        rec (s.1, s.2 + (1 : Int32)) h14
      else
        if s.1 = (-4 : Int32) then
          gR h14 x0 0 fun q22 =>
          f_X6_ofOpen sh s.2 (0 : Int32) h14 fun r23 h24 =>
          ty sh q22 7 <|
          lI sh h24 q22 r23 fun v26 =>
          rec (v26, s.2 + (1 : Int32)) h24
        else
          gR h14 x0 0 fun q28 =>
          f_X6_ofOpen sh s.2 (0 : Int32) h14 fun r29 h30 =>
          ty sh q28 7 <|
          lI sh h30 q28 r29 fun v32 =>
          if s.1 ≤ v32 then
            rec (s.1, s.2 + (1 : Int32)) h30
          else
            gR h30 x0 0 fun q34 =>
            f_X6_ofOpen sh s.2 (0 : Int32) h30 fun r35 h36 =>
            ty sh q34 7 <|
            lI sh h36 q34 r35 fun v38 =>
            rec (v38, s.2 + (1 : Int32)) h36
    else
      rec (s.1, s.2 + (1 : Int32)) h8

def f_X6_inWay (sh : Sh) (a0 : Nat) (p1 : Int32) (h : Hp) (K : Int32 → Hp → Prop) : Prop :=
  lo (b_X6_inWay_5 sh a0 p1
    (fun y40 h41 =>
      K y40 h41)) ((-4 : Int32), (0 : Int32)) h

def f_X6_alterFault (sh : Sh) (a0 : Nat) (p1 : Int32) (p2 : Int32) (h : Hp) (K : Int32 → Hp → Prop) : Prop :=
  f_X6_isTable sh p1 h fun r1 h2 =>
  if r1 = 0 then
    K (-1 : Int32) h2
  else
    f_X6_in sh p2 (0 : Int32) (7 : Int32) h2 fun r3 h4 =>
    if r3 = 0 then
      K (-1 : Int32) h4
    else
      ty sh a0 6 <|
      f_X6_inWay sh a0 p1 h4 fun r6 h7 =>
      if r6 = (-4 : Int32) then
        gR h7 a0 0 fun q8 =>
        ty sh q8 7 <|
        lI sh h7 q8 ((11 : Int32) + p1) fun v10 =>
        if v10 = ((1 : Int32) <<< (p2 &&& 31)) then
          K (-2 : Int32) h7
        else
          gR h7 a0 0 fun q12 =>
          ty sh q12 7 <|
          lI sh h7 q12 (1 : Int32) fun v14 =>
          if v14 = (100 : Int32) then
            K (-3 : Int32) h7
          else
            K (0 : Int32) h7
      else
        K (-2 : Int32) h7

def b_X6_know_51 (sh : Sh) (x0 : Nat) (Xc : Hp → Prop) (rec : Int32 → Hp → Prop) (s : Int32) (h : Hp) : Prop :=
  if (623 : Int32) ≤ s then
    Xc h
  else
    ty sh x0 6 <|
    gR h x0 2 fun q4 =>
    gI h x0 3 fun v5 =>
    gR h x0 0 fun q6 =>
    ty sh q6 7 <|
    lI sh h q6 s fun v8 =>
    ty sh q4 7 <|
    sI sh h q4 (((623 : Int32) * v5) + s) v8 fun h11 =>
    rec (s + (1 : Int32)) h11

def b_X6_know_10 (sh : Sh) (x0 : Nat) (Xc : Hp → Prop) (rec : Int32 → Hp → Prop) (s : Int32) (h : Hp) : Prop :=
  if (1869 : Int32) ≤ s then
    Xc h
  else
    ty sh x0 6 <|
    gR h x0 2 fun q17 =>
    gR h x0 2 fun q18 =>
    ty sh q18 7 <|
    lI sh h q18 ((623 : Int32) + s) fun v20 =>
    ty sh q17 7 <|
    sI sh h q17 s v20 fun h23 =>
    rec (s + (1 : Int32)) h23

def f_X6_know (sh : Sh) (a0 : Nat) (h : Hp) (K : Hp → Prop) : Prop :=
  ty sh a0 6 <|
  gI h a0 3 fun v2 =>
  if v2 = (4 : Int32) then
    lo (b_X6_know_10 sh a0
      (fun  h25 =>
        gI h25 a0 3 fun v26 =>
        pI h25 a0 3 (v26 - (1 : Int32)) fun h27 =>
        lo (b_X6_know_51 sh a0
          (fun  h28 =>
            gI h28 a0 3 fun v29 =>
            pI h28 a0 3 (v29 + (1 : Int32)) fun h30 =>
            K h30)) (0 : Int32) h27)) (0 : Int32) h
  else
    lo (b_X6_know_51 sh a0
      (fun  h13 =>
        gI h13 a0 3 fun v14 =>
        pI h13 a0 3 (v14 + (1 : Int32)) fun h15 =>
        K h15)) (0 : Int32) h

def f_X6_ofEntry (sh : Sh) (p0 : Int32) (p1 : Int32) (p2 : Int32) (h : Hp) (K : Int32 → Hp → Prop) : Prop :=
  f_X6_of sh p0 (((7 : Int32) + ((6 : Int32) * p1)) + p2) h fun r1 h2 =>
  K r1 h2

def b_X6_remove_22 (sh : Sh) (x0 : Nat) (x1 : Int32) (Xc : Hp → Prop) (rec : Int32 → Hp → Prop) (s : Int32) (h : Hp) : Prop :=
  ty sh x0 6 <|
  gR h x0 0 fun q13 =>
  f_X6_of sh x1 (6 : Int32) h fun r14 h15 =>
  ty sh q13 7 <|
  lI sh h15 q13 r14 fun v17 =>
  f_X6_ofEntry sh x1 v17 (0 : Int32) h15 fun r19 h20 =>
  if r19 ≤ s then
    Xc h20
  else
    gR h20 x0 0 fun q21 =>
    gR h20 x0 0 fun q22 =>
    ty sh q22 7 <|
    lI sh h20 q22 (s + (6 : Int32)) fun v24 =>
    ty sh q21 7 <|
    sI sh h20 q21 s v24 fun h27 =>
    rec (s + (1 : Int32)) h27

def f_X6_remove (sh : Sh) (a0 : Nat) (p1 : Int32) (p2 : Int32) (h : Hp) (K : Hp → Prop) : Prop :=
  ty sh a0 6 <|
  gR h a0 0 fun q2 =>
  f_X6_of sh p1 (6 : Int32) h fun r3 h4 =>
  ty sh q2 7 <|
  lI sh h4 q2 r3 fun v6 =>
  sI sh h4 q2 r3 (v6 - (1 : Int32)) fun h8 =>
  f_X6_ofEntry sh p1 p2 (0 : Int32) h8 fun r10 h11 =>
  lo (b_X6_remove_22 sh a0 p1
    (fun  h29 =>
      K h29)) r10 h11

def b_X6_clean_16 (sh : Sh) (x0 : Nat) (x1 : Int32) (Xc : Int32 → Hp → Prop) (rec : Int32 × Int32 → Hp → Prop) (s : Int32 × Int32) (h : Hp) : Prop :=
  if s.2 < 0 then
    Xc s.1 h
  else
    ty sh x0 6 <|
    gR h x0 0 fun q9 =>
    f_X6_ofEntry sh x1 s.2 (5 : Int32) h fun r10 h11 =>
    ty sh q9 7 <|
    lI sh h11 q9 r10 fun v13 =>
    if v13 = (1 : Int32) then
      gR h11 x0 0 fun q15 =>
      f_X6_ofEntry sh x1 s.2 (3 : Int32) h11 fun r16 h17 =>
      ty sh q15 7 <|
      lI sh h17 q15 r16 fun v19 =>
      if v19 = 0 then
        f_X6_remove sh x0 x1 s.2 h17 fun h22 =>
        rec (s.1 + (1 : Int32), s.2 + (-1 : Int32)) h22
      else
        rec (s.1, s.2 + (-1 : Int32)) h17
    else
      rec (s.1, s.2 + (-1 : Int32)) h11

def f_X6_clean (sh : Sh) (a0 : Nat) (p1 : Int32) (h : Hp) (K : Int32 → Hp → Prop) : Prop :=
  ty sh a0 6 <|
  gR h a0 0 fun q2 =>
  f_X6_of sh p1 (6 : Int32) h fun r3 h4 =>
  ty sh q2 7 <|
  lI sh h4 q2 r3 fun v6 =>
  lo (b_X6_clean_16 sh a0 p1
    (fun y23 h24 =>
      K y23 h24)) ((0 : Int32), v6 - (1 : Int32)) h4

def b_X6_learn_50 (sh : Sh) (x0 : Nat) (x1 : Int32) (x2 : Int32) (x3 : Int32) (Xc : Hp → Prop) (rec : Int32 → Hp → Prop) (s : Int32) (h : Hp) : Prop :=
  ty sh x0 6 <|
  gR h x0 0 fun q27 =>
  f_X6_of sh x1 (6 : Int32) h fun r28 h29 =>
  ty sh q27 7 <|
  lI sh h29 q27 r28 fun v31 =>
  if v31 ≤ s then
    Xc h29
  else
    gR h29 x0 0 fun q33 =>
    f_X6_ofEntry sh x1 s (0 : Int32) h29 fun r34 h35 =>
    ty sh q33 7 <|
    lI sh h35 q33 r34 fun v37 =>
    if v37 = x3 then
      gR h35 x0 0 fun q51 =>
      f_X6_ofEntry sh x1 s (1 : Int32) h35 fun r52 h53 =>
      ty sh q51 7 <|
      lI sh h53 q51 r52 fun v55 =>
      gR h53 x0 0 fun q57 =>
      ty sh q57 7 <|
      lI sh h53 q57 ((5 : Int32) + x3) fun v59 =>
      if v59 ≤ v55 then
        gR h53 x0 0 fun q61 =>
        f_X6_ofEntry sh x1 s (5 : Int32) h53 fun r62 h63 =>
        gR h63 x0 0 fun q64 =>
        f_X6_ofEntry sh x1 s (5 : Int32) h63 fun r65 h66 =>
        ty sh q64 7 <|
        lI sh h66 q64 r65 fun v68 =>
        ty sh q61 7 <|
        sI sh h66 q61 r62 v68 fun h71 =>
        rec (s + (1 : Int32)) h71
      else
        gR h53 x0 0 fun q73 =>
        f_X6_ofEntry sh x1 s (5 : Int32) h53 fun r74 h75 =>
        ty sh q73 7 <|
        sI sh h75 q73 r74 (1 : Int32) fun h77 =>
        rec (s + (1 : Int32)) h77
    else
      gR h35 x0 0 fun q39 =>
      f_X6_ofEntry sh x1 s (5 : Int32) h35 fun r40 h41 =>
      gR h41 x0 0 fun q42 =>
      f_X6_ofEntry sh x1 s (5 : Int32) h41 fun r43 h44 =>
      ty sh q42 7 <|
      lI sh h44 q42 r43 fun v46 =>
      ty sh q39 7 <|
      sI sh h44 q39 r40 v46 fun h49 =>
      rec (s + (1 : Int32)) h49

def b_X6_learn_0 (sh : Sh) (x0 : Nat) (x1 : Int32) (x2 : Int32) (Xc : Hp → Prop) (rec : Unit → Hp → Prop) (s : Unit) (h : Hp) : Prop :=
  ty sh x0 6 <|
  gR h x0 0 fun q2 =>
  f_X6_of sh x1 (0 : Int32) h fun r3 h4 =>
  ty sh q2 7 <|
  lI sh h4 q2 r3 fun v6 =>
  if x2 ≤ v6 then
    Xc h4
  else
    gR h4 x0 0 fun q8 =>
    gR h4 x0 0 fun q9 =>
    f_X6_of sh x1 (0 : Int32) h4 fun r10 h11 =>
    ty sh q9 7 <|
    lI sh h11 q9 r10 fun v13 =>
    ty sh q8 7 <|
    lI sh h11 q8 ((17 : Int32) + v13) fun v16 =>
    gR h11 x0 0 fun q18 =>
    f_X6_of sh x1 (0 : Int32) h11 fun r19 h20 =>
    ty sh q18 7 <|
    lI sh h20 q18 r19 fun v22 =>
    sI sh h20 q18 r19 (v22 + (1 : Int32)) fun h24 =>
    lo (b_X6_learn_50 sh x0 x1 x2 v16
      (fun  h79 =>
        f_X6_clean sh x0 x1 h79 fun r80 h81 =>
        rec () h81)) (0 : Int32) h24

def f_X6_learn (sh : Sh) (a0 : Nat) (p1 : Int32) (p2 : Int32) (h : Hp) (K : Hp → Prop) : Prop :=
  lo (b_X6_learn_0 sh a0 p1 p2
    (fun  h82 =>
      K h82)) () h

def b_X6_come_2 (sh : Sh) (x0 : Nat) (x1 : Int32) (Xc : Hp → Prop) (rec : Int32 → Hp → Prop) (s : Int32) (h : Hp) : Prop :=
  if (4 : Int32) ≤ s then
    Xc h
  else
    ty sh x0 6 <|
    gR h x0 0 fun q2 =>
    f_X6_of sh s (0 : Int32) h fun r3 h4 =>
    ty sh q2 7 <|
    lI sh h4 q2 r3 fun v6 =>
    if v6 ≤ x1 then
      f_X6_learn sh x0 s (x1 + (1 : Int32)) h4 fun h9 =>
      rec (s + (1 : Int32)) h9
    else
      gR h4 x0 0 fun q10 =>
      f_X6_of sh s (5 : Int32) h4 fun r11 h12 =>
      ty sh q10 7 <|
      lI sh h12 q10 r11 fun v14 =>
      sI sh h12 q10 r11 (v14 + (1 : Int32)) fun h16 =>
      rec (s + (1 : Int32)) h16

def f_X6_come (sh : Sh) (a0 : Nat) (p1 : Int32) (h : Hp) (K : Hp → Prop) : Prop :=
  lo (b_X6_come_2 sh a0 p1
    (fun  h18 =>
      K h18)) (0 : Int32) h

def f_X6_alters (sh : Sh) (a0 : Nat) (p1 : Int32) (p2 : Int32) (h : Hp) (K : Int32 → Hp → Prop) : Prop :=
  ty sh a0 6 <|
  gR h a0 0 fun q2 =>
  ty sh q2 7 <|
  lI sh h q2 ((11 : Int32) + p1) fun v4 =>
  sI sh h q2 ((11 : Int32) + p1) (v4 ^^^ ((1 : Int32) <<< (p2 &&& 31))) fun h6 =>
  gR h6 a0 0 fun q8 =>
  ty sh q8 7 <|
  lI sh h6 q8 ((5 : Int32) + p1) fun v10 =>
  sI sh h6 q8 ((5 : Int32) + p1) (v10 + (1 : Int32)) fun h12 =>
  gR h12 a0 0 fun q14 =>
  gR h12 a0 0 fun q15 =>
  ty sh q15 7 <|
  lI sh h12 q15 (1 : Int32) fun v17 =>
  ty sh q14 7 <|
  sI sh h12 q14 ((17 : Int32) + v17) p1 fun h20 =>
  gR h20 a0 0 fun q22 =>
  gR h20 a0 0 fun q23 =>
  ty sh q23 7 <|
  lI sh h20 q23 (1 : Int32) fun v25 =>
  gR h20 a0 0 fun q27 =>
  ty sh q27 7 <|
  lI sh h20 q27 (0 : Int32) fun v29 =>
  gR h20 a0 0 fun q31 =>
  ty sh q31 7 <|
  lI sh h20 q31 (3 : Int32) fun v33 =>
  ty sh q22 7 <|
  sI sh h20 q22 ((117 : Int32) + v25) (v29 + v33) fun h36 =>
  gR h36 a0 0 fun q38 =>
  ty sh q38 7 <|
  lI sh h36 q38 (1 : Int32) fun v40 =>
  sI sh h36 q38 (1 : Int32) (v40 + (1 : Int32)) fun h42 =>
  gR h42 a0 0 fun q44 =>
  ty sh q44 7 <|
  lI sh h42 q44 (3 : Int32) fun v46 =>
  if v46 = 0 then
    gR h42 a0 0 fun q52 =>
    ty sh q52 7 <|
    lI sh h42 q52 (1 : Int32) fun v54 =>
    f_X6_come sh a0 (v54 - (1 : Int32)) h42 fun h57 =>
    gR h57 a0 0 fun q58 =>
    ty sh q58 7 <|
    lI sh h57 q58 ((5 : Int32) + p1) fun v60 =>
    K v60 h57
  else
    gR h42 a0 0 fun q48 =>
    ty sh q48 7 <|
    lI sh h42 q48 ((5 : Int32) + p1) fun v50 =>
    K v50 h42

def f_X6_alter (sh : Sh) (a0 : Nat) (p1 : Int32) (p2 : Int32) (h : Hp) (K : Int32 → Hp → Prop) : Prop :=
  ty sh a0 6 <|
  f_X6_alterFault sh a0 p1 p2 h fun r2 h3 =>
  if 0 ≤ r2 then
    f_X6_know sh a0 h3 fun h5 =>
    f_X6_alters sh a0 p1 p2 h5 fun r6 h7 =>
    K r6 h7
  else
    K r2 h3

def b_X6_use_12 (sh : Sh) (x0 : Nat) (x1 : Int32) (x2 : Int32) (x3 : Int32) (x4 : Int32) (Xc : Int32 → Int32 → Hp → Prop) (rec : Int32 × Int32 × Int32 → Hp → Prop) (s : Int32 × Int32 × Int32) (h : Hp) : Prop :=
  ty sh x0 6 <|
  gR h x0 10 fun q2 =>
  ty sh q2 7 <|
  lI sh h q2 x1 fun v4 =>
  if (((8 : Int32) * x1) + v4) ≤ s.2.2 then
    Xc s.1 s.2.1 h
  else
    gR h x0 8 fun q6 =>
    ty sh q6 7 <|
    lI sh h q6 s.2.2 fun v8 =>
    if v8 = x2 then
      gR h x0 9 fun q38 =>
      ty sh q38 7 <|
      lI sh h q38 s.2.2 fun v40 =>
      if x3 ≤ v40 then
        rec (s.2.2, s.2.1, s.2.2 + (1 : Int32)) h
      else
        if s.2.1 < 0 then
          rec (s.2.2, s.2.2, s.2.2 + (1 : Int32)) h
        else
          gR h x0 9 fun q42 =>
          ty sh q42 7 <|
          lI sh h q42 s.2.2 fun v44 =>
          gR h x0 9 fun q46 =>
          ty sh q46 7 <|
          lI sh h q46 s.2.1 fun v48 =>
          if v44 < v48 then
            rec (s.2.2, s.2.2, s.2.2 + (1 : Int32)) h
          else
            gR h x0 9 fun q50 =>
            ty sh q50 7 <|
            lI sh h q50 s.2.2 fun v52 =>
            gR h x0 9 fun q54 =>
            ty sh q54 7 <|
            lI sh h q54 s.2.1 fun v56 =>
            if v52 = v56 then
              gR h x0 8 fun q58 =>
              ty sh q58 7 <|
              lI sh h q58 s.2.2 fun v60 =>
              gR h x0 8 fun q62 =>
              ty sh q62 7 <|
              lI sh h q62 s.2.1 fun v64 =>
              if v64 ≤ v60 then
                rec (s.2.2, s.2.1, s.2.2 + (1 : Int32)) h
              else
                rec (s.2.2, s.2.2, s.2.2 + (1 : Int32)) h
            else
              rec (s.2.2, s.2.1, s.2.2 + (1 : Int32)) h
    else
      gR h x0 9 fun q10 =>
      ty sh q10 7 <|
      lI sh h q10 s.2.2 fun v12 =>
      if x3 ≤ v12 then
        rec (s.1, s.2.1, s.2.2 + (1 : Int32)) h
      else
        if s.2.1 < 0 then
          rec (s.1, s.2.2, s.2.2 + (1 : Int32)) h
        else
          gR h x0 9 fun q14 =>
          ty sh q14 7 <|
          lI sh h q14 s.2.2 fun v16 =>
          gR h x0 9 fun q18 =>
          ty sh q18 7 <|
          lI sh h q18 s.2.1 fun v20 =>
          if v16 < v20 then
            rec (s.1, s.2.2, s.2.2 + (1 : Int32)) h
          else
            gR h x0 9 fun q22 =>
            ty sh q22 7 <|
            lI sh h q22 s.2.2 fun v24 =>
            gR h x0 9 fun q26 =>
            ty sh q26 7 <|
            lI sh h q26 s.2.1 fun v28 =>
            if v24 = v28 then
              gR h x0 8 fun q30 =>
              ty sh q30 7 <|
              lI sh h q30 s.2.2 fun v32 =>
              gR h x0 8 fun q34 =>
              ty sh q34 7 <|
              lI sh h q34 s.2.1 fun v36 =>
              if v36 ≤ v32 then
                rec (s.1, s.2.1, s.2.2 + (1 : Int32)) h
              else
                rec (s.1, s.2.2, s.2.2 + (1 : Int32)) h
            else
              rec (s.1, s.2.1, s.2.2 + (1 : Int32)) h

def f_X6_use (sh : Sh) (a0 : Nat) (p1 : Int32) (p2 : Int32) (p3 : Int32) (p4 : Int32) (h : Hp) (K : Int32 → Hp → Prop) : Prop :=
  lo (b_X6_use_12 sh a0 p1 p2 p3 p4
    (fun y66 y67 h68 =>
      if y66 < 0 then
        ty sh a0 6 <|
        gR h68 a0 10 fun q70 =>
        ty sh q70 7 <|
        lI sh h68 q70 p1 fun v72 =>
        if v72 = p4 then
          if 0 ≤ y67 then
            gR h68 a0 10 fun q92 =>
            ty sh q92 7 <|
            lI sh h68 q92 p1 fun v94 =>
            sI sh h68 q92 p1 (v94 + (0 : Int32)) fun h96 =>
            gR h96 a0 8 fun q98 =>
            ty sh q98 7 <|
            sI sh h96 q98 y67 p2 fun h100 =>
            gR h100 a0 9 fun q102 =>
            ty sh q102 7 <|
            sI sh h100 q102 y67 p3 fun h104 =>
            K (1 : Int32) h104
          else
            K (-1 : Int32) h68
        else
          gR h68 a0 10 fun q74 =>
          ty sh q74 7 <|
          lI sh h68 q74 p1 fun v76 =>
          gR h68 a0 10 fun q78 =>
          ty sh q78 7 <|
          lI sh h68 q78 p1 fun v80 =>
          sI sh h68 q78 p1 (v80 + (1 : Int32)) fun h82 =>
          gR h82 a0 8 fun q84 =>
          ty sh q84 7 <|
          sI sh h82 q84 (((8 : Int32) * p1) + v76) p2 fun h86 =>
          gR h86 a0 9 fun q88 =>
          ty sh q88 7 <|
          sI sh h86 q88 (((8 : Int32) * p1) + v76) p3 fun h90 =>
          K (1 : Int32) h90
      else
        ty sh a0 6 <|
        gR h68 a0 10 fun q107 =>
        ty sh q107 7 <|
        lI sh h68 q107 p1 fun v109 =>
        if v109 = p4 then
          gR h68 a0 10 fun q125 =>
          ty sh q125 7 <|
          lI sh h68 q125 p1 fun v127 =>
          sI sh h68 q125 p1 (v127 + (0 : Int32)) fun h129 =>
          gR h129 a0 8 fun q131 =>
          ty sh q131 7 <|
          sI sh h129 q131 y66 p2 fun h133 =>
          gR h133 a0 9 fun q135 =>
          ty sh q135 7 <|
          sI sh h133 q135 y66 p3 fun h137 =>
          K (0 : Int32) h137
        else
          gR h68 a0 10 fun q111 =>
          ty sh q111 7 <|
          lI sh h68 q111 p1 fun v113 =>
          sI sh h68 q111 p1 (v113 + (0 : Int32)) fun h115 =>
          gR h115 a0 8 fun q117 =>
          ty sh q117 7 <|
          sI sh h115 q117 y66 p2 fun h119 =>
          gR h119 a0 9 fun q121 =>
          ty sh q121 7 <|
          sI sh h119 q121 y66 p3 fun h123 =>
          K (0 : Int32) h123)) ((-1 : Int32), (-1 : Int32), (8 : Int32) * p1) h

def b_X6_loadsBy_4 (sh : Sh) (x0 : Nat) (x1 : Int32) (x2 : Int32) (Xc : Hp → Prop) (rec : Int32 → Hp → Prop) (s : Int32) (h : Hp) : Prop :=
  if (4 : Int32) ≤ s then
    Xc h
  else
    ty sh x0 6 <|
    gR h x0 10 fun q2 =>
    ty sh q2 7 <|
    sI sh h q2 s (0 : Int32) fun h4 =>
    rec (s + (1 : Int32)) h4

def b_X6_loadsBy_39 (sh : Sh) (x0 : Nat) (x1 : Int32) (x3 : Int32) (Xc : Int32 → Hp → Prop) (K : Int32 → Hp → Prop) (rec : Int32 × Int32 → Hp → Prop) (s : Int32 × Int32) (h : Hp) : Prop :=
  if (6 : Int32) ≤ s.2 then
    Xc s.1 h
  else
    ty sh x0 6 <|
    gR h x0 0 fun q13 =>
    ty sh q13 7 <|
    lI sh h q13 (((599 : Int32) + ((2 : Int32) * x3)) + (1 : Int32)) fun v15 =>
    if ((v15 >>> (s.2 &&& 31)) &&& (1 : Int32)) = (1 : Int32) then
      gR h x0 0 fun q17 =>
      ty sh q17 7 <|
      lI sh h q17 ((599 : Int32) + ((2 : Int32) * x3)) fun v19 =>
      f_X6_use sh x0 v19 s.2 x3 x1 h fun r21 h22 =>
      if 0 ≤ r21 then
        rec (s.1 + r21, s.2 + (1 : Int32)) h22
      else
        K (-1 : Int32) h22
    else
      rec (s.1, s.2 + (1 : Int32)) h

def b_X6_loadsBy_24 (sh : Sh) (x0 : Nat) (x1 : Int32) (Xc : Int32 → Hp → Prop) (K : Int32 → Hp → Prop) (rec : Int32 × Int32 → Hp → Prop) (s : Int32 × Int32) (h : Hp) : Prop :=
  ty sh x0 6 <|
  gR h x0 0 fun q8 =>
  ty sh q8 7 <|
  lI sh h q8 (598 : Int32) fun v10 =>
  if v10 ≤ s.2 then
    Xc s.1 h
  else
    lo (b_X6_loadsBy_39 sh x0 x1 s.2
      (fun y23 h24 =>
        rec (y23, s.2 + (1 : Int32)) h24) K) (s.1, (0 : Int32)) h

def f_X6_loadsBy (sh : Sh) (a0 : Nat) (p1 : Int32) (h : Hp) (K : Int32 → Hp → Prop) : Prop :=
  lo (b_X6_loadsBy_4 sh a0 p1 (0 : Int32)
    (fun  h6 =>
      lo (b_X6_loadsBy_24 sh a0 p1
        (fun y25 h26 =>
          K y25 h26) K) ((0 : Int32), (0 : Int32)) h6)) (0 : Int32) h

def b_X6_bestRoom_32 (sh : Sh) (x0 : Nat) (x1 : Int32) (Xc : Int32 → Int32 → Hp → Prop) (rec : Int32 × Int32 × Int32 → Hp → Prop) (s : Int32 × Int32 × Int32) (h : Hp) : Prop :=
  if (8 : Int32) < s.2.2 then
    Xc s.1 s.2.1 h
  else
    ty sh x0 6 <|
    f_X6_loadsBy sh x0 s.2.2 h fun r9 h10 =>
    if r9 < 0 then
      rec (s.1, s.2.1, s.2.2 + (1 : Int32)) h10
    else
      if s.2.1 < 0 then
        rec (s.2.2, r9, s.2.2 + (1 : Int32)) h10
      else
        if s.2.1 ≤ r9 then
          rec (s.1, s.2.1, s.2.2 + (1 : Int32)) h10
        else
          rec (s.2.2, r9, s.2.2 + (1 : Int32)) h10

def f_X6_bestRoom (sh : Sh) (a0 : Nat) (p1 : Int32) (h : Hp) (K : Int32 → Hp → Prop) : Prop :=
  f_X6_in sh p1 (0 : Int32) (1 : Int32) h fun r1 h2 =>
  if r1 = 0 then
    K (-1 : Int32) h2
  else
    ty sh a0 6 <|
    gR h2 a0 0 fun q4 =>
    ty sh q4 7 <|
    lI sh h2 q4 (598 : Int32) fun v6 =>
    if v6 = 0 then
      K (-4 : Int32) h2
    else
      lo (b_X6_bestRoom_32 sh a0 p1
        (fun y11 y12 h13 =>
          if p1 = 0 then
            K y11 h13
          else
            K y12 h13)) ((0 : Int32), (-1 : Int32), (1 : Int32)) h2

def b_X6_canChange_4 (sh : Sh) (x0 : Nat) (Xc : Int32 → Hp → Prop) (rec : Int32 × Int32 → Hp → Prop) (s : Int32 × Int32) (h : Hp) : Prop :=
  if (6 : Int32) ≤ s.2 then
    Xc s.1 h
  else
    ty sh x0 6 <|
    f_X6_inWay sh x0 s.2 h fun r2 h3 =>
    if r2 = (-4 : Int32) then
      rec (s.1 ||| ((1 : Int32) <<< (s.2 &&& 31)), s.2 + (1 : Int32)) h3
    else
      rec (s.1 ||| (0 : Int32), s.2 + (1 : Int32)) h3

def f_X6_canChange (sh : Sh) (a0 : Nat) (h : Hp) (K : Int32 → Hp → Prop) : Prop :=
  lo (b_X6_canChange_4 sh a0
    (fun y4 h5 =>
      K y4 h5)) ((0 : Int32), (0 : Int32)) h

def f_X6_clearText (sh : Sh) (a0 : Nat) (h : Hp) (K : Int32 → Hp → Prop) : Prop :=
  ty sh a0 6 <|
  gI h a0 7 fun v2 =>
  pI h a0 7 (0 : Int32) fun h3 =>
  K v2 h3

def f_X6_count (sh : Sh) (a0 : Nat) (p1 : Int32) (h : Hp) (K : Int32 → Hp → Prop) : Prop :=
  if p1 = (0 : Int32) then
    ty sh a0 6 <|
    gR h a0 0 fun q2 =>
    ty sh q2 7 <|
    lI sh h q2 p1 fun v4 =>
    K v4 h
  else
    if p1 = (1 : Int32) then
      ty sh a0 6 <|
      gR h a0 0 fun q7 =>
      ty sh q7 7 <|
      lI sh h q7 p1 fun v9 =>
      K v9 h
    else
      if p1 = (2 : Int32) then
        ty sh a0 6 <|
        gR h a0 0 fun q12 =>
        ty sh q12 7 <|
        lI sh h q12 p1 fun v14 =>
        K v14 h
      else
        if p1 = (3 : Int32) then
          ty sh a0 6 <|
          gR h a0 0 fun q17 =>
          ty sh q17 7 <|
          lI sh h q17 (437 : Int32) fun v19 =>
          K v19 h
        else
          if p1 = (4 : Int32) then
            ty sh a0 6 <|
            gI h a0 3 fun v22 =>
            K v22 h
          else
            if p1 = (5 : Int32) then
              ty sh a0 6 <|
              gI h a0 7 fun v24 =>
              K v24 h
            else
              if p1 = (6 : Int32) then
                ty sh a0 6 <|
                gI h a0 5 fun v26 =>
                if v26 = 0 then
                  K (0 : Int32) h
                else
                  K (1 : Int32) h
              else
                if p1 = (7 : Int32) then
                  ty sh a0 6 <|
                  f_X6_canChange sh a0 h fun r28 h29 =>
                  K r28 h29
                else
                  if p1 = (8 : Int32) then
                    ty sh a0 6 <|
                    f_X6_allLoads sh a0 h fun r31 h32 =>
                    K r31 h32
                  else
                    if p1 = (9 : Int32) then
                      K (-1 : Int32) h
                    else
                      if p1 = (10 : Int32) then
                        K (-1 : Int32) h
                      else
                        if p1 = (11 : Int32) then
                          K (-1 : Int32) h
                        else
                          if p1 = (12 : Int32) then
                            K (-1 : Int32) h
                          else
                            if p1 = (13 : Int32) then
                              K (-1 : Int32) h
                            else
                              if p1 = (14 : Int32) then
                                K (-1 : Int32) h
                              else
                                if p1 = (15 : Int32) then
                                  K (-1 : Int32) h
                                else
                                  if p1 = (16 : Int32) then
                                    K (-1 : Int32) h
                                  else
                                    if p1 = (17 : Int32) then
                                      K (-1 : Int32) h
                                    else
                                      if p1 = (18 : Int32) then
                                        K (-1 : Int32) h
                                      else
                                        if p1 = (19 : Int32) then
                                          K (-1 : Int32) h
                                        else
                                          if p1 = (20 : Int32) then
                                            ty sh a0 6 <|
                                            gR h a0 0 fun q34 =>
                                            ty sh q34 7 <|
                                            lI sh h q34 (((3 : Int32) + p1) - (20 : Int32)) fun v36 =>
                                            K v36 h
                                          else
                                            if p1 = (21 : Int32) then
                                              ty sh a0 6 <|
                                              gR h a0 0 fun q39 =>
                                              ty sh q39 7 <|
                                              lI sh h q39 (((3 : Int32) + p1) - (20 : Int32)) fun v41 =>
                                              K v41 h
                                            else
                                              K (-1 : Int32) h

def f_X6_isSession (sh : Sh) (p0 : Int32) (h : Hp) (K : Int32 → Hp → Prop) : Prop :=
  f_X6_in sh p0 (0 : Int32) (3 : Int32) h fun r1 h2 =>
  bz r1 <|
  K r1 h2

def b_X6_opensOf_4 (sh : Sh) (x0 : Nat) (x1 : Int32) (Xc : Int32 → Hp → Prop) (rec : Int32 × Int32 → Hp → Prop) (s : Int32 × Int32) (h : Hp) : Prop :=
  ty sh x0 6 <|
  gR h x0 0 fun q2 =>
  ty sh q2 7 <|
  lI sh h q2 (437 : Int32) fun v4 =>
  if v4 ≤ s.2 then
    Xc s.1 h
  else
    gR h x0 0 fun q6 =>
    f_X6_ofOpen sh s.2 (1 : Int32) h fun r7 h8 =>
    ty sh q6 7 <|
    lI sh h8 q6 r7 fun v10 =>
    if v10 = x1 then
      rec (s.1 + (1 : Int32), s.2 + (1 : Int32)) h8
    else
      rec (s.1 + (0 : Int32), s.2 + (1 : Int32)) h8

def f_X6_opensOf (sh : Sh) (a0 : Nat) (p1 : Int32) (h : Hp) (K : Int32 → Hp → Prop) : Prop :=
  lo (b_X6_opensOf_4 sh a0 p1
    (fun y12 h13 =>
      K y12 h13)) ((0 : Int32), (0 : Int32)) h

def b_X6_entryOf_6 (sh : Sh) (x0 : Nat) (x1 : Int32) (x2 : Int32) (x3 : Int32) (Xc : Int32 → Hp → Prop) (rec : Int32 × Int32 → Hp → Prop) (s : Int32 × Int32) (h : Hp) : Prop :=
  ty sh x0 6 <|
  gR h x0 0 fun q2 =>
  f_X6_of sh x1 (6 : Int32) h fun r3 h4 =>
  ty sh q2 7 <|
  lI sh h4 q2 r3 fun v6 =>
  if v6 ≤ s.2 then
    Xc s.1 h4
  else
    if 0 ≤ x3 then
      gR h4 x0 0 fun q8 =>
      f_X6_ofEntry sh x1 s.2 (1 : Int32) h4 fun r9 h10 =>
      ty sh q8 7 <|
      lI sh h10 q8 r9 fun v12 =>
      if v12 = x3 then
        gR h10 x0 0 fun q14 =>
        f_X6_ofEntry sh x1 s.2 (0 : Int32) h10 fun r15 h16 =>
        ty sh q14 7 <|
        lI sh h16 q14 r15 fun v18 =>
        if v18 = x2 then
          rec (s.2, s.2 + (1 : Int32)) h16
        else
          rec (s.1, s.2 + (1 : Int32)) h16
      else
        rec (s.1, s.2 + (1 : Int32)) h10
    else
      gR h4 x0 0 fun q20 =>
      f_X6_ofEntry sh x1 s.2 (5 : Int32) h4 fun r21 h22 =>
      ty sh q20 7 <|
      lI sh h22 q20 r21 fun v24 =>
      if v24 = 0 then
        gR h22 x0 0 fun q26 =>
        f_X6_ofEntry sh x1 s.2 (0 : Int32) h22 fun r27 h28 =>
        ty sh q26 7 <|
        lI sh h28 q26 r27 fun v30 =>
        if v30 = x2 then
          rec (s.2, s.2 + (1 : Int32)) h28
        else
          rec (s.1, s.2 + (1 : Int32)) h28
      else
        rec (s.1, s.2 + (1 : Int32)) h22

def f_X6_entryOf (sh : Sh) (a0 : Nat) (p1 : Int32) (p2 : Int32) (p3 : Int32) (h : Hp) (K : Int32 → Hp → Prop) : Prop :=
  lo (b_X6_entryOf_6 sh a0 p1 p2 p3
    (fun y32 h33 =>
      K y32 h33)) ((-1 : Int32), (0 : Int32)) h

def b_X6_oldest_4 (sh : Sh) (x0 : Nat) (x1 : Int32) (Xc : Int32 → Hp → Prop) (rec : Int32 × Int32 → Hp → Prop) (s : Int32 × Int32) (h : Hp) : Prop :=
  ty sh x0 6 <|
  gR h x0 0 fun q2 =>
  f_X6_of sh x1 (6 : Int32) h fun r3 h4 =>
  ty sh q2 7 <|
  lI sh h4 q2 r3 fun v6 =>
  if v6 ≤ s.2 then
    Xc s.1 h4
  else
    gR h4 x0 0 fun q8 =>
    f_X6_ofEntry sh x1 s.2 (3 : Int32) h4 fun r9 h10 =>
    ty sh q8 7 <|
    lI sh h10 q8 r9 fun v12 =>
    if v12 = 0 then
      if s.1 < 0 then
        rec (s.2, s.2 + (1 : Int32)) h10
      else
        gR h10 x0 0 fun q14 =>
        f_X6_ofEntry sh x1 s.2 (4 : Int32) h10 fun r15 h16 =>
        ty sh q14 7 <|
        lI sh h16 q14 r15 fun v18 =>
        gR h16 x0 0 fun q20 =>
        f_X6_ofEntry sh x1 s.1 (4 : Int32) h16 fun r21 h22 =>
        ty sh q20 7 <|
        lI sh h22 q20 r21 fun v24 =>
        if v24 ≤ v18 then
          rec (s.1, s.2 + (1 : Int32)) h22
        else
          rec (s.2, s.2 + (1 : Int32)) h22
    else
      rec (s.1, s.2 + (1 : Int32)) h10

def f_X6_oldest (sh : Sh) (a0 : Nat) (p1 : Int32) (h : Hp) (K : Int32 → Hp → Prop) : Prop :=
  lo (b_X6_oldest_4 sh a0 p1
    (fun y26 h27 =>
      K y26 h27)) ((-1 : Int32), (0 : Int32)) h

def b_X6_shrink_2 (sh : Sh) (x0 : Nat) (x1 : Int32) (x2 : Int32) (Xc : Int32 → Hp → Prop) (rec : Int32 → Hp → Prop) (s : Int32) (h : Hp) : Prop :=
  ty sh x0 6 <|
  gR h x0 0 fun q2 =>
  f_X6_of sh x1 (6 : Int32) h fun r3 h4 =>
  ty sh q2 7 <|
  lI sh h4 q2 r3 fun v6 =>
  if v6 ≤ x2 then
    Xc s h4
  else
    f_X6_oldest sh x0 x1 h4 fun r8 h9 =>
    if r8 < 0 then
      Xc s h9
    else
      f_X6_oldest sh x0 x1 h9 fun r10 h11 =>
      f_X6_remove sh x0 x1 r10 h11 fun h13 =>
      gR h13 x0 0 fun q14 =>
      f_X6_of sh x1 (3 : Int32) h13 fun r15 h16 =>
      ty sh q14 7 <|
      lI sh h16 q14 r15 fun v18 =>
      sI sh h16 q14 r15 (v18 + (1 : Int32)) fun h20 =>
      rec (s + (1 : Int32)) h20

def f_X6_shrink (sh : Sh) (a0 : Nat) (p1 : Int32) (p2 : Int32) (h : Hp) (K : Int32 → Hp → Prop) : Prop :=
  lo (b_X6_shrink_2 sh a0 p1 p2
    (fun y22 h23 =>
      K y22 h23)) (0 : Int32) h

def b_X6_load_36 (sh : Sh) (x0 : Nat) (x1 : Int32) (x2 : Int32) (x3 : Int32) (Xc : Hp → Prop) (rec : Int32 → Hp → Prop) (s : Int32) (h : Hp) : Prop :=
  if (6 : Int32) ≤ s then
    Xc h
  else
    ty sh x0 6 <|
    gR h x0 0 fun q16 =>
    f_X6_ofEntry sh x1 x3 s h fun r17 h18 =>
    gR h18 x0 0 fun q19 =>
    f_X6_ofEntry sh x1 (x3 - (1 : Int32)) s h18 fun r20 h21 =>
    ty sh q19 7 <|
    lI sh h21 q19 r20 fun v23 =>
    ty sh q16 7 <|
    sI sh h21 q16 r17 v23 fun h26 =>
    rec (s + (1 : Int32)) h26

def b_X6_load_12 (sh : Sh) (x0 : Nat) (x1 : Int32) (x2 : Int32) (Xc : Int32 → Hp → Prop) (rec : Int32 → Hp → Prop) (s : Int32) (h : Hp) : Prop :=
  if s ≤ 0 then
    Xc s h
  else
    ty sh x0 6 <|
    gR h x0 0 fun q9 =>
    f_X6_ofEntry sh x1 (s - (1 : Int32)) (0 : Int32) h fun r10 h11 =>
    ty sh q9 7 <|
    lI sh h11 q9 r10 fun v13 =>
    if v13 ≤ x2 then
      Xc s h11
    else
      lo (b_X6_load_36 sh x0 x1 x2 s
        (fun  h28 =>
          rec (s + (-1 : Int32)) h28)) (0 : Int32) h11

def f_X6_load (sh : Sh) (a0 : Nat) (p1 : Int32) (p2 : Int32) (h : Hp) (K : Int32 → Hp → Prop) : Prop :=
  ty sh a0 6 <|
  gR h a0 0 fun q2 =>
  f_X6_of sh p1 (6 : Int32) h fun r3 h4 =>
  ty sh q2 7 <|
  lI sh h4 q2 r3 fun v6 =>
  lo (b_X6_load_12 sh a0 p1 p2
    (fun y29 h30 =>
      gR h30 a0 0 fun q31 =>
      f_X6_of sh p1 (6 : Int32) h30 fun r32 h33 =>
      ty sh q31 7 <|
      lI sh h33 q31 r32 fun v35 =>
      sI sh h33 q31 r32 (v35 + (1 : Int32)) fun h37 =>
      gR h37 a0 0 fun q39 =>
      f_X6_ofEntry sh p1 y29 (0 : Int32) h37 fun r40 h41 =>
      ty sh q39 7 <|
      sI sh h41 q39 r40 p2 fun h43 =>
      gR h43 a0 0 fun q45 =>
      f_X6_ofEntry sh p1 y29 (1 : Int32) h43 fun r46 h47 =>
      gR h47 a0 0 fun q48 =>
      ty sh q48 7 <|
      lI sh h47 q48 ((5 : Int32) + p2) fun v50 =>
      ty sh q45 7 <|
      sI sh h47 q45 r46 v50 fun h53 =>
      gR h53 a0 0 fun q55 =>
      f_X6_ofEntry sh p1 y29 (2 : Int32) h53 fun r56 h57 =>
      gR h57 a0 0 fun q58 =>
      ty sh q58 7 <|
      lI sh h57 q58 ((11 : Int32) + p2) fun v60 =>
      ty sh q55 7 <|
      sI sh h57 q55 r56 v60 fun h63 =>
      gR h63 a0 0 fun q65 =>
      f_X6_ofEntry sh p1 y29 (3 : Int32) h63 fun r66 h67 =>
      ty sh q65 7 <|
      sI sh h67 q65 r66 (0 : Int32) fun h69 =>
      gR h69 a0 0 fun q71 =>
      f_X6_ofEntry sh p1 y29 (5 : Int32) h69 fun r72 h73 =>
      ty sh q71 7 <|
      sI sh h73 q71 r72 (0 : Int32) fun h75 =>
      K y29 h75)) v6 h4

def b_X6_remember_15 (sh : Sh) (x0 : Nat) (x1 : Int32) (x2 : Int32) (Xc : Hp → Prop) (rec : Int32 → Hp → Prop) (s : Int32) (h : Hp) : Prop :=
  if (22 : Int32) ≤ s then
    Xc h
  else
    ty sh x0 6 <|
    gR h x0 0 fun q29 =>
    gR h x0 0 fun q30 =>
    ty sh q30 7 <|
    lI sh h q30 (((599 : Int32) + s) + (2 : Int32)) fun v32 =>
    ty sh q29 7 <|
    sI sh h q29 ((599 : Int32) + s) v32 fun h35 =>
    rec (s + (1 : Int32)) h35

def f_X6_remember (sh : Sh) (a0 : Nat) (p1 : Int32) (p2 : Int32) (h : Hp) (K : Hp → Prop) : Prop :=
  ty sh a0 6 <|
  gR h a0 0 fun q2 =>
  ty sh q2 7 <|
  lI sh h q2 (598 : Int32) fun v4 =>
  if v4 = (12 : Int32) then
    lo (b_X6_remember_15 sh a0 p1 p2
      (fun  h37 =>
        gR h37 a0 0 fun q38 =>
        ty sh q38 7 <|
        lI sh h37 q38 (598 : Int32) fun v40 =>
        sI sh h37 q38 (598 : Int32) (v40 - (1 : Int32)) fun h42 =>
        gR h42 a0 0 fun q44 =>
        gR h42 a0 0 fun q45 =>
        ty sh q45 7 <|
        lI sh h42 q45 (598 : Int32) fun v47 =>
        ty sh q44 7 <|
        sI sh h42 q44 ((599 : Int32) + ((2 : Int32) * v47)) p1 fun h50 =>
        gR h50 a0 0 fun q52 =>
        gR h50 a0 0 fun q53 =>
        ty sh q53 7 <|
        lI sh h50 q53 (598 : Int32) fun v55 =>
        ty sh q52 7 <|
        sI sh h50 q52 (((599 : Int32) + ((2 : Int32) * v55)) + (1 : Int32)) p2 fun h58 =>
        gR h58 a0 0 fun q60 =>
        ty sh q60 7 <|
        lI sh h58 q60 (598 : Int32) fun v62 =>
        sI sh h58 q60 (598 : Int32) (v62 + (1 : Int32)) fun h64 =>
        K h64)) (0 : Int32) h
  else
    gR h a0 0 fun q6 =>
    gR h a0 0 fun q7 =>
    ty sh q7 7 <|
    lI sh h q7 (598 : Int32) fun v9 =>
    ty sh q6 7 <|
    sI sh h q6 ((599 : Int32) + ((2 : Int32) * v9)) p1 fun h12 =>
    gR h12 a0 0 fun q14 =>
    gR h12 a0 0 fun q15 =>
    ty sh q15 7 <|
    lI sh h12 q15 (598 : Int32) fun v17 =>
    ty sh q14 7 <|
    sI sh h12 q14 (((599 : Int32) + ((2 : Int32) * v17)) + (1 : Int32)) p2 fun h20 =>
    gR h20 a0 0 fun q22 =>
    ty sh q22 7 <|
    lI sh h20 q22 (598 : Int32) fun v24 =>
    sI sh h20 q22 (598 : Int32) (v24 + (1 : Int32)) fun h26 =>
    K h26

def b_X6_starts_92 (sh : Sh) (x0 : Nat) (x1 : Int32) (x2 : Int32) (x3 : Int32) (x4 : Int32) (Xc : Hp → Prop) (K : Int32 → Hp → Prop) (rec : Int32 → Hp → Prop) (s : Int32) (h : Hp) : Prop :=
  if (6 : Int32) ≤ s then
    Xc h
  else
    if ((x2 >>> (s &&& 31)) &&& (1 : Int32)) = (1 : Int32) then
      ty sh x0 6 <|
      f_X6_entryOf sh x0 x1 s (-1 : Int32) h fun r41 h42 =>
      if 0 ≤ r41 then
        gR h42 x0 0 fun q43 =>
        f_X6_of sh x1 (1 : Int32) h42 fun r44 h45 =>
        ty sh q43 7 <|
        lI sh h45 q43 r44 fun v47 =>
        sI sh h45 q43 r44 (v47 + (1 : Int32)) fun h49 =>
        gR h49 x0 0 fun q51 =>
        f_X6_ofEntry sh x1 r41 (3 : Int32) h49 fun r52 h53 =>
        ty sh q51 7 <|
        lI sh h53 q51 r52 fun v55 =>
        sI sh h53 q51 r52 (v55 + (1 : Int32)) fun h57 =>
        gR h57 x0 0 fun q59 =>
        f_X6_ofEntry sh x1 r41 (4 : Int32) h57 fun r60 h61 =>
        ty sh q59 7 <|
        sI sh h61 q59 r60 x3 fun h63 =>
        gR h63 x0 0 fun q65 =>
        f_X6_ofOpen sh x4 ((4 : Int32) + s) h63 fun r66 h67 =>
        gR h67 x0 0 fun q68 =>
        f_X6_ofEntry sh x1 r41 (1 : Int32) h67 fun r69 h70 =>
        ty sh q68 7 <|
        lI sh h70 q68 r69 fun v72 =>
        ty sh q65 7 <|
        sI sh h70 q65 r66 v72 fun h75 =>
        rec (s + (1 : Int32)) h75
      else
        gR h42 x0 0 fun q77 =>
        ty sh q77 7 <|
        lI sh h42 q77 (4 : Int32) fun v79 =>
        f_X6_shrink sh x0 x1 (v79 - (1 : Int32)) h42 fun r81 h82 =>
        gR h82 x0 0 fun q83 =>
        f_X6_of sh x1 (6 : Int32) h82 fun r84 h85 =>
        ty sh q83 7 <|
        lI sh h85 q83 r84 fun v87 =>
        gR h85 x0 0 fun q89 =>
        ty sh q89 7 <|
        lI sh h85 q89 (4 : Int32) fun v91 =>
        if v87 < v91 then
          f_X6_load sh x0 x1 s h85 fun r93 h94 =>
          gR h94 x0 0 fun q95 =>
          f_X6_of sh x1 (2 : Int32) h94 fun r96 h97 =>
          ty sh q95 7 <|
          lI sh h97 q95 r96 fun v99 =>
          sI sh h97 q95 r96 (v99 + (1 : Int32)) fun h101 =>
          gR h101 x0 0 fun q103 =>
          f_X6_ofEntry sh x1 r93 (3 : Int32) h101 fun r104 h105 =>
          ty sh q103 7 <|
          lI sh h105 q103 r104 fun v107 =>
          sI sh h105 q103 r104 (v107 + (1 : Int32)) fun h109 =>
          gR h109 x0 0 fun q111 =>
          f_X6_ofEntry sh x1 r93 (4 : Int32) h109 fun r112 h113 =>
          ty sh q111 7 <|
          sI sh h113 q111 r112 x3 fun h115 =>
          gR h115 x0 0 fun q117 =>
          f_X6_ofOpen sh x4 ((4 : Int32) + s) h115 fun r118 h119 =>
          gR h119 x0 0 fun q120 =>
          f_X6_ofEntry sh x1 r93 (1 : Int32) h119 fun r121 h122 =>
          ty sh q120 7 <|
          lI sh h122 q120 r121 fun v124 =>
          ty sh q117 7 <|
          sI sh h122 q117 r118 v124 fun h127 =>
          rec (s + (1 : Int32)) h127
        else
          K (-3 : Int32) h85
    else
      rec (s + (1 : Int32)) h

def f_X6_starts (sh : Sh) (a0 : Nat) (p1 : Int32) (p2 : Int32) (h : Hp) (K : Int32 → Hp → Prop) : Prop :=
  ty sh a0 6 <|
  f_X6_opensOf sh a0 p1 h fun r2 h3 =>
  if r2 = (4 : Int32) then
    K (-3 : Int32) h3
  else
    gR h3 a0 0 fun q4 =>
    ty sh q4 7 <|
    lI sh h3 q4 (2 : Int32) fun v6 =>
    if v6 = (999 : Int32) then
      K (-3 : Int32) h3
    else
      gR h3 a0 0 fun q8 =>
      ty sh q8 7 <|
      lI sh h3 q8 (2 : Int32) fun v10 =>
      gR h3 a0 0 fun q12 =>
      ty sh q12 7 <|
      lI sh h3 q12 (437 : Int32) fun v14 =>
      gR h3 a0 0 fun q16 =>
      f_X6_of sh p1 (4 : Int32) h3 fun r17 h18 =>
      ty sh q16 7 <|
      lI sh h18 q16 r17 fun v20 =>
      gR h18 a0 0 fun q22 =>
      f_X6_of sh p1 (0 : Int32) h18 fun r23 h24 =>
      ty sh q22 7 <|
      lI sh h24 q22 r23 fun v26 =>
      gR h24 a0 0 fun q28 =>
      ty sh q28 7 <|
      lI sh h24 q28 (1 : Int32) fun v30 =>
      if v30 ≤ v26 then
        sI sh h24 q16 r17 (v20 + (0 : Int32)) fun h32 =>
        gR h32 a0 0 fun q34 =>
        ty sh q34 7 <|
        lI sh h32 q34 (1 : Int32) fun v36 =>
        f_X6_learn sh a0 p1 v36 h32 fun h39 =>
        lo (b_X6_starts_92 sh a0 p1 p2 v10 v14
          (fun  h129 =>
            gR h129 a0 0 fun q130 =>
            f_X6_ofOpen sh v14 (0 : Int32) h129 fun r131 h132 =>
            ty sh q130 7 <|
            sI sh h132 q130 r131 v10 fun h134 =>
            gR h134 a0 0 fun q136 =>
            f_X6_ofOpen sh v14 (1 : Int32) h134 fun r137 h138 =>
            ty sh q136 7 <|
            sI sh h138 q136 r137 p1 fun h140 =>
            gR h140 a0 0 fun q142 =>
            f_X6_ofOpen sh v14 (2 : Int32) h140 fun r143 h144 =>
            ty sh q142 7 <|
            sI sh h144 q142 r143 p2 fun h146 =>
            gR h146 a0 0 fun q148 =>
            f_X6_ofOpen sh v14 (3 : Int32) h146 fun r149 h150 =>
            gR h150 a0 0 fun q151 =>
            ty sh q151 7 <|
            lI sh h150 q151 (0 : Int32) fun v153 =>
            ty sh q148 7 <|
            sI sh h150 q148 r149 v153 fun h156 =>
            gR h156 a0 0 fun q158 =>
            ty sh q158 7 <|
            lI sh h156 q158 (437 : Int32) fun v160 =>
            sI sh h156 q158 (437 : Int32) (v160 + (1 : Int32)) fun h162 =>
            gR h162 a0 0 fun q164 =>
            ty sh q164 7 <|
            lI sh h162 q164 (2 : Int32) fun v166 =>
            sI sh h162 q164 (2 : Int32) (v166 + (1 : Int32)) fun h168 =>
            f_X6_remember sh a0 p1 p2 h168 fun h171 =>
            K v10 h171) K) (0 : Int32) h39
      else
        sI sh h24 q16 r17 (v20 + (1 : Int32)) fun h172 =>
        gR h172 a0 0 fun q174 =>
        ty sh q174 7 <|
        lI sh h172 q174 (1 : Int32) fun v176 =>
        f_X6_learn sh a0 p1 v176 h172 fun h179 =>
        lo (b_X6_starts_92 sh a0 p1 p2 v10 v14
          (fun  h180 =>
            gR h180 a0 0 fun q181 =>
            f_X6_ofOpen sh v14 (0 : Int32) h180 fun r182 h183 =>
            ty sh q181 7 <|
            sI sh h183 q181 r182 v10 fun h185 =>
            gR h185 a0 0 fun q187 =>
            f_X6_ofOpen sh v14 (1 : Int32) h185 fun r188 h189 =>
            ty sh q187 7 <|
            sI sh h189 q187 r188 p1 fun h191 =>
            gR h191 a0 0 fun q193 =>
            f_X6_ofOpen sh v14 (2 : Int32) h191 fun r194 h195 =>
            ty sh q193 7 <|
            sI sh h195 q193 r194 p2 fun h197 =>
            gR h197 a0 0 fun q199 =>
            f_X6_ofOpen sh v14 (3 : Int32) h197 fun r200 h201 =>
            gR h201 a0 0 fun q202 =>
            ty sh q202 7 <|
            lI sh h201 q202 (0 : Int32) fun v204 =>
            ty sh q199 7 <|
            sI sh h201 q199 r200 v204 fun h207 =>
            gR h207 a0 0 fun q209 =>
            ty sh q209 7 <|
            lI sh h207 q209 (437 : Int32) fun v211 =>
            sI sh h207 q209 (437 : Int32) (v211 + (1 : Int32)) fun h213 =>
            gR h213 a0 0 fun q215 =>
            ty sh q215 7 <|
            lI sh h213 q215 (2 : Int32) fun v217 =>
            sI sh h213 q215 (2 : Int32) (v217 + (1 : Int32)) fun h219 =>
            f_X6_remember sh a0 p1 p2 h219 fun h222 =>
            K v10 h222) K) (0 : Int32) h179

def b_X6_placeOf_2 (sh : Sh) (x0 : Nat) (x1 : Int32) (Xc : Hp → Prop) (K : Int32 → Hp → Prop) (rec : Int32 → Hp → Prop) (s : Int32) (h : Hp) : Prop :=
  ty sh x0 6 <|
  gR h x0 0 fun q2 =>
  ty sh q2 7 <|
  lI sh h q2 (437 : Int32) fun v4 =>
  if v4 ≤ s then
    Xc h
  else
    gR h x0 0 fun q6 =>
    f_X6_ofOpen sh s (0 : Int32) h fun r7 h8 =>
    ty sh q6 7 <|
    lI sh h8 q6 r7 fun v10 =>
    if v10 = x1 then
      K s h8
    else
      rec (s + (1 : Int32)) h8

def f_X6_placeOf (sh : Sh) (a0 : Nat) (p1 : Int32) (h : Hp) (K : Int32 → Hp → Prop) : Prop :=
  lo (b_X6_placeOf_2 sh a0 p1
    (fun  h12 =>
      K (-1 : Int32) h12) K) (0 : Int32) h

def f_X6_endFault (sh : Sh) (a0 : Nat) (p1 : Int32) (h : Hp) (K : Int32 → Hp → Prop) : Prop :=
  if 0 ≤ p1 then
    ty sh a0 6 <|
    f_X6_placeOf sh a0 p1 h fun r2 h3 =>
    if 0 ≤ r2 then
      K (0 : Int32) h3
    else
      K (-2 : Int32) h3
  else
    K (-1 : Int32) h

def b_X6_ends_20 (sh : Sh) (x0 : Nat) (x2 : Int32) (x3 : Int32) (Xc : Hp → Prop) (rec : Int32 → Hp → Prop) (s : Int32) (h : Hp) : Prop :=
  if (6 : Int32) ≤ s then
    Xc h
  else
    ty sh x0 6 <|
    gR h x0 0 fun q11 =>
    f_X6_ofOpen sh x2 (2 : Int32) h fun r12 h13 =>
    ty sh q11 7 <|
    lI sh h13 q11 r12 fun v15 =>
    if ((v15 >>> (s &&& 31)) &&& (1 : Int32)) = (1 : Int32) then
      gR h13 x0 0 fun q17 =>
      gR h13 x0 0 fun q18 =>
      f_X6_ofOpen sh x2 ((4 : Int32) + s) h13 fun r19 h20 =>
      ty sh q18 7 <|
      lI sh h20 q18 r19 fun v22 =>
      f_X6_entryOf sh x0 x3 s v22 h20 fun r24 h25 =>
      f_X6_ofEntry sh x3 r24 (3 : Int32) h25 fun r26 h27 =>
      ty sh q17 7 <|
      lI sh h27 q17 r26 fun v29 =>
      sI sh h27 q17 r26 (v29 - (1 : Int32)) fun h31 =>
      rec (s + (1 : Int32)) h31
    else
      rec (s + (1 : Int32)) h13

def b_X6_ends_105 (sh : Sh) (x0 : Nat) (x3 : Int32) (Xc : Hp → Prop) (rec : Int32 → Hp → Prop) (s : Int32) (h : Hp) : Prop :=
  ty sh x0 6 <|
  gR h x0 0 fun q43 =>
  ty sh q43 7 <|
  lI sh h q43 (437 : Int32) fun v45 =>
  f_X6_ofOpen sh v45 (0 : Int32) h fun r47 h48 =>
  if r47 ≤ s then
    Xc h48
  else
    gR h48 x0 0 fun q49 =>
    gR h48 x0 0 fun q50 =>
    ty sh q50 7 <|
    lI sh h48 q50 (s + (10 : Int32)) fun v52 =>
    ty sh q49 7 <|
    sI sh h48 q49 s v52 fun h55 =>
    rec (s + (1 : Int32)) h55

def f_X6_ends (sh : Sh) (a0 : Nat) (p1 : Int32) (h : Hp) (K : Int32 → Hp → Prop) : Prop :=
  ty sh a0 6 <|
  f_X6_placeOf sh a0 p1 h fun r2 h3 =>
  gR h3 a0 0 fun q4 =>
  f_X6_ofOpen sh r2 (1 : Int32) h3 fun r5 h6 =>
  ty sh q4 7 <|
  lI sh h6 q4 r5 fun v8 =>
  lo (b_X6_ends_20 sh a0 r2 v8
    (fun  h33 =>
      gR h33 a0 0 fun q34 =>
      ty sh q34 7 <|
      lI sh h33 q34 (437 : Int32) fun v36 =>
      sI sh h33 q34 (437 : Int32) (v36 - (1 : Int32)) fun h38 =>
      f_X6_ofOpen sh r2 (0 : Int32) h38 fun r40 h41 =>
      lo (b_X6_ends_105 sh a0 v8
        (fun  h57 =>
          f_X6_clean sh a0 v8 h57 fun r58 h59 =>
          gR h59 a0 0 fun q60 =>
          ty sh q60 7 <|
          lI sh h59 q60 (4 : Int32) fun v62 =>
          f_X6_shrink sh a0 v8 v62 h59 fun r64 h65 =>
          K (r58 + r64) h65)) r40 h41)) (0 : Int32) h6

def b_X6_ticks_22 (sh : Sh) (x0 : Nat) (x1 : Int32) (x3 : Int32) (Xc : Int32 → Hp → Prop) (rec : Int32 × Int32 → Hp → Prop) (s : Int32 × Int32) (h : Hp) : Prop :=
  ty sh x0 6 <|
  gR h x0 0 fun q9 =>
  ty sh q9 7 <|
  lI sh h q9 (1 : Int32) fun v11 =>
  if v11 ≤ s.2 then
    Xc s.1 h
  else
    gR h x0 0 fun q13 =>
    ty sh q13 7 <|
    lI sh h q13 ((117 : Int32) + s.2) fun v15 =>
    gR h x0 0 fun q17 =>
    ty sh q17 7 <|
    lI sh h q17 (0 : Int32) fun v19 =>
    if v15 = v19 then
      f_X6_come sh x0 s.2 h fun h22 =>
      rec (s.1 + (4 : Int32), s.2 + (1 : Int32)) h22
    else
      rec (s.1, s.2 + (1 : Int32)) h

def b_X6_ticks_4 (sh : Sh) (x0 : Nat) (x1 : Int32) (Xc : Int32 → Hp → Prop) (rec : Int32 × Int32 → Hp → Prop) (s : Int32 × Int32) (h : Hp) : Prop :=
  if x1 ≤ s.2 then
    Xc s.1 h
  else
    ty sh x0 6 <|
    gR h x0 0 fun q2 =>
    ty sh q2 7 <|
    lI sh h q2 (0 : Int32) fun v4 =>
    sI sh h q2 (0 : Int32) (v4 + (1 : Int32)) fun h6 =>
    lo (b_X6_ticks_22 sh x0 x1 s.2
      (fun y23 h24 =>
        rec (y23, s.2 + (1 : Int32)) h24)) (s.1, (0 : Int32)) h6

def f_X6_ticks (sh : Sh) (a0 : Nat) (p1 : Int32) (h : Hp) (K : Int32 → Hp → Prop) : Prop :=
  lo (b_X6_ticks_4 sh a0 p1
    (fun y25 h26 =>
      K y25 h26)) ((0 : Int32), (0 : Int32)) h

def f_X6_does (sh : Sh) (a0 : Nat) (h : Hp) (K : Int32 → Hp → Prop) : Prop :=
  ty sh a0 6 <|
  gI h a0 13 fun v2 =>
  if v2 = (115 : Int32) then
    gI h a0 14 fun v51 =>
    f_X6_isSession sh v51 h fun r52 h53 =>
    if r52 = 0 then
      K (-1 : Int32) h53
    else
      gI h53 a0 15 fun v54 =>
      f_X6_in sh v54 (1 : Int32) (63 : Int32) h53 fun r55 h56 =>
      if r55 = 0 then
        K (-1 : Int32) h56
      else
        gI h56 a0 14 fun v57 =>
        gI h56 a0 15 fun v58 =>
        f_X6_starts sh a0 v57 v58 h56 fun r59 h60 =>
        if 0 ≤ r59 then
          K (0 : Int32) h60
        else
          K r59 h60
  else
    gI h a0 13 fun v3 =>
    if v3 = (99 : Int32) then
      gI h a0 14 fun v35 =>
      gI h a0 15 fun v36 =>
      f_X6_alterFault sh a0 v35 v36 h fun r37 h38 =>
      if r37 = 0 then
        gI h38 a0 13 fun v39 =>
        if v39 = (99 : Int32) then
          gI h38 a0 14 fun v47 =>
          gI h38 a0 15 fun v48 =>
          f_X6_alters sh a0 v47 v48 h38 fun r49 h50 =>
          K r37 h50
        else
          gI h38 a0 13 fun v40 =>
          if v40 = (101 : Int32) then
            gI h38 a0 14 fun v44 =>
            f_X6_ends sh a0 v44 h38 fun r45 h46 =>
            K r37 h46
          else
            gI h38 a0 14 fun v41 =>
            f_X6_ticks sh a0 v41 h38 fun r42 h43 =>
            K r37 h43
      else
        K r37 h38
    else
      gI h a0 13 fun v4 =>
      if v4 = (101 : Int32) then
        gI h a0 14 fun v20 =>
        f_X6_endFault sh a0 v20 h fun r21 h22 =>
        if r21 = 0 then
          gI h22 a0 13 fun v23 =>
          if v23 = (99 : Int32) then
            gI h22 a0 14 fun v31 =>
            gI h22 a0 15 fun v32 =>
            f_X6_alters sh a0 v31 v32 h22 fun r33 h34 =>
            K r21 h34
          else
            gI h22 a0 13 fun v24 =>
            if v24 = (101 : Int32) then
              gI h22 a0 14 fun v28 =>
              f_X6_ends sh a0 v28 h22 fun r29 h30 =>
              K r21 h30
            else
              gI h22 a0 14 fun v25 =>
              f_X6_ticks sh a0 v25 h22 fun r26 h27 =>
              K r21 h27
        else
          K r21 h22
      else
        gI h a0 14 fun v5 =>
        f_X6_in sh v5 (1 : Int32) (99 : Int32) h fun r6 h7 =>
        if r6 = 0 then
          K (-1 : Int32) h7
        else
          gI h7 a0 13 fun v8 =>
          if v8 = (99 : Int32) then
            gI h7 a0 14 fun v16 =>
            gI h7 a0 15 fun v17 =>
            f_X6_alters sh a0 v16 v17 h7 fun r18 h19 =>
            K (0 : Int32) h19
          else
            gI h7 a0 13 fun v9 =>
            if v9 = (101 : Int32) then
              gI h7 a0 14 fun v13 =>
              f_X6_ends sh a0 v13 h7 fun r14 h15 =>
              K (0 : Int32) h15
            else
              gI h7 a0 14 fun v10 =>
              f_X6_ticks sh a0 v10 h7 fun r11 h12 =>
              K (0 : Int32) h12

def f_X6_end (sh : Sh) (a0 : Nat) (p1 : Int32) (h : Hp) (K : Int32 → Hp → Prop) : Prop :=
  ty sh a0 6 <|
  f_X6_endFault sh a0 p1 h fun r2 h3 =>
  if 0 ≤ r2 then
    f_X6_know sh a0 h3 fun h5 =>
    f_X6_ends sh a0 p1 h5 fun r6 h7 =>
    K r6 h7
  else
    K r2 h3

def f_X6_entry (sh : Sh) (a0 : Nat) (p1 : Int32) (p2 : Int32) (p3 : Int32) (h : Hp) (K : Int32 → Hp → Prop) : Prop :=
  f_X6_isSession sh p1 h fun r1 h2 =>
  if r1 = 0 then
    K (-1 : Int32) h2
  else
    if p2 < 0 then
      K (-1 : Int32) h2
    else
      f_X6_in sh p3 (0 : Int32) (5 : Int32) h2 fun r3 h4 =>
      if r3 = 0 then
        K (-1 : Int32) h4
      else
        ty sh a0 6 <|
        gR h4 a0 0 fun q6 =>
        f_X6_of sh p1 (6 : Int32) h4 fun r7 h8 =>
        ty sh q6 7 <|
        lI sh h8 q6 r7 fun v10 =>
        if v10 ≤ p2 then
          K (-4 : Int32) h8
        else
          gR h8 a0 0 fun q12 =>
          f_X6_ofEntry sh p1 p2 p3 h8 fun r13 h14 =>
          ty sh q12 7 <|
          lI sh h14 q12 r13 fun v16 =>
          K v16 h14

def b_X6_putAside_2 (sh : Sh) (x0 : Nat) (Xc : Hp → Prop) (rec : Int32 → Hp → Prop) (s : Int32) (h : Hp) : Prop :=
  if (623 : Int32) ≤ s then
    Xc h
  else
    ty sh x0 6 <|
    gR h x0 1 fun q2 =>
    gR h x0 0 fun q3 =>
    ty sh q3 7 <|
    lI sh h q3 s fun v5 =>
    ty sh q2 7 <|
    sI sh h q2 s v5 fun h8 =>
    rec (s + (1 : Int32)) h8

def f_X6_putAside (sh : Sh) (a0 : Nat) (h : Hp) (K : Hp → Prop) : Prop :=
  lo (b_X6_putAside_2 sh a0
    (fun  h10 =>
      K h10)) (0 : Int32) h

def f_X6_sign (sh : Sh) (a0 : Nat) (p1 : Int32) (p2 : Int32) (h : Hp) (K : Int32 → Hp → Prop) : Prop :=
  ty sh a0 6 <|
  gI h a0 11 fun v2 =>
  gI h a0 7 fun v3 =>
  if v3 ≤ v2 then
    gI h a0 12 fun v4 =>
    if v4 = 0 then
      f_X6_in sh (0 : Int32) p1 p2 h fun r10 h11 =>
      if r10 = 0 then
        pI h11 a0 12 (1 : Int32) fun h17 =>
        gI h17 a0 11 fun v18 =>
        gI h17 a0 12 fun v19 =>
        if v19 = 0 then
          pI h17 a0 11 (v18 + (1 : Int32)) fun h20 =>
          K (0 : Int32) h20
        else
          pI h17 a0 11 (v18 + (0 : Int32)) fun h21 =>
          K (0 : Int32) h21
      else
        pI h11 a0 12 (0 : Int32) fun h12 =>
        gI h12 a0 11 fun v13 =>
        gI h12 a0 12 fun v14 =>
        if v14 = 0 then
          pI h12 a0 11 (v13 + (1 : Int32)) fun h15 =>
          K (0 : Int32) h15
        else
          pI h12 a0 11 (v13 + (0 : Int32)) fun h16 =>
          K (0 : Int32) h16
    else
      pI h a0 12 (1 : Int32) fun h5 =>
      gI h5 a0 11 fun v6 =>
      gI h5 a0 12 fun v7 =>
      if v7 = 0 then
        pI h5 a0 11 (v6 + (1 : Int32)) fun h8 =>
        K (0 : Int32) h8
      else
        pI h5 a0 11 (v6 + (0 : Int32)) fun h9 =>
        K (0 : Int32) h9
  else
    gR h a0 6 fun q22 =>
    gI h a0 11 fun v23 =>
    ty sh q22 7 <|
    lI sh h q22 v23 fun v25 =>
    gI h a0 12 fun v27 =>
    if v27 = 0 then
      f_X6_in sh v25 p1 p2 h fun r33 h34 =>
      if r33 = 0 then
        pI h34 a0 12 (1 : Int32) fun h40 =>
        gI h40 a0 11 fun v41 =>
        gI h40 a0 12 fun v42 =>
        if v42 = 0 then
          pI h40 a0 11 (v41 + (1 : Int32)) fun h43 =>
          K v25 h43
        else
          pI h40 a0 11 (v41 + (0 : Int32)) fun h44 =>
          K v25 h44
      else
        pI h34 a0 12 (0 : Int32) fun h35 =>
        gI h35 a0 11 fun v36 =>
        gI h35 a0 12 fun v37 =>
        if v37 = 0 then
          pI h35 a0 11 (v36 + (1 : Int32)) fun h38 =>
          K v25 h38
        else
          pI h35 a0 11 (v36 + (0 : Int32)) fun h39 =>
          K v25 h39
    else
      pI h a0 12 (1 : Int32) fun h28 =>
      gI h28 a0 11 fun v29 =>
      gI h28 a0 12 fun v30 =>
      if v30 = 0 then
        pI h28 a0 11 (v29 + (1 : Int32)) fun h31 =>
        K v25 h31
      else
        pI h28 a0 11 (v29 + (0 : Int32)) fun h32 =>
        K v25 h32

def b_X6_number_14 (sh : Sh) (x0 : Nat) (Xc : Int32 → Hp → Prop) (rec : Int32 × Int32 → Hp → Prop) (s : Int32 × Int32) (h : Hp) : Prop :=
  if (3 : Int32) ≤ s.2 then
    Xc s.1 h
  else
    ty sh x0 6 <|
    gI h x0 12 fun v5 =>
    if v5 = 0 then
      gI h x0 11 fun v6 =>
      gI h x0 7 fun v7 =>
      if v7 ≤ v6 then
        Xc s.1 h
      else
        gR h x0 6 fun q8 =>
        gI h x0 11 fun v9 =>
        ty sh q8 7 <|
        lI sh h q8 v9 fun v11 =>
        f_X6_in sh v11 (48 : Int32) (57 : Int32) h fun r13 h14 =>
        if r13 = 0 then
          Xc s.1 h14
        else
          f_X6_sign sh x0 (48 : Int32) (57 : Int32) h14 fun r15 h16 =>
          rec ((((10 : Int32) * s.1) + r15) - (48 : Int32), s.2 + (1 : Int32)) h16
    else
      Xc s.1 h

def f_X6_number (sh : Sh) (a0 : Nat) (h : Hp) (K : Int32 → Hp → Prop) : Prop :=
  ty sh a0 6 <|
  f_X6_sign sh a0 (48 : Int32) (57 : Int32) h fun r2 h3 =>
  lo (b_X6_number_14 sh a0
    (fun y17 h18 =>
      K y17 h18)) (r2 - (48 : Int32), (1 : Int32)) h3

def j_X6_read_161 (sh : Sh) (x0 : Nat) (h : Hp) (K : Hp → Prop) : Prop :=
  ty sh x0 6 <|
  f_X6_sign sh x0 (59 : Int32) (59 : Int32) h fun r18 h19 =>
  K h19

def j_X6_read_138 (sh : Sh) (x0 : Nat) (x2 : Int32) (h : Hp) (K : Hp → Prop) : Prop :=
  if x2 = 0 then
    ty sh x0 6 <|
    pI h x0 15 (0 : Int32) fun h16 =>
    j_X6_read_161 sh x0 h16 K
  else
    ty sh x0 6 <|
    gI h x0 12 fun v21 =>
    if v21 = 0 then
      f_X6_number sh x0 h fun r23 h24 =>
      pI h24 x0 15 r23 fun h25 =>
      j_X6_read_161 sh x0 h25 K
    else
      pI h x0 15 (0 : Int32) fun h22 =>
      j_X6_read_161 sh x0 h22 K

def j_X6_read_121 (sh : Sh) (x0 : Nat) (x2 : Int32) (h : Hp) (K : Hp → Prop) : Prop :=
  if x2 = 0 then
    j_X6_read_138 sh x0 x2 h K
  else
    ty sh x0 6 <|
    f_X6_sign sh x0 (44 : Int32) (44 : Int32) h fun r27 h28 =>
    j_X6_read_138 sh x0 x2 h28 K

def j_X6_read_103 (sh : Sh) (x0 : Nat) (x1 : Int32) (h : Hp) (K : Hp → Prop) : Prop :=
  if x1 = (99 : Int32) then
    j_X6_read_121 sh x0 (1 : Int32) h K
  else
    if x1 = (115 : Int32) then
      j_X6_read_121 sh x0 (1 : Int32) h K
    else
      j_X6_read_121 sh x0 (0 : Int32) h K

def j_X6_read_58 (sh : Sh) (x0 : Nat) (x1 : Int32) (h : Hp) (K : Hp → Prop) : Prop :=
  ty sh x0 6 <|
  gI h x0 11 fun v7 =>
  gI h x0 12 fun v8 =>
  if v8 = 0 then
    pI h x0 11 (v7 + (1 : Int32)) fun h9 =>
    pI h9 x0 13 x1 fun h10 =>
    gI h10 x0 12 fun v11 =>
    if v11 = 0 then
      f_X6_number sh x0 h10 fun r12 h13 =>
      pI h13 x0 14 r12 fun h14 =>
      j_X6_read_103 sh x0 x1 h14 K
    else
      pI h10 x0 14 (0 : Int32) fun h29 =>
      j_X6_read_103 sh x0 x1 h29 K
  else
    pI h x0 11 (v7 + (0 : Int32)) fun h30 =>
    pI h30 x0 13 x1 fun h31 =>
    gI h31 x0 12 fun v32 =>
    if v32 = 0 then
      f_X6_number sh x0 h31 fun r33 h34 =>
      pI h34 x0 14 r33 fun h35 =>
      j_X6_read_103 sh x0 x1 h35 K
    else
      pI h31 x0 14 (0 : Int32) fun h36 =>
      j_X6_read_103 sh x0 x1 h36 K

def j_X6_read_25 (sh : Sh) (x0 : Nat) (x1 : Int32) (h : Hp) (K : Hp → Prop) : Prop :=
  if x1 = (99 : Int32) then
    ty sh x0 6 <|
    pI h x0 12 (0 : Int32) fun h5 =>
    j_X6_read_58 sh x0 x1 h5 K
  else
    if x1 = (115 : Int32) then
      ty sh x0 6 <|
      pI h x0 12 (0 : Int32) fun h38 =>
      j_X6_read_58 sh x0 x1 h38 K
    else
      if x1 = (101 : Int32) then
        ty sh x0 6 <|
        pI h x0 12 (0 : Int32) fun h40 =>
        j_X6_read_58 sh x0 x1 h40 K
      else
        if x1 = (116 : Int32) then
          ty sh x0 6 <|
          pI h x0 12 (0 : Int32) fun h42 =>
          j_X6_read_58 sh x0 x1 h42 K
        else
          ty sh x0 6 <|
          pI h x0 12 (1 : Int32) fun h44 =>
          j_X6_read_58 sh x0 x1 h44 K

def f_X6_read (sh : Sh) (a0 : Nat) (h : Hp) (K : Hp → Prop) : Prop :=
  ty sh a0 6 <|
  gI h a0 11 fun v2 =>
  gI h a0 7 fun v3 =>
  if v3 ≤ v2 then
    j_X6_read_25 sh a0 (0 : Int32) h K
  else
    gR h a0 6 fun q45 =>
    gI h a0 11 fun v46 =>
    ty sh q45 7 <|
    lI sh h q45 v46 fun v48 =>
    j_X6_read_25 sh a0 v48 h K

def b_X6_go_12 (sh : Sh) (x0 : Nat) (Xc : Int32 → Hp → Prop) (rec : Int32 → Hp → Prop) (s : Int32) (h : Hp) : Prop :=
  ty sh x0 6 <|
  gI h x0 11 fun v5 =>
  gI h x0 7 fun v6 =>
  if v6 ≤ v5 then
    Xc s h
  else
    gI h x0 17 fun v7 =>
    if v7 = 0 then
      gI h x0 11 fun v8 =>
      pI h x0 16 v8 fun h9 =>
      f_X6_read sh x0 h9 fun h11 =>
      gI h11 x0 12 fun v12 =>
      if v12 = 0 then
        f_X6_does sh x0 h11 fun r13 h14 =>
        pI h14 x0 18 r13 fun h15 =>
        gI h15 x0 12 fun v16 =>
        if v16 = 0 then
          gI h15 x0 18 fun v17 =>
          if 0 ≤ v17 then
            pI h15 x0 17 (0 : Int32) fun h18 =>
            rec (s + (1 : Int32)) h18
          else
            pI h15 x0 17 (2 : Int32) fun h19 =>
            rec (s + (1 : Int32)) h19
        else
          pI h15 x0 17 (1 : Int32) fun h20 =>
          rec (s + (1 : Int32)) h20
      else
        pI h11 x0 18 (-4 : Int32) fun h21 =>
        gI h21 x0 12 fun v22 =>
        if v22 = 0 then
          gI h21 x0 18 fun v23 =>
          if 0 ≤ v23 then
            pI h21 x0 17 (0 : Int32) fun h24 =>
            rec (s + (1 : Int32)) h24
          else
            pI h21 x0 17 (2 : Int32) fun h25 =>
            rec (s + (1 : Int32)) h25
        else
          pI h21 x0 17 (1 : Int32) fun h26 =>
          rec (s + (1 : Int32)) h26
    else
      Xc s h

def f_X6_go (sh : Sh) (a0 : Nat) (h : Hp) (K : Int32 → Hp → Prop) : Prop :=
  ty sh a0 6 <|
  pI h a0 11 (0 : Int32) fun h2 =>
  pI h2 a0 17 (0 : Int32) fun h3 =>
  lo (b_X6_go_12 sh a0
    (fun y27 h28 =>
      K y27 h28)) (0 : Int32) h3

def b_X6_putBack_2 (sh : Sh) (x0 : Nat) (Xc : Hp → Prop) (rec : Int32 → Hp → Prop) (s : Int32) (h : Hp) : Prop :=
  if (623 : Int32) ≤ s then
    Xc h
  else
    ty sh x0 6 <|
    gR h x0 0 fun q2 =>
    gR h x0 1 fun q3 =>
    ty sh q3 7 <|
    lI sh h q3 s fun v5 =>
    ty sh q2 7 <|
    sI sh h q2 s v5 fun h8 =>
    rec (s + (1 : Int32)) h8

def f_X6_putBack (sh : Sh) (a0 : Nat) (h : Hp) (K : Hp → Prop) : Prop :=
  lo (b_X6_putBack_2 sh a0
    (fun  h10 =>
      K h10)) (0 : Int32) h

def f_X6_look (sh : Sh) (a0 : Nat) (h : Hp) (K : Hp → Prop) : Prop :=
  ty sh a0 6 <|
  f_X6_putAside sh a0 h fun h3 =>
  f_X6_go sh a0 h3 fun r4 h5 =>
  f_X6_putBack sh a0 h5 fun h7 =>
  K h7

def f_X6_fault (sh : Sh) (a0 : Nat) (p1 : Int32) (h : Hp) (K : Int32 → Hp → Prop) : Prop :=
  f_X6_in sh p1 (0 : Int32) (2 : Int32) h fun r1 h2 =>
  if r1 = 0 then
    K (-1 : Int32) h2
  else
    ty sh a0 6 <|
    f_X6_look sh a0 h2 fun h5 =>
    gI h5 a0 17 fun v6 =>
    if v6 = 0 then
      K (-4 : Int32) h5
    else
      if p1 = 0 then
        gI h5 a0 16 fun v9 =>
        K v9 h5
      else
        if p1 = (1 : Int32) then
          gI h5 a0 17 fun v8 =>
          K v8 h5
        else
          gI h5 a0 18 fun v7 =>
          K v7 h5

def b_X6_hands_4 (sh : Sh) (x0 : Nat) (x1 : Int32) (Xc : Int32 → Hp → Prop) (rec : Int32 × Int32 → Hp → Prop) (s : Int32 × Int32) (h : Hp) : Prop :=
  if (4 : Int32) ≤ s.2 then
    Xc s.1 h
  else
    ty sh x0 6 <|
    f_X6_entryOf sh x0 s.2 x1 (-1 : Int32) h fun r2 h3 =>
    if 0 ≤ r2 then
      rec (s.1 + (1 : Int32), s.2 + (1 : Int32)) h3
    else
      rec (s.1 + (0 : Int32), s.2 + (1 : Int32)) h3

def f_X6_hands (sh : Sh) (a0 : Nat) (p1 : Int32) (h : Hp) (K : Int32 → Hp → Prop) : Prop :=
  lo (b_X6_hands_4 sh a0 p1
    (fun y4 h5 =>
      K y4 h5)) ((0 : Int32), (0 : Int32)) h

def f_X6_inTheWay (sh : Sh) (a0 : Nat) (p1 : Int32) (h : Hp) (K : Int32 → Hp → Prop) : Prop :=
  f_X6_isTable sh p1 h fun r1 h2 =>
  if r1 = 0 then
    K (-1 : Int32) h2
  else
    ty sh a0 6 <|
    f_X6_inWay sh a0 p1 h2 fun r4 h5 =>
    K r4 h5

def b_X6_keep_2 (sh : Sh) (x0 : Nat) (Xc : Hp → Prop) (rec : Int32 → Hp → Prop) (s : Int32) (h : Hp) : Prop :=
  if (623 : Int32) ≤ s then
    Xc h
  else
    ty sh x0 6 <|
    gR h x0 4 fun q2 =>
    gR h x0 0 fun q3 =>
    ty sh q3 7 <|
    lI sh h q3 s fun v5 =>
    ty sh q2 7 <|
    sI sh h q2 s v5 fun h8 =>
    rec (s + (1 : Int32)) h8

def f_X6_keep (sh : Sh) (a0 : Nat) (h : Hp) (K : Int32 → Hp → Prop) : Prop :=
  lo (b_X6_keep_2 sh a0
    (fun  h10 =>
      ty sh a0 6 <|
      pI h10 a0 5 (1 : Int32) fun h12 =>
      gR h12 a0 0 fun q13 =>
      ty sh q13 7 <|
      lI sh h12 q13 (0 : Int32) fun v15 =>
      K v15 h12)) (0 : Int32) h

def b_X6_leastVersion_5 (sh : Sh) (x0 : Nat) (x1 : Int32) (Xc : Int32 → Hp → Prop) (rec : Int32 × Int32 → Hp → Prop) (s : Int32 × Int32) (h : Hp) : Prop :=
  ty sh x0 6 <|
  gR h x0 0 fun q2 =>
  ty sh q2 7 <|
  lI sh h q2 (437 : Int32) fun v4 =>
  if v4 ≤ s.2 then
    Xc s.1 h
  else
    gR h x0 0 fun q6 =>
    f_X6_ofOpen sh s.2 ((4 : Int32) + x1) h fun r7 h8 =>
    ty sh q6 7 <|
    lI sh h8 q6 r7 fun v10 =>
    gR h8 x0 0 fun q12 =>
    f_X6_ofOpen sh s.2 (2 : Int32) h8 fun r13 h14 =>
    ty sh q12 7 <|
    lI sh h14 q12 r13 fun v16 =>
    if ((v16 >>> (x1 &&& 31)) &&& (1 : Int32)) = (1 : Int32) then
      if s.1 = (-4 : Int32) then
        rec (v10, s.2 + (1 : Int32)) h14
      else
        if s.1 ≤ v10 then
          rec (s.1, s.2 + (1 : Int32)) h14
        else
          rec (v10, s.2 + (1 : Int32)) h14
    else
      rec (s.1, s.2 + (1 : Int32)) h14

def f_X6_leastVersion (sh : Sh) (a0 : Nat) (p1 : Int32) (h : Hp) (K : Int32 → Hp → Prop) : Prop :=
  lo (b_X6_leastVersion_5 sh a0 p1
    (fun y18 h19 =>
      K y18 h19)) ((-4 : Int32), (0 : Int32)) h

def f_X6_notice (sh : Sh) (a0 : Nat) (p1 : Int32) (h : Hp) (K : Int32 → Hp → Prop) : Prop :=
  if 0 ≤ p1 then
    ty sh a0 6 <|
    gR h a0 0 fun q2 =>
    ty sh q2 7 <|
    lI sh h q2 (1 : Int32) fun v4 =>
    if v4 ≤ p1 then
      K (-4 : Int32) h
    else
      gR h a0 0 fun q6 =>
      ty sh q6 7 <|
      lI sh h q6 ((17 : Int32) + p1) fun v8 =>
      K v8 h
  else
    K (-1 : Int32) h

def b_X6_older_4 (sh : Sh) (x0 : Nat) (x1 : Int32) (Xc : Int32 → Hp → Prop) (rec : Int32 × Int32 → Hp → Prop) (s : Int32 × Int32) (h : Hp) : Prop :=
  if (6 : Int32) ≤ s.2 then
    Xc s.1 h
  else
    ty sh x0 6 <|
    gR h x0 0 fun q2 =>
    f_X6_ofOpen sh x1 (2 : Int32) h fun r3 h4 =>
    ty sh q2 7 <|
    lI sh h4 q2 r3 fun v6 =>
    if ((v6 >>> (s.2 &&& 31)) &&& (1 : Int32)) = (1 : Int32) then
      gR h4 x0 0 fun q8 =>
      ty sh q8 7 <|
      lI sh h4 q8 ((5 : Int32) + s.2) fun v10 =>
      gR h4 x0 0 fun q12 =>
      f_X6_ofOpen sh x1 ((4 : Int32) + s.2) h4 fun r13 h14 =>
      ty sh q12 7 <|
      lI sh h14 q12 r13 fun v16 =>
      if v10 ≤ v16 then
        rec (s.1 ||| (0 : Int32), s.2 + (1 : Int32)) h14
      else
        rec (s.1 ||| ((1 : Int32) <<< (s.2 &&& 31)), s.2 + (1 : Int32)) h14
    else
      rec (s.1 ||| (0 : Int32), s.2 + (1 : Int32)) h4

def f_X6_older (sh : Sh) (a0 : Nat) (p1 : Int32) (h : Hp) (K : Int32 → Hp → Prop) : Prop :=
  lo (b_X6_older_4 sh a0 p1
    (fun y18 h19 =>
      K y18 h19)) ((0 : Int32), (0 : Int32)) h

def b_X6_onWay_4 (sh : Sh) (x0 : Nat) (Xc : Int32 → Hp → Prop) (rec : Int32 × Int32 → Hp → Prop) (s : Int32 × Int32) (h : Hp) : Prop :=
  ty sh x0 6 <|
  gR h x0 0 fun q2 =>
  ty sh q2 7 <|
  lI sh h q2 (1 : Int32) fun v4 =>
  if v4 ≤ s.2 then
    Xc s.1 h
  else
    gR h x0 0 fun q6 =>
    ty sh q6 7 <|
    lI sh h q6 ((117 : Int32) + s.2) fun v8 =>
    gR h x0 0 fun q10 =>
    ty sh q10 7 <|
    lI sh h q10 (0 : Int32) fun v12 =>
    if v8 ≤ v12 then
      rec (s.1 + (0 : Int32), s.2 + (1 : Int32)) h
    else
      rec (s.1 + (1 : Int32), s.2 + (1 : Int32)) h

def f_X6_onWay (sh : Sh) (a0 : Nat) (h : Hp) (K : Int32 → Hp → Prop) : Prop :=
  lo (b_X6_onWay_4 sh a0
    (fun y14 h15 =>
      K y14 h15)) ((0 : Int32), (0 : Int32)) h

def f_X6_play (sh : Sh) (a0 : Nat) (h : Hp) (K : Int32 → Hp → Prop) : Prop :=
  ty sh a0 6 <|
  f_X6_look sh a0 h fun h3 =>
  gI h3 a0 17 fun v4 =>
  if v4 ≤ 0 then
    f_X6_know sh a0 h3 fun h6 =>
    f_X6_go sh a0 h6 fun r7 h8 =>
    K r7 h8
  else
    K (-2 : Int32) h3

def b_X6_restore_16 (sh : Sh) (x0 : Nat) (Xc : Hp → Prop) (rec : Int32 → Hp → Prop) (s : Int32) (h : Hp) : Prop :=
  if (623 : Int32) ≤ s then
    Xc h
  else
    ty sh x0 6 <|
    gR h x0 0 fun q6 =>
    gR h x0 4 fun q7 =>
    ty sh q7 7 <|
    lI sh h q7 s fun v9 =>
    ty sh q6 7 <|
    sI sh h q6 s v9 fun h12 =>
    rec (s + (1 : Int32)) h12

def f_X6_restore (sh : Sh) (a0 : Nat) (h : Hp) (K : Int32 → Hp → Prop) : Prop :=
  ty sh a0 6 <|
  gI h a0 5 fun v2 =>
  if v2 = 0 then
    K (-2 : Int32) h
  else
    f_X6_know sh a0 h fun h4 =>
    lo (b_X6_restore_16 sh a0
      (fun  h14 =>
        gR h14 a0 0 fun q15 =>
        ty sh q15 7 <|
        lI sh h14 q15 (0 : Int32) fun v17 =>
        K v17 h14)) (0 : Int32) h4

def b_X6_stale_4 (sh : Sh) (x0 : Nat) (x1 : Int32) (Xc : Int32 → Hp → Prop) (rec : Int32 × Int32 → Hp → Prop) (s : Int32 × Int32) (h : Hp) : Prop :=
  ty sh x0 6 <|
  gR h x0 0 fun q2 =>
  f_X6_of sh x1 (6 : Int32) h fun r3 h4 =>
  ty sh q2 7 <|
  lI sh h4 q2 r3 fun v6 =>
  if v6 ≤ s.2 then
    Xc s.1 h4
  else
    gR h4 x0 0 fun q8 =>
    f_X6_ofEntry sh x1 s.2 (5 : Int32) h4 fun r9 h10 =>
    ty sh q8 7 <|
    lI sh h10 q8 r9 fun v12 =>
    rec (s.1 + v12, s.2 + (1 : Int32)) h10

def f_X6_stale (sh : Sh) (a0 : Nat) (p1 : Int32) (h : Hp) (K : Int32 → Hp → Prop) : Prop :=
  lo (b_X6_stale_4 sh a0 p1
    (fun y14 h15 =>
      K y14 h15)) ((0 : Int32), (0 : Int32)) h

def f_X6_sessionOf (sh : Sh) (a0 : Nat) (p1 : Int32) (p2 : Int32) (h : Hp) (K : Int32 → Hp → Prop) : Prop :=
  f_X6_isSession sh p1 h fun r1 h2 =>
  if r1 = 0 then
    K (-1 : Int32) h2
  else
    if p2 = (0 : Int32) then
      ty sh a0 6 <|
      gR h2 a0 0 fun q4 =>
      f_X6_of sh p1 (0 : Int32) h2 fun r5 h6 =>
      ty sh q4 7 <|
      lI sh h6 q4 r5 fun v8 =>
      K v8 h6
    else
      if p2 = (1 : Int32) then
        ty sh a0 6 <|
        f_X6_onWay sh a0 h2 fun r11 h12 =>
        K r11 h12
      else
        if p2 = (2 : Int32) then
          ty sh a0 6 <|
          gR h2 a0 0 fun q14 =>
          f_X6_of sh p1 (6 : Int32) h2 fun r15 h16 =>
          ty sh q14 7 <|
          lI sh h16 q14 r15 fun v18 =>
          K v18 h16
        else
          if p2 = (3 : Int32) then
            ty sh a0 6 <|
            f_X6_stale sh a0 p1 h2 fun r21 h22 =>
            K r21 h22
          else
            if p2 = (4 : Int32) then
              ty sh a0 6 <|
              f_X6_opensOf sh a0 p1 h2 fun r24 h25 =>
              K r24 h25
            else
              if p2 = (5 : Int32) then
                ty sh a0 6 <|
                gR h2 a0 0 fun q27 =>
                f_X6_of sh p1 (((1 : Int32) + p2) - (5 : Int32)) h2 fun r28 h29 =>
                ty sh q27 7 <|
                lI sh h29 q27 r28 fun v31 =>
                K v31 h29
              else
                if p2 = (6 : Int32) then
                  ty sh a0 6 <|
                  gR h2 a0 0 fun q34 =>
                  f_X6_of sh p1 (((1 : Int32) + p2) - (5 : Int32)) h2 fun r35 h36 =>
                  ty sh q34 7 <|
                  lI sh h36 q34 r35 fun v38 =>
                  K v38 h36
                else
                  if p2 = (7 : Int32) then
                    ty sh a0 6 <|
                    gR h2 a0 0 fun q41 =>
                    f_X6_of sh p1 (((1 : Int32) + p2) - (5 : Int32)) h2 fun r42 h43 =>
                    ty sh q41 7 <|
                    lI sh h43 q41 r42 fun v45 =>
                    K v45 h43
                  else
                    if p2 = (8 : Int32) then
                      ty sh a0 6 <|
                      gR h2 a0 0 fun q48 =>
                      f_X6_of sh p1 (((1 : Int32) + p2) - (5 : Int32)) h2 fun r49 h50 =>
                      ty sh q48 7 <|
                      lI sh h50 q48 r49 fun v52 =>
                      K v52 h50
                    else
                      if p2 = (9 : Int32) then
                        ty sh a0 6 <|
                        gR h2 a0 0 fun q55 =>
                        f_X6_of sh p1 (((1 : Int32) + p2) - (5 : Int32)) h2 fun r56 h57 =>
                        ty sh q55 7 <|
                        lI sh h57 q55 r56 fun v59 =>
                        K v59 h57
                      else
                        K (-1 : Int32) h2

def b_X6_set_55 (sh : Sh) (x0 : Nat) (x3 : Int32) (Xc : Hp → Prop) (rec : Int32 → Hp → Prop) (s : Int32) (h : Hp) : Prop :=
  if (4 : Int32) ≤ s then
    Xc h
  else
    ty sh x0 6 <|
    gR h x0 0 fun q17 =>
    ty sh q17 7 <|
    lI sh h q17 (4 : Int32) fun v19 =>
    f_X6_shrink sh x0 s v19 h fun r21 h22 =>
    rec (s + (1 : Int32)) h22

def f_X6_set (sh : Sh) (a0 : Nat) (p1 : Int32) (p2 : Int32) (h : Hp) (K : Int32 → Hp → Prop) : Prop :=
  f_X6_in sh p1 (0 : Int32) (1 : Int32) h fun r1 h2 =>
  if r1 = 0 then
    K (-1 : Int32) h2
  else
    if p1 = 0 then
      f_X6_in sh p2 p1 (20 : Int32) h2 fun r24 h25 =>
      if r24 = 0 then
        K (-1 : Int32) h25
      else
        ty sh a0 6 <|
        f_X6_know sh a0 h25 fun h28 =>
        gR h28 a0 0 fun q29 =>
        ty sh q29 7 <|
        lI sh h28 q29 ((3 : Int32) + p1) fun v31 =>
        gR h28 a0 0 fun q33 =>
        ty sh q33 7 <|
        sI sh h28 q33 ((3 : Int32) + p1) p2 fun h35 =>
        lo (b_X6_set_55 sh a0 v31
          (fun  h37 =>
            K v31 h37)) (0 : Int32) h35
    else
      f_X6_in sh p2 p1 (8 : Int32) h2 fun r3 h4 =>
      if r3 = 0 then
        K (-1 : Int32) h4
      else
        ty sh a0 6 <|
        f_X6_know sh a0 h4 fun h7 =>
        gR h7 a0 0 fun q8 =>
        ty sh q8 7 <|
        lI sh h7 q8 ((3 : Int32) + p1) fun v10 =>
        gR h7 a0 0 fun q12 =>
        ty sh q12 7 <|
        sI sh h7 q12 ((3 : Int32) + p1) p2 fun h14 =>
        lo (b_X6_set_55 sh a0 v10
          (fun  h23 =>
            K v10 h23)) (0 : Int32) h14

def f_X6_startFault (sh : Sh) (a0 : Nat) (p1 : Int32) (p2 : Int32) (h : Hp) (K : Int32 → Hp → Prop) : Prop :=
  f_X6_isSession sh p1 h fun r1 h2 =>
  if r1 = 0 then
    K (-1 : Int32) h2
  else
    f_X6_in sh p2 (1 : Int32) (63 : Int32) h2 fun r3 h4 =>
    if r3 = 0 then
      K (-1 : Int32) h4
    else
      ty sh a0 6 <|
      f_X6_putAside sh a0 h4 fun h7 =>
      f_X6_starts sh a0 p1 p2 h7 fun r8 h9 =>
      f_X6_putBack sh a0 h9 fun h11 =>
      if 0 ≤ r8 then
        K (0 : Int32) h11
      else
        K r8 h11

def f_X6_start (sh : Sh) (a0 : Nat) (p1 : Int32) (p2 : Int32) (h : Hp) (K : Int32 → Hp → Prop) : Prop :=
  ty sh a0 6 <|
  f_X6_startFault sh a0 p1 p2 h fun r2 h3 =>
  if 0 ≤ r2 then
    f_X6_know sh a0 h3 fun h5 =>
    f_X6_starts sh a0 p1 p2 h5 fun r6 h7 =>
    K r6 h7
  else
    K r2 h3

def f_X6_statement (sh : Sh) (a0 : Nat) (p1 : Int32) (p2 : Int32) (h : Hp) (K : Int32 → Hp → Prop) : Prop :=
  if p1 < 0 then
    K (-1 : Int32) h
  else
    f_X6_in sh p2 (0 : Int32) (3 : Int32) h fun r1 h2 =>
    if r1 = 0 then
      K (-1 : Int32) h2
    else
      ty sh a0 6 <|
      f_X6_placeOf sh a0 p1 h2 fun r4 h5 =>
      if 0 ≤ r4 then
        if (3 : Int32) ≤ p2 then
          f_X6_older sh a0 r4 h5 fun r6 h7 =>
          K r6 h7
        else
          gR h5 a0 0 fun q8 =>
          f_X6_ofOpen sh r4 ((1 : Int32) + p2) h5 fun r9 h10 =>
          ty sh q8 7 <|
          lI sh h10 q8 r9 fun v12 =>
          K v12 h10
      else
        K (-4 : Int32) h5

def f_X6_tableOf (sh : Sh) (a0 : Nat) (p1 : Int32) (p2 : Int32) (h : Hp) (K : Int32 → Hp → Prop) : Prop :=
  f_X6_isTable sh p1 h fun r1 h2 =>
  if r1 = 0 then
    K (-1 : Int32) h2
  else
    if p2 = (0 : Int32) then
      ty sh a0 6 <|
      gR h2 a0 0 fun q4 =>
      ty sh q4 7 <|
      lI sh h2 q4 ((5 : Int32) + p1) fun v6 =>
      K v6 h2
    else
      if p2 = (1 : Int32) then
        ty sh a0 6 <|
        gR h2 a0 0 fun q9 =>
        ty sh q9 7 <|
        lI sh h2 q9 ((11 : Int32) + p1) fun v11 =>
        K v11 h2
      else
        if p2 = (2 : Int32) then
          ty sh a0 6 <|
          f_X6_leastVersion sh a0 p1 h2 fun r14 h15 =>
          K r14 h15
        else
          if p2 = (3 : Int32) then
            ty sh a0 6 <|
            f_X6_hands sh a0 p1 h2 fun r17 h18 =>
            K r17 h18
          else
            if p2 = (4 : Int32) then
              ty sh a0 6 <|
              f_X6_inWay sh a0 p1 h2 fun r20 h21 =>
              if r20 = (-4 : Int32) then
                K (1 : Int32) h21
              else
                K (0 : Int32) h21
            else
              K (-1 : Int32) h2

def f_X6_tick (sh : Sh) (a0 : Nat) (p1 : Int32) (h : Hp) (K : Int32 → Hp → Prop) : Prop :=
  f_X6_in sh p1 (1 : Int32) (99 : Int32) h fun r1 h2 =>
  if r1 = 0 then
    K (-1 : Int32) h2
  else
    ty sh a0 6 <|
    f_X6_know sh a0 h2 fun h5 =>
    f_X6_ticks sh a0 p1 h5 fun r6 h7 =>
    K r6 h7

def f_X6_type (sh : Sh) (a0 : Nat) (p1 : Int32) (h : Hp) (K : Int32 → Hp → Prop) : Prop :=
  f_X6_in sh p1 (32 : Int32) (126 : Int32) h fun r1 h2 =>
  if r1 = 0 then
    K (-1 : Int32) h2
  else
    ty sh a0 6 <|
    gI h2 a0 7 fun v4 =>
    if v4 = (60 : Int32) then
      K (-3 : Int32) h2
    else
      gR h2 a0 6 fun q5 =>
      gI h2 a0 7 fun v6 =>
      ty sh q5 7 <|
      sI sh h2 q5 v6 p1 fun h8 =>
      gI h8 a0 7 fun v10 =>
      pI h8 a0 7 (v10 + (1 : Int32)) fun h11 =>
      gI h11 a0 7 fun v12 =>
      K v12 h11

def b_X6_undo_22 (sh : Sh) (x0 : Nat) (Xc : Hp → Prop) (rec : Int32 → Hp → Prop) (s : Int32) (h : Hp) : Prop :=
  if (623 : Int32) ≤ s then
    Xc h
  else
    ty sh x0 6 <|
    gR h x0 0 fun q6 =>
    gR h x0 2 fun q7 =>
    gI h x0 3 fun v8 =>
    ty sh q7 7 <|
    lI sh h q7 (((623 : Int32) * v8) + s) fun v10 =>
    ty sh q6 7 <|
    sI sh h q6 s v10 fun h13 =>
    rec (s + (1 : Int32)) h13

def f_X6_undo (sh : Sh) (a0 : Nat) (h : Hp) (K : Int32 → Hp → Prop) : Prop :=
  ty sh a0 6 <|
  gI h a0 3 fun v2 =>
  if v2 = 0 then
    K (-2 : Int32) h
  else
    gI h a0 3 fun v3 =>
    pI h a0 3 (v3 - (1 : Int32)) fun h4 =>
    lo (b_X6_undo_22 sh a0
      (fun  h15 =>
        gI h15 a0 3 fun v16 =>
        K v16 h15)) (0 : Int32) h4

def f_X6_would (sh : Sh) (a0 : Nat) (p1 : Int32) (p2 : Int32) (p3 : Int32) (h : Hp) (K : Int32 → Hp → Prop) : Prop :=
  f_X6_isSession sh p1 h fun r1 h2 =>
  if r1 = 0 then
    K (-1 : Int32) h2
  else
    f_X6_in sh p2 (1 : Int32) (63 : Int32) h2 fun r3 h4 =>
    if r3 = 0 then
      K (-1 : Int32) h4
    else
      f_X6_in sh p3 (0 : Int32) (3 : Int32) h4 fun r5 h6 =>
      if r5 = 0 then
        K (-1 : Int32) h6
      else
        ty sh a0 6 <|
        f_X6_putAside sh a0 h6 fun h9 =>
        f_X6_starts sh a0 p1 p2 h9 fun r10 h11 =>
        if p3 = (3 : Int32) then
          f_X6_of sh p1 (0 : Int32) h11 fun r24 h25 =>
          gR h25 a0 0 fun q26 =>
          ty sh q26 7 <|
          lI sh h25 q26 r24 fun v28 =>
          gR h25 a0 1 fun q30 =>
          ty sh q30 7 <|
          lI sh h25 q30 r24 fun v32 =>
          f_X6_putBack sh a0 h25 fun h35 =>
          if 0 ≤ r10 then
            K (v28 - v32) h35
          else
            K r10 h35
        else
          f_X6_of sh p1 ((1 : Int32) + p3) h11 fun r12 h13 =>
          gR h13 a0 0 fun q14 =>
          ty sh q14 7 <|
          lI sh h13 q14 r12 fun v16 =>
          gR h13 a0 1 fun q18 =>
          ty sh q18 7 <|
          lI sh h13 q18 r12 fun v20 =>
          f_X6_putBack sh a0 h13 fun h23 =>
          if 0 ≤ r10 then
            K (v16 - v20) h23
          else
            K r10 h23

/-! commands of a text on a state: for the best room alone -/
def f_X2_obey (sh : Sh) (a0 : Nat) (p1 : Int32) (p2 : Int32) (p3 : Int32) (h : Hp) (K : Int32 → Hp → Prop) : Prop :=
  if p1 = (99 : Int32) then
    ty sh a0 2 <|
    f_X2_changeTable sh a0 p2 p3 h fun r2 h3 =>
    K r2 h3
  else
    if p1 = (101 : Int32) then
      ty sh a0 2 <|
      f_X2_finish sh a0 p2 h fun r5 h6 =>
      K r5 h6
    else
      if p1 = (115 : Int32) then
        ty sh a0 2 <|
        f_X2_begin sh a0 p2 p3 h fun r8 h9 =>
        K r8 h9
      else
        if p1 = (116 : Int32) then
          ty sh a0 2 <|
          f_X2_pass sh a0 p2 h fun r11 h12 =>
          K r11 h12
        else
          K (-1 : Int32) h

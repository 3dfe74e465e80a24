/-- 3T.isWithin(III)Z, row 0 -/
def fX_isWithin (a1 : Int32) (a2 : Int32) (a3 : Int32) : Bool :=
  if a1 < a2 then
    false
  else
    if a3 < a1 then
      false
    else
      true
/-- 3T.finding(I)I, row 0 -/
def fX_finding (a1 : Int32) (m : tk_m) : Option (Int32 × tk_m) :=
  if (fX_isWithin a1 (0 : Int32) (7 : Int32)) = true then
    if tk_ok a1 8 then
    some ((-1000001 : Int32) - a1, (tk_u2 m.1 202 (tk_n a1) ((m.1 202 (tk_n a1)) + (1 : Int32)), m.2.1, m.2.2.1, m.2.2.2))
    else none
  else
    some ((-1000001 : Int32) - a1, m)
/-- 3T$Shape.becomeRound(III)V, row 0 -/
def fH_becomeRound (t : Nat) (a1 : Int32) (a2 : Int32) (a3 : Int32) (m : tk_m) : tk_m :=
  (tk_u2 (tk_u2 (tk_u2 m.1 t 1 a1) t 2 a2) t 3 a3, m.2.1, tk_u2 m.2.2.1 t 0 false, m.2.2.2)
/-- 3T$Scene.grow()I, row 0 -/
def fS_grow (t : Nat) (m : tk_m) : Int32 × tk_m :=
  ((tk_u2 m.1 t 1 ((m.1 t 1) + (1 : Int32)) t 1) - (1 : Int32), (tk_u2 m.1 t 1 ((m.1 t 1) + (1 : Int32)), m.2.1, tk_u2 m.2.2.1 t 4 true, m.2.2.2))
/-- 3T$Scene.addRound(III)I, row 0 -/
def fS_addRound (t : Nat) (a1 : Int32) (a2 : Int32) (a3 : Int32) (m : tk_m) : Option (Int32 × tk_m) :=
  if tk_ok (m.1 t 1) 6 then
  tk_let (fH_becomeRound ((t + 1) + 2 + (m.2.2.2 (t + 1) (tk_n (m.1 t 1))).val) a1 a2 a3 m) fun o2 =>
  tk_let (fS_grow t o2) fun o3 =>
  some (o3.1, o3.2)
  else none
/-- 3T.round(III)I, row 0 -/
def fX_round (a1 : Int32) (a2 : Int32) (a3 : Int32) (m : tk_m) : Option (Int32 × tk_m) :=
  if (fX_isWithin a1 (-5 : Int32) (5 : Int32)) = true then
    if (fX_isWithin a2 (-5 : Int32) (5 : Int32)) = true then
      if (fX_isWithin a3 (0 : Int32) (5 : Int32)) = true then
        if (m.1 1 1) < (6 : Int32) then
          (fS_addRound 1 a1 a2 a3 m).bind fun o5 =>
          some (o5.1, o5.2)
        else
          (fX_finding (1 : Int32) m).bind fun o6 =>
          some (o6.1, o6.2)
      else
        (fX_finding (0 : Int32) m).bind fun o7 =>
        some (o7.1, o7.2)
    else
      (fX_finding (0 : Int32) m).bind fun o8 =>
      some (o8.1, o8.2)
  else
    (fX_finding (0 : Int32) m).bind fun o9 =>
    some (o9.1, o9.2)
/-- 3T$Shape.setSlant(I)V, row 0 -/
def fH_setSlant (t : Nat) (a1 : Int32) (m : tk_m) : Option tk_m :=
  if (fX_isWithin a1 (0 : Int32) ((6 : Int32) - (1 : Int32))) = true then
    if tk_ok a1 6 then
    some (tk_u2 (tk_u2 (tk_u2 (tk_u2 m.1 t 4 a1) t 6 ((tk_stv 0).getD (tk_n a1) 0)) t 7 ((tk_stv 1).getD (tk_n a1) 0)) t 8 ((tk_stv 2).getD (tk_n a1) 0), m.2.1, m.2.2.1, m.2.2.2)
    else none
  else
    some m
/-- 3T$Shape.becomeStraight(II)V, row 0 -/
def fH_becomeStraight (t : Nat) (a1 : Int32) (a2 : Int32) (m : tk_m) : Option tk_m :=
  (fH_setSlant t a1 (m.1, m.2.1, tk_u2 m.2.2.1 t 0 true, m.2.2.2)).bind fun o1 =>
  some (tk_u2 o1.1 t 5 a2, o1.2.1, o1.2.2.1, o1.2.2.2)
/-- 3T$Scene.addStraight(II)I, row 0 -/
def fS_addStraight (t : Nat) (a1 : Int32) (a2 : Int32) (m : tk_m) : Option (Int32 × tk_m) :=
  if tk_ok (m.1 t 1) 6 then
  (fH_becomeStraight ((t + 1) + 2 + (m.2.2.2 (t + 1) (tk_n (m.1 t 1))).val) a1 a2 m).bind fun o2 =>
  tk_let (fS_grow t o2) fun o3 =>
  some (o3.1, o3.2)
  else none
/-- 3T.straight(II)I, row 0 -/
def fX_straight (a1 : Int32) (a2 : Int32) (m : tk_m) : Option (Int32 × tk_m) :=
  if (fX_isWithin a1 (0 : Int32) (5 : Int32)) = true then
    if (fX_isWithin a2 (-30 : Int32) (30 : Int32)) = true then
      if (m.1 1 1) < (6 : Int32) then
        (fS_addStraight 1 a1 a2 m).bind fun o4 =>
        some (o4.1, o4.2)
      else
        (fX_finding (1 : Int32) m).bind fun o5 =>
        some (o5.1, o5.2)
    else
      (fX_finding (0 : Int32) m).bind fun o6 =>
      some (o6.1, o6.2)
  else
    (fX_finding (0 : Int32) m).bind fun o7 =>
    some (o7.1, o7.2)
/-- 3T$Scene.has(I)Z, row 0 -/
def fS_has (t : Nat) (a1 : Int32) (m : tk_m) : Bool :=
  if a1 < 0 then
    false
  else
    if (m.1 t 1) ≤ a1 then
      false
    else
      true
/-- 3T$Shape.lowestKind()I, row 0 -/
def fH_lowestKind (t : Nat) (m : tk_m) : Int32 :=
  if (m.2.2.1 t 0) = true then
    if (1 : Int32) < (m.1 t 4) then
      (2 : Int32)
    else
      (4 : Int32)
  else
    if (m.1 t 3) = 0 then
      (3 : Int32)
    else
      (1 : Int32)
/-- 3T$Shape.formNumber(I)I, row 0 -/
def fH_formNumber (t : Nat) (a1 : Int32) (m : tk_m) : Int32 :=
  if a1 = 0 then
    if (m.2.2.1 t 0) = true then
      (0 : Int32)
    else
      (1 : Int32)
  else
  if a1 = 1 then
    if (m.2.2.1 t 0) = true then
      m.1 t 6
    else
      (-2 : Int32) * (m.1 t 1)
  else
  if a1 = 2 then
    if (m.2.2.1 t 0) = true then
      m.1 t 7
    else
      (-2 : Int32) * (m.1 t 2)
  else
  if (m.2.2.1 t 0) = true then
    -(m.1 t 5)
  else
    (((m.1 t 1) * (m.1 t 1)) + ((m.1 t 2) * (m.1 t 2))) - ((m.1 t 3) * (m.1 t 3))
/-- 3T$Shape.measure(I)I, row 0 -/
def fH_measure (t : Nat) (a1 : Int32) (m : tk_m) : Int32 :=
  if a1 = 1 then
    m.1 t 1
  else
  if a1 = 2 then
    m.1 t 2
  else
  if a1 = 3 then
    m.1 t 3
  else
  if a1 = 4 then
    m.1 t 4
  else
  m.1 t 5
/-- 3T.of(II)I, row 0 -/
def fX_of (a1 : Int32) (a2 : Int32) (m : tk_m) : Option (Int32 × tk_m) :=
  if (fS_has 1 a1 m) = true then
    if (fX_isWithin a2 (0 : Int32) (9 : Int32)) = true then
      if tk_ok a1 6 then
      if a2 = 0 then
        some (fH_lowestKind (2 + 2 + (m.2.2.2 2 (tk_n a1)).val) m, m)
      else
        if a2 < (6 : Int32) then
          if a2 < (4 : Int32) then
            if (tk_b (m.2.2.1 (2 + 2 + (m.2.2.2 2 (tk_n a1)).val) 0)) = (0 : Int32) then
              some (fH_measure (2 + 2 + (m.2.2.2 2 (tk_n a1)).val) a2 m, m)
            else
              (fX_finding (2 : Int32) m).bind fun o8 =>
              some (o8.1, o8.2)
          else
            if (tk_b (m.2.2.1 (2 + 2 + (m.2.2.2 2 (tk_n a1)).val) 0)) = (1 : Int32) then
              some (fH_measure (2 + 2 + (m.2.2.2 2 (tk_n a1)).val) a2 m, m)
            else
              (fX_finding (2 : Int32) m).bind fun o10 =>
              some (o10.1, o10.2)
        else
          some (fH_formNumber (2 + 2 + (m.2.2.2 2 (tk_n a1)).val) (a2 - (6 : Int32)) m, m)
      else none
    else
      (fX_finding (0 : Int32) m).bind fun o11 =>
      some (o11.1, o11.2)
  else
    (fX_finding (0 : Int32) m).bind fun o12 =>
    some (o12.1, o12.2)
/-- 3T$Shape.mayMeasure(II)Z, row 0 -/
def fH_mayMeasure (a1 : Int32) (a2 : Int32) : Bool :=
  if a1 = 1 then
    fX_isWithin a2 (-5 : Int32) (5 : Int32)
  else
  if a1 = 2 then
    fX_isWithin a2 (-5 : Int32) (5 : Int32)
  else
  if a1 = 3 then
    fX_isWithin a2 (0 : Int32) (5 : Int32)
  else
  if a1 = 4 then
    fX_isWithin a2 (0 : Int32) (5 : Int32)
  else
  fX_isWithin a2 (-30 : Int32) (30 : Int32)
/-- 3T$Shape.setMeasure(II)V, row 0 -/
def fH_setMeasure (t : Nat) (a1 : Int32) (a2 : Int32) (m : tk_m) : Option tk_m :=
  if a1 = 1 then
    some (tk_u2 m.1 t 1 a2, m.2.1, m.2.2.1, m.2.2.2)
  else
  if a1 = 2 then
    some (tk_u2 m.1 t 2 a2, m.2.1, m.2.2.1, m.2.2.2)
  else
  if a1 = 3 then
    some (tk_u2 m.1 t 3 a2, m.2.1, m.2.2.1, m.2.2.2)
  else
  if a1 = 4 then
    (fH_setSlant t a2 m).bind fun o5 =>
    some o5
  else
  some (tk_u2 m.1 t 5 a2, m.2.1, m.2.2.1, m.2.2.2)
/-- 3T$Scene.setMeasure(III)I, row 0 -/
def fS_setMeasure (t : Nat) (a1 : Int32) (a2 : Int32) (a3 : Int32) (m : tk_m) : Option (Int32 × tk_m) :=
  if tk_ok a1 6 then
  (fH_setMeasure ((t + 1) + 2 + (m.2.2.2 (t + 1) (tk_n a1)).val) a2 a3 m).bind fun o2 =>
  some (fH_measure ((t + 1) + 2 + (m.2.2.2 (t + 1) (tk_n a1)).val) a2 m, (o2.1, o2.2.1, tk_u2 o2.2.2.1 t 4 true, o2.2.2.2))
  else none
def fX_change_48 (v1 : Int32) (v2 : Int32) (v3 : Int32) (s0 : Int32) (s1 : Bool) (m : tk_m) : Option (Int32 × tk_m) :=
  if (tk_b s1) = s0 then
    if (fH_mayMeasure v2 v3) = true then
      (fS_setMeasure 1 v1 v2 v3 m).bind fun o3 =>
      some (o3.1, o3.2)
    else
      (fX_finding (0 : Int32) m).bind fun o4 =>
      some (o4.1, o4.2)
  else
    (fX_finding (2 : Int32) m).bind fun o5 =>
    some (o5.1, o5.2)
/-- 3T.change(III)I, row 0 -/
def fX_change (a1 : Int32) (a2 : Int32) (a3 : Int32) (m : tk_m) : Option (Int32 × tk_m) :=
  if (fS_has 1 a1 m) = true then
    if (fX_isWithin a2 (1 : Int32) (5 : Int32)) = true then
      if tk_ok a1 6 then
      if a2 < (4 : Int32) then
        fX_change_48 a1 a2 a3 (0 : Int32) (m.2.2.1 (2 + 2 + (m.2.2.2 2 (tk_n a1)).val) 0) m
      else
        fX_change_48 a1 a2 a3 (1 : Int32) (m.2.2.1 (2 + 2 + (m.2.2.2 2 (tk_n a1)).val) 0) m
      else none
    else
      (fX_finding (0 : Int32) m).bind fun o5 =>
      some (o5.1, o5.2)
  else
    (fX_finding (0 : Int32) m).bind fun o6 =>
    some (o6.1, o6.2)
/-- 3T$Shape.isOf(I)Z, row 0 -/
def fH_isOf (t : Nat) (a1 : Int32) (m : tk_m) : Bool :=
  if a1 = 0 then
    true
  else
    if (m.2.2.1 t 0) = true then
      if a1 = (2 : Int32) then
        true
      else
        if a1 = (fH_lowestKind t m) then
          true
        else
          false
    else
      if a1 = (1 : Int32) then
        true
      else
        if a1 = (fH_lowestKind t m) then
          true
        else
          false
/-- 3T.as(II)I, row 0 -/
def fX_as (a1 : Int32) (a2 : Int32) (m : tk_m) : Option (Int32 × tk_m) :=
  if (fS_has 1 a1 m) = true then
    if (fX_isWithin a2 (0 : Int32) (4 : Int32)) = true then
      if tk_ok a1 6 then
      if (fH_isOf (2 + 2 + (m.2.2.2 2 (tk_n a1)).val) a2 m) = true then
        if (m.2.2.1 (2 + 2 + (m.2.2.2 2 (tk_n a1)).val) 0) = true then
          some (m.1 (2 + 2 + (m.2.2.2 2 (tk_n a1)).val) 5, m)
        else
          some (m.1 (2 + 2 + (m.2.2.2 2 (tk_n a1)).val) 3, m)
      else
        (fX_finding (2 : Int32) m).bind fun o6 =>
        some (o6.1, o6.2)
      else none
    else
      (fX_finding (0 : Int32) m).bind fun o7 =>
      some (o7.1, o7.2)
  else
    (fX_finding (0 : Int32) m).bind fun o8 =>
    some (o8.1, o8.2)
/-- 3T$Scene.dropLast()I, row 0 -/
def fS_dropLast (t : Nat) (m : tk_m) : Int32 × tk_m :=
  (tk_u2 m.1 t 1 ((m.1 t 1) - (1 : Int32)) t 1, (tk_u2 m.1 t 1 ((m.1 t 1) - (1 : Int32)), m.2.1, tk_u2 m.2.2.1 t 4 true, m.2.2.2))
/-- 3T.drop()I, row 0 -/
def fX_drop (m : tk_m) : Option (Int32 × tk_m) :=
  if (m.1 1 1) = 0 then
    (fX_finding (3 : Int32) m).bind fun o2 =>
    some (o2.1, o2.2)
  else
    tk_let (fS_dropLast 1 m) fun o3 =>
    some (o3.1, o3.2)
/-- 3T$Scene.exchange(II)V, row 0 -/
def fS_exchange (t : Nat) (a1 : Int32) (a2 : Int32) (m : tk_m) : Option tk_m :=
  if tk_ok a1 6 then
  if tk_ok a2 6 then
  some (m.1, m.2.1, tk_u2 m.2.2.1 t 4 true, tk_u2 (tk_u2 m.2.2.2 (t + 1) (tk_n a1) (m.2.2.2 (t + 1) (tk_n a2))) (t + 1) (tk_n a2) (m.2.2.2 (t + 1) (tk_n a1)))
  else none
  else none
def fS_takeOut_46 (v0 : Nat) (v2 : Int32) (v3 : Int32) (m : tk_m) : Option (Int32 × tk_m) :=
  some (v3 - v2, (tk_u2 m.1 v0 1 v2, m.2.1, tk_u2 m.2.2.1 v0 4 true, m.2.2.2))
def fS_takeOut_10 : Nat → Nat → Int32 → Int32 → Int32 → Int32 → tk_m → Option (Int32 × tk_m)
  | 0, _, _, _, _, _, _ => none
  | n + 1, v0, v1, v2, v3, v4, m =>
    if v3 ≤ v4 then
      fS_takeOut_46 v0 v2 v3 m
    else
      if tk_ok v4 6 then
      if (fH_isOf ((v0 + 1) + 2 + (m.2.2.2 (v0 + 1) (tk_n v4)).val) v1 m) = true then
        fS_takeOut_10 n v0 v1 v2 v3 (v4 + (1 : Int32)) m
      else
        (fS_exchange v0 v2 v4 m).bind fun o4 =>
        fS_takeOut_10 n v0 v1 (v2 + (1 : Int32)) v3 (v4 + (1 : Int32)) o4
      else none
/-- 3T$Scene.takeOut(I)I, row 0 -/
def fS_takeOut (t : Nat) (a1 : Int32) (m : tk_m) : Option (Int32 × tk_m) :=
  fS_takeOut_10 tk_F t a1 (0 : Int32) (m.1 t 1) (0 : Int32) m
/-- 3T.prune(I)I, row 0 -/
def fX_prune (a1 : Int32) (m : tk_m) : Option (Int32 × tk_m) :=
  if (fX_isWithin a1 (0 : Int32) (4 : Int32)) = true then
    (fS_takeOut 1 a1 m).bind fun o2 =>
    some (o2.1, o2.2)
  else
    (fX_finding (0 : Int32) m).bind fun o3 =>
    some (o3.1, o3.2)
/-- 3T.swap(II)I, row 0 -/
def fX_swap (a1 : Int32) (a2 : Int32) (m : tk_m) : Option (Int32 × tk_m) :=
  if (fS_has 1 a1 m) = true then
    if (fS_has 1 a2 m) = true then
      (fS_exchange 1 a1 a2 m).bind fun o3 =>
      some ((1 : Int32), o3)
    else
      (fX_finding (0 : Int32) m).bind fun o4 =>
      some (o4.1, o4.2)
  else
    (fX_finding (0 : Int32) m).bind fun o5 =>
    some (o5.1, o5.2)
def fS_reverse_2 : Nat → Nat → Int32 → tk_m → Option (Int32 × tk_m)
  | 0, _, _, _ => none
  | n + 1, v0, v1, m =>
    if ((m.1 v0 1) / (2 : Int32)) ≤ v1 then
      some (m.1 v0 1, m)
    else
      (fS_exchange v0 v1 (((m.1 v0 1) - (1 : Int32)) - v1) m).bind fun o2 =>
      fS_reverse_2 n v0 (v1 + (1 : Int32)) o2
/-- 3T$Scene.reverse()I, row 0 -/
def fS_reverse (t : Nat) (m : tk_m) : Option (Int32 × tk_m) :=
  fS_reverse_2 tk_F t (0 : Int32) m
/-- 3T.turn()I, row 0 -/
def fX_turn (m : tk_m) : Option (Int32 × tk_m) :=
  (fS_reverse 1 m).bind fun o1 =>
  some (o1.1, o1.2)
/-- 3T.areTwoShapes(II)Z, row 0 -/
def fX_areTwoShapes (a1 : Int32) (a2 : Int32) (m : tk_m) : Bool :=
  if (fS_has 1 a1 m) = true then
    if (fS_has 1 a2 m) = true then
      if a1 = a2 then
        false
      else
        true
    else
      false
  else
    false
/-- 3T$Shape.powerIn(II)I, row 0 -/
def fH_powerIn (t : Nat) (a1 : Int32) (a2 : Int32) (m : tk_m) : Int32 :=
  ((((fH_formNumber t (0 : Int32) m) * ((a1 * a1) + (a2 * a2))) + ((fH_formNumber t (1 : Int32) m) * a1)) + ((fH_formNumber t (2 : Int32) m) * a2)) + (fH_formNumber t (3 : Int32) m)
/-- java/lang/Integer.compare(II)I, row 0 -/
def fZ_compare_I (a1 : Int32) (a2 : Int32) : Int32 :=
  if a2 ≤ a1 then
    if a1 = a2 then
      (0 : Int32)
    else
      (1 : Int32)
  else
    (-1 : Int32)
/-- 3T$Shape.crossings(L3T$Shape;)I, row 0 -/
def fH_crossings (t : Nat) (a1 : Nat) (m : tk_m) : Int32 :=
  (1 : Int32) - (fZ_compare_I ((fH_powerIn t (m.1 a1 1) (m.1 a1 2) m) * (fH_powerIn t (m.1 a1 1) (m.1 a1 2) m)) (((m.1 t 8) * (m.1 a1 3)) * ((m.1 t 8) * (m.1 a1 3))))
/-- 3T$Shape.apartSquared(L3T$Shape;)I, row 0 -/
def fH_apartSquared (t : Nat) (a1 : Nat) (m : tk_m) : Int32 :=
  (((m.1 t 1) - (m.1 a1 1)) * ((m.1 t 1) - (m.1 a1 1))) + (((m.1 t 2) - (m.1 a1 2)) * ((m.1 t 2) - (m.1 a1 2)))
def fH_meetings_38 (v2 : Int32) (v3 : Int32) (v4 : Int32) (m : tk_m) : Int32 :=
  if (v3 * v3) < v2 then
    (0 : Int32)
  else
    if (v4 * v4) ≤ v2 then
      if v2 = (v3 * v3) then
        (1 : Int32)
      else
        if v2 = (v4 * v4) then
          (1 : Int32)
        else
          (2 : Int32)
    else
      (0 : Int32)
/-- 3T$Shape.meetings(L3T$Shape;)I, row 0 -/
def fH_meetings (t : Nat) (a1 : Nat) (m : tk_m) : Int32 :=
  if (fH_apartSquared t a1 m) = 0 then
    if ((m.1 t 3) - (m.1 a1 3)) = 0 then
      (3 : Int32)
    else
      fH_meetings_38 (fH_apartSquared t a1 m) ((m.1 t 3) + (m.1 a1 3)) ((m.1 t 3) - (m.1 a1 3)) m
  else
    fH_meetings_38 (fH_apartSquared t a1 m) ((m.1 t 3) + (m.1 a1 3)) ((m.1 t 3) - (m.1 a1 3)) m
def fH_commonWith_46 (v0 : Nat) (v1 : Nat) (m : tk_m) : Int32 :=
  if (m.2.2.1 v0 0) = true then
    fH_crossings v0 v1 m
  else
    if (m.2.2.1 v1 0) = true then
      fH_crossings v1 v0 m
    else
      fH_meetings v0 v1 m
/-- 3T$Shape.commonWith(L3T$Shape;)I, row 0 -/
def fH_commonWith (t : Nat) (a1 : Nat) (m : tk_m) : Int32 :=
  if (m.2.2.1 t 0) = true then
    if (m.2.2.1 a1 0) = true then
      if (m.1 t 4) = (m.1 a1 4) then
        if (m.1 t 5) = (m.1 a1 5) then
          (3 : Int32)
        else
          (0 : Int32)
      else
        (1 : Int32)
    else
      fH_commonWith_46 t a1 m
  else
    fH_commonWith_46 t a1 m
/-- 3T.lie(II)I, row 0 -/
def fX_lie (a1 : Int32) (a2 : Int32) (m : tk_m) : Option (Int32 × tk_m) :=
  if (fX_areTwoShapes a1 a2 m) = true then
    if tk_ok a1 6 then
    if tk_ok a2 6 then
    some (fH_commonWith (2 + 2 + (m.2.2.2 2 (tk_n a1)).val) (2 + 2 + (m.2.2.2 2 (tk_n a2)).val) m, m)
    else none
    else none
  else
    (fX_finding (0 : Int32) m).bind fun o4 =>
    some (o4.1, o4.2)
/-- 3T.power(III)I, row 0 -/
def fX_power (a1 : Int32) (a2 : Int32) (a3 : Int32) (m : tk_m) : Option (Int32 × tk_m) :=
  if (fS_has 1 a1 m) = true then
    if (fX_isWithin a2 (-99 : Int32) (99 : Int32)) = true then
      if (fX_isWithin a3 (-99 : Int32) (99 : Int32)) = true then
        if tk_ok a1 6 then
        some (fH_powerIn (2 + 2 + (m.2.2.2 2 (tk_n a1)).val) a2 a3 m, m)
        else none
      else
        (fX_finding (0 : Int32) m).bind fun o5 =>
        some (o5.1, o5.2)
    else
      (fX_finding (0 : Int32) m).bind fun o6 =>
      some (o6.1, o6.2)
  else
    (fX_finding (0 : Int32) m).bind fun o7 =>
    some (o7.1, o7.2)
def fK_negativeDivisor_20 : Nat → Int64 → Int64 → Int32 → Option Int64
  | 0, _, _, _ => none
  | n + 1, v4, v6, v8 =>
    if (200 : Int32) ≤ v8 then
      some v4
    else
      if v6 = (0 : Int64) then
        some v4
      else
        if v6 = 0 then none else
        fK_negativeDivisor_20 n v6 (tk_lrem v4 v6) (v8 + (1 : Int32))
/-- 3T$Worker.negativeDivisor(JJ)J, row 0 -/
def fK_negativeDivisor (a1 : Int64) (a2 : Int64) : Option Int64 :=
  if a2 ≤ (0 : Int64) then
    fK_negativeDivisor_20 tk_F a1 a2 (0 : Int32)
  else
    fK_negativeDivisor_20 tk_F a1 (-a2) (0 : Int32)
def fK_lower_111 : Nat → Nat → Int64 → Int32 → tk_m → Option (Bool × tk_m)
  | 0, _, _, _, _ => none
  | n + 1, v0, v4, v6, m =>
    if (Int32.ofNat (tk_al v0)) ≤ v6 then
      some (true, m)
    else
      if tk_ok v6 (tk_al v0) then
      if v4 = 0 then none else
      fK_lower_111 n v0 v4 (v6 + (1 : Int32)) (m.1, tk_u2 m.2.1 v0 (tk_n v6) ((m.2.1 v0 (tk_n v6)) / v4), m.2.2.1, m.2.2.2)
      else none
def fK_lower_66 : Nat → Nat → Int64 → Int32 → tk_m → Option (Bool × tk_m)
  | 0, _, _, _, _ => none
  | n + 1, v0, v4, v6, m =>
    if (Int32.ofNat (tk_al v0)) ≤ v6 then
      fK_lower_111 tk_F v0 v4 (0 : Int32) m
    else
      if v4 = (0 : Int64) then
        some (false, m)
      else
        if v4 = (-1 : Int64) then
          if tk_ok v6 (tk_al v0) then
          if (m.2.1 v0 (tk_n v6)) = (-9223372036854775808 : Int64) then
            some (false, m)
          else
            fK_lower_66 n v0 v4 (v6 + (1 : Int32)) m
          else none
        else
          fK_lower_66 n v0 v4 (v6 + (1 : Int32)) m
def fK_lower_47 (v0 : Nat) (v1 : Int32) (v2 : Int64) (m : tk_m) : Option (Bool × tk_m) :=
  if tk_ok v1 (tk_al v0) then
  if (0 : Int64) ≤ (m.2.1 v0 (tk_n v1)) then
    fK_lower_66 tk_F v0 (-v2) (0 : Int32) m
  else
    fK_lower_66 tk_F v0 v2 (0 : Int32) m
  else none
def fK_lower_25 : Nat → Nat → Int32 → Int64 → Int32 → tk_m → Option (Bool × tk_m)
  | 0, _, _, _, _, _ => none
  | n + 1, v0, v1, v2, v4, m =>
    if (Int32.ofNat (tk_al v0)) ≤ v4 then
      fK_lower_47 v0 v1 v2 m
    else
      if tk_ok v4 (tk_al v0) then
      (fK_negativeDivisor v2 (m.2.1 v0 (tk_n v4))).bind fun o3 =>
      fK_lower_25 n v0 v1 o3 (v4 + (1 : Int32)) m
      else none
/-- 3T$Worker.lower([JI)Z, row 0 -/
def fK_lower (a1 : Nat) (a2 : Int32) (m : tk_m) : Option (Bool × tk_m) :=
  if a2 < 0 then
    some (false, m)
  else
    if (Int32.ofNat (tk_al a1)) ≤ a2 then
      some (false, m)
    else
      if tk_ok a2 (tk_al a1) then
      if (m.2.1 a1 (tk_n a2)) = (0 : Int64) then
        some (false, m)
      else
        fK_lower_25 tk_F a1 a2 (0 : Int64) (0 : Int32) m
      else none
def fK_equalPowers_74 (v3 : Int32) (s0 : Int32) (m : tk_m) : Option (Int32 × tk_m) :=
  (fK_lower 38 s0 m).bind fun o1 =>
  if v3 < 0 then
    some ((0 : Int32), o1.2)
  else
    if (3 : Int32) ≤ v3 then
      some ((0 : Int32), o1.2)
    else
      if tk_ok v3 3 then
      some (Int64.toInt32 (o1.2.2.1 38 (tk_n v3)), o1.2)
      else none
/-- 3T$Worker.equalPowers(L3T$Shape;L3T$Shape;I)I, row 0 -/
def fK_equalPowers (a1 : Nat) (a2 : Nat) (a3 : Int32) (m : tk_m) : Option (Int32 × tk_m) :=
  if (tk_u2 (tk_u2 (tk_u2 m.2.1 38 0 (Int32.toInt64 ((fH_formNumber a1 (1 : Int32) m) - (fH_formNumber a2 (1 : Int32) m)))) 38 1 (Int32.toInt64 ((fH_formNumber a1 (2 : Int32) (m.1, tk_u2 m.2.1 38 0 (Int32.toInt64 ((fH_formNumber a1 (1 : Int32) m) - (fH_formNumber a2 (1 : Int32) m))), m.2.2.1, m.2.2.2)) - (fH_formNumber a2 (2 : Int32) (m.1, tk_u2 m.2.1 38 0 (Int32.toInt64 ((fH_formNumber a1 (1 : Int32) m) - (fH_formNumber a2 (1 : Int32) m))), m.2.2.1, m.2.2.2))))) 38 2 (Int32.toInt64 ((fH_formNumber a2 (3 : Int32) (m.1, tk_u2 (tk_u2 m.2.1 38 0 (Int32.toInt64 ((fH_formNumber a1 (1 : Int32) m) - (fH_formNumber a2 (1 : Int32) m)))) 38 1 (Int32.toInt64 ((fH_formNumber a1 (2 : Int32) (m.1, tk_u2 m.2.1 38 0 (Int32.toInt64 ((fH_formNumber a1 (1 : Int32) m) - (fH_formNumber a2 (1 : Int32) m))), m.2.2.1, m.2.2.2)) - (fH_formNumber a2 (2 : Int32) (m.1, tk_u2 m.2.1 38 0 (Int32.toInt64 ((fH_formNumber a1 (1 : Int32) m) - (fH_formNumber a2 (1 : Int32) m))), m.2.2.1, m.2.2.2)))), m.2.2.1, m.2.2.2)) - (fH_formNumber a1 (3 : Int32) (m.1, tk_u2 (tk_u2 m.2.1 38 0 (Int32.toInt64 ((fH_formNumber a1 (1 : Int32) m) - (fH_formNumber a2 (1 : Int32) m)))) 38 1 (Int32.toInt64 ((fH_formNumber a1 (2 : Int32) (m.1, tk_u2 m.2.1 38 0 (Int32.toInt64 ((fH_formNumber a1 (1 : Int32) m) - (fH_formNumber a2 (1 : Int32) m))), m.2.2.1, m.2.2.2)) - (fH_formNumber a2 (2 : Int32) (m.1, tk_u2 m.2.1 38 0 (Int32.toInt64 ((fH_formNumber a1 (1 : Int32) m) - (fH_formNumber a2 (1 : Int32) m))), m.2.2.1, m.2.2.2)))), m.2.2.1, m.2.2.2)))) 38 0) = (0 : Int64) then
    fK_equalPowers_74 a3 (1 : Int32) (m.1, tk_u2 (tk_u2 (tk_u2 m.2.1 38 0 (Int32.toInt64 ((fH_formNumber a1 (1 : Int32) m) - (fH_formNumber a2 (1 : Int32) m)))) 38 1 (Int32.toInt64 ((fH_formNumber a1 (2 : Int32) (m.1, tk_u2 m.2.1 38 0 (Int32.toInt64 ((fH_formNumber a1 (1 : Int32) m) - (fH_formNumber a2 (1 : Int32) m))), m.2.2.1, m.2.2.2)) - (fH_formNumber a2 (2 : Int32) (m.1, tk_u2 m.2.1 38 0 (Int32.toInt64 ((fH_formNumber a1 (1 : Int32) m) - (fH_formNumber a2 (1 : Int32) m))), m.2.2.1, m.2.2.2))))) 38 2 (Int32.toInt64 ((fH_formNumber a2 (3 : Int32) (m.1, tk_u2 (tk_u2 m.2.1 38 0 (Int32.toInt64 ((fH_formNumber a1 (1 : Int32) m) - (fH_formNumber a2 (1 : Int32) m)))) 38 1 (Int32.toInt64 ((fH_formNumber a1 (2 : Int32) (m.1, tk_u2 m.2.1 38 0 (Int32.toInt64 ((fH_formNumber a1 (1 : Int32) m) - (fH_formNumber a2 (1 : Int32) m))), m.2.2.1, m.2.2.2)) - (fH_formNumber a2 (2 : Int32) (m.1, tk_u2 m.2.1 38 0 (Int32.toInt64 ((fH_formNumber a1 (1 : Int32) m) - (fH_formNumber a2 (1 : Int32) m))), m.2.2.1, m.2.2.2)))), m.2.2.1, m.2.2.2)) - (fH_formNumber a1 (3 : Int32) (m.1, tk_u2 (tk_u2 m.2.1 38 0 (Int32.toInt64 ((fH_formNumber a1 (1 : Int32) m) - (fH_formNumber a2 (1 : Int32) m)))) 38 1 (Int32.toInt64 ((fH_formNumber a1 (2 : Int32) (m.1, tk_u2 m.2.1 38 0 (Int32.toInt64 ((fH_formNumber a1 (1 : Int32) m) - (fH_formNumber a2 (1 : Int32) m))), m.2.2.1, m.2.2.2)) - (fH_formNumber a2 (2 : Int32) (m.1, tk_u2 m.2.1 38 0 (Int32.toInt64 ((fH_formNumber a1 (1 : Int32) m) - (fH_formNumber a2 (1 : Int32) m))), m.2.2.1, m.2.2.2)))), m.2.2.1, m.2.2.2)))), m.2.2.1, m.2.2.2)
  else
    fK_equalPowers_74 a3 (0 : Int32) (m.1, tk_u2 (tk_u2 (tk_u2 m.2.1 38 0 (Int32.toInt64 ((fH_formNumber a1 (1 : Int32) m) - (fH_formNumber a2 (1 : Int32) m)))) 38 1 (Int32.toInt64 ((fH_formNumber a1 (2 : Int32) (m.1, tk_u2 m.2.1 38 0 (Int32.toInt64 ((fH_formNumber a1 (1 : Int32) m) - (fH_formNumber a2 (1 : Int32) m))), m.2.2.1, m.2.2.2)) - (fH_formNumber a2 (2 : Int32) (m.1, tk_u2 m.2.1 38 0 (Int32.toInt64 ((fH_formNumber a1 (1 : Int32) m) - (fH_formNumber a2 (1 : Int32) m))), m.2.2.1, m.2.2.2))))) 38 2 (Int32.toInt64 ((fH_formNumber a2 (3 : Int32) (m.1, tk_u2 (tk_u2 m.2.1 38 0 (Int32.toInt64 ((fH_formNumber a1 (1 : Int32) m) - (fH_formNumber a2 (1 : Int32) m)))) 38 1 (Int32.toInt64 ((fH_formNumber a1 (2 : Int32) (m.1, tk_u2 m.2.1 38 0 (Int32.toInt64 ((fH_formNumber a1 (1 : Int32) m) - (fH_formNumber a2 (1 : Int32) m))), m.2.2.1, m.2.2.2)) - (fH_formNumber a2 (2 : Int32) (m.1, tk_u2 m.2.1 38 0 (Int32.toInt64 ((fH_formNumber a1 (1 : Int32) m) - (fH_formNumber a2 (1 : Int32) m))), m.2.2.1, m.2.2.2)))), m.2.2.1, m.2.2.2)) - (fH_formNumber a1 (3 : Int32) (m.1, tk_u2 (tk_u2 m.2.1 38 0 (Int32.toInt64 ((fH_formNumber a1 (1 : Int32) m) - (fH_formNumber a2 (1 : Int32) m)))) 38 1 (Int32.toInt64 ((fH_formNumber a1 (2 : Int32) (m.1, tk_u2 m.2.1 38 0 (Int32.toInt64 ((fH_formNumber a1 (1 : Int32) m) - (fH_formNumber a2 (1 : Int32) m))), m.2.2.1, m.2.2.2)) - (fH_formNumber a2 (2 : Int32) (m.1, tk_u2 m.2.1 38 0 (Int32.toInt64 ((fH_formNumber a1 (1 : Int32) m) - (fH_formNumber a2 (1 : Int32) m))), m.2.2.1, m.2.2.2)))), m.2.2.1, m.2.2.2)))), m.2.2.1, m.2.2.2)
/-- 3T.radical(III)I, row 0 -/
def fX_radical (a1 : Int32) (a2 : Int32) (a3 : Int32) (m : tk_m) : Option (Int32 × tk_m) :=
  if (fX_areTwoShapes a1 a2 m) = true then
    if (fX_isWithin a3 (0 : Int32) (2 : Int32)) = true then
      if tk_ok a1 6 then
      if tk_ok a2 6 then
      if (m.2.2.1 (2 + 2 + (m.2.2.2 2 (tk_n a1)).val) 0) = true then
        (fX_finding (2 : Int32) m).bind fun o6 =>
        some (o6.1, o6.2)
      else
        if (m.2.2.1 (2 + 2 + (m.2.2.2 2 (tk_n a2)).val) 0) = true then
          (fX_finding (2 : Int32) m).bind fun o8 =>
          some (o8.1, o8.2)
        else
          if (m.1 (2 + 2 + (m.2.2.2 2 (tk_n a1)).val) 1) = (m.1 (2 + 2 + (m.2.2.2 2 (tk_n a2)).val) 1) then
            if (m.1 (2 + 2 + (m.2.2.2 2 (tk_n a1)).val) 2) = (m.1 (2 + 2 + (m.2.2.2 2 (tk_n a2)).val) 2) then
              (fX_finding (3 : Int32) m).bind fun o11 =>
              some (o11.1, o11.2)
            else
              (fK_equalPowers (2 + 2 + (m.2.2.2 2 (tk_n a1)).val) (2 + 2 + (m.2.2.2 2 (tk_n a2)).val) a3 m).bind fun o12 =>
              some (o12.1, o12.2)
          else
            (fK_equalPowers (2 + 2 + (m.2.2.2 2 (tk_n a1)).val) (2 + 2 + (m.2.2.2 2 (tk_n a2)).val) a3 m).bind fun o13 =>
            some (o13.1, o13.2)
      else none
      else none
    else
      (fX_finding (0 : Int32) m).bind fun o14 =>
      some (o14.1, o14.2)
  else
    (fX_finding (0 : Int32) m).bind fun o15 =>
    some (o15.1, o15.2)
/-- java/lang/Math.abs(I)I, row 0 -/
def fZ_abs_I (a1 : Int32) : Int32 :=
  if 0 ≤ a1 then
    a1
  else
    -a1
/-- 3T$Shape.ringWith(L3T$Shape;)I, row 0 -/
def fH_ringWith (t : Nat) (a1 : Nat) (m : tk_m) : Int32 :=
  if ((3 : Int32) * (fZ_abs_I ((((m.1 t 3) * (m.1 t 3)) + ((m.1 a1 3) * (m.1 a1 3))) - (fH_apartSquared t a1 m)))) = ((5 : Int32) * (((2 : Int32) * (m.1 t 3)) * (m.1 a1 3))) then
    (6 : Int32)
  else
    if (fZ_abs_I ((((m.1 t 3) * (m.1 t 3)) + ((m.1 a1 3) * (m.1 a1 3))) - (fH_apartSquared t a1 m))) = ((3 : Int32) * (((2 : Int32) * (m.1 t 3)) * (m.1 a1 3))) then
      (4 : Int32)
    else
      if (fZ_abs_I ((((m.1 t 3) * (m.1 t 3)) + ((m.1 a1 3) * (m.1 a1 3))) - (fH_apartSquared t a1 m))) = ((7 : Int32) * (((2 : Int32) * (m.1 t 3)) * (m.1 a1 3))) then
        (3 : Int32)
      else
        (0 : Int32)
/-- 3T.ring(II)I, row 0 -/
def fX_ring (a1 : Int32) (a2 : Int32) (m : tk_m) : Option (Int32 × tk_m) :=
  if (fX_areTwoShapes a1 a2 m) = true then
    if tk_ok a1 6 then
    if tk_ok a2 6 then
    if (fH_lowestKind (2 + 2 + (m.2.2.2 2 (tk_n a1)).val) m) = (1 : Int32) then
      if (fH_lowestKind (2 + 2 + (m.2.2.2 2 (tk_n a2)).val) m) = (1 : Int32) then
        if (fH_commonWith (2 + 2 + (m.2.2.2 2 (tk_n a1)).val) (2 + 2 + (m.2.2.2 2 (tk_n a2)).val) m) = 0 then
          if (fH_ringWith (2 + 2 + (m.2.2.2 2 (tk_n a1)).val) (2 + 2 + (m.2.2.2 2 (tk_n a2)).val) m) = 0 then
            (fX_finding (3 : Int32) m).bind fun o8 =>
            some (o8.1, o8.2)
          else
            some (fH_ringWith (2 + 2 + (m.2.2.2 2 (tk_n a1)).val) (2 + 2 + (m.2.2.2 2 (tk_n a2)).val) m, m)
        else
          (fX_finding (4 : Int32) m).bind fun o9 =>
          some (o9.1, o9.2)
      else
        (fX_finding (2 : Int32) m).bind fun o10 =>
        some (o10.1, o10.2)
    else
      (fX_finding (2 : Int32) m).bind fun o11 =>
      some (o11.1, o11.2)
    else none
    else none
  else
    (fX_finding (0 : Int32) m).bind fun o12 =>
    some (o12.1, o12.2)
/-- 3T$Scene.choose(III)V, row 0 -/
def fS_choose (t : Nat) (a1 : Int32) (a2 : Int32) (a3 : Int32) (m : tk_m) : tk_m :=
  (tk_u2 (tk_u2 (tk_u2 m.1 (t + 2) 0 a1) (t + 2) 1 a2) (t + 2) 2 a3, m.2.1, tk_u2 m.2.2.1 t 4 true, m.2.2.2)
/-- 3T.three(III)I, row 0 -/
def fX_three (a1 : Int32) (a2 : Int32) (a3 : Int32) (m : tk_m) : Option (Int32 × tk_m) :=
  if (fX_areTwoShapes a1 a2 m) = true then
    if (fX_areTwoShapes a2 a3 m) = true then
      if a1 = a3 then
        (fX_finding (0 : Int32) m).bind fun o4 =>
        some (o4.1, o4.2)
      else
        tk_let (fS_choose 1 a1 a2 a3 m) fun o5 =>
        some ((1 : Int32), o5)
    else
      (fX_finding (0 : Int32) m).bind fun o6 =>
      some (o6.1, o6.2)
  else
    (fX_finding (0 : Int32) m).bind fun o7 =>
    some (o7.1, o7.2)
/-- 3T.ofThree(I)I, row 0 -/
def fX_ofThree (a1 : Int32) (m : tk_m) : Option (Int32 × tk_m) :=
  if (fX_isWithin a1 (0 : Int32) (2 : Int32)) = true then
    if tk_ok a1 3 then
    some (m.1 3 (tk_n a1), m)
    else none
  else
    (fX_finding (0 : Int32) m).bind fun o3 =>
    some (o3.1, o3.2)
def fS_chooseSet_32 (r4 : Nat → Int32 → Int32 → Int32 → tk_m → Option tk_m) (r17 : Nat → Int32 → Int32 → Int32 → Int32 → tk_m → Option tk_m) : Nat → Nat → Int32 → Int32 → Int32 → Int32 → Int32 → tk_m → Option tk_m
  | 0, _, _, _, _, _, _, _ => none
  | n + 1, v0, v1, v2, v3, v4, v5, m =>
    if (m.1 v0 1) ≤ v5 then
      r17 v0 v1 v2 v3 (v4 + (1 : Int32)) m
    else
      if v2 = v1 then
        tk_let (fS_choose v0 v3 v4 v5 m) fun o3 =>
        fS_chooseSet_32 r4 r17 n v0 v1 (v2 + (1 : Int32)) v3 v4 (v5 + (1 : Int32)) o3
      else
        fS_chooseSet_32 r4 r17 n v0 v1 (v2 + (1 : Int32)) v3 v4 (v5 + (1 : Int32)) m
def fS_chooseSet_17 (r4 : Nat → Int32 → Int32 → Int32 → tk_m → Option tk_m) : Nat → Nat → Int32 → Int32 → Int32 → Int32 → tk_m → Option tk_m
  | 0, _, _, _, _, _, _ => none
  | n + 1, v0, v1, v2, v3, v4, m =>
    if (m.1 v0 1) ≤ v4 then
      r4 v0 v1 v2 (v3 + (1 : Int32)) m
    else
      fS_chooseSet_32 r4 (fS_chooseSet_17 r4 n) tk_F v0 v1 v2 v3 v4 (v4 + (1 : Int32)) m
def fS_chooseSet_4 : Nat → Nat → Int32 → Int32 → Int32 → tk_m → Option tk_m
  | 0, _, _, _, _, _ => none
  | n + 1, v0, v1, v2, v3, m =>
    if (m.1 v0 1) ≤ v3 then
      some m
    else
      fS_chooseSet_17 (fS_chooseSet_4 n) tk_F v0 v1 v2 v3 (v3 + (1 : Int32)) m
/-- 3T$Scene.chooseSet(I)V, row 0 -/
def fS_chooseSet (t : Nat) (a1 : Int32) (m : tk_m) : Option tk_m :=
  fS_chooseSet_4 tk_F t a1 (0 : Int32) (0 : Int32) m
/-- 3T$Scene.drawThree()I, row 0 -/
def fS_drawThree (t : Nat) (m : tk_m) : Option (Int32 × tk_m) :=
  if ((((m.1 t 1) * ((m.1 t 1) - (1 : Int32))) * ((m.1 t 1) - (2 : Int32))) / (6 : Int32)) ≤ 0 then
    (fS_chooseSet t (0 : Int32) (tk_u2 m.1 t 3 (((m.1 t 3) * (1103515245 : Int32)) + (12345 : Int32)), m.2.1, m.2.2.1, m.2.2.2)).bind fun o2 =>
    some ((0 : Int32), o2)
  else
    if ((((m.1 t 1) * ((m.1 t 1) - (1 : Int32))) * ((m.1 t 1) - (2 : Int32))) / (6 : Int32)) = 0 then none else
    (fS_chooseSet t (tk_irem (tk_iushr (tk_u2 m.1 t 3 (((m.1 t 3) * (1103515245 : Int32)) + (12345 : Int32)) t 3) (8 : Int32)) ((((m.1 t 1) * ((m.1 t 1) - (1 : Int32))) * ((m.1 t 1) - (2 : Int32))) / (6 : Int32))) (tk_u2 m.1 t 3 (((m.1 t 3) * (1103515245 : Int32)) + (12345 : Int32)), m.2.1, m.2.2.1, m.2.2.2)).bind fun o4 =>
    some (tk_irem (tk_iushr (tk_u2 m.1 t 3 (((m.1 t 3) * (1103515245 : Int32)) + (12345 : Int32)) t 3) (8 : Int32)) ((((m.1 t 1) * ((m.1 t 1) - (1 : Int32))) * ((m.1 t 1) - (2 : Int32))) / (6 : Int32)), o4)
/-- 3T.draw()I, row 0 -/
def fX_draw (m : tk_m) : Option (Int32 × tk_m) :=
  if (3 : Int32) ≤ (m.1 1 1) then
    (fS_drawThree 1 m).bind fun o2 =>
    some (o2.1, o2.2)
  else
    (fX_finding (4 : Int32) m).bind fun o3 =>
    some (o3.1, o3.2)
/-- 3T$Scene.hasThree()Z, row 0 -/
def fS_hasThree (t : Nat) (m : tk_m) : Bool :=
  if (fS_has t (m.1 (t + 2) 0) m) = true then
    if (fS_has t (m.1 (t + 2) 1) m) = true then
      if (fS_has t (m.1 (t + 2) 2) m) = true then
        true
      else
        false
    else
      false
  else
    false
/-- 3T$Finder.forget()V, row 0 -/
def fF_forget (m : tk_m) : tk_m :=
  (tk_u2 (tk_u2 (tk_u2 m.1 39 2 (0 : Int32)) 39 3 (0 : Int32)) 39 4 (0 : Int32), m.2.1, m.2.2.1, m.2.2.2)
/-- 3T$Finder.hasBit(II)Z, row 0 -/
def fF_hasBit (a1 : Int32) (a2 : Int32) : Bool :=
  if ((tk_ishr a1 a2) &&& (1 : Int32)) = (1 : Int32) then
    true
  else
    false
/-- 3T$Scene.given(I)L3T$Shape;, row 0 -/
def fS_given (t : Nat) (a1 : Int32) (m : tk_m) : Option Nat :=
  if tk_ok a1 3 then
  if tk_ok (m.1 (t + 2) (tk_n a1)) 6 then
  some ((t + 1) + 2 + (m.2.2.2 (t + 1) (tk_n (m.1 (t + 2) (tk_n a1)))).val)
  else none
  else none
def fF_doCount_2 : Nat → Nat → Int32 → Int32 → tk_m → Option Bool
  | 0, _, _, _, _ => none
  | n + 1, v0, v1, v2, m =>
    if (3 : Int32) ≤ v2 then
      some true
    else
      if (fF_hasBit v1 v2) = true then
        (fS_given v0 v2 m).bind fun o3 =>
        if (fH_lowestKind o3 m) = (3 : Int32) then
          some false
        else
          fF_doCount_2 n v0 v1 (v2 + (1 : Int32)) m
      else
        fF_doCount_2 n v0 v1 (v2 + (1 : Int32)) m
/-- 3T$Finder.doCount(L3T$Scene;I)Z, row 0 -/
def fF_doCount (a1 : Nat) (a2 : Int32) (m : tk_m) : Option Bool :=
  fF_doCount_2 tk_F a1 a2 (0 : Int32) m
def fF_firstRound_2 : Nat → Nat → Int32 → tk_m → Option Int32
  | 0, _, _, _ => none
  | n + 1, v0, v1, m =>
    if (3 : Int32) ≤ v1 then
      some (-1 : Int32)
    else
      (fS_given v0 v1 m).bind fun o2 =>
      if (m.2.2.1 o2 0) = true then
        fF_firstRound_2 n v0 (v1 + (1 : Int32)) m
      else
        some v1
/-- 3T$Finder.firstRound(L3T$Scene;)I, row 0 -/
def fF_firstRound (a1 : Nat) (m : tk_m) : Option Int32 :=
  fF_firstRound_2 tk_F a1 (0 : Int32) m
/-- 3T$Vector.set(JJJ)V, row 0 -/
def fV_set (t : Nat) (a1 : Int64) (a2 : Int64) (a3 : Int64) (m : tk_m) : tk_m :=
  (m.1, tk_u2 (tk_u2 (tk_u2 m.2.1 t 0 a1) t 1 a2) t 2 a3, m.2.2.1, m.2.2.2)
/-- 3T$Shape.shift(Z)I, row 0 -/
def fH_shift (t : Nat) (a1 : Int32) (m : tk_m) : Int32 :=
  if a1 = 0 then
    -(m.1 t 3)
  else
    m.1 t 3
/-- 3T$Shape.slope(Z)I, row 0 -/
def fH_slope (t : Nat) (a1 : Int32) (m : tk_m) : Int32 :=
  if a1 = 0 then
    -(m.1 t 8)
  else
    m.1 t 8
/-- 3T$Vector.straightProduct(L3T$Vector;)J, row 0 -/
def fV_straightProduct (t : Nat) (a1 : Nat) (m : tk_m) : Int64 :=
  (((m.2.1 t 0) * (m.2.1 a1 0)) + ((m.2.1 t 1) * (m.2.1 a1 1))) + ((m.2.1 t 2) * (m.2.1 a1 2))
/-- 3T$Vector.bentProduct(L3T$Vector;)J, row 0 -/
def fV_bentProduct (t : Nat) (a1 : Nat) (m : tk_m) : Int64 :=
  (((m.2.1 t 0) * (m.2.1 a1 0)) + ((m.2.1 t 1) * (m.2.1 a1 1))) - ((m.2.1 t 2) * (m.2.1 a1 2))
/-- 3T$Finder.layPlane(L3T$Vector;L3T$Shape;Z)V, row 0 -/
def fF_layPlane (a1 : Nat) (a2 : Nat) (a3 : Int32) (m : tk_m) : tk_m :=
  if (m.2.2.1 a2 0) = true then
    tk_let (fV_set a1 (Int32.toInt64 (m.1 a2 6)) (Int32.toInt64 (m.1 a2 7)) (Int32.toInt64 (fH_slope a2 a3 m)) m) fun o2 =>
    (o2.1, tk_u2 o2.2.1 a1 3 ((2 : Int64) * ((Int32.toInt64 (o2.1 a2 5)) - (fV_straightProduct a1 62 o2))), o2.2.2.1, o2.2.2.2)
  else
    tk_let (fV_set a1 ((Int32.toInt64 (m.1 a2 1)) - (m.2.1 62 0)) ((Int32.toInt64 (m.1 a2 2)) - (m.2.1 62 1)) ((Int32.toInt64 (fH_shift a2 a3 m)) + (m.2.1 62 2)) m) fun o3 =>
    (o3.1, tk_u2 o3.2.1 a1 3 (fV_bentProduct a1 a1 o3), o3.2.2.1, o3.2.2.2)
def fF_layPlanes_107 (v3 : Int32) (m : tk_m) : Option (Bool × tk_m) :=
  if v3 < 0 then
    some (false, m)
  else
    some (true, m)
def fF_layPlanes_63 : Nat → Nat → Int32 → Int32 → Int32 → Int32 → tk_m → Option (Bool × tk_m)
  | 0, _, _, _, _, _, _ => none
  | n + 1, v1, v2, v3, v4, v5, m =>
    if (3 : Int32) ≤ v5 then
      fF_layPlanes_107 v3 m
    else
      if v5 = v3 then
        fF_layPlanes_63 n v1 v2 v3 v4 (v5 + (1 : Int32)) m
      else
        if tk_ok v4 3 then
        (fS_given v1 v5 m).bind fun o4 =>
        tk_let (fF_layPlane (199 + (tk_n v4)) o4 (tk_b (fF_hasBit v2 v5)) m) fun o5 =>
        fF_layPlanes_63 n v1 v2 v3 (v4 + (1 : Int32)) (v5 + (1 : Int32)) o5
        else none
/-- 3T$Finder.layPlanes(L3T$Scene;I)Z, row 0 -/
def fF_layPlanes (a1 : Nat) (a2 : Int32) (m : tk_m) : Option (Bool × tk_m) :=
  (fF_firstRound a1 m).bind fun o1 =>
  tk_let (fV_set 62 (0 : Int64) (0 : Int64) (0 : Int64) m) fun o2 =>
  if o1 < 0 then
    fF_layPlanes_63 tk_F a1 a2 o1 (0 : Int32) (0 : Int32) o2
  else
    (fS_given a1 o1 o2).bind fun o4 =>
    tk_let (fV_set 62 (Int32.toInt64 (o2.1 o4 1)) (Int32.toInt64 (o2.1 o4 2)) (Int32.toInt64 (-(fH_shift o4 (tk_b (fF_hasBit a2 o1)) o2))) o2) fun o5 =>
    fF_layPlanes_63 tk_F a1 a2 o1 (0 : Int32) (0 : Int32) o5
/-- 3T$Vector.takeCross(L3T$Vector;L3T$Vector;)V, row 0 -/
def fV_takeCross (t : Nat) (a1 : Nat) (a2 : Nat) (m : tk_m) : tk_m :=
  tk_let (fV_set t (((m.2.1 a1 1) * (m.2.1 a2 2)) - ((m.2.1 a1 2) * (m.2.1 a2 1))) (((m.2.1 a1 2) * (m.2.1 a2 0)) - ((m.2.1 a1 0) * (m.2.1 a2 2))) (((m.2.1 a1 0) * (m.2.1 a2 1)) - ((m.2.1 a1 1) * (m.2.1 a2 0))) m) fun o1 =>
  o1
/-- 3T$Vector.isZero()Z, row 0 -/
def fV_isZero (t : Nat) (m : tk_m) : Bool :=
  if (m.2.1 t 0) = (0 : Int64) then
    if (m.2.1 t 1) = (0 : Int64) then
      if (m.2.1 t 2) = (0 : Int64) then
        true
      else
        false
    else
      false
  else
    false
/-- 3T$Vector.add(JL3T$Vector;)V, row 0 -/
def fV_add (t : Nat) (a1 : Int64) (a2 : Nat) (m : tk_m) : tk_m :=
  (m.1, tk_u2 (tk_u2 (tk_u2 m.2.1 t 0 ((m.2.1 t 0) + (a1 * (m.2.1 a2 0)))) t 1 ((tk_u2 m.2.1 t 0 ((m.2.1 t 0) + (a1 * (m.2.1 a2 0))) t 1) + (a1 * (tk_u2 m.2.1 t 0 ((m.2.1 t 0) + (a1 * (m.2.1 a2 0))) a2 1)))) t 2 ((tk_u2 (tk_u2 m.2.1 t 0 ((m.2.1 t 0) + (a1 * (m.2.1 a2 0)))) t 1 ((tk_u2 m.2.1 t 0 ((m.2.1 t 0) + (a1 * (m.2.1 a2 0))) t 1) + (a1 * (tk_u2 m.2.1 t 0 ((m.2.1 t 0) + (a1 * (m.2.1 a2 0))) a2 1))) t 2) + (a1 * (tk_u2 (tk_u2 m.2.1 t 0 ((m.2.1 t 0) + (a1 * (m.2.1 a2 0)))) t 1 ((tk_u2 m.2.1 t 0 ((m.2.1 t 0) + (a1 * (m.2.1 a2 0))) t 1) + (a1 * (tk_u2 m.2.1 t 0 ((m.2.1 t 0) + (a1 * (m.2.1 a2 0))) a2 1))) a2 2))), m.2.2.1, m.2.2.2)
/-- 3T$Finder.followEdge()Z, row 0 -/
def fF_followEdge (m : tk_m) : Bool × tk_m :=
  tk_let (fV_set 67 (0 : Int64) (0 : Int64) (0 : Int64) m) fun o1 =>
  tk_let (fV_takeCross 65 200 64 o1) fun o2 =>
  tk_let (fV_add 67 (o2.2.1 199 3) 65 o2) fun o3 =>
  tk_let (fV_takeCross 65 64 199 o3) fun o4 =>
  tk_let (fV_add 67 (o4.2.1 200 3) 65 o4) fun o5 =>
  if (fV_bentProduct 67 64 o5) = (0 : Int64) then
    if (fV_bentProduct 67 67 o5) = (0 : Int64) then
      (true, (o5.1, tk_u2 o5.2.1 39 12 (-1 : Int64), o5.2.2.1, o5.2.2.2))
    else
      (false, (o5.1, tk_u2 o5.2.1 39 12 (-1 : Int64), o5.2.2.1, o5.2.2.2))
  else
    tk_let (fV_set 66 (0 : Int64) (0 : Int64) (0 : Int64) o5) fun o8 =>
    tk_let (fV_add 66 ((2 : Int64) * (fV_bentProduct 67 64 o5)) 67 o8) fun o9 =>
    tk_let (fV_add 66 (-(fV_bentProduct 67 67 o5)) 64 o9) fun o10 =>
    (false, (o10.1, tk_u2 (tk_u2 o10.2.1 39 12 (0 : Int64)) 39 13 (((4 : Int64) * (fV_bentProduct 67 64 o5)) * (fV_straightProduct 64 64 (o10.1, tk_u2 o10.2.1 39 12 (0 : Int64), o10.2.2.1, o10.2.2.2))), o10.2.2.1, o10.2.2.2))
/-- 3T$Vector.addBent(JL3T$Vector;)V, row 0 -/
def fV_addBent (t : Nat) (a1 : Int64) (a2 : Nat) (m : tk_m) : tk_m :=
  (m.1, tk_u2 (tk_u2 (tk_u2 m.2.1 t 0 ((m.2.1 t 0) + (a1 * (m.2.1 a2 0)))) t 1 ((tk_u2 m.2.1 t 0 ((m.2.1 t 0) + (a1 * (m.2.1 a2 0))) t 1) + (a1 * (tk_u2 m.2.1 t 0 ((m.2.1 t 0) + (a1 * (m.2.1 a2 0))) a2 1)))) t 2 ((tk_u2 (tk_u2 m.2.1 t 0 ((m.2.1 t 0) + (a1 * (m.2.1 a2 0)))) t 1 ((tk_u2 m.2.1 t 0 ((m.2.1 t 0) + (a1 * (m.2.1 a2 0))) t 1) + (a1 * (tk_u2 m.2.1 t 0 ((m.2.1 t 0) + (a1 * (m.2.1 a2 0))) a2 1))) t 2) - (a1 * (tk_u2 (tk_u2 m.2.1 t 0 ((m.2.1 t 0) + (a1 * (m.2.1 a2 0)))) t 1 ((tk_u2 m.2.1 t 0 ((m.2.1 t 0) + (a1 * (m.2.1 a2 0))) t 1) + (a1 * (tk_u2 m.2.1 t 0 ((m.2.1 t 0) + (a1 * (m.2.1 a2 0))) a2 1))) a2 2))), m.2.2.1, m.2.2.2)
/-- 3T$Finder.pierceCone(L3T$Vector;L3T$Vector;)V, row 0 -/
def fF_pierceCone (a1 : Nat) (a2 : Nat) (m : tk_m) : tk_m :=
  tk_let (fV_set 66 (0 : Int64) (0 : Int64) (0 : Int64) m) fun o1 =>
  tk_let (fV_addBent 66 (((fV_bentProduct a1 a2 m) * (m.2.1 a2 3)) - ((fV_bentProduct a2 a2 m) * (m.2.1 a1 3))) a1 o1) fun o2 =>
  tk_let (fV_addBent 66 (((fV_bentProduct a1 a2 m) * (m.2.1 a1 3)) - ((fV_bentProduct a1 a1 m) * (m.2.1 a2 3))) a2 o2) fun o3 =>
  (o3.1, tk_u2 (tk_u2 o3.2.1 39 12 (((-(((fV_bentProduct a1 a2 m) * (m.2.1 a2 3)) - ((fV_bentProduct a2 a2 m) * (m.2.1 a1 3)))) * (o3.2.1 a1 3)) - ((((fV_bentProduct a1 a2 m) * (m.2.1 a1 3)) - ((fV_bentProduct a1 a1 m) * (m.2.1 a2 3))) * (o3.2.1 a2 3)))) 39 13 ((2 : Int64) * (fV_bentProduct 64 64 (o3.1, tk_u2 o3.2.1 39 12 (((-(((fV_bentProduct a1 a2 m) * (m.2.1 a2 3)) - ((fV_bentProduct a2 a2 m) * (m.2.1 a1 3)))) * (o3.2.1 a1 3)) - ((((fV_bentProduct a1 a2 m) * (m.2.1 a1 3)) - ((fV_bentProduct a1 a1 m) * (m.2.1 a2 3))) * (o3.2.1 a2 3))), o3.2.2.1, o3.2.2.2))), o3.2.2.1, o3.2.2.2)
/-- 3T$Finder.meetCone()Z, row 0 -/
def fF_meetCone (m : tk_m) : Bool × tk_m :=
  tk_let (fV_takeCross 64 199 200 m) fun o1 =>
  if (fV_isZero 64 o1) = true then
    (true, o1)
  else
    if (fV_bentProduct 64 64 o1) = (0 : Int64) then
      tk_let (fF_followEdge o1) fun o4 =>
      (o4.1, o4.2)
    else
      tk_let (fF_pierceCone 199 200 o1) fun o5 =>
      (false, o5)
/-- 3T$Finder.meetPlanes()Z, row 0 -/
def fF_meetPlanes (m : tk_m) : Bool × tk_m :=
  tk_let (fV_takeCross 65 200 201 m) fun o1 =>
  if (fV_straightProduct 199 65 o1) = (0 : Int64) then
    (true, o1)
  else
    tk_let (fV_set 66 (0 : Int64) (0 : Int64) (0 : Int64) o1) fun o3 =>
    tk_let (fV_add 66 (o3.2.1 199 3) 65 o3) fun o4 =>
    tk_let (fV_takeCross 65 201 199 o4) fun o5 =>
    tk_let (fV_add 66 (o5.2.1 200 3) 65 o5) fun o6 =>
    tk_let (fV_takeCross 65 199 200 o6) fun o7 =>
    tk_let (fV_add 66 (o7.2.1 201 3) 65 o7) fun o8 =>
    (false, (o8.1, tk_u2 (tk_u2 o8.2.1 39 12 (0 : Int64)) 39 13 ((2 : Int64) * (fV_straightProduct 199 65 o1)), o8.2.2.1, o8.2.2.2))
/-- 3T$Num.hold(JJJJ)Z, row 0 -/
def fN_hold (t : Nat) (a1 : Int64) (a2 : Int64) (a3 : Int64) (a4 : Int64) (m : tk_m) : Option (Bool × tk_m) :=
  (fK_lower (t + 1) (2 : Int32) (m.1, tk_u2 (tk_u2 (tk_u2 m.2.1 (t + 1) 0 a1) (t + 1) 1 a2) (t + 1) 2 a4, m.2.2.1, m.2.2.2)).bind fun o1 =>
  if (o1.2.2.1 (t + 1) 1) = (0 : Int64) then
    some (tk_u2 o1.2.2.2.1 t 0 o1.1 t 0, (o1.2.1, tk_u2 o1.2.2.1 t 2 (0 : Int64), tk_u2 o1.2.2.2.1 t 0 o1.1, o1.2.2.2.2))
  else
    some (tk_u2 o1.2.2.2.1 t 0 o1.1 t 0, (o1.2.1, tk_u2 o1.2.2.1 t 2 a3, tk_u2 o1.2.2.2.1 t 0 o1.1, o1.2.2.2.2))
def fN_floorOfRoot_7 : Nat → Int64 → Int64 → Int64 → Option Int64
  | 0, _, _, _ => none
  | n + 1, v0, v2, v4 =>
    if v4 ≤ (0 : Int64) then
      some v2
    else
      if v0 < ((v2 + v4) * (v2 + v4)) then
        fN_floorOfRoot_7 n v0 v2 (tk_lshr v4 (1 : Int32))
      else
        fN_floorOfRoot_7 n v0 (v2 + v4) (tk_lshr v4 (1 : Int32))
/-- 3T$Num.floorOfRoot(J)J, row 0 -/
def fN_floorOfRoot (a1 : Int64) : Option Int64 :=
  fN_floorOfRoot_7 tk_F a1 (0 : Int64) (1073741824 : Int64)
def fN_holdRoot_167 (v3 : Int64) (v5 : Int64) (s0 : Int64) (s1 : Nat) (m : tk_m) : Option tk_m :=
  if v5 = (1 : Int64) then
    (fN_hold s1 s0 (0 : Int64) v5 (1 : Int64) m).bind fun o2 =>
    some o2.2
  else
    (fN_hold s1 s0 v3 v5 (1 : Int64) m).bind fun o3 =>
    some o3.2
def fN_holdRoot_121 (v0 : Nat) (v3 : Int64) (v5 : Int64) (v7 : Int64) (m : tk_m) : Option tk_m :=
  (fN_floorOfRoot v7).bind fun o1 =>
  if (o1 * o1) = v7 then
    if v5 = (1 : Int64) then
      fN_holdRoot_167 (v3 * o1) v5 (v3 * o1) v0 m
    else
      fN_holdRoot_167 (v3 * o1) v5 (0 : Int64) v0 m
  else
    if (v5 * v7) = (1 : Int64) then
      fN_holdRoot_167 v3 (v5 * v7) v3 v0 m
    else
      fN_holdRoot_167 v3 (v5 * v7) (0 : Int64) v0 m
def fN_holdRoot_88 (r29 : Nat → Int64 → Int64 → Int64 → Int64 → tk_m → Option tk_m) (v0 : Nat) (v3 : Int64) (v5 : Int64) (v7 : Int64) (v9 : Int64) (m : tk_m) : Option tk_m :=
  if v9 = 0 then none else
  if (tk_lrem v7 v9) = (0 : Int64) then
    if v9 = 0 then none else
    r29 v0 v3 (v5 * v9) (v7 / v9) (v9 + (1 : Int64)) m
  else
    r29 v0 v3 v5 v7 (v9 + (1 : Int64)) m
def fN_holdRoot_53 (r29 : Nat → Int64 → Int64 → Int64 → Int64 → tk_m → Option tk_m) : Nat → Nat → Int64 → Int64 → Int64 → Int64 → Int64 → Int32 → tk_m → Option tk_m
  | 0, _, _, _, _, _, _, _, _ => none
  | n + 1, v0, v3, v5, v7, v9, v11, v13, m =>
    if (64 : Int32) ≤ v13 then
      fN_holdRoot_88 r29 v0 v3 v5 v7 v9 m
    else
      if v11 = 0 then none else
      if (tk_lrem v7 v11) = (0 : Int64) then
        if v11 = 0 then none else
        fN_holdRoot_53 r29 n v0 (v3 * v9) v5 (v7 / v11) v9 v11 (v13 + (1 : Int32)) m
      else
        fN_holdRoot_88 r29 v0 v3 v5 v7 v9 m
def fN_holdRoot_29 : Nat → Nat → Int64 → Int64 → Int64 → Int64 → tk_m → Option tk_m
  | 0, _, _, _, _, _, _ => none
  | n + 1, v0, v3, v5, v7, v9, m =>
    if v7 < ((v9 * v9) * v9) then
      fN_holdRoot_121 v0 v3 v5 v7 m
    else
      fN_holdRoot_53 (fN_holdRoot_29 n) tk_F v0 v3 v5 v7 v9 (v9 * v9) (0 : Int32) m
/-- 3T$Num.holdRoot(J)V, row 0 -/
def fN_holdRoot (t : Nat) (a1 : Int64) (m : tk_m) : Option tk_m :=
  if (0 : Int64) < a1 then
    fN_holdRoot_29 tk_F t (1 : Int64) (1 : Int64) a1 (2 : Int64) m
  else
    (fN_hold t (0 : Int64) (0 : Int64) (0 : Int64) (1 : Int64) m).bind fun o2 =>
    some o2.2
/-- java/lang/Long.compare(JJ)I, row 0 -/
def fZ_compare_J (a1 : Int64) (a2 : Int64) : Int32 :=
  if a2 ≤ a1 then
    if a1 = a2 then
      (0 : Int32)
    else
      (1 : Int32)
  else
    (-1 : Int32)
def fF_lesserSide_63 (s0 : Int32) (m : tk_m) : Int32 :=
  if (m.2.1 39 13) ≤ (0 : Int64) then
    if s0 = (0 : Int32) then
      (-1 : Int32)
    else
      (1 : Int32)
  else
    if s0 = (1 : Int32) then
      (-1 : Int32)
    else
      (1 : Int32)
/-- 3T$Finder.lesserSide()I, row 0 -/
def fF_lesserSide (m : tk_m) : Int32 :=
  if (m.2.1 64 2) = (0 : Int64) then
    if (m.2.1 64 0) = (0 : Int64) then
      if (m.2.1 64 1) ≤ (0 : Int64) then
        fF_lesserSide_63 (0 : Int32) m
      else
        fF_lesserSide_63 (1 : Int32) m
    else
      if (m.2.1 64 0) ≤ (0 : Int64) then
        fF_lesserSide_63 (0 : Int32) m
      else
        fF_lesserSide_63 (1 : Int32) m
  else
    if (m.2.1 64 2) ≤ (0 : Int64) then
      fF_lesserSide_63 (0 : Int32) m
    else
      fF_lesserSide_63 (1 : Int32) m
/-- 3T$Num.p()J, row 0 -/
def fN_p (t : Nat) (m : tk_m) : Int64 :=
  m.2.1 (t + 1) 0
/-- 3T$Num.q()J, row 0 -/
def fN_q (t : Nat) (m : tk_m) : Int64 :=
  m.2.1 (t + 1) 1
/-- 3T$Finder.takePlace(I)V, row 0 -/
def fF_takePlace (a1 : Int32) (m : tk_m) : tk_m :=
  tk_let (fV_set 67 (m.2.1 66 0) (m.2.1 66 1) (m.2.1 66 2) m) fun o1 =>
  tk_let (fV_add 67 ((Int32.toInt64 a1) * (fN_p 69 o1)) 64 o1) fun o2 =>
  tk_let (fV_set 68 (0 : Int64) (0 : Int64) (0 : Int64) o2) fun o3 =>
  tk_let (fV_add 68 ((Int32.toInt64 a1) * (fN_q 69 o3)) 64 o3) fun o4 =>
  o4
/-- 3T$Circle.become(L3T$Vector;L3T$Vector;JJL3T$Vector;)V, row 0 -/
def fC_become (t : Nat) (a1 : Nat) (a2 : Nat) (a3 : Int64) (a4 : Int64) (a5 : Nat) (m : tk_m) : Option tk_m :=
  (fK_lower (t + 1) (6 : Int32) (m.1, tk_u2 (tk_u2 (tk_u2 (tk_u2 (tk_u2 (tk_u2 (tk_u2 (tk_u2 m.2.1 (t + 1) 0 ((m.2.1 a1 0) + ((m.2.1 a5 0) * a4))) (t + 1) 1 ((tk_u2 m.2.1 (t + 1) 0 ((m.2.1 a1 0) + ((m.2.1 a5 0) * a4)) a1 1) + ((tk_u2 m.2.1 (t + 1) 0 ((m.2.1 a1 0) + ((m.2.1 a5 0) * a4)) a5 1) * a4))) (t + 1) 2 ((tk_u2 (tk_u2 m.2.1 (t + 1) 0 ((m.2.1 a1 0) + ((m.2.1 a5 0) * a4))) (t + 1) 1 ((tk_u2 m.2.1 (t + 1) 0 ((m.2.1 a1 0) + ((m.2.1 a5 0) * a4)) a1 1) + ((tk_u2 m.2.1 (t + 1) 0 ((m.2.1 a1 0) + ((m.2.1 a5 0) * a4)) a5 1) * a4)) a1 2) + ((tk_u2 (tk_u2 m.2.1 (t + 1) 0 ((m.2.1 a1 0) + ((m.2.1 a5 0) * a4))) (t + 1) 1 ((tk_u2 m.2.1 (t + 1) 0 ((m.2.1 a1 0) + ((m.2.1 a5 0) * a4)) a1 1) + ((tk_u2 m.2.1 (t + 1) 0 ((m.2.1 a1 0) + ((m.2.1 a5 0) * a4)) a5 1) * a4)) a5 2) * a4))) (t + 1) 3 (tk_u2 (tk_u2 (tk_u2 m.2.1 (t + 1) 0 ((m.2.1 a1 0) + ((m.2.1 a5 0) * a4))) (t + 1) 1 ((tk_u2 m.2.1 (t + 1) 0 ((m.2.1 a1 0) + ((m.2.1 a5 0) * a4)) a1 1) + ((tk_u2 m.2.1 (t + 1) 0 ((m.2.1 a1 0) + ((m.2.1 a5 0) * a4)) a5 1) * a4))) (t + 1) 2 ((tk_u2 (tk_u2 m.2.1 (t + 1) 0 ((m.2.1 a1 0) + ((m.2.1 a5 0) * a4))) (t + 1) 1 ((tk_u2 m.2.1 (t + 1) 0 ((m.2.1 a1 0) + ((m.2.1 a5 0) * a4)) a1 1) + ((tk_u2 m.2.1 (t + 1) 0 ((m.2.1 a1 0) + ((m.2.1 a5 0) * a4)) a5 1) * a4)) a1 2) + ((tk_u2 (tk_u2 m.2.1 (t + 1) 0 ((m.2.1 a1 0) + ((m.2.1 a5 0) * a4))) (t + 1) 1 ((tk_u2 m.2.1 (t + 1) 0 ((m.2.1 a1 0) + ((m.2.1 a5 0) * a4)) a1 1) + ((tk_u2 m.2.1 (t + 1) 0 ((m.2.1 a1 0) + ((m.2.1 a5 0) * a4)) a5 1) * a4)) a5 2) * a4)) a2 0)) (t + 1) 4 (tk_u2 (tk_u2 (tk_u2 (tk_u2 m.2.1 (t + 1) 0 ((m.2.1 a1 0) + ((m.2.1 a5 0) * a4))) (t + 1) 1 ((tk_u2 m.2.1 (t + 1) 0 ((m.2.1 a1 0) + ((m.2.1 a5 0) * a4)) a1 1) + ((tk_u2 m.2.1 (t + 1) 0 ((m.2.1 a1 0) + ((m.2.1 a5 0) * a4)) a5 1) * a4))) (t + 1) 2 ((tk_u2 (tk_u2 m.2.1 (t + 1) 0 ((m.2.1 a1 0) + ((m.2.1 a5 0) * a4))) (t + 1) 1 ((tk_u2 m.2.1 (t + 1) 0 ((m.2.1 a1 0) + ((m.2.1 a5 0) * a4)) a1 1) + ((tk_u2 m.2.1 (t + 1) 0 ((m.2.1 a1 0) + ((m.2.1 a5 0) * a4)) a5 1) * a4)) a1 2) + ((tk_u2 (tk_u2 m.2.1 (t + 1) 0 ((m.2.1 a1 0) + ((m.2.1 a5 0) * a4))) (t + 1) 1 ((tk_u2 m.2.1 (t + 1) 0 ((m.2.1 a1 0) + ((m.2.1 a5 0) * a4)) a1 1) + ((tk_u2 m.2.1 (t + 1) 0 ((m.2.1 a1 0) + ((m.2.1 a5 0) * a4)) a5 1) * a4)) a5 2) * a4))) (t + 1) 3 (tk_u2 (tk_u2 (tk_u2 m.2.1 (t + 1) 0 ((m.2.1 a1 0) + ((m.2.1 a5 0) * a4))) (t + 1) 1 ((tk_u2 m.2.1 (t + 1) 0 ((m.2.1 a1 0) + ((m.2.1 a5 0) * a4)) a1 1) + ((tk_u2 m.2.1 (t + 1) 0 ((m.2.1 a1 0) + ((m.2.1 a5 0) * a4)) a5 1) * a4))) (t + 1) 2 ((tk_u2 (tk_u2 m.2.1 (t + 1) 0 ((m.2.1 a1 0) + ((m.2.1 a5 0) * a4))) (t + 1) 1 ((tk_u2 m.2.1 (t + 1) 0 ((m.2.1 a1 0) + ((m.2.1 a5 0) * a4)) a1 1) + ((tk_u2 m.2.1 (t + 1) 0 ((m.2.1 a1 0) + ((m.2.1 a5 0) * a4)) a5 1) * a4)) a1 2) + ((tk_u2 (tk_u2 m.2.1 (t + 1) 0 ((m.2.1 a1 0) + ((m.2.1 a5 0) * a4))) (t + 1) 1 ((tk_u2 m.2.1 (t + 1) 0 ((m.2.1 a1 0) + ((m.2.1 a5 0) * a4)) a1 1) + ((tk_u2 m.2.1 (t + 1) 0 ((m.2.1 a1 0) + ((m.2.1 a5 0) * a4)) a5 1) * a4)) a5 2) * a4)) a2 0) a2 1)) (t + 1) 5 (tk_u2 (tk_u2 (tk_u2 (tk_u2 (tk_u2 m.2.1 (t + 1) 0 ((m.2.1 a1 0) + ((m.2.1 a5 0) * a4))) (t + 1) 1 ((tk_u2 m.2.1 (t + 1) 0 ((m.2.1 a1 0) + ((m.2.1 a5 0) * a4)) a1 1) + ((tk_u2 m.2.1 (t + 1) 0 ((m.2.1 a1 0) + ((m.2.1 a5 0) * a4)) a5 1) * a4))) (t + 1) 2 ((tk_u2 (tk_u2 m.2.1 (t + 1) 0 ((m.2.1 a1 0) + ((m.2.1 a5 0) * a4))) (t + 1) 1 ((tk_u2 m.2.1 (t + 1) 0 ((m.2.1 a1 0) + ((m.2.1 a5 0) * a4)) a1 1) + ((tk_u2 m.2.1 (t + 1) 0 ((m.2.1 a1 0) + ((m.2.1 a5 0) * a4)) a5 1) * a4)) a1 2) + ((tk_u2 (tk_u2 m.2.1 (t + 1) 0 ((m.2.1 a1 0) + ((m.2.1 a5 0) * a4))) (t + 1) 1 ((tk_u2 m.2.1 (t + 1) 0 ((m.2.1 a1 0) + ((m.2.1 a5 0) * a4)) a1 1) + ((tk_u2 m.2.1 (t + 1) 0 ((m.2.1 a1 0) + ((m.2.1 a5 0) * a4)) a5 1) * a4)) a5 2) * a4))) (t + 1) 3 (tk_u2 (tk_u2 (tk_u2 m.2.1 (t + 1) 0 ((m.2.1 a1 0) + ((m.2.1 a5 0) * a4))) (t + 1) 1 ((tk_u2 m.2.1 (t + 1) 0 ((m.2.1 a1 0) + ((m.2.1 a5 0) * a4)) a1 1) + ((tk_u2 m.2.1 (t + 1) 0 ((m.2.1 a1 0) + ((m.2.1 a5 0) * a4)) a5 1) * a4))) (t + 1) 2 ((tk_u2 (tk_u2 m.2.1 (t + 1) 0 ((m.2.1 a1 0) + ((m.2.1 a5 0) * a4))) (t + 1) 1 ((tk_u2 m.2.1 (t + 1) 0 ((m.2.1 a1 0) + ((m.2.1 a5 0) * a4)) a1 1) + ((tk_u2 m.2.1 (t + 1) 0 ((m.2.1 a1 0) + ((m.2.1 a5 0) * a4)) a5 1) * a4)) a1 2) + ((tk_u2 (tk_u2 m.2.1 (t + 1) 0 ((m.2.1 a1 0) + ((m.2.1 a5 0) * a4))) (t + 1) 1 ((tk_u2 m.2.1 (t + 1) 0 ((m.2.1 a1 0) + ((m.2.1 a5 0) * a4)) a1 1) + ((tk_u2 m.2.1 (t + 1) 0 ((m.2.1 a1 0) + ((m.2.1 a5 0) * a4)) a5 1) * a4)) a5 2) * a4)) a2 0)) (t + 1) 4 (tk_u2 (tk_u2 (tk_u2 (tk_u2 m.2.1 (t + 1) 0 ((m.2.1 a1 0) + ((m.2.1 a5 0) * a4))) (t + 1) 1 ((tk_u2 m.2.1 (t + 1) 0 ((m.2.1 a1 0) + ((m.2.1 a5 0) * a4)) a1 1) + ((tk_u2 m.2.1 (t + 1) 0 ((m.2.1 a1 0) + ((m.2.1 a5 0) * a4)) a5 1) * a4))) (t + 1) 2 ((tk_u2 (tk_u2 m.2.1 (t + 1) 0 ((m.2.1 a1 0) + ((m.2.1 a5 0) * a4))) (t + 1) 1 ((tk_u2 m.2.1 (t + 1) 0 ((m.2.1 a1 0) + ((m.2.1 a5 0) * a4)) a1 1) + ((tk_u2 m.2.1 (t + 1) 0 ((m.2.1 a1 0) + ((m.2.1 a5 0) * a4)) a5 1) * a4)) a1 2) + ((tk_u2 (tk_u2 m.2.1 (t + 1) 0 ((m.2.1 a1 0) + ((m.2.1 a5 0) * a4))) (t + 1) 1 ((tk_u2 m.2.1 (t + 1) 0 ((m.2.1 a1 0) + ((m.2.1 a5 0) * a4)) a1 1) + ((tk_u2 m.2.1 (t + 1) 0 ((m.2.1 a1 0) + ((m.2.1 a5 0) * a4)) a5 1) * a4)) a5 2) * a4))) (t + 1) 3 (tk_u2 (tk_u2 (tk_u2 m.2.1 (t + 1) 0 ((m.2.1 a1 0) + ((m.2.1 a5 0) * a4))) (t + 1) 1 ((tk_u2 m.2.1 (t + 1) 0 ((m.2.1 a1 0) + ((m.2.1 a5 0) * a4)) a1 1) + ((tk_u2 m.2.1 (t + 1) 0 ((m.2.1 a1 0) + ((m.2.1 a5 0) * a4)) a5 1) * a4))) (t + 1) 2 ((tk_u2 (tk_u2 m.2.1 (t + 1) 0 ((m.2.1 a1 0) + ((m.2.1 a5 0) * a4))) (t + 1) 1 ((tk_u2 m.2.1 (t + 1) 0 ((m.2.1 a1 0) + ((m.2.1 a5 0) * a4)) a1 1) + ((tk_u2 m.2.1 (t + 1) 0 ((m.2.1 a1 0) + ((m.2.1 a5 0) * a4)) a5 1) * a4)) a1 2) + ((tk_u2 (tk_u2 m.2.1 (t + 1) 0 ((m.2.1 a1 0) + ((m.2.1 a5 0) * a4))) (t + 1) 1 ((tk_u2 m.2.1 (t + 1) 0 ((m.2.1 a1 0) + ((m.2.1 a5 0) * a4)) a1 1) + ((tk_u2 m.2.1 (t + 1) 0 ((m.2.1 a1 0) + ((m.2.1 a5 0) * a4)) a5 1) * a4)) a5 2) * a4)) a2 0) a2 1) a2 2)) (t + 1) 6 a4) t 2 a3, m.2.2.1, m.2.2.2)).bind fun o1 =>
  (fN_hold (t + 2) (o1.2.2.1 (t + 1) 0) (o1.2.2.1 (t + 1) 3) (o1.2.2.1 t 2) (o1.2.2.1 (t + 1) 6) o1.2).bind fun o2 =>
  (fN_hold (t + 4) (o2.2.2.1 (t + 1) 1) (o2.2.2.1 (t + 1) 4) (o2.2.2.1 t 2) (o2.2.2.1 (t + 1) 6) o2.2).bind fun o3 =>
  (fN_hold (t + 6) (o3.2.2.1 (t + 1) 2) (o3.2.2.1 (t + 1) 5) (o3.2.2.1 t 2) (o3.2.2.1 (t + 1) 6) o3.2).bind fun o4 =>
  some o4.2
/-- java/lang/Math.abs(J)J, row 0 -/
def fZ_abs_J (a1 : Int64) : Int64 :=
  if (0 : Int64) ≤ a1 then
    a1
  else
    -a1
/-- 3T$Circle.hasRadius()Z, row 0 -/
def fC_hasRadius (t : Nat) (m : tk_m) : Bool :=
  if (((m.2.1 (t + 1) 2) * (fZ_abs_J (m.2.1 (t + 1) 2))) + (((m.2.1 (t + 1) 5) * (fZ_abs_J (m.2.1 (t + 1) 5))) * (m.2.1 t 2))) ≤ (0 : Int64) then
    false
  else
    true
def fF_findBy_79 : Nat → Int32 → Int32 → Int32 → Int32 → tk_m → Option tk_m
  | 0, _, _, _, _, _ => none
  | n + 1, v2, v4, v5, v6, m =>
    if v4 ≤ v6 then
      some m
    else
      if (16 : Int32) ≤ (m.1 39 2) then
        some m
      else
        tk_let (fF_takePlace v5 m) fun o3 =>
        if tk_ok (o3.1 39 2) 16 then
        (fC_become (71 + 8 * (tk_n (o3.1 39 2))) 67 68 (o3.2.1 69 2) (o3.2.1 39 13) 62 o3).bind fun o5 =>
        if tk_ok (o5.1 39 2) 16 then
        if tk_ok (tk_u2 o5.1 (71 + 8 * (tk_n (o5.1 39 2))) 0 v2 39 2) 16 then
        if (fC_hasRadius (71 + 8 * (tk_n (tk_u2 o5.1 (71 + 8 * (tk_n (o5.1 39 2))) 0 v2 39 2))) (tk_u2 o5.1 (71 + 8 * (tk_n (o5.1 39 2))) 0 v2, o5.2.1, o5.2.2.1, o5.2.2.2)) = true then
          fF_findBy_79 n v2 v4 (-v5) (v6 + (1 : Int32)) (tk_u2 (tk_u2 (tk_u2 o5.1 (71 + 8 * (tk_n (o5.1 39 2))) 0 v2) 39 2 ((tk_u2 o5.1 (71 + 8 * (tk_n (o5.1 39 2))) 0 v2 39 2) + (1 : Int32))) 39 4 ((tk_u2 (tk_u2 o5.1 (71 + 8 * (tk_n (o5.1 39 2))) 0 v2) 39 2 ((tk_u2 o5.1 (71 + 8 * (tk_n (o5.1 39 2))) 0 v2 39 2) + (1 : Int32)) 39 4) ||| (tk_ishl (1 : Int32) v2)), o5.2.1, o5.2.2.1, o5.2.2.2)
        else
          fF_findBy_79 n v2 v4 (-v5) (v6 + (1 : Int32)) (tk_u2 o5.1 (71 + 8 * (tk_n (o5.1 39 2))) 0 v2, o5.2.1, o5.2.2.1, o5.2.2.2)
        else none
        else none
        else none
def fF_findBy_29 (v2 : Int32) (s0 : Bool) (m : tk_m) : Option tk_m :=
  if s0 = true then
    some (tk_u2 m.1 39 3 ((m.1 39 3) ||| (tk_ishl (1 : Int32) v2)), m.2.1, m.2.2.1, m.2.2.2)
  else
    (fN_holdRoot 69 (m.2.1 39 12) m).bind fun o2 =>
    fF_findBy_79 tk_F v2 ((fZ_compare_J (o2.2.1 39 12) (0 : Int64)) + (1 : Int32)) (fF_lesserSide o2) (0 : Int32) o2
/-- 3T$Finder.findBy(L3T$Scene;I)V, row 0 -/
def fF_findBy (a1 : Nat) (a2 : Int32) (m : tk_m) : Option tk_m :=
  (fF_doCount a1 a2 m).bind fun o1 =>
  if o1 = true then
    (fF_layPlanes a1 a2 m).bind fun o3 =>
    if o3.1 = true then
      tk_let (fF_meetCone o3.2) fun o5 =>
      fF_findBy_29 a2 o5.1 o5.2
    else
      tk_let (fF_meetPlanes o3.2) fun o6 =>
      fF_findBy_29 a2 o6.1 o6.2
  else
    some m
def fX_missesAnswer_55 (v1 : Int32) (m : tk_m) : Option (Int32 × tk_m) :=
  if v1 < 0 then
    some ((3 : Int32), (m.1, m.2.1, tk_u2 m.2.2.1 1 4 false, m.2.2.2))
  else
    if (m.1 39 2) ≤ v1 then
      some ((3 : Int32), (m.1, m.2.1, tk_u2 m.2.2.1 1 4 false, m.2.2.2))
    else
      some ((-1 : Int32), (m.1, m.2.1, tk_u2 m.2.2.1 1 4 false, m.2.2.2))
def fX_missesAnswer_31 : Nat → Int32 → Int32 → tk_m → Option (Int32 × tk_m)
  | 0, _, _, _ => none
  | n + 1, v1, v2, m =>
    if (8 : Int32) ≤ v2 then
      fX_missesAnswer_55 v1 m
    else
      (fF_findBy 1 v2 m).bind fun o2 =>
      fX_missesAnswer_31 n v1 (v2 + (1 : Int32)) o2
/-- 3T.missesAnswer(I)I, row 0 -/
def fX_missesAnswer (a1 : Int32) (m : tk_m) : Option (Int32 × tk_m) :=
  if (fS_hasThree 1 m) = true then
    if (m.2.2.1 1 4) = true then
      tk_let (fF_forget m) fun o3 =>
      fX_missesAnswer_31 tk_F a1 (0 : Int32) o3
    else
      if a1 < 0 then
        some ((3 : Int32), m)
      else
        if (m.1 39 2) ≤ a1 then
          some ((3 : Int32), m)
        else
          some ((-1 : Int32), m)
  else
    some ((4 : Int32), m)
/-- 3T.answers(I)I, row 0 -/
def fX_answers (a1 : Int32) (m : tk_m) : Option (Int32 × tk_m) :=
  if (fX_isWithin a1 (0 : Int32) (2 : Int32)) = true then
    (fX_missesAnswer (0 : Int32) m).bind fun o2 =>
    if o2.1 = (4 : Int32) then
      (fX_finding (4 : Int32) o2.2).bind fun o4 =>
      some (o4.1, o4.2)
    else
      if a1 = 0 then
        some (o2.2.1 39 2, o2.2)
      else
        if a1 = (1 : Int32) then
          some (o2.2.1 39 3, o2.2)
        else
          some (o2.2.1 39 4, o2.2)
  else
    (fX_finding (0 : Int32) m).bind fun o7 =>
    some (o7.1, o7.2)
/-- 3T.signs(I)I, row 0 -/
def fX_signs (a1 : Int32) (m : tk_m) : Option (Int32 × tk_m) :=
  (fX_missesAnswer a1 m).bind fun o1 =>
  if o1.1 < 0 then
    if tk_ok a1 16 then
    some (o1.2.1 (71 + 8 * (tk_n a1)) 0, o1.2)
    else none
  else
    (fX_finding o1.1 o1.2).bind fun o4 =>
    some (o4.1, o4.2)
/-- 3T.longFinding(I)J, row 0 -/
def fX_longFinding (a1 : Int32) (m : tk_m) : Option (Int64 × tk_m) :=
  (fX_finding a1 m).bind fun o1 =>
  some ((-4000000000000000001 : Int64) - (Int32.toInt64 a1), o1.2)
/-- 3T$Circle.part(I)L3T$Num;, row 0 -/
def fC_part (t : Nat) (a1 : Int32) : Nat :=
  if a1 = 0 then
    t + 2
  else
    if a1 = (1 : Int32) then
      t + 4
    else
      t + 6
/-- 3T$Num.m()J, row 0 -/
def fN_m (t : Nat) (m : tk_m) : Int64 :=
  m.2.1 (t + 1) 2
/-- 3T$Num.part(I)J, row 0 -/
def fN_part (t : Nat) (a1 : Int32) (m : tk_m) : Int64 :=
  if a1 = 0 then
    fN_p t m
  else
  if a1 = 1 then
    fN_q t m
  else
  if a1 = 2 then
    m.2.1 t 2
  else
  fN_m t m
/-- 3T.answer(III)J, row 0 -/
def fX_answer (a1 : Int32) (a2 : Int32) (a3 : Int32) (m : tk_m) : Option (Int64 × tk_m) :=
  if (fX_isWithin a2 (0 : Int32) (2 : Int32)) = true then
    if (fX_isWithin a3 (0 : Int32) (3 : Int32)) = true then
      (fX_missesAnswer a1 m).bind fun o3 =>
      if o3.1 < 0 then
        if tk_ok a1 16 then
        some (fN_part (fC_part (71 + 8 * (tk_n a1)) a2) a3 o3.2, o3.2)
        else none
      else
        (fX_longFinding o3.1 o3.2).bind fun o6 =>
        some (o6.1, o6.2)
    else
      (fX_longFinding (0 : Int32) m).bind fun o7 =>
      some (o7.1, o7.2)
  else
    (fX_longFinding (0 : Int32) m).bind fun o8 =>
    some (o8.1, o8.2)
def fB_trim_39 (v0 : Nat) (m : tk_m) : Option tk_m :=
  if (m.1 v0 1) = 0 then
    some (tk_u2 m.1 v0 0 (0 : Int32), m.2.1, m.2.2.1, m.2.2.2)
  else
    some m
def fB_trim_5 : Nat → Nat → tk_m → Option tk_m
  | 0, _, _ => none
  | n + 1, v0, m =>
    if (m.1 v0 1) ≤ 0 then
      fB_trim_39 v0 m
    else
      if tk_ok ((m.1 v0 1) - (1 : Int32)) 24 then
      if (m.1 (v0 + 1) (tk_n ((m.1 v0 1) - (1 : Int32)))) = 0 then
        fB_trim_5 n v0 (tk_u2 m.1 v0 1 ((m.1 v0 1) - (1 : Int32)), m.2.1, m.2.2.1, m.2.2.2)
      else
        fB_trim_39 v0 m
      else none
/-- 3T$Big.trim(I)V, row 0 -/
def fB_trim (t : Nat) (a1 : Int32) (m : tk_m) : Option tk_m :=
  fB_trim_5 tk_F t (tk_u2 m.1 t 1 a1, m.2.1, m.2.2.1, m.2.2.2)
def fB_take_12 (v0 : Nat) (v1 : Int64) (s0 : Int64) (m : tk_m) : Option tk_m :=
  if (0 : Int64) ≤ v1 then
    (fB_trim v0 (2 : Int32) (tk_u2 (tk_u2 (tk_u2 m.1 (v0 + 1) 0 (Int64.toInt32 s0)) (v0 + 1) 1 (Int64.toInt32 (tk_lushr s0 (32 : Int32)))) v0 0 (1 : Int32), m.2.1, m.2.2.1, m.2.2.2)).bind fun o2 =>
    some o2
  else
    (fB_trim v0 (2 : Int32) (tk_u2 (tk_u2 (tk_u2 m.1 (v0 + 1) 0 (Int64.toInt32 s0)) (v0 + 1) 1 (Int64.toInt32 (tk_lushr s0 (32 : Int32)))) v0 0 (-1 : Int32), m.2.1, m.2.2.1, m.2.2.2)).bind fun o3 =>
    some o3
/-- 3T$Big.take(J)V, row 0 -/
def fB_take (t : Nat) (a1 : Int64) (m : tk_m) : Option tk_m :=
  if (0 : Int64) ≤ a1 then
    fB_take_12 t a1 a1 m
  else
    fB_take_12 t a1 (-a1) m

/-- java/lang/Math.min(II)I, row 0 -/
def fZ_min_I (a1 : Int32) (a2 : Int32) : Int32 :=
  if a2 < a1 then
    a2
  else
    a1
/-- 3T$Big.limb(I)J, row 0 -/
def fB_limb (t : Nat) (a1 : Int32) (m : tk_m) : Option Int64 :=
  if a1 < 0 then
    some (0 : Int64)
  else
    if (m.1 t 1) ≤ a1 then
      some (0 : Int64)
    else
      if tk_ok a1 24 then
      some ((Int32.toInt64 (m.1 (t + 1) (tk_n a1))) &&& (4294967295 : Int64))
      else none
def fB_takeProduct_140 (v0 : Nat) (v1 : Nat) (v2 : Nat) (v3 : Int32) (m : tk_m) : Option tk_m :=
  (fB_trim v0 v3 (tk_u2 m.1 v0 0 ((m.1 v1 0) * (m.1 v2 0)), m.2.1, m.2.2.1, m.2.2.2)).bind fun o1 =>
  some o1
def fB_takeProduct_56 (r41 : Nat → Nat → Nat → Int32 → Int32 → tk_m → Option tk_m) : Nat → Nat → Nat → Nat → Int32 → Int32 → Int64 → Int32 → tk_m → Option tk_m
  | 0, _, _, _, _, _, _, _, _ => none
  | n + 1, v0, v1, v2, v3, v4, v5, v7, m =>
    if (m.1 v2 1) < v7 then
      r41 v0 v1 v2 v3 (v4 + (1 : Int32)) m
    else
      if v3 ≤ (v4 + v7) then
        r41 v0 v1 v2 v3 (v4 + (1 : Int32)) m
      else
        (fB_limb v1 v4 m).bind fun o3 =>
        (fB_limb v2 v7 m).bind fun o4 =>
        if tk_ok (v4 + v7) 24 then
        fB_takeProduct_56 r41 n v0 v1 v2 v3 v4 (tk_lushr (v5 + ((o3 * o4) + ((Int32.toInt64 (m.1 (v0 + 1) (tk_n (v4 + v7)))) &&& (4294967295 : Int64)))) (32 : Int32)) (v7 + (1 : Int32)) (tk_u2 m.1 (v0 + 1) (tk_n (v4 + v7)) (Int64.toInt32 (v5 + ((o3 * o4) + ((Int32.toInt64 (m.1 (v0 + 1) (tk_n (v4 + v7)))) &&& (4294967295 : Int64))))), m.2.1, m.2.2.1, m.2.2.2)
        else none
def fB_takeProduct_41 : Nat → Nat → Nat → Nat → Int32 → Int32 → tk_m → Option tk_m
  | 0, _, _, _, _, _, _ => none
  | n + 1, v0, v1, v2, v3, v4, m =>
    if (m.1 v1 1) ≤ v4 then
      fB_takeProduct_140 v0 v1 v2 v3 m
    else
      fB_takeProduct_56 (fB_takeProduct_41 n) tk_F v0 v1 v2 v3 v4 (0 : Int64) (0 : Int32) m
def fB_takeProduct_18 : Nat → Nat → Nat → Nat → Int32 → Int32 → tk_m → Option tk_m
  | 0, _, _, _, _, _, _ => none
  | n + 1, v0, v1, v2, v3, v4, m =>
    if v3 ≤ v4 then
      fB_takeProduct_41 tk_F v0 v1 v2 v3 (0 : Int32) m
    else
      if tk_ok v4 24 then
      fB_takeProduct_18 n v0 v1 v2 v3 (v4 + (1 : Int32)) (tk_u2 m.1 (v0 + 1) (tk_n v4) (0 : Int32), m.2.1, m.2.2.1, m.2.2.2)
      else none
/-- 3T$Big.takeProduct(L3T$Big;L3T$Big;)V, row 0 -/
def fB_takeProduct (t : Nat) (a1 : Nat) (a2 : Nat) (m : tk_m) : Option tk_m :=
  fB_takeProduct_18 tk_F t a1 a2 (fZ_min_I ((m.1 a1 1) + (m.1 a2 1)) (24 : Int32)) (0 : Int32) m
/-- 3T$Judge.takeProduct(L3T$Big;JJ)V, row 0 -/
def fJ_takeProduct (a1 : Nat) (a2 : Int64) (a3 : Int64) (m : tk_m) : Option tk_m :=
  (fB_take 28 a2 m).bind fun o1 =>
  (fB_take 30 a3 o1).bind fun o2 =>
  (fB_takeProduct a1 28 30 o2).bind fun o3 =>
  some o3
/-- 3T$Judge.takeProduct(L3T$Big;JJ)V, row 0 -/
def fJ_takeProductq (a1 : Nat) (a2 : Int64) (a3 : Int64) (m : tk_m) : Option tk_m :=
  (fB_take 55 a2 m).bind fun o1 =>
  (fB_take 57 a3 o1).bind fun o2 =>
  (fB_takeProduct a1 55 57 o2).bind fun o3 =>
  some o3
/-- java/lang/Math.max(II)I, row 0 -/
def fZ_max_I (a1 : Int32) (a2 : Int32) : Int32 :=
  if a1 < a2 then
    a2
  else
    a1
def fB_addLimbs_25 : Nat → Nat → Nat → Nat → Int32 → Int64 → Int32 → tk_m → Option tk_m
  | 0, _, _, _, _, _, _, _ => none
  | n + 1, v0, v1, v2, v3, v4, v6, m =>
    if v3 ≤ v6 then
      (fB_trim v0 v3 m).bind fun o2 =>
      some o2
    else
      (fB_limb v1 v6 m).bind fun o3 =>
      (fB_limb v2 v6 m).bind fun o4 =>
      if tk_ok v6 24 then
      fB_addLimbs_25 n v0 v1 v2 v3 (tk_lushr (v4 + (o3 + o4)) (32 : Int32)) (v6 + (1 : Int32)) (tk_u2 m.1 (v0 + 1) (tk_n v6) (Int64.toInt32 (v4 + (o3 + o4))), m.2.1, m.2.2.1, m.2.2.2)
      else none
/-- 3T$Big.addLimbs(L3T$Big;L3T$Big;)V, row 0 -/
def fB_addLimbs (t : Nat) (a1 : Nat) (a2 : Nat) (m : tk_m) : Option tk_m :=
  fB_addLimbs_25 tk_F t a1 a2 (fZ_min_I ((fZ_max_I (m.1 a1 1) (m.1 a2 1)) + (1 : Int32)) (24 : Int32)) (0 : Int64) (0 : Int32) m
def fB_sizeAgainst_14 : Nat → Nat → Nat → Int32 → tk_m → Option Int32
  | 0, _, _, _, _ => none
  | n + 1, v0, v1, v2, m =>
    if v2 < 0 then
      some (0 : Int32)
    else
      (fB_limb v0 v2 m).bind fun o2 =>
      (fB_limb v1 v2 m).bind fun o3 =>
      if (fZ_compare_J o2 o3) = 0 then
        fB_sizeAgainst_14 n v0 v1 (v2 + (-1 : Int32)) m
      else
        some (fZ_compare_J o2 o3)
/-- 3T$Big.sizeAgainst(L3T$Big;)I, row 0 -/
def fB_sizeAgainst (t : Nat) (a1 : Nat) (m : tk_m) : Option Int32 :=
  fB_sizeAgainst_14 tk_F t a1 ((fZ_max_I (m.1 t 1) (m.1 a1 1)) - (1 : Int32)) m
def fB_subtractLimbs_11 : Nat → Nat → Nat → Nat → Int32 → Int64 → Int32 → tk_m → Option tk_m
  | 0, _, _, _, _, _, _, _ => none
  | n + 1, v0, v1, v2, v3, v4, v6, m =>
    if v3 ≤ v6 then
      (fB_trim v0 v3 m).bind fun o2 =>
      some o2
    else
      (fB_limb v1 v6 m).bind fun o3 =>
      (fB_limb v2 v6 m).bind fun o4 =>
      if tk_ok v6 24 then
      if (0 : Int64) ≤ ((o3 - o4) - v4) then
        fB_subtractLimbs_11 n v0 v1 v2 v3 (0 : Int64) (v6 + (1 : Int32)) (tk_u2 m.1 (v0 + 1) (tk_n v6) (Int64.toInt32 ((o3 - o4) - v4)), m.2.1, m.2.2.1, m.2.2.2)
      else
        fB_subtractLimbs_11 n v0 v1 v2 v3 (1 : Int64) (v6 + (1 : Int32)) (tk_u2 m.1 (v0 + 1) (tk_n v6) (Int64.toInt32 ((o3 - o4) - v4)), m.2.1, m.2.2.1, m.2.2.2)
      else none
/-- 3T$Big.subtractLimbs(L3T$Big;L3T$Big;)V, row 0 -/
def fB_subtractLimbs (t : Nat) (a1 : Nat) (a2 : Nat) (m : tk_m) : Option tk_m :=
  fB_subtractLimbs_11 tk_F t a1 a2 (m.1 a1 1) (0 : Int64) (0 : Int32) m
/-- 3T$Big.takeSum(L3T$Big;IL3T$Big;)V, row 0 -/
def fB_takeSum (t : Nat) (a1 : Nat) (a2 : Int32) (a3 : Nat) (m : tk_m) : Option tk_m :=
  if ((m.1 a1 0) * (a2 * (m.1 a3 0))) < 0 then
    (fB_sizeAgainst a1 a3 m).bind fun o2 =>
    if o2 < 0 then
      (fB_subtractLimbs t a3 a1 (tk_u2 m.1 t 0 (a2 * (m.1 a3 0)), m.2.1, m.2.2.1, m.2.2.2)).bind fun o4 =>
      some o4
    else
      (fB_subtractLimbs t a1 a3 (tk_u2 m.1 t 0 (m.1 a1 0), m.2.1, m.2.2.1, m.2.2.2)).bind fun o5 =>
      some o5
  else
    if (m.1 a1 0) = 0 then
      (fB_addLimbs t a1 a3 (tk_u2 m.1 t 0 (a2 * (m.1 a3 0)), m.2.1, m.2.2.1, m.2.2.2)).bind fun o7 =>
      some o7
    else
      (fB_addLimbs t a1 a3 (tk_u2 m.1 t 0 (m.1 a1 0), m.2.1, m.2.2.1, m.2.2.2)).bind fun o8 =>
      some o8
/-- 3T$Judge.takeSquare(L3T$Big;L3T$Big;J)V, row 0 -/
def fJ_takeSquare (a1 : Nat) (a2 : Nat) (a3 : Int64) (m : tk_m) : Option tk_m :=
  (fB_takeProduct 28 a2 a2 m).bind fun o1 =>
  (fB_take 30 a3 o1).bind fun o2 =>
  (fB_takeProduct a1 28 30 o2).bind fun o3 =>
  some o3
/-- 3T$Judge.takeSquare(L3T$Big;L3T$Big;J)V, row 0 -/
def fJ_takeSquareq (a1 : Nat) (a2 : Nat) (a3 : Int64) (m : tk_m) : Option tk_m :=
  (fB_takeProduct 55 a2 a2 m).bind fun o1 =>
  (fB_take 57 a3 o1).bind fun o2 =>
  (fB_takeProduct a1 55 57 o2).bind fun o3 =>
  some o3
/-- 3T$Judge.signOfRoots()I, row 0 -/
def fJ_signOfRoots (m : tk_m) : Option Int32 :=
  if ((m.1 18 0) * (m.1 20 0)) < 0 then
    (fB_sizeAgainst 22 24 m).bind fun o2 =>
    some ((m.1 18 0) * o2)
  else
    if (m.1 18 0) = 0 then
      some (m.1 20 0)
    else
      some (m.1 18 0)
/-- 3T$Judge.signOfRoots()I, row 0 -/
def fJ_signOfRootsq (m : tk_m) : Option Int32 :=
  if ((m.1 45 0) * (m.1 47 0)) < 0 then
    (fB_sizeAgainst 49 51 m).bind fun o2 =>
    some ((m.1 45 0) * o2)
  else
    if (m.1 45 0) = 0 then
      some (m.1 47 0)
    else
      some (m.1 45 0)
/-- 3T$Judge.wholeAgainstRoots()I, row 0 -/
def fJ_wholeAgainstRoots (m : tk_m) : Option (Int32 × tk_m) :=
  (fB_takeProduct 28 16 16 m).bind fun o1 =>
  (fB_takeSum 26 28 (-1 : Int32) 22 o1).bind fun o2 =>
  (fB_takeSum 26 26 (-1 : Int32) 24 o2).bind fun o3 =>
  if (o3.1 26 0) = ((o3.1 18 0) * (o3.1 20 0)) then
    (fB_takeProduct 28 26 26 o3).bind fun o5 =>
    (fB_takeProduct 30 22 24 o5).bind fun o6 =>
    (fB_takeSum 30 30 (1 : Int32) 30 o6).bind fun o7 =>
    (fB_takeSum 30 30 (1 : Int32) 30 o7).bind fun o8 =>
    (fB_sizeAgainst 28 30 o8).bind fun o9 =>
    some (((o3.1 18 0) * (o3.1 20 0)) * o9, o8)
  else
    some (fZ_compare_I (o3.1 26 0) ((o3.1 18 0) * (o3.1 20 0)), o3)
/-- 3T$Judge.wholeAgainstRoots()I, row 0 -/
def fJ_wholeAgainstRootsq (m : tk_m) : Option (Int32 × tk_m) :=
  (fB_takeProduct 55 43 43 m).bind fun o1 =>
  (fB_takeSum 53 55 (-1 : Int32) 49 o1).bind fun o2 =>
  (fB_takeSum 53 53 (-1 : Int32) 51 o2).bind fun o3 =>
  if (o3.1 53 0) = ((o3.1 45 0) * (o3.1 47 0)) then
    (fB_takeProduct 55 53 53 o3).bind fun o5 =>
    (fB_takeProduct 57 49 51 o5).bind fun o6 =>
    (fB_takeSum 57 57 (1 : Int32) 57 o6).bind fun o7 =>
    (fB_takeSum 57 57 (1 : Int32) 57 o7).bind fun o8 =>
    (fB_sizeAgainst 55 57 o8).bind fun o9 =>
    some (((o3.1 45 0) * (o3.1 47 0)) * o9, o8)
  else
    some (fZ_compare_I (o3.1 53 0) ((o3.1 45 0) * (o3.1 47 0)), o3)
/-- 3T$Judge.order(L3T$Num;L3T$Num;)I, row 0 -/
def fJ_order (a1 : Nat) (a2 : Nat) (m : tk_m) : Option (Int32 × tk_m) :=
  (fJ_takeProduct 18 (fN_p a1 m) (fN_m a2 m) m).bind fun o1 =>
  (fJ_takeProduct 20 (fN_p a2 o1) (fN_m a1 o1) o1).bind fun o2 =>
  (fB_takeSum 16 18 (-1 : Int32) 20 o2).bind fun o3 =>
  (fJ_takeProduct 18 (fN_q a1 o3) (fN_m a2 o3) o3).bind fun o4 =>
  (fJ_takeProduct 20 (fN_q a2 o4) (fN_m a1 o4) o4).bind fun o5 =>
  (fJ_takeSquare 22 18 (o5.2.1 a1 2) (tk_u2 o5.1 20 0 (-(o5.1 20 0)), o5.2.1, o5.2.2.1, o5.2.2.2)).bind fun o6 =>
  (fJ_takeSquare 24 20 (o6.2.1 a2 2) o6).bind fun o7 =>
  (fJ_signOfRoots o7).bind fun o8 =>
  if (o7.1 16 0) = 0 then
    some (o8, o7)
  else
    if o8 = 0 then
      some (o7.1 16 0, o7)
    else
      if (o7.1 16 0) = o8 then
        some (o7.1 16 0, o7)
      else
        (fJ_wholeAgainstRoots o7).bind fun o12 =>
        some ((o7.1 16 0) * o12.1, o12.2)
/-- 3T$Judge.order(L3T$Num;L3T$Num;)I, row 0 -/
def fJ_orderq (a1 : Nat) (a2 : Nat) (m : tk_m) : Option (Int32 × tk_m) :=
  (fJ_takeProductq 45 (fN_p a1 m) (fN_m a2 m) m).bind fun o1 =>
  (fJ_takeProductq 47 (fN_p a2 o1) (fN_m a1 o1) o1).bind fun o2 =>
  (fB_takeSum 43 45 (-1 : Int32) 47 o2).bind fun o3 =>
  (fJ_takeProductq 45 (fN_q a1 o3) (fN_m a2 o3) o3).bind fun o4 =>
  (fJ_takeProductq 47 (fN_q a2 o4) (fN_m a1 o4) o4).bind fun o5 =>
  (fJ_takeSquareq 49 45 (o5.2.1 a1 2) (tk_u2 o5.1 47 0 (-(o5.1 47 0)), o5.2.1, o5.2.2.1, o5.2.2.2)).bind fun o6 =>
  (fJ_takeSquareq 51 47 (o6.2.1 a2 2) o6).bind fun o7 =>
  (fJ_signOfRootsq o7).bind fun o8 =>
  if (o7.1 43 0) = 0 then
    some (o8, o7)
  else
    if o8 = 0 then
      some (o7.1 43 0, o7)
    else
      if (o7.1 43 0) = o8 then
        some (o7.1 43 0, o7)
      else
        (fJ_wholeAgainstRootsq o7).bind fun o12 =>
        some ((o7.1 43 0) * o12.1, o12.2)
def fF_utmost_4 : Nat → Int32 → Int32 → Int32 → tk_m → Option (Int32 × tk_m)
  | 0, _, _, _, _ => none
  | n + 1, v1, v2, v3, m =>
    if (m.1 39 2) ≤ v3 then
      some (v2, m)
    else
      if tk_ok v3 16 then
      if tk_ok v2 16 then
      (fJ_orderq ((71 + 8 * (tk_n v3)) + 6) ((71 + 8 * (tk_n v2)) + 6) m).bind fun o4 =>
      if (v1 * o4.1) ≤ 0 then
        fF_utmost_4 n v1 v2 (v3 + (1 : Int32)) o4.2
      else
        fF_utmost_4 n v1 v3 (v3 + (1 : Int32)) o4.2
      else none
      else none
/-- 3T$Finder.utmost(I)I, row 0 -/
def fF_utmost (a1 : Int32) (m : tk_m) : Option (Int32 × tk_m) :=
  fF_utmost_4 tk_F a1 (0 : Int32) (1 : Int32) m
/-- 3T.best(I)I, row 0 -/
def fX_best (a1 : Int32) (m : tk_m) : Option (Int32 × tk_m) :=
  if (fX_isWithin a1 (0 : Int32) (1 : Int32)) = true then
    (fX_missesAnswer (0 : Int32) m).bind fun o2 =>
    if o2.1 < 0 then
      if a1 = 0 then
        (fF_utmost (1 : Int32) o2.2).bind fun o5 =>
        some (o5.1, o5.2)
      else
        (fF_utmost (-1 : Int32) o2.2).bind fun o6 =>
        some (o6.1, o6.2)
    else
      (fX_finding o2.1 o2.2).bind fun o7 =>
      some (o7.1, o7.2)
  else
    (fX_finding (0 : Int32) m).bind fun o8 =>
    some (o8.1, o8.2)
def fF_howManyLess_4 : Nat → Nat → Int32 → Int32 → tk_m → Option (Int32 × tk_m)
  | 0, _, _, _, _ => none
  | n + 1, v1, v2, v3, m =>
    if (m.1 39 2) ≤ v3 then
      some (v2, m)
    else
      if tk_ok v3 16 then
      (fJ_orderq ((71 + 8 * (tk_n v3)) + 6) v1 m).bind fun o3 =>
      if 0 ≤ o3.1 then
        fF_howManyLess_4 n v1 v2 (v3 + (1 : Int32)) o3.2
      else
        fF_howManyLess_4 n v1 (v2 + (1 : Int32)) (v3 + (1 : Int32)) o3.2
      else none
/-- 3T$Finder.howManyLess(L3T$Num;)I, row 0 -/
def fF_howManyLess (a1 : Nat) (m : tk_m) : Option (Int32 × tk_m) :=
  fF_howManyLess_4 tk_F a1 (0 : Int32) (0 : Int32) m
/-- 3T.rank(I)I, row 0 -/
def fX_rank (a1 : Int32) (m : tk_m) : Option (Int32 × tk_m) :=
  (fX_missesAnswer a1 m).bind fun o1 =>
  if o1.1 < 0 then
    if tk_ok a1 16 then
    (fF_howManyLess ((71 + 8 * (tk_n a1)) + 6) o1.2).bind fun o4 =>
    some (o4.1, o4.2)
    else none
  else
    (fX_finding o1.1 o1.2).bind fun o5 =>
    some (o5.1, o5.2)
/-- 3T$Circle.touchesStraight(L3T$Shape;Z)Z, row 0 -/
def fC_touchesStraight (t : Nat) (a1 : Nat) (a2 : Int32) (m : tk_m) : Bool :=
  if (((((Int32.toInt64 (m.1 a1 6)) * (m.2.1 (t + 1) 0)) + ((Int32.toInt64 (m.1 a1 7)) * (m.2.1 (t + 1) 1))) + ((Int32.toInt64 (fH_slope a1 a2 m)) * (m.2.1 (t + 1) 2))) - ((Int32.toInt64 (m.1 a1 5)) * (m.2.1 (t + 1) 6))) = (0 : Int64) then
    if ((((Int32.toInt64 (m.1 a1 6)) * (m.2.1 (t + 1) 3)) + ((Int32.toInt64 (m.1 a1 7)) * (m.2.1 (t + 1) 4))) + ((Int32.toInt64 (fH_slope a1 a2 m)) * (m.2.1 (t + 1) 5))) = (0 : Int64) then
      true
    else
      false
  else
    false
/-- 3T$Circle.touchesRound(L3T$Shape;J)Z, row 0 -/
def fC_touchesRound (t : Nat) (a1 : Nat) (a2 : Int64) (m : tk_m) : Bool :=
  if ((((((m.2.1 (t + 1) 0) - ((Int32.toInt64 (m.1 a1 1)) * (m.2.1 (t + 1) 6))) * ((m.2.1 (t + 1) 0) - ((Int32.toInt64 (m.1 a1 1)) * (m.2.1 (t + 1) 6)))) + (((m.2.1 (t + 1) 1) - ((Int32.toInt64 (m.1 a1 2)) * (m.2.1 (t + 1) 6))) * ((m.2.1 (t + 1) 1) - ((Int32.toInt64 (m.1 a1 2)) * (m.2.1 (t + 1) 6))))) - (((m.2.1 (t + 1) 2) + (a2 * (m.2.1 (t + 1) 6))) * ((m.2.1 (t + 1) 2) + (a2 * (m.2.1 (t + 1) 6))))) + ((m.2.1 t 2) * ((((m.2.1 (t + 1) 3) * (m.2.1 (t + 1) 3)) + ((m.2.1 (t + 1) 4) * (m.2.1 (t + 1) 4))) - ((m.2.1 (t + 1) 5) * (m.2.1 (t + 1) 5))))) = (0 : Int64) then
    if (((((m.2.1 (t + 1) 0) - ((Int32.toInt64 (m.1 a1 1)) * (m.2.1 (t + 1) 6))) * (m.2.1 (t + 1) 3)) + (((m.2.1 (t + 1) 1) - ((Int32.toInt64 (m.1 a1 2)) * (m.2.1 (t + 1) 6))) * (m.2.1 (t + 1) 4))) - (((m.2.1 (t + 1) 2) + (a2 * (m.2.1 (t + 1) 6))) * (m.2.1 (t + 1) 5))) = (0 : Int64) then
      true
    else
      false
  else
    false
/-- 3T$Circle.touchesWith(L3T$Shape;Z)Z, row 0 -/
def fC_touchesWith (t : Nat) (a1 : Nat) (a2 : Int32) (m : tk_m) : Bool :=
  if (m.2.2.1 a1 0) = true then
    fC_touchesStraight t a1 a2 m
  else
    fC_touchesRound t a1 (Int32.toInt64 (fH_shift a1 a2 m)) m
def fC_touch_24 (v0 : Nat) (v1 : Nat) (s0 : Int32) (m : tk_m) : Int32 :=
  if s0 = 0 then
    (0 : Int32)
  else
    if (fC_touchesWith v0 v1 (1 : Int32) m) = true then
      (2 : Int32)
    else
      (0 : Int32)
/-- 3T$Circle.touch(L3T$Shape;)I, row 0 -/
def fC_touch (t : Nat) (a1 : Nat) (m : tk_m) : Int32 :=
  if (fC_touchesWith t a1 (0 : Int32) m) = true then
    (1 : Int32)
  else
    if (fH_lowestKind a1 m) = (3 : Int32) then
      fC_touch_24 t a1 (0 : Int32) m
    else
      fC_touch_24 t a1 (1 : Int32) m
/-- 3T.touches(II)I, row 0 -/
def fX_touches (a1 : Int32) (a2 : Int32) (m : tk_m) : Option (Int32 × tk_m) :=
  if (fS_has 1 a2 m) = true then
    (fX_missesAnswer a1 m).bind fun o2 =>
    if o2.1 < 0 then
      if tk_ok a1 16 then
      if tk_ok a2 6 then
      some (fC_touch (71 + 8 * (tk_n a1)) (2 + 2 + (o2.2.2.2.2 2 (tk_n a2)).val) o2.2, o2.2)
      else none
      else none
    else
      (fX_finding o2.1 o2.2).bind fun o6 =>
      some (o6.1, o6.2)
  else
    (fX_finding (0 : Int32) m).bind fun o7 =>
    some (o7.1, o7.2)
/-- 3T.isSheet(I)Z, row 0 -/
def fX_isSheet (a1 : Int32) : Bool :=
  fX_isWithin a1 (0 : Int32) (3 : Int32)
/-- 3T$Sheet.isMissing()Z, row 0 -/
def fT_isMissing (t : Nat) (m : tk_m) : Bool :=
  if (m.1 t 0) = (-1 : Int32) then
    true
  else
    false
/-- 3T$Sheet.narrow(J)J, row 0 -/
def fT_narrow (t : Nat) (a1 : Int64) (m : tk_m) : Int64 :=
  if (m.1 t 0) = 0 then
    Int32.toInt64 (tk_i2b (Int64.toInt32 a1))
  else
    if (m.1 t 0) = (1 : Int32) then
      Int32.toInt64 (Int64.toInt32 a1)
    else
      a1
/-- 3T$Sheet.set(IJ)V, row 0 -/
def fT_set (t : Nat) (a1 : Int32) (a2 : Int64) (m : tk_m) : Option tk_m :=
  if tk_ok a1 40 then
  some (m.1, tk_u2 m.2.1 (t + 1) (tk_n a1) (fT_narrow t a2 m), m.2.2.1, m.2.2.2)
  else none
def fX_lays_57 : Nat → Int32 → Nat → Int32 → Int32 → tk_m → Option (Int32 × tk_m)
  | 0, _, _, _, _, _ => none
  | n + 1, v2, v3, v4, v5, m =>
    if v4 ≤ v5 then
      some (v4, m)
    else
      if tk_ok v2 6 then
      (fT_set v3 v5 (Int32.toInt64 (fH_formNumber (2 + 2 + (m.2.2.2 2 (tk_n v2)).val) v5 m)) m).bind fun o3 =>
      fX_lays_57 n v2 v3 v4 (v5 + (1 : Int32)) o3
      else none
/-- 3T.lays(II)I, row 0 -/
def fX_lays (a1 : Int32) (a2 : Int32) (m : tk_m) : Option (Int32 × tk_m) :=
  if (fX_isSheet a1) = true then
    if (fS_has 1 a2 m) = true then
      if tk_ok a1 4 then
      if (fT_isMissing (287 + 2 * (tk_n a1)) m) = true then
        (fX_finding (5 : Int32) m).bind fun o5 =>
        some (o5.1, o5.2)
      else
        fX_lays_57 tk_F a2 (287 + 2 * (tk_n a1)) (fZ_min_I (4 : Int32) (m.1 (287 + 2 * (tk_n a1)) 1)) (0 : Int32) m
      else none
    else
      (fX_finding (0 : Int32) m).bind fun o6 =>
      some (o6.1, o6.2)
  else
    (fX_finding (0 : Int32) m).bind fun o7 =>
    some (o7.1, o7.2)
def fT_isFormZero_2 : Nat → Nat → Int32 → tk_m → Option Bool
  | 0, _, _, _ => none
  | n + 1, v0, v1, m =>
    if (4 : Int32) ≤ v1 then
      some true
    else
      if tk_ok v1 40 then
      if (m.2.1 (v0 + 1) (tk_n v1)) = (0 : Int64) then
        fT_isFormZero_2 n v0 (v1 + (1 : Int32)) m
      else
        some false
      else none
/-- 3T$Sheet.isFormZero()Z, row 0 -/
def fT_isFormZero (t : Nat) (m : tk_m) : Option Bool :=
  fT_isFormZero_2 tk_F t (0 : Int32) m
/-- 3T$Worker.times(JJ)J, row 0 -/
def fK_times (a1 : Int64) (a2 : Int64) (m : tk_m) : Option (Int64 × tk_m) :=
  if a1 = (0 : Int64) then
    some (a1 * a2, m)
  else
    if a1 = 0 then none else
    if ((a1 * a2) / a1) = a2 then
      if a1 = (-1 : Int64) then
        if a2 = (-9223372036854775808 : Int64) then
          some (a1 * a2, (m.1, m.2.1, tk_u2 m.2.2.1 34 0 true, m.2.2.2))
        else
          some (a1 * a2, m)
      else
        some (a1 * a2, m)
    else
      some (a1 * a2, (m.1, m.2.1, tk_u2 m.2.2.1 34 0 true, m.2.2.2))
/-- 3T$Worker.plus(JJ)J, row 0 -/
def fK_plus (a1 : Int64) (a2 : Int64) (m : tk_m) : Int64 × tk_m :=
  if (0 : Int64) ≤ ((a1 ^^^ (a1 + a2)) &&& (a2 ^^^ (a1 + a2))) then
    (a1 + a2, m)
  else
    (a1 + a2, (m.1, m.2.1, tk_u2 m.2.2.1 34 0 true, m.2.2.2))
/-- 3T$Worker.minus(JJ)J, row 0 -/
def fK_minus (a1 : Int64) (a2 : Int64) (m : tk_m) : Int64 × tk_m :=
  if (0 : Int64) ≤ ((a1 ^^^ a2) &&& (a1 ^^^ (a1 - a2))) then
    (a1 - a2, m)
  else
    (a1 - a2, (m.1, m.2.1, tk_u2 m.2.2.1 34 0 true, m.2.2.2))
def fK_firstNotZero_2 : Nat → Nat → Int32 → tk_m → Option Int32
  | 0, _, _, _ => none
  | n + 1, v0, v1, m =>
    if (Int32.ofNat (tk_al v0)) ≤ v1 then
      some (-1 : Int32)
    else
      if tk_ok v1 (tk_al v0) then
      if (m.2.1 v0 (tk_n v1)) = (0 : Int64) then
        fK_firstNotZero_2 n v0 (v1 + (1 : Int32)) m
      else
        some v1
      else none
/-- 3T$Worker.firstNotZero([J)I, row 0 -/
def fK_firstNotZero (a1 : Nat) (m : tk_m) : Option Int32 :=
  fK_firstNotZero_2 tk_F a1 (0 : Int32) m
/-- 3T$Worker.turnInsideOut([JIII)Z, row 0 -/
def fK_turnInsideOut (a1 : Nat) (a2 : Int32) (a3 : Int32) (a4 : Int32) (m : tk_m) : Option (Bool × tk_m) :=
  if (4 : Int32) ≤ (Int32.ofNat (tk_al a1)) then
    if tk_ok (0 : Int32) (tk_al a1) then
    if tk_ok (1 : Int32) (tk_al a1) then
    (fK_times (2 : Int64) (m.2.1 a1 (tk_n (0 : Int32))) (m.1, m.2.1, tk_u2 m.2.2.1 34 0 false, m.2.2.2)).bind fun o4 =>
    (fK_times o4.1 (Int32.toInt64 a2) o4.2).bind fun o5 =>
    tk_let (fK_plus (m.2.1 a1 (tk_n (1 : Int32))) o5.1 o5.2) fun o6 =>
    if tk_ok (2 : Int32) (tk_al a1) then
    (fK_times (2 : Int64) (m.2.1 a1 (tk_n (0 : Int32))) o6.2).bind fun o8 =>
    (fK_times o8.1 (Int32.toInt64 a3) o8.2).bind fun o9 =>
    tk_let (fK_plus (o6.2.2.1 a1 (tk_n (2 : Int32))) o9.1 o9.2) fun o10 =>
    (fK_times (m.2.1 a1 (tk_n (0 : Int32))) (((Int32.toInt64 a2) * (Int32.toInt64 a2)) + ((Int32.toInt64 a3) * (Int32.toInt64 a3))) o10.2).bind fun o11 =>
    (fK_times (o11.2.2.1 a1 (tk_n (1 : Int32))) (Int32.toInt64 a2) o11.2).bind fun o12 =>
    tk_let (fK_plus o11.1 o12.1 o12.2) fun o13 =>
    (fK_times (o13.2.2.1 a1 (tk_n (2 : Int32))) (Int32.toInt64 a3) o13.2).bind fun o14 =>
    tk_let (fK_plus o13.1 o14.1 o14.2) fun o15 =>
    if tk_ok (3 : Int32) (tk_al a1) then
    tk_let (fK_plus o15.1 (o15.2.2.1 a1 (tk_n (3 : Int32))) o15.2) fun o17 =>
    (fK_times (Int32.toInt64 a4) o6.1 (o17.2.1, tk_u2 o17.2.2.1 37 0 o17.1, o17.2.2.2.1, o17.2.2.2.2)).bind fun o18 =>
    (fK_times (2 : Int64) o17.1 o18.2).bind fun o19 =>
    (fK_times o19.1 (Int32.toInt64 a2) o19.2).bind fun o20 =>
    tk_let (fK_minus o18.1 o20.1 o20.2) fun o21 =>
    (fK_times (Int32.toInt64 a4) o10.1 (o21.2.1, tk_u2 o21.2.2.1 37 1 o21.1, o21.2.2.2.1, o21.2.2.2.2)).bind fun o22 =>
    (fK_times (2 : Int64) o17.1 o22.2).bind fun o23 =>
    (fK_times o23.1 (Int32.toInt64 a3) o23.2).bind fun o24 =>
    tk_let (fK_minus o22.1 o24.1 o24.2) fun o25 =>
    (fK_times o17.1 (((Int32.toInt64 a2) * (Int32.toInt64 a2)) + ((Int32.toInt64 a3) * (Int32.toInt64 a3))) (o25.2.1, tk_u2 o25.2.2.1 37 2 o25.1, o25.2.2.2.1, o25.2.2.2.2)).bind fun o26 =>
    (fK_times (Int32.toInt64 a4) o6.1 o26.2).bind fun o27 =>
    (fK_times o27.1 (Int32.toInt64 a2) o27.2).bind fun o28 =>
    tk_let (fK_minus o26.1 o28.1 o28.2) fun o29 =>
    (fK_times (Int32.toInt64 a4) o10.1 o29.2).bind fun o30 =>
    (fK_times o30.1 (Int32.toInt64 a3) o30.2).bind fun o31 =>
    tk_let (fK_minus o29.1 o31.1 o31.2) fun o32 =>
    (fK_times ((Int32.toInt64 a4) * (Int32.toInt64 a4)) (m.2.1 a1 (tk_n (0 : Int32))) o32.2).bind fun o33 =>
    tk_let (fK_plus o32.1 o33.1 o33.2) fun o34 =>
    if (o34.2.2.2.1 34 0) = true then
      some (false, (o34.2.1, tk_u2 o34.2.2.1 37 3 o34.1, o34.2.2.2.1, o34.2.2.2.2))
    else
      (fK_firstNotZero 37 (o34.2.1, tk_u2 o34.2.2.1 37 3 o34.1, o34.2.2.2.1, o34.2.2.2.2)).bind fun o36 =>
      (fK_lower 37 o36 (o34.2.1, tk_u2 o34.2.2.1 37 3 o34.1, o34.2.2.2.1, o34.2.2.2.2)).bind fun o37 =>
      if o37.1 = true then
        some (true, o37.2)
      else
        some (false, o37.2)
    else none
    else none
    else none
    else none
  else
    some (false, m)
def fT_mayHold_2 : Nat → Nat → Nat → Int32 → tk_m → Option Bool
  | 0, _, _, _, _ => none
  | n + 1, v0, v1, v2, m =>
    if (Int32.ofNat (tk_al v1)) ≤ v2 then
      some true
    else
      if tk_ok v2 (tk_al v1) then
      if (fT_narrow v0 (m.2.1 v1 (tk_n v2)) m) = (m.2.1 v1 (tk_n v2)) then
        fT_mayHold_2 n v0 v1 (v2 + (1 : Int32)) m
      else
        some false
      else none
/-- 3T$Sheet.mayHold([J)Z, row 0 -/
def fT_mayHold (t : Nat) (a1 : Nat) (m : tk_m) : Option Bool :=
  fT_mayHold_2 tk_F t a1 (0 : Int32) m
def fX_invert_142 : Nat → Nat → Int32 → tk_m → Option (Int32 × tk_m)
  | 0, _, _, _ => none
  | n + 1, v5, v6, m =>
    if (4 : Int32) ≤ v6 then
      some ((1 : Int32), m)
    else
      if tk_ok v6 4 then
      (fT_set v5 v6 (m.2.1 37 (tk_n v6)) m).bind fun o3 =>
      fX_invert_142 n v5 (v6 + (1 : Int32)) o3
      else none
/-- 3T.invert(IIII)I, row 0 -/
def fX_invert (a1 : Int32) (a2 : Int32) (a3 : Int32) (a4 : Int32) (m : tk_m) : Option (Int32 × tk_m) :=
  if (fX_isSheet a1) = true then
    if (fX_isWithin a2 (-9 : Int32) (9 : Int32)) = true then
      if (fX_isWithin a3 (-9 : Int32) (9 : Int32)) = true then
        if (fX_isWithin a4 (1 : Int32) (99 : Int32)) = true then
          if tk_ok a1 4 then
          if (fT_isMissing (287 + 2 * (tk_n a1)) m) = true then
            (fX_finding (5 : Int32) m).bind fun o7 =>
            some (o7.1, o7.2)
          else
            if (4 : Int32) ≤ (m.1 (287 + 2 * (tk_n a1)) 1) then
              (fT_isFormZero (287 + 2 * (tk_n a1)) m).bind fun o9 =>
              if o9 = true then
                (fX_finding (4 : Int32) m).bind fun o11 =>
                some (o11.1, o11.2)
              else
                (fK_turnInsideOut ((287 + 2 * (tk_n a1)) + 1) a2 a3 a4 m).bind fun o12 =>
                if o12.1 = true then
                  (fT_mayHold (287 + 2 * (tk_n a1)) 37 o12.2).bind fun o14 =>
                  if o14 = true then
                    fX_invert_142 tk_F (287 + 2 * (tk_n a1)) (0 : Int32) o12.2
                  else
                    (fX_finding (7 : Int32) o12.2).bind fun o16 =>
                    some (o16.1, o16.2)
                else
                  (fX_finding (7 : Int32) o12.2).bind fun o17 =>
                  some (o17.1, o17.2)
            else
              (fX_finding (6 : Int32) m).bind fun o18 =>
              some (o18.1, o18.2)
          else none
        else
          (fX_finding (0 : Int32) m).bind fun o19 =>
          some (o19.1, o19.2)
      else
        (fX_finding (0 : Int32) m).bind fun o20 =>
        some (o20.1, o20.2)
    else
      (fX_finding (0 : Int32) m).bind fun o21 =>
      some (o21.1, o21.2)
  else
    (fX_finding (0 : Int32) m).bind fun o22 =>
    some (o22.1, o22.2)
/-- 3T$Judge.kindOfForm([J)I, row 0 -/
def fJ_kindOfForm (a1 : Nat) (m : tk_m) : Option (Int32 × tk_m) :=
  if (4 : Int32) ≤ (Int32.ofNat (tk_al a1)) then
    if tk_ok (0 : Int32) (tk_al a1) then
    if (m.2.1 a1 (tk_n (0 : Int32))) = (0 : Int64) then
      if tk_ok (1 : Int32) (tk_al a1) then
      if (m.2.1 a1 (tk_n (1 : Int32))) = (0 : Int64) then
        if tk_ok (2 : Int32) (tk_al a1) then
        if (m.2.1 a1 (tk_n (2 : Int32))) = (0 : Int64) then
          some ((0 : Int32), m)
        else
          some ((2 : Int32), m)
        else none
      else
        some ((2 : Int32), m)
      else none
    else
      if tk_ok (1 : Int32) (tk_al a1) then
      (fJ_takeProduct 18 (m.2.1 a1 (tk_n (1 : Int32))) (m.2.1 a1 (tk_n (1 : Int32))) m).bind fun o9 =>
      if tk_ok (2 : Int32) (tk_al a1) then
      (fJ_takeProduct 20 (o9.2.1 a1 (tk_n (2 : Int32))) (o9.2.1 a1 (tk_n (2 : Int32))) o9).bind fun o11 =>
      (fB_takeSum 16 18 (1 : Int32) 20 o11).bind fun o12 =>
      if tk_ok (3 : Int32) (tk_al a1) then
      (fJ_takeProduct 32 (o12.2.1 a1 (tk_n (0 : Int32))) (o12.2.1 a1 (tk_n (3 : Int32))) o12).bind fun o14 =>
      (fB_takeSum 32 32 (1 : Int32) 32 o14).bind fun o15 =>
      (fB_takeSum 32 32 (1 : Int32) 32 o15).bind fun o16 =>
      (fB_takeSum 26 16 (-1 : Int32) 32 o16).bind fun o17 =>
      if (o17.1 26 0) = 0 then
        some ((3 : Int32), o17)
      else
        if (o17.1 26 0) ≤ 0 then
          some ((0 : Int32), o17)
        else
          some ((1 : Int32), o17)
      else none
      else none
      else none
    else none
  else
    some ((0 : Int32), m)
/-- 3T.tell(I)I, row 0 -/
def fX_tell (a1 : Int32) (m : tk_m) : Option (Int32 × tk_m) :=
  if (fX_isSheet a1) = true then
    if tk_ok a1 4 then
    if (fT_isMissing (287 + 2 * (tk_n a1)) m) = true then
      (fX_finding (5 : Int32) m).bind fun o4 =>
      some (o4.1, o4.2)
    else
      if (4 : Int32) ≤ (m.1 (287 + 2 * (tk_n a1)) 1) then
        (fJ_kindOfForm ((287 + 2 * (tk_n a1)) + 1) m).bind fun o6 =>
        some (o6.1, o6.2)
      else
        (fX_finding (6 : Int32) m).bind fun o7 =>
        some (o7.1, o7.2)
    else none
  else
    (fX_finding (0 : Int32) m).bind fun o8 =>
    some (o8.1, o8.2)
/-- 3T.isSpot(I)Z, row 0 -/
def fX_isSpot (a1 : Int32) : Bool :=
  fX_isWithin a1 (0 : Int32) (5 : Int32)
/-- 3T$Num.become(L3T$Num;)V, row 0 -/
def fN_become (t : Nat) (a1 : Nat) (m : tk_m) : tk_m :=
  (m.1, tk_u2 (tk_u2 (tk_u2 (tk_u2 m.2.1 (t + 1) 0 (m.2.1 (a1 + 1) 0)) (t + 1) 1 (tk_u2 m.2.1 (t + 1) 0 (m.2.1 (a1 + 1) 0) (a1 + 1) 1)) (t + 1) 2 (tk_u2 (tk_u2 m.2.1 (t + 1) 0 (m.2.1 (a1 + 1) 0)) (t + 1) 1 (tk_u2 m.2.1 (t + 1) 0 (m.2.1 (a1 + 1) 0) (a1 + 1) 1) (a1 + 1) 2)) t 2 (tk_u2 (tk_u2 (tk_u2 m.2.1 (t + 1) 0 (m.2.1 (a1 + 1) 0)) (t + 1) 1 (tk_u2 m.2.1 (t + 1) 0 (m.2.1 (a1 + 1) 0) (a1 + 1) 1)) (t + 1) 2 (tk_u2 (tk_u2 m.2.1 (t + 1) 0 (m.2.1 (a1 + 1) 0)) (t + 1) 1 (tk_u2 m.2.1 (t + 1) 0 (m.2.1 (a1 + 1) 0) (a1 + 1) 1) (a1 + 1) 2) a1 2), tk_u2 m.2.2.1 t 0 (m.2.2.1 a1 0), m.2.2.2)
/-- 3T.put(III)I, row 0 -/
def fX_put (a1 : Int32) (a2 : Int32) (a3 : Int32) (m : tk_m) : Option (Int32 × tk_m) :=
  if (fX_isSpot a1) = true then
    if (fX_isWithin a3 (0 : Int32) (2 : Int32)) = true then
      (fX_missesAnswer a2 m).bind fun o3 =>
      if o3.1 < 0 then
        if tk_ok a1 6 then
        if tk_ok a2 16 then
        tk_let (fN_become (275 + 2 * (tk_n a1)) (fC_part (71 + 8 * (tk_n a2)) a3) o3.2) fun o7 =>
        some ((1 : Int32), o7)
        else none
        else none
      else
        (fX_finding o3.1 o3.2).bind fun o8 =>
        some (o8.1, o8.2)
    else
      (fX_finding (0 : Int32) m).bind fun o9 =>
      some (o9.1, o9.2)
  else
    (fX_finding (0 : Int32) m).bind fun o10 =>
    some (o10.1, o10.2)
def fX_ratio_31 (v1 : Int32) (v2 : Int32) (v3 : Int32) (s0 : Int32) (m : tk_m) : Option (Int32 × tk_m) :=
  if (fX_isSpot v1) = true then
    if s0 = 0 then
      (fX_finding (0 : Int32) m).bind fun o3 =>
      some (o3.1, o3.2)
    else
      if v3 = 0 then
        (fX_finding (0 : Int32) m).bind fun o5 =>
        some (o5.1, o5.2)
      else
        if tk_ok v1 6 then
        (fN_hold (275 + 2 * (tk_n v1)) (Int32.toInt64 v2) (0 : Int64) (0 : Int64) (Int32.toInt64 v3) m).bind fun o7 =>
        some ((1 : Int32), o7.2)
        else none
  else
    (fX_finding (0 : Int32) m).bind fun o8 =>
    some (o8.1, o8.2)
/-- 3T.ratio(III)I, row 0 -/
def fX_ratio (a1 : Int32) (a2 : Int32) (a3 : Int32) (m : tk_m) : Option (Int32 × tk_m) :=
  if (fX_isWithin a2 (-1000000 : Int32) (1000000 : Int32)) = true then
    if (fX_isWithin a3 (-1000000 : Int32) (1000000 : Int32)) = true then
      fX_ratio_31 a1 a2 a3 (1 : Int32) m
    else
      fX_ratio_31 a1 a2 a3 (0 : Int32) m
  else
    fX_ratio_31 a1 a2 a3 (0 : Int32) m
/-- 3T.root(II)I, row 0 -/
def fX_root (a1 : Int32) (a2 : Int32) (m : tk_m) : Option (Int32 × tk_m) :=
  if (fX_isSpot a1) = true then
    if (fX_isWithin a2 (0 : Int32) (1000000 : Int32)) = true then
      if tk_ok a1 6 then
      (fN_holdRoot (275 + 2 * (tk_n a1)) (Int32.toInt64 a2) m).bind fun o4 =>
      some ((1 : Int32), o4)
      else none
    else
      (fX_finding (0 : Int32) m).bind fun o5 =>
      some (o5.1, o5.2)
  else
    (fX_finding (0 : Int32) m).bind fun o6 =>
    some (o6.1, o6.2)
/-- 3T$Num.isOf(I)Z, row 0 -/
def fN_isOf (t : Nat) (a1 : Int32) (m : tk_m) : Bool :=
  if a1 = 0 then
    true
  else
  if a1 = 1 then
    if (fN_q t m) = (0 : Int64) then
      false
    else
      true
  else
  if a1 = 2 then
    if (fN_q t m) = (0 : Int64) then
      true
    else
      false
  else
  if (fN_q t m) = (0 : Int64) then
    if (fN_m t m) = (1 : Int64) then
      true
    else
      false
  else
    false
/-- 3T$Worker.rootOfBoth(L3T$Num;L3T$Num;)J, row 0 -/
def fK_rootOfBoth (a1 : Nat) (a2 : Nat) (m : tk_m) : Int64 :=
  if (m.2.1 a1 2) = (0 : Int64) then
    m.2.1 a2 2
  else
    m.2.1 a1 2
/-- 3T$Worker.conclude(JJJJ)Z, row 0 -/
def fK_conclude (a1 : Int64) (a2 : Int64) (a3 : Int64) (a4 : Int64) (m : tk_m) : Option (Bool × tk_m) :=
  if (m.2.2.1 34 0) = true then
    some (false, m)
  else
    (fN_hold 35 a1 a2 a3 a4 m).bind fun o2 =>
    if o2.1 = true then
      some (true, o2.2)
    else
      some (false, o2.2)
/-- 3T$Worker.addUp(L3T$Num;L3T$Num;)Z, row 0 -/
def fK_addUp (a1 : Nat) (a2 : Nat) (m : tk_m) : Option (Bool × tk_m) :=
  (fK_times (fN_p a1 m) (fN_m a2 m) m).bind fun o1 =>
  (fK_times (fN_p a2 o1.2) (fN_m a1 o1.2) o1.2).bind fun o2 =>
  tk_let (fK_plus o1.1 o2.1 o2.2) fun o3 =>
  (fK_times (fN_q a1 o3.2) (fN_m a2 o3.2) o3.2).bind fun o4 =>
  (fK_times (fN_q a2 o4.2) (fN_m a1 o4.2) o4.2).bind fun o5 =>
  tk_let (fK_plus o4.1 o5.1 o5.2) fun o6 =>
  (fK_times (fN_m a1 o6.2) (fN_m a2 o6.2) o6.2).bind fun o7 =>
  (fK_conclude o3.1 o6.1 (fK_rootOfBoth a1 a2 o6.2) o7.1 o7.2).bind fun o8 =>
  some (o8.1, o8.2)
/-- 3T$Worker.takeOff(L3T$Num;L3T$Num;)Z, row 0 -/
def fK_takeOff (a1 : Nat) (a2 : Nat) (m : tk_m) : Option (Bool × tk_m) :=
  (fK_times (fN_p a1 m) (fN_m a2 m) m).bind fun o1 =>
  (fK_times (fN_p a2 o1.2) (fN_m a1 o1.2) o1.2).bind fun o2 =>
  tk_let (fK_minus o1.1 o2.1 o2.2) fun o3 =>
  (fK_times (fN_q a1 o3.2) (fN_m a2 o3.2) o3.2).bind fun o4 =>
  (fK_times (fN_q a2 o4.2) (fN_m a1 o4.2) o4.2).bind fun o5 =>
  tk_let (fK_minus o4.1 o5.1 o5.2) fun o6 =>
  (fK_times (fN_m a1 o6.2) (fN_m a2 o6.2) o6.2).bind fun o7 =>
  (fK_conclude o3.1 o6.1 (fK_rootOfBoth a1 a2 o6.2) o7.1 o7.2).bind fun o8 =>
  some (o8.1, o8.2)
/-- 3T$Worker.multiply(L3T$Num;L3T$Num;)Z, row 0 -/
def fK_multiply (a1 : Nat) (a2 : Nat) (m : tk_m) : Option (Bool × tk_m) :=
  (fK_times (fN_p a1 m) (fN_p a2 m) m).bind fun o1 =>
  (fK_times (fN_q a1 o1.2) (fN_q a2 o1.2) o1.2).bind fun o2 =>
  (fK_times o2.1 (fK_rootOfBoth a1 a2 m) o2.2).bind fun o3 =>
  tk_let (fK_plus o1.1 o3.1 o3.2) fun o4 =>
  (fK_times (fN_p a1 o4.2) (fN_q a2 o4.2) o4.2).bind fun o5 =>
  (fK_times (fN_q a1 o5.2) (fN_p a2 o5.2) o5.2).bind fun o6 =>
  tk_let (fK_plus o5.1 o6.1 o6.2) fun o7 =>
  (fK_times (fN_m a1 o7.2) (fN_m a2 o7.2) o7.2).bind fun o8 =>
  (fK_conclude o4.1 o7.1 (fK_rootOfBoth a1 a2 m) o8.1 o8.2).bind fun o9 =>
  some (o9.1, o9.2)
/-- 3T$Worker.divide(L3T$Num;L3T$Num;)Z, row 0 -/
def fK_divide (a1 : Nat) (a2 : Nat) (m : tk_m) : Option (Bool × tk_m) :=
  (fK_times (fN_p a1 m) (fN_p a2 m) m).bind fun o1 =>
  (fK_times (fN_q a1 o1.2) (fN_q a2 o1.2) o1.2).bind fun o2 =>
  (fK_times o2.1 (fK_rootOfBoth a1 a2 m) o2.2).bind fun o3 =>
  tk_let (fK_minus o1.1 o3.1 o3.2) fun o4 =>
  (fK_times o4.1 (fN_m a2 o4.2) o4.2).bind fun o5 =>
  (fK_times (fN_q a1 o5.2) (fN_p a2 o5.2) o5.2).bind fun o6 =>
  (fK_times (fN_p a1 o6.2) (fN_q a2 o6.2) o6.2).bind fun o7 =>
  tk_let (fK_minus o6.1 o7.1 o7.2) fun o8 =>
  (fK_times o8.1 (fN_m a2 o8.2) o8.2).bind fun o9 =>
  (fK_times (fN_p a2 o9.2) (fN_p a2 o9.2) o9.2).bind fun o10 =>
  (fK_times (fN_q a2 o10.2) (fN_q a2 o10.2) o10.2).bind fun o11 =>
  (fK_times o11.1 (fK_rootOfBoth a1 a2 m) o11.2).bind fun o12 =>
  tk_let (fK_minus o10.1 o12.1 o12.2) fun o13 =>
  (fK_times (fN_m a1 o13.2) o13.1 o13.2).bind fun o14 =>
  (fK_conclude o5.1 o9.1 (fK_rootOfBoth a1 a2 m) o14.1 o14.2).bind fun o15 =>
  some (o15.1, o15.2)
/-- 3T$Worker.workOut(L3T$Num;L3T$Num;I)Z, row 0 -/
def fK_workOut (a1 : Nat) (a2 : Nat) (a3 : Int32) (m : tk_m) : Option (Bool × tk_m) :=
  if a3 = 0 then
    (fK_addUp a1 a2 (m.1, m.2.1, tk_u2 m.2.2.1 34 0 false, m.2.2.2)).bind fun o2 =>
    some (o2.1, o2.2)
  else
  if a3 = 1 then
    (fK_takeOff a1 a2 (m.1, m.2.1, tk_u2 m.2.2.1 34 0 false, m.2.2.2)).bind fun o4 =>
    some (o4.1, o4.2)
  else
  if a3 = 2 then
    (fK_multiply a1 a2 (m.1, m.2.1, tk_u2 m.2.2.1 34 0 false, m.2.2.2)).bind fun o6 =>
    some (o6.1, o6.2)
  else
  (fK_divide a1 a2 (m.1, m.2.1, tk_u2 m.2.2.1 34 0 false, m.2.2.2)).bind fun o7 =>
  some (o7.1, o7.2)
def fX_work_145 (v1 : Int32) (v4 : Int32) (v5 : Nat) (v6 : Nat) (m : tk_m) : Option (Int32 × tk_m) :=
  (fK_workOut v5 v6 v4 m).bind fun o1 =>
  if o1.1 = true then
    if tk_ok v1 6 then
    tk_let (fN_become (275 + 2 * (tk_n v1)) 35 o1.2) fun o4 =>
    some ((1 : Int32), o4)
    else none
  else
    (fX_finding (7 : Int32) o1.2).bind fun o5 =>
    some (o5.1, o5.2)
def fX_work_113 (v1 : Int32) (v4 : Int32) (v5 : Nat) (v6 : Nat) (m : tk_m) : Option (Int32 × tk_m) :=
  if v4 = (3 : Int32) then
    if (fN_p v6 m) = (0 : Int64) then
      if (fN_q v6 m) = (0 : Int64) then
        (fX_finding (4 : Int32) m).bind fun o4 =>
        some (o4.1, o4.2)
      else
        fX_work_145 v1 v4 v5 v6 m
    else
      fX_work_145 v1 v4 v5 v6 m
  else
    fX_work_145 v1 v4 v5 v6 m
/-- 3T.work(IIII)I, row 0 -/
def fX_work (a1 : Int32) (a2 : Int32) (a3 : Int32) (a4 : Int32) (m : tk_m) : Option (Int32 × tk_m) :=
  if (fX_isSpot a1) = true then
    if (fX_isSpot a2) = true then
      if (fX_isSpot a3) = true then
        if (fX_isWithin a4 (0 : Int32) (3 : Int32)) = true then
          if tk_ok a2 6 then
          if tk_ok a3 6 then
          if (m.2.2.1 (275 + 2 * (tk_n a2)) 0) = true then
            if (m.2.2.1 (275 + 2 * (tk_n a3)) 0) = true then
              if (fN_isOf (275 + 2 * (tk_n a2)) (1 : Int32) m) = true then
                if (fN_isOf (275 + 2 * (tk_n a3)) (1 : Int32) m) = true then
                  if (m.2.1 (275 + 2 * (tk_n a2)) 2) = (m.2.1 (275 + 2 * (tk_n a3)) 2) then
                    fX_work_113 a1 a4 (275 + 2 * (tk_n a2)) (275 + 2 * (tk_n a3)) m
                  else
                    (fX_finding (2 : Int32) m).bind fun o12 =>
                    some (o12.1, o12.2)
                else
                  fX_work_113 a1 a4 (275 + 2 * (tk_n a2)) (275 + 2 * (tk_n a3)) m
              else
                fX_work_113 a1 a4 (275 + 2 * (tk_n a2)) (275 + 2 * (tk_n a3)) m
            else
              (fX_finding (5 : Int32) m).bind fun o13 =>
              some (o13.1, o13.2)
          else
            (fX_finding (5 : Int32) m).bind fun o14 =>
            some (o14.1, o14.2)
          else none
          else none
        else
          (fX_finding (0 : Int32) m).bind fun o15 =>
          some (o15.1, o15.2)
      else
        (fX_finding (0 : Int32) m).bind fun o16 =>
        some (o16.1, o16.2)
    else
      (fX_finding (0 : Int32) m).bind fun o17 =>
      some (o17.1, o17.2)
  else
    (fX_finding (0 : Int32) m).bind fun o18 =>
    some (o18.1, o18.2)
/-- 3T.compare(II)I, row 0 -/
def fX_compare (a1 : Int32) (a2 : Int32) (m : tk_m) : Option (Int32 × tk_m) :=
  if (fX_isSpot a1) = true then
    if (fX_isSpot a2) = true then
      if tk_ok a1 6 then
      if (m.2.2.1 (275 + 2 * (tk_n a1)) 0) = true then
        if tk_ok a2 6 then
        if (m.2.2.1 (275 + 2 * (tk_n a2)) 0) = true then
          (fJ_order (275 + 2 * (tk_n a1)) (275 + 2 * (tk_n a2)) m).bind fun o7 =>
          some (o7.1, o7.2)
        else
          (fX_finding (5 : Int32) m).bind fun o8 =>
          some (o8.1, o8.2)
        else none
      else
        (fX_finding (5 : Int32) m).bind fun o9 =>
        some (o9.1, o9.2)
      else none
    else
      (fX_finding (0 : Int32) m).bind fun o10 =>
      some (o10.1, o10.2)
  else
    (fX_finding (0 : Int32) m).bind fun o11 =>
    some (o11.1, o11.2)
/-- 3T.number(II)J, row 0 -/
def fX_number (a1 : Int32) (a2 : Int32) (m : tk_m) : Option (Int64 × tk_m) :=
  if (fX_isSpot a1) = true then
    if (fX_isWithin a2 (0 : Int32) (3 : Int32)) = true then
      if tk_ok a1 6 then
      if (m.2.2.1 (275 + 2 * (tk_n a1)) 0) = true then
        some (fN_part (275 + 2 * (tk_n a1)) a2 m, m)
      else
        (fX_longFinding (5 : Int32) m).bind fun o5 =>
        some (o5.1, o5.2)
      else none
    else
      (fX_longFinding (0 : Int32) m).bind fun o6 =>
      some (o6.1, o6.2)
  else
    (fX_longFinding (0 : Int32) m).bind fun o7 =>
    some (o7.1, o7.2)
/-- 3T$Judge.sign(L3T$Num;)I, row 0 -/
def fJ_sign (a1 : Nat) (m : tk_m) : Option (Int32 × tk_m) :=
  (fJ_order a1 14 m).bind fun o1 =>
  some (o1.1, o1.2)
def fX_taken_97 (s0 : Int64) (m : tk_m) : Option (Int32 × tk_m) :=
  if s0 = (Int32.toInt64 (Int64.toInt32 s0)) then
    some (Int64.toInt32 s0, m)
  else
    (fX_finding (7 : Int32) m).bind fun o2 =>
    some (o2.1, o2.2)
/-- 3T.taken(II)I, row 0 -/
def fX_taken (a1 : Int32) (a2 : Int32) (m : tk_m) : Option (Int32 × tk_m) :=
  if (fX_isSpot a1) = true then
    if (fX_isWithin a2 (0 : Int32) (3 : Int32)) = true then
      if tk_ok a1 6 then
      if (m.2.2.1 (275 + 2 * (tk_n a1)) 0) = true then
        if (fN_isOf (275 + 2 * (tk_n a1)) a2 m) = true then
          if a2 = 0 then
            (fJ_sign (275 + 2 * (tk_n a1)) m).bind fun o7 =>
            some (o7.1, o7.2)
          else
            if a2 = (1 : Int32) then
              fX_taken_97 (m.2.1 (275 + 2 * (tk_n a1)) 2) m
            else
              if a2 = (2 : Int32) then
                fX_taken_97 (fN_m (275 + 2 * (tk_n a1)) m) m
              else
                fX_taken_97 (fN_p (275 + 2 * (tk_n a1)) m) m
        else
          (fX_finding (2 : Int32) m).bind fun o10 =>
          some (o10.1, o10.2)
      else
        (fX_finding (5 : Int32) m).bind fun o11 =>
        some (o11.1, o11.2)
      else none
    else
      (fX_finding (0 : Int32) m).bind fun o12 =>
      some (o12.1, o12.2)
  else
    (fX_finding (0 : Int32) m).bind fun o13 =>
    some (o13.1, o13.2)
/-- 3T.clear(I)I, row 0 -/
def fX_clear (a1 : Int32) (m : tk_m) : Option (Int32 × tk_m) :=
  if (fX_isSpot a1) = true then
    if tk_ok a1 6 then
    if (m.2.2.1 (275 + 2 * (tk_n a1)) 0) = true then
      some ((1 : Int32), (m.1, m.2.1, tk_u2 m.2.2.1 (275 + 2 * (tk_n a1)) 0 false, m.2.2.2))
    else
      some ((0 : Int32), (m.1, m.2.1, tk_u2 m.2.2.1 (275 + 2 * (tk_n a1)) 0 false, m.2.2.2))
    else none
  else
    (fX_finding (0 : Int32) m).bind fun o4 =>
    some (o4.1, o4.2)
def fT_become_12 : Nat → Nat → Int32 → tk_m → Option tk_m
  | 0, _, _, _ => none
  | n + 1, v0, v3, m =>
    if (40 : Int32) ≤ v3 then
      some m
    else
      if tk_ok v3 40 then
      fT_become_12 n v0 (v3 + (1 : Int32)) (m.1, tk_u2 m.2.1 (v0 + 1) (tk_n v3) (0 : Int64), m.2.2.1, m.2.2.2)
      else none
/-- 3T$Sheet.become(II)V, row 0 -/
def fT_become (t : Nat) (a1 : Int32) (a2 : Int32) (m : tk_m) : Option tk_m :=
  fT_become_12 tk_F t (0 : Int32) (tk_u2 (tk_u2 m.1 t 0 a1) t 1 a2, m.2.1, m.2.2.1, m.2.2.2)
/-- 3T.sheet(III)I, row 0 -/
def fX_sheet (a1 : Int32) (a2 : Int32) (a3 : Int32) (m : tk_m) : Option (Int32 × tk_m) :=
  if (fX_isSheet a1) = true then
    if (fX_isWithin a2 (-1 : Int32) (2 : Int32)) = true then
      if a2 = (-1 : Int32) then
        if tk_ok a1 4 then
        (fT_become (287 + 2 * (tk_n a1)) (-1 : Int32) (0 : Int32) m).bind fun o5 =>
        some ((0 : Int32), o5)
        else none
      else
        if 0 ≤ a3 then
          if a3 ≤ (40 : Int32) then
            if tk_ok a1 4 then
            (fT_become (287 + 2 * (tk_n a1)) a2 a3 m).bind fun o9 =>
            some (a3, o9)
            else none
          else
            (fX_finding (0 : Int32) m).bind fun o10 =>
            some (o10.1, o10.2)
        else
          (fX_finding (6 : Int32) m).bind fun o11 =>
          some (o11.1, o11.2)
    else
      (fX_finding (0 : Int32) m).bind fun o12 =>
      some (o12.1, o12.2)
  else
    (fX_finding (0 : Int32) m).bind fun o13 =>
    some (o13.1, o13.2)
/-- 3T.missesItem(II)I, row 0 -/
def fX_missesItem (a1 : Int32) (a2 : Int32) (m : tk_m) : Option Int32 :=
  if (fX_isSheet a1) = true then
    if tk_ok a1 4 then
    if (fT_isMissing (287 + 2 * (tk_n a1)) m) = true then
      some (5 : Int32)
    else
      if a2 < 0 then
        some (0 : Int32)
      else
        if (m.1 (287 + 2 * (tk_n a1)) 1) ≤ a2 then
          some (0 : Int32)
        else
          some (-1 : Int32)
    else none
  else
    some (0 : Int32)
/-- 3T.write(IIJ)I, row 0 -/
def fX_write (a1 : Int32) (a2 : Int32) (a3 : Int64) (m : tk_m) : Option (Int32 × tk_m) :=
  (fX_missesItem a1 a2 m).bind fun o1 =>
  if o1 < 0 then
    if tk_ok a1 4 then
    (fT_set (287 + 2 * (tk_n a1)) a2 a3 m).bind fun o4 =>
    some ((1 : Int32), o4)
    else none
  else
    (fX_finding o1 m).bind fun o5 =>
    some (o5.1, o5.2)
/-- 3T.item(II)J, row 0 -/
def fX_item (a1 : Int32) (a2 : Int32) (m : tk_m) : Option (Int64 × tk_m) :=
  (fX_missesItem a1 a2 m).bind fun o1 =>
  if o1 < 0 then
    if tk_ok a1 4 then
    if tk_ok a2 40 then
    some (m.2.1 ((287 + 2 * (tk_n a1)) + 1) (tk_n a2), m)
    else none
    else none
  else
    (fX_longFinding o1 m).bind fun o5 =>
    some (o5.1, o5.2)
/-- 3T$Sheet.hasRow(II)Z, row 0 -/
def fT_hasRow (t : Nat) (a1 : Int32) (a2 : Int32) (m : tk_m) : Bool :=
  if a1 < 0 then
    false
  else
    if a2 < 0 then
      false
    else
      if (m.1 t 1) < a1 then
        false
      else
        if ((m.1 t 1) - a1) < a2 then
          false
        else
          true
/-- 3T.copy(IIIII)I, row 0 -/
def fX_copy (a1 : Int32) (a2 : Int32) (a3 : Int32) (a4 : Int32) (a5 : Int32) (m : tk_m) : Option (Int32 × tk_m) :=
  if (fX_isSheet a1) = true then
    if (fX_isSheet a3) = true then
      if tk_ok a1 4 then
      if tk_ok a3 4 then
      if (fT_isMissing (287 + 2 * (tk_n a1)) m) = true then
        (fX_finding (5 : Int32) m).bind fun o6 =>
        some (o6.1, o6.2)
      else
        if (fT_isMissing (287 + 2 * (tk_n a3)) m) = true then
          (fX_finding (5 : Int32) m).bind fun o8 =>
          some (o8.1, o8.2)
        else
          if (m.1 (287 + 2 * (tk_n a1)) 0) = (m.1 (287 + 2 * (tk_n a3)) 0) then
            if (fT_hasRow (287 + 2 * (tk_n a1)) a2 a5 m) = true then
              if (fT_hasRow (287 + 2 * (tk_n a3)) a4 a5 m) = true then
                if tk_cpok a5 a4 a2 40 40 then
                some (a5, (m.1, tk_cpy m.2.1 ((287 + 2 * (tk_n a1)) + 1) ((287 + 2 * (tk_n a3)) + 1) (tk_n a2) (tk_n a4) (tk_n a5), m.2.2.1, m.2.2.2))
                else none
              else
                (fX_finding (0 : Int32) m).bind fun o13 =>
                some (o13.1, o13.2)
            else
              (fX_finding (0 : Int32) m).bind fun o14 =>
              some (o14.1, o14.2)
          else
            (fX_finding (2 : Int32) m).bind fun o15 =>
            some (o15.1, o15.2)
      else none
      else none
    else
      (fX_finding (0 : Int32) m).bind fun o16 =>
      some (o16.1, o16.2)
  else
    (fX_finding (0 : Int32) m).bind fun o17 =>
    some (o17.1, o17.2)
/-- 3T$Shape.become(L3T$Shape;)V, row 0 -/
def fH_become (t : Nat) (a1 : Nat) (m : tk_m) : Option tk_m :=
  (fH_setSlant t (tk_u2 (tk_u2 (tk_u2 m.1 t 1 (m.1 a1 1)) t 2 (tk_u2 m.1 t 1 (m.1 a1 1) a1 2)) t 3 (tk_u2 (tk_u2 m.1 t 1 (m.1 a1 1)) t 2 (tk_u2 m.1 t 1 (m.1 a1 1) a1 2) a1 3) a1 4) (tk_u2 (tk_u2 (tk_u2 m.1 t 1 (m.1 a1 1)) t 2 (tk_u2 m.1 t 1 (m.1 a1 1) a1 2)) t 3 (tk_u2 (tk_u2 m.1 t 1 (m.1 a1 1)) t 2 (tk_u2 m.1 t 1 (m.1 a1 1) a1 2) a1 3), m.2.1, tk_u2 m.2.2.1 t 0 (m.2.2.1 a1 0), m.2.2.2)).bind fun o1 =>
  some (tk_u2 o1.1 t 5 (o1.1 a1 5), o1.2.1, o1.2.2.1, o1.2.2.2)
def fS_become_29 (v0 : Nat) (v1 : Nat) (m : tk_m) : Option tk_m :=
  tk_let (fS_choose v0 (tk_u2 m.1 v0 1 (m.1 v1 1) (v1 + 2) 0) (tk_u2 m.1 v0 1 (m.1 v1 1) (v1 + 2) 1) (tk_u2 m.1 v0 1 (m.1 v1 1) (v1 + 2) 2) (tk_u2 m.1 v0 1 (m.1 v1 1), m.2.1, m.2.2.1, m.2.2.2)) fun o1 =>
  some (tk_u2 o1.1 v0 3 (o1.1 v1 3), o1.2.1, o1.2.2.1, o1.2.2.2)
def fS_become_2 : Nat → Nat → Nat → Int32 → tk_m → Option tk_m
  | 0, _, _, _, _ => none
  | n + 1, v0, v1, v2, m =>
    if (6 : Int32) ≤ v2 then
      fS_become_29 v0 v1 m
    else
      if tk_ok v2 6 then
      (fH_become ((v0 + 1) + 2 + (m.2.2.2 (v0 + 1) (tk_n v2)).val) ((v1 + 1) + 2 + (m.2.2.2 (v1 + 1) (tk_n v2)).val) m).bind fun o3 =>
      fS_become_2 n v0 v1 (v2 + (1 : Int32)) o3
      else none
/-- 3T$Scene.become(L3T$Scene;)V, row 0 -/
def fS_become (t : Nat) (a1 : Nat) (m : tk_m) : Option tk_m :=
  fS_become_2 tk_F t a1 (0 : Int32) m
/-- 3T.image()I, row 0 -/
def fX_image (m : tk_m) : Option (Int32 × tk_m) :=
  if (m.1 0 2) < (8 : Int32) then
    if tk_ok (m.1 0 2) 8 then
    (fS_become (203 + 9 * (tk_n (m.1 0 2))) 1 m).bind fun o3 =>
    some (tk_u2 o3.1 0 2 ((o3.1 0 2) + (1 : Int32)) 0 2, (tk_u2 o3.1 0 2 ((o3.1 0 2) + (1 : Int32)), o3.2.1, o3.2.2.1, o3.2.2.2))
    else none
  else
    (fX_finding (1 : Int32) m).bind fun o4 =>
    some (o4.1, o4.2)
/-- 3T.back()I, row 0 -/
def fX_back (m : tk_m) : Option (Int32 × tk_m) :=
  if 0 < (m.1 0 2) then
    if tk_ok (tk_u2 m.1 0 2 ((m.1 0 2) - (1 : Int32)) 0 2) 8 then
    (fS_become 1 (203 + 9 * (tk_n (tk_u2 m.1 0 2 ((m.1 0 2) - (1 : Int32)) 0 2))) (tk_u2 m.1 0 2 ((m.1 0 2) - (1 : Int32)), m.2.1, m.2.2.1, m.2.2.2)).bind fun o3 =>
    some (o3.1 1 1, o3)
    else none
  else
    (fX_finding (3 : Int32) m).bind fun o4 =>
    some (o4.1, o4.2)
/-- 3T.seed(I)I, row 0 -/
def fX_seed (a1 : Int32) (m : tk_m) : Int32 × tk_m :=
  (m.1 1 3, (tk_u2 m.1 1 3 a1, m.2.1, m.2.2.1, m.2.2.2))
def fS_howMany_4 : Nat → Nat → Int32 → Int32 → Int32 → tk_m → Option Int32
  | 0, _, _, _, _, _ => none
  | n + 1, v0, v1, v2, v3, m =>
    if (m.1 v0 1) ≤ v3 then
      some v2
    else
      if tk_ok v3 6 then
      if (fH_isOf ((v0 + 1) + 2 + (m.2.2.2 (v0 + 1) (tk_n v3)).val) v1 m) = true then
        fS_howMany_4 n v0 v1 (v2 + (1 : Int32)) (v3 + (1 : Int32)) m
      else
        fS_howMany_4 n v0 v1 v2 (v3 + (1 : Int32)) m
      else none
/-- 3T$Scene.howMany(I)I, row 0 -/
def fS_howMany (t : Nat) (a1 : Int32) (m : tk_m) : Option Int32 :=
  fS_howMany_4 tk_F t a1 (0 : Int32) (0 : Int32) m
def fX_spotsHeld_4 : Nat → Int32 → Int32 → tk_m → Option Int32
  | 0, _, _, _ => none
  | n + 1, v1, v2, m =>
    if (6 : Int32) ≤ v2 then
      some v1
    else
      if tk_ok v2 6 then
      if (m.2.2.1 (275 + 2 * (tk_n v2)) 0) = true then
        fX_spotsHeld_4 n (v1 + (1 : Int32)) (v2 + (1 : Int32)) m
      else
        fX_spotsHeld_4 n v1 (v2 + (1 : Int32)) m
      else none
/-- 3T.spotsHeld()I, row 0 -/
def fX_spotsHeld (m : tk_m) : Option Int32 :=
  fX_spotsHeld_4 tk_F (0 : Int32) (0 : Int32) m
/-- 3T.count(I)I, row 0 -/
def fX_count (a1 : Int32) (m : tk_m) : Option (Int32 × tk_m) :=
  if a1 = 0 then
    some (m.1 1 1, m)
  else
  if a1 = 1 then
    (fS_howMany 1 (1 : Int32) m).bind fun o3 =>
    some (o3, m)
  else
  if a1 = 2 then
    (fS_howMany 1 (3 : Int32) m).bind fun o5 =>
    some (o5, m)
  else
  if a1 = 3 then
    some (m.1 0 2, m)
  else
  if a1 = 4 then
    some (m.1 1 3, m)
  else
  if a1 = 5 then
    (fX_spotsHeld m).bind fun o9 =>
    some (o9, m)
  else
  (fX_finding (0 : Int32) m).bind fun o10 =>
  some (o10.1, o10.2)
def fX_status_31 : Nat → Int32 → Int32 → tk_m → Option (Int32 × tk_m)
  | 0, _, _, _ => none
  | n + 1, v2, v3, m =>
    if (8 : Int32) ≤ v3 then
      some (v2, m)
    else
      if tk_ok v3 8 then
      fX_status_31 n (v2 + (m.1 202 (tk_n v3))) (v3 + (1 : Int32)) m
      else none
/-- 3T.status(I)I, row 0 -/
def fX_status (a1 : Int32) (m : tk_m) : Option (Int32 × tk_m) :=
  if (fX_isWithin a1 (-1 : Int32) (7 : Int32)) = true then
    if a1 < 0 then
      fX_status_31 tk_F (0 : Int32) (0 : Int32) m
    else
      if tk_ok a1 8 then
      some (m.1 202 (tk_n a1), m)
      else none
  else
    (fX_finding (0 : Int32) m).bind fun o4 =>
    some (o4.1, o4.2)
/-- 3TModel.in(JJJ)Z, row 0 -/
def fM_in (a1 : Int64) (a2 : Int64) (a3 : Int64) : Bool :=
  if a1 < a2 then
    false
  else
    if a3 < a1 then
      false
    else
      true
/-- 3TModel.finds(I)I, row 0 -/
def fM_finds (a1 : Int32) (m : tk_m) : Option (Int32 × tk_m) :=
  if tk_ok a1 8 then
  some ((-1000001 : Int32) - a1, (tk_u2 m.1 306 (tk_n a1) ((m.1 306 (tk_n a1)) + (1 : Int32)), m.2.1, m.2.2.1, m.2.2.2))
  else none
/-- 3TModel.comes(IIII)I, row 0 -/
def fM_comes (a1 : Int32) (a2 : Int32) (a3 : Int32) (a4 : Int32) (m : tk_m) : Option (Int32 × tk_m) :=
  if (m.1 296 0) = (6 : Int32) then
    (fM_finds (1 : Int32) m).bind fun o2 =>
    some (o2.1, o2.2)
  else
    if tk_ok ((5 : Int32) + ((4 : Int32) * (m.1 296 0))) 29 then
    if tk_ok (((5 : Int32) + ((4 : Int32) * (m.1 296 0))) + (1 : Int32)) 29 then
    if tk_ok (((5 : Int32) + ((4 : Int32) * (m.1 296 0))) + (2 : Int32)) 29 then
    if tk_ok (((5 : Int32) + ((4 : Int32) * (m.1 296 0))) + (3 : Int32)) 29 then
    some ((tk_u2 (tk_u2 (tk_u2 (tk_u2 (tk_u2 m.1 296 (tk_n ((5 : Int32) + ((4 : Int32) * (m.1 296 0)))) a1) 296 (tk_n (((5 : Int32) + ((4 : Int32) * (m.1 296 0))) + (1 : Int32))) a2) 296 (tk_n (((5 : Int32) + ((4 : Int32) * (m.1 296 0))) + (2 : Int32))) a3) 296 (tk_n (((5 : Int32) + ((4 : Int32) * (m.1 296 0))) + (3 : Int32))) a4) 296 0 ((tk_u2 (tk_u2 (tk_u2 (tk_u2 m.1 296 (tk_n ((5 : Int32) + ((4 : Int32) * (m.1 296 0)))) a1) 296 (tk_n (((5 : Int32) + ((4 : Int32) * (m.1 296 0))) + (1 : Int32))) a2) 296 (tk_n (((5 : Int32) + ((4 : Int32) * (m.1 296 0))) + (2 : Int32))) a3) 296 (tk_n (((5 : Int32) + ((4 : Int32) * (m.1 296 0))) + (3 : Int32))) a4 296 0) + (1 : Int32)) 296 0) - (1 : Int32), (tk_u2 (tk_u2 (tk_u2 (tk_u2 (tk_u2 m.1 296 (tk_n ((5 : Int32) + ((4 : Int32) * (m.1 296 0)))) a1) 296 (tk_n (((5 : Int32) + ((4 : Int32) * (m.1 296 0))) + (1 : Int32))) a2) 296 (tk_n (((5 : Int32) + ((4 : Int32) * (m.1 296 0))) + (2 : Int32))) a3) 296 (tk_n (((5 : Int32) + ((4 : Int32) * (m.1 296 0))) + (3 : Int32))) a4) 296 0 ((tk_u2 (tk_u2 (tk_u2 (tk_u2 m.1 296 (tk_n ((5 : Int32) + ((4 : Int32) * (m.1 296 0)))) a1) 296 (tk_n (((5 : Int32) + ((4 : Int32) * (m.1 296 0))) + (1 : Int32))) a2) 296 (tk_n (((5 : Int32) + ((4 : Int32) * (m.1 296 0))) + (2 : Int32))) a3) 296 (tk_n (((5 : Int32) + ((4 : Int32) * (m.1 296 0))) + (3 : Int32))) a4 296 0) + (1 : Int32)), m.2.1, m.2.2.1, m.2.2.2))
    else none
    else none
    else none
    else none
/-- 3TModel.round(III)I, row 0 -/
def fM_round (a1 : Int32) (a2 : Int32) (a3 : Int32) (m : tk_m) : Option (Int32 × tk_m) :=
  if (fM_in (Int32.toInt64 a1) (-5 : Int64) (5 : Int64)) = true then
    if (fM_in (Int32.toInt64 a2) (-5 : Int64) (5 : Int64)) = true then
      if (fM_in (Int32.toInt64 a3) (0 : Int64) (5 : Int64)) = true then
        (fM_comes (0 : Int32) a1 a2 a3 m).bind fun o4 =>
        some (o4.1, o4.2)
      else
        (fM_finds (0 : Int32) m).bind fun o5 =>
        some (o5.1, o5.2)
    else
      (fM_finds (0 : Int32) m).bind fun o6 =>
      some (o6.1, o6.2)
  else
    (fM_finds (0 : Int32) m).bind fun o7 =>
    some (o7.1, o7.2)
/-- 3TModel.straight(II)I, row 0 -/
def fM_straight (a1 : Int32) (a2 : Int32) (m : tk_m) : Option (Int32 × tk_m) :=
  if (fM_in (Int32.toInt64 a1) (0 : Int64) (5 : Int64)) = true then
    if (fM_in (Int32.toInt64 a2) (-30 : Int64) (30 : Int64)) = true then
      (fM_comes (1 : Int32) a1 a2 (0 : Int32) m).bind fun o3 =>
      some (o3.1, o3.2)
    else
      (fM_finds (0 : Int32) m).bind fun o4 =>
      some (o4.1, o4.2)
  else
    (fM_finds (0 : Int32) m).bind fun o5 =>
    some (o5.1, o5.2)
/-- 3TModel.isShape(I)Z, row 0 -/
def fM_isShape (a1 : Int32) (m : tk_m) : Bool :=
  fM_in (Int32.toInt64 a1) (0 : Int64) (Int32.toInt64 ((m.1 296 0) - (1 : Int32)))
/-- 3TModel.of0(II)I, row 0 -/
def fM_of0 (a1 : Int32) (a2 : Int32) (m : tk_m) : Option Int32 :=
  if tk_ok (((5 : Int32) + ((4 : Int32) * a1)) + a2) 29 then
  some (m.1 296 (tk_n (((5 : Int32) + ((4 : Int32) * a1)) + a2)))
  else none
/-- 3TModel.isRound(I)Z, row 0 -/
def fM_isRound (a1 : Int32) (m : tk_m) : Option Bool :=
  (fM_of0 a1 (0 : Int32) m).bind fun o1 =>
  if o1 = 0 then
    some true
  else
    some false
/-- 3TModel.kindOf(I)I, row 0 -/
def fM_kindOf (a1 : Int32) (m : tk_m) : Option Int32 :=
  (fM_isRound a1 m).bind fun o1 =>
  if o1 = true then
    (fM_of0 a1 (3 : Int32) m).bind fun o3 =>
    if o3 = 0 then
      some (3 : Int32)
    else
      some (1 : Int32)
  else
    (fM_of0 a1 (1 : Int32) m).bind fun o5 =>
    if (2 : Int32) ≤ o5 then
      some (2 : Int32)
    else
      some (4 : Int32)
/-- 3TModel.slant([II)I, row 0 -/
def fM_slant (a1 : Nat) (a2 : Int32) (m : tk_m) : Option Int32 :=
  (fM_of0 a2 (1 : Int32) m).bind fun o1 =>
  if tk_ok o1 6 then
  some ((tk_stv (a1 - 1000)).getD (tk_n o1) 0)
  else none
/-- 3TModel.form(II)I, row 0 -/
def fM_form (a1 : Int32) (a2 : Int32) (m : tk_m) : Option Int32 :=
  (fM_of0 a1 (1 : Int32) m).bind fun o1 =>
  (fM_of0 a1 (2 : Int32) m).bind fun o2 =>
  (fM_of0 a1 (3 : Int32) m).bind fun o3 =>
  (fM_isRound a1 m).bind fun o4 =>
  if o4 = true then
    if a2 = 0 then
      some (1 : Int32)
    else
      if a2 = (1 : Int32) then
        some ((-2 : Int32) * o1)
      else
        if a2 = (2 : Int32) then
          some ((-2 : Int32) * o2)
        else
          some (((o1 * o1) + (o2 * o2)) - (o3 * o3))
  else
    if a2 = 0 then
      some (0 : Int32)
    else
      if a2 = (1 : Int32) then
        (fM_slant 1003 a1 m).bind fun o11 =>
        some o11
      else
        if a2 = (2 : Int32) then
          (fM_slant 1004 a1 m).bind fun o13 =>
          some o13
        else
          some (-o2)
def fM_of_61 (v1 : Int32) (v2 : Int32) (s0 : Int32) (m : tk_m) : Option (Int32 × tk_m) :=
  (fM_isRound v1 m).bind fun o1 =>
  if s0 = (tk_b o1) then
    if (4 : Int32) ≤ v2 then
      (fM_of0 v1 (v2 - (3 : Int32)) m).bind fun o4 =>
      some (o4, m)
    else
      (fM_of0 v1 v2 m).bind fun o5 =>
      some (o5, m)
  else
    (fM_finds (2 : Int32) m).bind fun o6 =>
    some (o6.1, o6.2)
/-- 3TModel.of(II)I, row 0 -/
def fM_of (a1 : Int32) (a2 : Int32) (m : tk_m) : Option (Int32 × tk_m) :=
  if (fM_isShape a1 m) = true then
    if (fM_in (Int32.toInt64 a2) (0 : Int64) (9 : Int64)) = true then
      if a2 = 0 then
        (fM_kindOf a1 m).bind fun o4 =>
        some (o4, m)
      else
        if a2 ≤ (5 : Int32) then
          if (4 : Int32) ≤ a2 then
            fM_of_61 a1 a2 (0 : Int32) m
          else
            fM_of_61 a1 a2 (1 : Int32) m
        else
          (fM_form a1 (a2 - (6 : Int32)) m).bind fun o7 =>
          some (o7, m)
    else
      (fM_finds (0 : Int32) m).bind fun o8 =>
      some (o8.1, o8.2)
  else
    (fM_finds (0 : Int32) m).bind fun o9 =>
    some (o9.1, o9.2)
def fM_change_97 (v1 : Int32) (v2 : Int32) (v3 : Int32) (s0 : Bool) (m : tk_m) : Option (Int32 × tk_m) :=
  if s0 = true then
    if (4 : Int32) ≤ v2 then
      if tk_ok (((5 : Int32) + ((4 : Int32) * v1)) + (v2 - (3 : Int32))) 29 then
      some (m.1 296 (tk_n (((5 : Int32) + ((4 : Int32) * v1)) + (v2 - (3 : Int32)))), (tk_u2 m.1 296 (tk_n (((5 : Int32) + ((4 : Int32) * v1)) + (v2 - (3 : Int32)))) v3, m.2.1, m.2.2.1, m.2.2.2))
      else none
    else
      if tk_ok (((5 : Int32) + ((4 : Int32) * v1)) + v2) 29 then
      some (m.1 296 (tk_n (((5 : Int32) + ((4 : Int32) * v1)) + v2)), (tk_u2 m.1 296 (tk_n (((5 : Int32) + ((4 : Int32) * v1)) + v2)) v3, m.2.1, m.2.2.1, m.2.2.2))
      else none
  else
    (fM_finds (0 : Int32) m).bind fun o5 =>
    some (o5.1, o5.2)
def fM_change_36 (v1 : Int32) (v2 : Int32) (v3 : Int32) (s0 : Int32) (m : tk_m) : Option (Int32 × tk_m) :=
  (fM_isRound v1 m).bind fun o1 =>
  if s0 = (tk_b o1) then
    if (3 : Int32) ≤ v2 then
      if (5 : Int32) ≤ v2 then
        fM_change_97 v1 v2 v3 (fM_in (Int32.toInt64 v3) (-30 : Int64) (30 : Int64)) m
      else
        fM_change_97 v1 v2 v3 (fM_in (Int32.toInt64 v3) (0 : Int64) (5 : Int64)) m
    else
      fM_change_97 v1 v2 v3 (fM_in (Int32.toInt64 v3) (-5 : Int64) (5 : Int64)) m
  else
    (fM_finds (2 : Int32) m).bind fun o5 =>
    some (o5.1, o5.2)
/-- 3TModel.change(III)I, row 0 -/
def fM_change (a1 : Int32) (a2 : Int32) (a3 : Int32) (m : tk_m) : Option (Int32 × tk_m) :=
  if (fM_isShape a1 m) = true then
    if (fM_in (Int32.toInt64 a2) (1 : Int64) (5 : Int64)) = true then
      if (4 : Int32) ≤ a2 then
        fM_change_36 a1 a2 a3 (0 : Int32) m
      else
        fM_change_36 a1 a2 a3 (1 : Int32) m
    else
      (fM_finds (0 : Int32) m).bind fun o4 =>
      some (o4.1, o4.2)
  else
    (fM_finds (0 : Int32) m).bind fun o5 =>
    some (o5.1, o5.2)
/-- 3TModel.isUnder(II)Z, row 0 -/
def fM_isUnder (a1 : Int32) (a2 : Int32) : Bool :=
  if a2 = 0 then
    true
  else
    if a2 = a1 then
      true
    else
      if a1 = (3 : Int32) then
        if a2 = (1 : Int32) then
          true
        else
          if a1 = (4 : Int32) then
            if a2 = (2 : Int32) then
              true
            else
              false
          else
            false
      else
        if a1 = (4 : Int32) then
          if a2 = (2 : Int32) then
            true
          else
            false
        else
          false
/-- 3TModel.as(II)I, row 0 -/
def fM_as (a1 : Int32) (a2 : Int32) (m : tk_m) : Option (Int32 × tk_m) :=
  if (fM_isShape a1 m) = true then
    if (fM_in (Int32.toInt64 a2) (0 : Int64) (4 : Int64)) = true then
      (fM_kindOf a1 m).bind fun o3 =>
      if (fM_isUnder o3 a2) = true then
        (fM_isRound a1 m).bind fun o5 =>
        if o5 = true then
          (fM_of0 a1 (3 : Int32) m).bind fun o7 =>
          some (o7, m)
        else
          (fM_of0 a1 (2 : Int32) m).bind fun o8 =>
          some (o8, m)
      else
        (fM_finds (2 : Int32) m).bind fun o9 =>
        some (o9.1, o9.2)
    else
      (fM_finds (0 : Int32) m).bind fun o10 =>
      some (o10.1, o10.2)
  else
    (fM_finds (0 : Int32) m).bind fun o11 =>
    some (o11.1, o11.2)

def fM_answers_v_85 (r17 : Int32 → Int32 → tk_m → Option tk_m) (v1 : Int32) (v2 : Int32) (m : tk_m) : Option tk_m :=
  if 0 ≤ v1 then
    (fM_byLine v2 v1 m).bind fun o2 =>
    r17 v1 (v2 + (1 : Int32)) o2
  else
    (fM_byFirst v2 m).bind fun o3 =>
    r17 v1 (v2 + (1 : Int32)) o3
def fM_answers_v_41 (r17 : Int32 → Int32 → tk_m → Option tk_m) : Nat → Int32 → Int32 → Int32 → tk_m → Option tk_m
  | 0, _, _, _, _ => none
  | n + 1, v1, v2, v3, m =>
    if (3 : Int32) ≤ v3 then
      fM_answers_v_85 r17 v1 v2 m
    else
      (fM_three_I v3 m).bind fun o2 =>
      (fM_isRound o2 m).bind fun o3 =>
      if o3 = true then
        if v3 = v1 then
          fM_answers_v_41 r17 n v1 v2 (v3 + (1 : Int32)) m
        else
          (fM_takesRound v2 v3 v1 m).bind fun o6 =>
          fM_answers_v_41 r17 n v1 v2 (v3 + (1 : Int32)) o6
      else
        (fM_takesStraight v2 v3 m).bind fun o7 =>
        fM_answers_v_41 r17 n v1 v2 (v3 + (1 : Int32)) o7
def fM_answers_v_17 : Nat → Int32 → Int32 → tk_m → Option tk_m
  | 0, _, _, _ => none
  | n + 1, v1, v2, m =>
    if (8 : Int32) ≤ v2 then
      some m
    else
      (fM_doCount v2 m).bind fun o2 =>
      if o2 = true then
        fM_answers_v_41 (fM_answers_v_17 n) tk_F v1 v2 (0 : Int32) (tk_u2 m.1 295 16 (0 : Int32), m.2.1, m.2.2.1, m.2.2.2)
      else
        fM_answers_v_17 n v1 (v2 + (1 : Int32)) m
/-- 3TModel.answers()V, row 0 -/
def fM_answers_v (m : tk_m) : Option tk_m :=
  (fM_stays (tk_u2 (tk_u2 m.1 295 10 (0 : Int32)) 295 11 (0 : Int32), m.2.1, m.2.2.1, m.2.2.2)).bind fun o1 =>
  fM_answers_v_17 tk_F o1 (0 : Int32) (tk_u2 (tk_u2 m.1 295 10 (0 : Int32)) 295 11 (0 : Int32), m.2.1, m.2.2.1, m.2.2.2)
def fM_answers_I_64 (v1 : Int32) (v2 : Int32) (m : tk_m) : Option (Int32 × tk_m) :=
  if v1 = 0 then
    some (m.1 295 10, m)
  else
    if v1 = (1 : Int32) then
      some (m.1 295 11, m)
    else
      some (v2, m)
def fM_answers_I_39 : Nat → Int32 → Int32 → Int32 → tk_m → Option (Int32 × tk_m)
  | 0, _, _, _, _ => none
  | n + 1, v1, v2, v3, m =>
    if (m.1 295 10) ≤ v3 then
      fM_answers_I_64 v1 v2 m
    else
      if tk_ok v3 16 then
      fM_answers_I_39 n v1 (v2 ||| (tk_ishl (1 : Int32) (m.1 349 (tk_n v3)))) (v3 + (1 : Int32)) m
      else none
/-- 3TModel.answers(I)I, row 0 -/
def fM_answers_I (a1 : Int32) (m : tk_m) : Option (Int32 × tk_m) :=
  if (fM_in (Int32.toInt64 a1) (0 : Int64) (2 : Int64)) = true then
    if (fM_areThere m) = true then
      (fM_answers_v m).bind fun o3 =>
      fM_answers_I_39 tk_F a1 (0 : Int32) (0 : Int32) o3
    else
      (fM_finds (4 : Int32) m).bind fun o4 =>
      some (o4.1, o4.2)
  else
    (fM_finds (0 : Int32) m).bind fun o5 =>
    some (o5.1, o5.2)
/-- 3TModel.whyNot(I)I, row 0 -/
def fM_whyNot (a1 : Int32) (m : tk_m) : Option (Int32 × tk_m) :=
  if (fM_areThere m) = true then
    (fM_answers_v m).bind fun o2 =>
    if (fM_in (Int32.toInt64 a1) (0 : Int64) (Int32.toInt64 ((o2.1 295 10) - (1 : Int32)))) = true then
      some ((-1 : Int32), o2)
    else
      some ((3 : Int32), o2)
  else
    some ((4 : Int32), m)
/-- 3TModel.signs(I)I, row 0 -/
def fM_signs (a1 : Int32) (m : tk_m) : Option (Int32 × tk_m) :=
  (fM_whyNot a1 m).bind fun o1 =>
  if 0 ≤ o1.1 then
    (fM_finds o1.1 o1.2).bind fun o3 =>
    some (o3.1, o3.2)
  else
    if tk_ok a1 16 then
    some (o1.2.1 349 (tk_n a1), o1.2)
    else none
/-- 3TModel.findsLong(I)J, row 0 -/
def fM_findsLong (a1 : Int32) (m : tk_m) : Option (Int64 × tk_m) :=
  if tk_ok a1 8 then
  some ((-4000000000000000001 : Int64) - (Int32.toInt64 a1), (tk_u2 m.1 306 (tk_n a1) ((m.1 306 (tk_n a1)) + (1 : Int32)), m.2.1, m.2.2.1, m.2.2.2))
  else none
/-- 3TModel.answer(III)J, row 0 -/
def fM_answer (a1 : Int32) (a2 : Int32) (a3 : Int32) (m : tk_m) : Option (Int64 × tk_m) :=
  if (fM_in (Int32.toInt64 a2) (0 : Int64) (2 : Int64)) = true then
    if (fM_in (Int32.toInt64 a3) (0 : Int64) (3 : Int64)) = true then
      (fM_whyNot a1 m).bind fun o3 =>
      if 0 ≤ o3.1 then
        (fM_findsLong o3.1 o3.2).bind fun o5 =>
        some (o5.1, o5.2)
      else
        if tk_ok a1 16 then
        if tk_ok a2 3 then
        if tk_ok a3 4 then
        some (o3.2.2.1 ((351 + 4 * (tk_n a1)) + 1 + (tk_n a2)) (tk_n a3), o3.2)
        else none
        else none
        else none
    else
      (fM_findsLong (0 : Int32) m).bind fun o9 =>
      some (o9.1, o9.2)
  else
    (fM_findsLong (0 : Int32) m).bind fun o10 =>
    some (o10.1, o10.2)
def fM_best_37 : Nat → Int32 → Int32 → Int32 → tk_m → Option (Int32 × tk_m)
  | 0, _, _, _, _ => none
  | n + 1, v1, v3, v4, m =>
    if (m.1 295 10) ≤ v4 then
      some (v3, m)
    else
      if tk_ok v4 16 then
      if tk_ok v3 16 then
      (fM_compares ((351 + 4 * (tk_n v4)) + 1 + 2) ((351 + 4 * (tk_n v3)) + 1 + 2) m).bind fun o4 =>
      if v1 = 0 then
        if o4.1 ≤ 0 then
          fM_best_37 n v1 v3 (v4 + (1 : Int32)) o4.2
        else
          fM_best_37 n v1 v4 (v4 + (1 : Int32)) o4.2
      else
        if 0 ≤ o4.1 then
          fM_best_37 n v1 v3 (v4 + (1 : Int32)) o4.2
        else
          fM_best_37 n v1 v4 (v4 + (1 : Int32)) o4.2
      else none
      else none
/-- 3TModel.best(I)I, row 0 -/
def fM_best (a1 : Int32) (m : tk_m) : Option (Int32 × tk_m) :=
  if (fM_in (Int32.toInt64 a1) (0 : Int64) (1 : Int64)) = true then
    (fM_whyNot (0 : Int32) m).bind fun o2 =>
    if o2.1 < 0 then
      fM_best_37 tk_F a1 (0 : Int32) (1 : Int32) o2.2
    else
      (fM_finds o2.1 o2.2).bind fun o4 =>
      some (o4.1, o4.2)
  else
    (fM_finds (0 : Int32) m).bind fun o5 =>
    some (o5.1, o5.2)
def fM_rank_21 : Nat → Int32 → Int32 → Int32 → tk_m → Option (Int32 × tk_m)
  | 0, _, _, _, _ => none
  | n + 1, v1, v3, v4, m =>
    if (m.1 295 10) ≤ v4 then
      some (v3, m)
    else
      if tk_ok v4 16 then
      if tk_ok v1 16 then
      (fM_compares ((351 + 4 * (tk_n v4)) + 1 + 2) ((351 + 4 * (tk_n v1)) + 1 + 2) m).bind fun o4 =>
      if 0 ≤ o4.1 then
        fM_rank_21 n v1 (v3 + (0 : Int32)) (v4 + (1 : Int32)) o4.2
      else
        fM_rank_21 n v1 (v3 + (1 : Int32)) (v4 + (1 : Int32)) o4.2
      else none
      else none
/-- 3TModel.rank(I)I, row 0 -/
def fM_rank (a1 : Int32) (m : tk_m) : Option (Int32 × tk_m) :=
  (fM_whyNot a1 m).bind fun o1 =>
  if o1.1 < 0 then
    fM_rank_21 tk_F a1 (0 : Int32) (0 : Int32) o1.2
  else
    (fM_finds o1.1 o1.2).bind fun o3 =>
    some (o3.1, o3.2)
/-- 3TModel.adds(IJJZ)I, row 0 -/
def fM_adds (a1 : Int32) (a2 : Int64) (a3 : Int64) (a4 : Int32) (m : tk_m) : Option (Int32 × tk_m) :=
  (fM_timesWide_JJ a2 a3 m).bind fun o1 =>
  if a4 = 0 then
    (fM_plusWide a1 o1.1 o1.2).bind fun o3 =>
    some (o3.1, o3.2)
  else
    (fM_turned o1.1 o1.2).bind fun o4 =>
    (fM_plusWide a1 o4.1 o4.2).bind fun o5 =>
    some (o5.1, o5.2)
/-- 3TModel.touchesRound([JII)Z, row 0 -/
def fM_touchesRound (a1 : Nat) (a2 : Int32) (a3 : Int32) (m : tk_m) : Option (Bool × tk_m) :=
  if tk_ok (0 : Int32) (tk_al a1) then
  (fM_of0 a2 (1 : Int32) m).bind fun o2 =>
  if tk_ok (7 : Int32) (tk_al a1) then
  if tk_ok (1 : Int32) (tk_al a1) then
  (fM_of0 a2 (2 : Int32) m).bind fun o5 =>
  if tk_ok (2 : Int32) (tk_al a1) then
  (fM_of0 a2 (3 : Int32) m).bind fun o7 =>
  (fM_widens (0 : Int64) (tk_u2 m.1 295 9 (0 : Int32), m.2.1, m.2.2.1, m.2.2.2)).bind fun o8 =>
  if tk_ok (3 : Int32) (tk_al a1) then
  (fM_adds o8.1 (o8.2.2.1 a1 (tk_n (3 : Int32))) (o8.2.2.1 a1 (tk_n (3 : Int32))) (0 : Int32) o8.2).bind fun o10 =>
  if tk_ok (4 : Int32) (tk_al a1) then
  (fM_adds o10.1 (o10.2.2.1 a1 (tk_n (4 : Int32))) (o10.2.2.1 a1 (tk_n (4 : Int32))) (0 : Int32) o10.2).bind fun o12 =>
  if tk_ok (5 : Int32) (tk_al a1) then
  (fM_adds o12.1 (o12.2.2.1 a1 (tk_n (5 : Int32))) (o12.2.2.1 a1 (tk_n (5 : Int32))) (1 : Int32) o12.2).bind fun o14 =>
  if tk_ok (6 : Int32) (tk_al a1) then
  (fM_widens (o14.2.2.1 a1 (tk_n (6 : Int32))) o14.2).bind fun o16 =>
  (fM_timesWide_II o14.1 o16.1 o16.2).bind fun o17 =>
  (fM_adds o17.1 ((m.2.1 a1 (tk_n (0 : Int32))) - ((Int32.toInt64 o2) * (m.2.1 a1 (tk_n (7 : Int32))))) ((m.2.1 a1 (tk_n (0 : Int32))) - ((Int32.toInt64 o2) * (m.2.1 a1 (tk_n (7 : Int32))))) (0 : Int32) o17.2).bind fun o18 =>
  (fM_adds o18.1 ((m.2.1 a1 (tk_n (1 : Int32))) - ((Int32.toInt64 o5) * (m.2.1 a1 (tk_n (7 : Int32))))) ((m.2.1 a1 (tk_n (1 : Int32))) - ((Int32.toInt64 o5) * (m.2.1 a1 (tk_n (7 : Int32))))) (0 : Int32) o18.2).bind fun o19 =>
  (fM_adds o19.1 ((m.2.1 a1 (tk_n (2 : Int32))) - ((Int32.toInt64 (a3 * o7)) * (m.2.1 a1 (tk_n (7 : Int32))))) ((m.2.1 a1 (tk_n (2 : Int32))) - ((Int32.toInt64 (a3 * o7)) * (m.2.1 a1 (tk_n (7 : Int32))))) (1 : Int32) o19.2).bind fun o20 =>
  if tk_ok o20.1 40 then
  if (o20.2.1 348 (tk_n o20.1)) = 0 then
    (fM_widens (0 : Int64) (tk_u2 o20.2.1 295 9 (0 : Int32), o20.2.2.1, o20.2.2.2.1, o20.2.2.2.2)).bind fun o23 =>
    (fM_adds o23.1 ((m.2.1 a1 (tk_n (0 : Int32))) - ((Int32.toInt64 o2) * (m.2.1 a1 (tk_n (7 : Int32))))) (o23.2.2.1 a1 (tk_n (3 : Int32))) (0 : Int32) o23.2).bind fun o24 =>
    (fM_adds o24.1 ((m.2.1 a1 (tk_n (1 : Int32))) - ((Int32.toInt64 o5) * (m.2.1 a1 (tk_n (7 : Int32))))) (o24.2.2.1 a1 (tk_n (4 : Int32))) (0 : Int32) o24.2).bind fun o25 =>
    (fM_adds o25.1 ((m.2.1 a1 (tk_n (2 : Int32))) - ((Int32.toInt64 (a3 * o7)) * (m.2.1 a1 (tk_n (7 : Int32))))) (o25.2.2.1 a1 (tk_n (5 : Int32))) (1 : Int32) o25.2).bind fun o26 =>
    if (o26.2.2.1 a1 (tk_n (6 : Int32))) = (0 : Int64) then
      some (true, o26.2)
    else
      if tk_ok o26.1 40 then
      if (o26.2.1 348 (tk_n o26.1)) = 0 then
        some (true, o26.2)
      else
        some (false, o26.2)
      else none
  else
    some (false, o20.2)
  else none
  else none
  else none
  else none
  else none
  else none
  else none
  else none
  else none
/-- 3TModel.touchesStraight([JII)Z, row 0 -/
def fM_touchesStraight (a1 : Nat) (a2 : Int32) (a3 : Int32) (m : tk_m) : Option Bool :=
  (fM_slant 1003 a2 m).bind fun o1 =>
  (fM_slant 1004 a2 m).bind fun o2 =>
  (fM_slant 1005 a2 m).bind fun o3 =>
  if tk_ok (0 : Int32) (tk_al a1) then
  if tk_ok (1 : Int32) (tk_al a1) then
  (fM_of0 a2 (2 : Int32) m).bind fun o6 =>
  if tk_ok (7 : Int32) (tk_al a1) then
  if tk_ok (2 : Int32) (tk_al a1) then
  if ((((Int32.toInt64 o1) * (m.2.1 a1 (tk_n (0 : Int32)))) + ((Int32.toInt64 o2) * (m.2.1 a1 (tk_n (1 : Int32))))) - ((Int32.toInt64 o6) * (m.2.1 a1 (tk_n (7 : Int32))))) = ((Int32.toInt64 (a3 * o3)) * (m.2.1 a1 (tk_n (2 : Int32)))) then
    if tk_ok (3 : Int32) (tk_al a1) then
    if tk_ok (4 : Int32) (tk_al a1) then
    if tk_ok (5 : Int32) (tk_al a1) then
    if (((Int32.toInt64 o1) * (m.2.1 a1 (tk_n (3 : Int32)))) + ((Int32.toInt64 o2) * (m.2.1 a1 (tk_n (4 : Int32))))) = ((Int32.toInt64 (a3 * o3)) * (m.2.1 a1 (tk_n (5 : Int32)))) then
      some true
    else
      some false
    else none
    else none
    else none
  else
    some false
  else none
  else none
  else none
  else none
def fM_touches_82 (v4 : Int32) (m : tk_m) : Option (Int32 × tk_m) :=
  if v4 = (1 : Int32) then
    some ((1 : Int32), m)
  else
    some ((2 : Int32), m)
def fM_touches_33 : Nat → Int32 → Int32 → Int32 → tk_m → Option (Int32 × tk_m)
  | 0, _, _, _, _ => none
  | n + 1, v1, v2, v4, m =>
    if v4 < (-1 : Int32) then
      some ((0 : Int32), m)
    else
      (fM_isRound v2 m).bind fun o2 =>
      if o2 = true then
        if tk_ok v1 16 then
        (fM_touchesRound (416 + (tk_n v1)) v2 v4 m).bind fun o5 =>
        if o5.1 = true then
          fM_touches_82 v4 o5.2
        else
          fM_touches_33 n v1 v2 (v4 + (-2 : Int32)) o5.2
        else none
      else
        if tk_ok v1 16 then
        (fM_touchesStraight (416 + (tk_n v1)) v2 v4 m).bind fun o8 =>
        if o8 = true then
          fM_touches_82 v4 m
        else
          fM_touches_33 n v1 v2 (v4 + (-2 : Int32)) m
        else none
/-- 3TModel.touches(II)I, row 0 -/
def fM_touches (a1 : Int32) (a2 : Int32) (m : tk_m) : Option (Int32 × tk_m) :=
  if (fM_isShape a2 m) = true then
    (fM_whyNot a1 m).bind fun o2 =>
    if o2.1 < 0 then
      fM_touches_33 tk_F a1 a2 (1 : Int32) o2.2
    else
      (fM_finds o2.1 o2.2).bind fun o4 =>
      some (o4.1, o4.2)
  else
    (fM_finds (0 : Int32) m).bind fun o5 =>
    some (o5.1, o5.2)
/-- 3TModel.isSheet(I)Z, row 0 -/
def fM_isSheet (a1 : Int32) : Bool :=
  fM_in (Int32.toInt64 a1) (0 : Int64) (3 : Int64)
/-- 3TModel.cut(IJ)J, row 0 -/
def fM_cut (a1 : Int32) (a2 : Int64) : Int64 :=
  if a1 = 0 then
    Int32.toInt64 (tk_i2b (Int64.toInt32 a2))
  else
    if a1 = (1 : Int32) then
      Int32.toInt64 (Int64.toInt32 a2)
    else
      a2
def fM_lays_50 : Nat → Int32 → Int32 → Int32 → Int32 → tk_m → Option (Int32 × tk_m)
  | 0, _, _, _, _, _ => none
  | n + 1, v1, v2, v3, v4, m =>
    if v3 ≤ v4 then
      some (v3, m)
    else
      if tk_ok v1 4 then
      (fM_form v2 v4 m).bind fun o3 =>
      if tk_ok v4 40 then
      fM_lays_50 n v1 v2 v3 (v4 + (1 : Int32)) (m.1, tk_u2 m.2.1 (445 + (tk_n v1)) (tk_n v4) (fM_cut (m.1 442 (tk_n v1)) (Int32.toInt64 o3)), m.2.2.1, m.2.2.2)
      else none
      else none
/-- 3TModel.lays(II)I, row 0 -/
def fM_lays (a1 : Int32) (a2 : Int32) (m : tk_m) : Option (Int32 × tk_m) :=
  if (fM_isSheet a1) = true then
    if (fM_isShape a2 m) = true then
      if tk_ok a1 4 then
      if 0 ≤ (m.1 442 (tk_n a1)) then
        fM_lays_50 tk_F a1 a2 (fZ_min_I (4 : Int32) (m.1 443 (tk_n a1))) (0 : Int32) m
      else
        (fM_finds (5 : Int32) m).bind fun o5 =>
        some (o5.1, o5.2)
      else none
    else
      (fM_finds (0 : Int32) m).bind fun o6 =>
      some (o6.1, o6.2)
  else
    (fM_finds (0 : Int32) m).bind fun o7 =>
    some (o7.1, o7.2)
def fM_times_32 (v1 : Int64) (v3 : Int64) (v5 : Int64) (s0 : Bool) (m : tk_m) : Option (Int64 × tk_m) :=
  if v1 = 0 then none else
  if (v5 / v1) = v3 then
    some (v5, (m.1, m.2.1, tk_u2 m.2.2.1 295 4 (s0 || false), m.2.2.2))
  else
    some (v5, (m.1, m.2.1, tk_u2 m.2.2.1 295 4 (s0 || true), m.2.2.2))
/-- 3TModel.times(JJ)J, row 0 -/
def fM_times (a1 : Int64) (a2 : Int64) (m : tk_m) : Option (Int64 × tk_m) :=
  if a1 = (0 : Int64) then
    some (a1 * a2, (m.1, m.2.1, tk_u2 m.2.2.1 295 4 ((m.2.2.1 295 4) || false), m.2.2.2))
  else
    if a1 = (-1 : Int64) then
      if a2 = (-9223372036854775808 : Int64) then
        some (a1 * a2, (m.1, m.2.1, tk_u2 m.2.2.1 295 4 ((m.2.2.1 295 4) || true), m.2.2.2))
      else
        fM_times_32 a1 a2 (a1 * a2) (m.2.2.1 295 4) m
    else
      fM_times_32 a1 a2 (a1 * a2) (m.2.2.1 295 4) m
/-- 3TModel.plus(JJ)J, row 0 -/
def fM_plus (a1 : Int64) (a2 : Int64) (m : tk_m) : Int64 × tk_m :=
  if (0 : Int64) ≤ ((a1 ^^^ (a1 + a2)) &&& (a2 ^^^ (a1 + a2))) then
    (a1 + a2, (m.1, m.2.1, tk_u2 m.2.2.1 295 4 ((m.2.2.1 295 4) || false), m.2.2.2))
  else
    (a1 + a2, (m.1, m.2.1, tk_u2 m.2.2.1 295 4 ((m.2.2.1 295 4) || true), m.2.2.2))
/-- 3TModel.minus(JJ)J, row 0 -/
def fM_minus (a1 : Int64) (a2 : Int64) (m : tk_m) : Int64 × tk_m :=
  if (0 : Int64) ≤ ((a1 ^^^ a2) &&& (a1 ^^^ (a1 - a2))) then
    (a1 - a2, (m.1, m.2.1, tk_u2 m.2.2.1 295 4 ((m.2.2.1 295 4) || false), m.2.2.2))
  else
    (a1 - a2, (m.1, m.2.1, tk_u2 m.2.2.1 295 4 ((m.2.2.1 295 4) || true), m.2.2.2))
/-- 3TModel.inverts([JJJJ)V, row 0 -/
def fM_inverts (a1 : Nat) (a2 : Int64) (a3 : Int64) (a4 : Int64) (m : tk_m) : Option tk_m :=
  if tk_ok (0 : Int32) (tk_al a1) then
  if tk_ok (1 : Int32) (tk_al a1) then
  (fM_times (2 : Int64) (m.2.1 a1 (tk_n (0 : Int32))) m).bind fun o3 =>
  (fM_times o3.1 a2 o3.2).bind fun o4 =>
  tk_let (fM_plus (m.2.1 a1 (tk_n (1 : Int32))) o4.1 o4.2) fun o5 =>
  if tk_ok (2 : Int32) (tk_al a1) then
  (fM_times (2 : Int64) (m.2.1 a1 (tk_n (0 : Int32))) o5.2).bind fun o7 =>
  (fM_times o7.1 a3 o7.2).bind fun o8 =>
  tk_let (fM_plus (o5.2.2.1 a1 (tk_n (2 : Int32))) o8.1 o8.2) fun o9 =>
  (fM_times (m.2.1 a1 (tk_n (0 : Int32))) ((a2 * a2) + (a3 * a3)) o9.2).bind fun o10 =>
  (fM_times (o10.2.2.1 a1 (tk_n (1 : Int32))) a2 o10.2).bind fun o11 =>
  tk_let (fM_plus o10.1 o11.1 o11.2) fun o12 =>
  (fM_times (o12.2.2.1 a1 (tk_n (2 : Int32))) a3 o12.2).bind fun o13 =>
  tk_let (fM_plus o12.1 o13.1 o13.2) fun o14 =>
  if tk_ok (3 : Int32) (tk_al a1) then
  tk_let (fM_plus o14.1 (o14.2.2.1 a1 (tk_n (3 : Int32))) o14.2) fun o16 =>
  (fM_times a4 o5.1 (o16.2.1, tk_u2 o16.2.2.1 449 0 o16.1, o16.2.2.2.1, o16.2.2.2.2)).bind fun o17 =>
  (fM_times (2 : Int64) o16.1 o17.2).bind fun o18 =>
  (fM_times o18.1 a2 o18.2).bind fun o19 =>
  tk_let (fM_minus o17.1 o19.1 o19.2) fun o20 =>
  (fM_times a4 o9.1 (o20.2.1, tk_u2 o20.2.2.1 449 1 o20.1, o20.2.2.2.1, o20.2.2.2.2)).bind fun o21 =>
  (fM_times (2 : Int64) o16.1 o21.2).bind fun o22 =>
  (fM_times o22.1 a3 o22.2).bind fun o23 =>
  tk_let (fM_minus o21.1 o23.1 o23.2) fun o24 =>
  (fM_times o16.1 ((a2 * a2) + (a3 * a3)) (o24.2.1, tk_u2 o24.2.2.1 449 2 o24.1, o24.2.2.2.1, o24.2.2.2.2)).bind fun o25 =>
  (fM_times a4 o5.1 o25.2).bind fun o26 =>
  (fM_times o26.1 a2 o26.2).bind fun o27 =>
  tk_let (fM_minus o25.1 o27.1 o27.2) fun o28 =>
  (fM_times a4 o9.1 o28.2).bind fun o29 =>
  (fM_times o29.1 a3 o29.2).bind fun o30 =>
  tk_let (fM_minus o28.1 o30.1 o30.2) fun o31 =>
  (fM_times (a4 * a4) (m.2.1 a1 (tk_n (0 : Int32))) o31.2).bind fun o32 =>
  tk_let (fM_plus o31.1 o32.1 o32.2) fun o33 =>
  some (o33.2.1, tk_u2 o33.2.2.1 449 3 o33.1, o33.2.2.2.1, o33.2.2.2.2)
  else none
  else none
  else none
  else none
def fM_laysLowest_71 : Nat → Int64 → Int32 → tk_m → Option tk_m
  | 0, _, _, _ => none
  | n + 1, v1, v4, m =>
    if (4 : Int32) ≤ v4 then
      some m
    else
      if tk_ok v4 4 then
      (fM_by (m.2.1 449 (tk_n v4)) v1 m).bind fun o3 =>
      fM_laysLowest_71 n v1 (v4 + (1 : Int32)) (o3.2.1, tk_u2 o3.2.2.1 449 (tk_n v4) o3.1, o3.2.2.2.1, o3.2.2.2.2)
      else none
def fM_laysLowest_49 (v1 : Int64) (v3 : Int32) (m : tk_m) : Option tk_m :=
  if 0 ≤ v3 then
    if tk_ok v3 4 then
    if (m.2.1 449 (tk_n v3)) ≤ (0 : Int64) then
      fM_laysLowest_71 tk_F v1 (0 : Int32) m
    else
      fM_laysLowest_71 tk_F (-v1) (0 : Int32) m
    else none
  else
    some m
def fM_laysLowest_7 : Nat → Int64 → Int32 → Int32 → tk_m → Option tk_m
  | 0, _, _, _, _ => none
  | n + 1, v1, v3, v4, m =>
    if v4 < 0 then
      fM_laysLowest_49 v1 v3 m
    else
      if tk_ok v4 4 then
      (fM_below v1 (m.2.1 449 (tk_n v4))).bind fun o3 =>
      if (m.2.1 449 (tk_n v4)) = (0 : Int64) then
        fM_laysLowest_7 n o3 v3 (v4 + (-1 : Int32)) m
      else
        fM_laysLowest_7 n o3 v4 (v4 + (-1 : Int32)) m
      else none
/-- 3TModel.laysLowest()V, row 0 -/
def fM_laysLowest (m : tk_m) : Option tk_m :=
  fM_laysLowest_7 tk_F (0 : Int64) (-1 : Int32) (3 : Int32) m
def fM_invert_252 : Nat → Int32 → Int32 → tk_m → Option (Int32 × tk_m)
  | 0, _, _, _ => none
  | n + 1, v1, v6, m =>
    if (4 : Int32) ≤ v6 then
      some ((1 : Int32), m)
    else
      if tk_ok v1 4 then
      if tk_ok v6 4 then
      if tk_ok v6 40 then
      fM_invert_252 n v1 (v6 + (1 : Int32)) (m.1, tk_u2 m.2.1 (445 + (tk_n v1)) (tk_n v6) (m.2.1 449 (tk_n v6)), m.2.2.1, m.2.2.2)
      else none
      else none
      else none
def fM_invert_235 (v1 : Int32) (m : tk_m) : Option (Int32 × tk_m) :=
  if (m.2.2.1 295 4) = true then
    (fM_finds (7 : Int32) m).bind fun o2 =>
    some (o2.1, o2.2)
  else
    fM_invert_252 tk_F v1 (0 : Int32) m
def fM_invert_182 : Nat → Int32 → Int32 → tk_m → Option (Int32 × tk_m)
  | 0, _, _, _ => none
  | n + 1, v1, v6, m =>
    if (4 : Int32) ≤ v6 then
      fM_invert_235 v1 m
    else
      if tk_ok v1 4 then
      if tk_ok v6 4 then
      if (fM_cut (m.1 442 (tk_n v1)) (m.2.1 449 (tk_n v6))) = (m.2.1 449 (tk_n v6)) then
        fM_invert_182 n v1 (v6 + (1 : Int32)) (m.1, m.2.1, tk_u2 m.2.2.1 295 4 ((m.2.2.1 295 4) || false), m.2.2.2)
      else
        fM_invert_182 n v1 (v6 + (1 : Int32)) (m.1, m.2.1, tk_u2 m.2.2.1 295 4 ((m.2.2.1 295 4) || true), m.2.2.2)
      else none
      else none
def fM_invert_128 (v1 : Int32) (v2 : Int32) (v3 : Int32) (v4 : Int32) (v5 : Int32) (m : tk_m) : Option (Int32 × tk_m) :=
  if v5 = 0 then
    if tk_ok v1 4 then
    (fM_inverts (445 + (tk_n v1)) (Int32.toInt64 v2) (Int32.toInt64 v3) (Int32.toInt64 v4) (m.1, m.2.1, tk_u2 m.2.2.1 295 4 false, m.2.2.2)).bind fun o3 =>
    if (o3.2.2.1 295 4) = true then
      (fM_finds (7 : Int32) o3).bind fun o5 =>
      some (o5.1, o5.2)
    else
      (fM_laysLowest o3).bind fun o6 =>
      fM_invert_182 tk_F v1 (0 : Int32) o6
    else none
  else
    (fM_finds (4 : Int32) m).bind fun o7 =>
    some (o7.1, o7.2)
def fM_invert_92 : Nat → Int32 → Int32 → Int32 → Int32 → Int32 → Int32 → tk_m → Option (Int32 × tk_m)
  | 0, _, _, _, _, _, _, _ => none
  | n + 1, v1, v2, v3, v4, v5, v6, m =>
    if (4 : Int32) ≤ v6 then
      fM_invert_128 v1 v2 v3 v4 v5 m
    else
      if tk_ok v1 4 then
      if tk_ok v6 40 then
      if (m.2.1 (445 + (tk_n v1)) (tk_n v6)) = (0 : Int64) then
        fM_invert_92 n v1 v2 v3 v4 (v5 &&& (1 : Int32)) (v6 + (1 : Int32)) m
      else
        fM_invert_92 n v1 v2 v3 v4 (v5 &&& (0 : Int32)) (v6 + (1 : Int32)) m
      else none
      else none
/-- 3TModel.invert(IIII)I, row 0 -/
def fM_invert (a1 : Int32) (a2 : Int32) (a3 : Int32) (a4 : Int32) (m : tk_m) : Option (Int32 × tk_m) :=
  if (fM_isSheet a1) = true then
    if (fM_in (Int32.toInt64 a2) (-9 : Int64) (9 : Int64)) = true then
      if (fM_in (Int32.toInt64 a3) (-9 : Int64) (9 : Int64)) = true then
        if (fM_in (Int32.toInt64 a4) (1 : Int64) (99 : Int64)) = true then
          if tk_ok a1 4 then
          if 0 ≤ (m.1 442 (tk_n a1)) then
            if (4 : Int32) ≤ (m.1 443 (tk_n a1)) then
              fM_invert_92 tk_F a1 a2 a3 a4 (1 : Int32) (0 : Int32) m
            else
              (fM_finds (6 : Int32) m).bind fun o8 =>
              some (o8.1, o8.2)
          else
            (fM_finds (5 : Int32) m).bind fun o9 =>
            some (o9.1, o9.2)
          else none
        else
          (fM_finds (0 : Int32) m).bind fun o10 =>
          some (o10.1, o10.2)
      else
        (fM_finds (0 : Int32) m).bind fun o11 =>
        some (o11.1, o11.2)
    else
      (fM_finds (0 : Int32) m).bind fun o12 =>
      some (o12.1, o12.2)
  else
    (fM_finds (0 : Int32) m).bind fun o13 =>
    some (o13.1, o13.2)
/-- 3TModel.tell(I)I, row 0 -/
def fM_tell (a1 : Int32) (m : tk_m) : Option (Int32 × tk_m) :=
  if (fM_isSheet a1) = true then
    if tk_ok a1 4 then
    if 0 ≤ (m.1 442 (tk_n a1)) then
      if (4 : Int32) ≤ (m.1 443 (tk_n a1)) then
        if (m.2.1 (445 + (tk_n a1)) 0) = (0 : Int64) then
          if (m.2.1 (445 + (tk_n a1)) 1) = (0 : Int64) then
            if (m.2.1 (445 + (tk_n a1)) 2) = (0 : Int64) then
              some ((0 : Int32), m)
            else
              some ((2 : Int32), m)
          else
            some ((2 : Int32), m)
        else
          (fM_widens (4 : Int64) (tk_u2 m.1 295 9 (0 : Int32), m.2.1, m.2.2.1, m.2.2.2)).bind fun o8 =>
          (fM_timesWide_JJ (o8.2.2.1 (445 + (tk_n a1)) 0) (o8.2.2.1 (445 + (tk_n a1)) 3) o8.2).bind fun o9 =>
          (fM_timesWide_II o8.1 o9.1 o9.2).bind fun o10 =>
          (fM_timesWide_JJ (o10.2.2.1 (445 + (tk_n a1)) 1) (o10.2.2.1 (445 + (tk_n a1)) 1) o10.2).bind fun o11 =>
          (fM_timesWide_JJ (o11.2.2.1 (445 + (tk_n a1)) 2) (o11.2.2.1 (445 + (tk_n a1)) 2) o11.2).bind fun o12 =>
          (fM_plusWide o11.1 o12.1 o12.2).bind fun o13 =>
          (fM_turned o10.1 o13.2).bind fun o14 =>
          (fM_plusWide o13.1 o14.1 o14.2).bind fun o15 =>
          if tk_ok o15.1 40 then
          if (o15.2.1 348 (tk_n o15.1)) ≤ 0 then
            if (o15.2.1 348 (tk_n o15.1)) = 0 then
              some ((3 : Int32), o15.2)
            else
              some ((0 : Int32), o15.2)
          else
            some ((1 : Int32), o15.2)
          else none
      else
        (fM_finds (6 : Int32) m).bind fun o19 =>
        some (o19.1, o19.2)
    else
      (fM_finds (5 : Int32) m).bind fun o20 =>
      some (o20.1, o20.2)
    else none
  else
    (fM_finds (0 : Int32) m).bind fun o21 =>
    some (o21.1, o21.2)
/-- 3TModel.isSpot(I)Z, row 0 -/
def fM_isSpot (a1 : Int32) : Bool :=
  fM_in (Int32.toInt64 a1) (0 : Int64) (5 : Int64)
def fM_keeps_9 : Nat → Int32 → Nat → Int32 → tk_m → Option tk_m
  | 0, _, _, _, _ => none
  | n + 1, v1, v2, v3, m =>
    if (4 : Int32) ≤ v3 then
      some m
    else
      if tk_ok v1 6 then
      if tk_ok v3 (tk_al v2) then
      if tk_ok v3 4 then
      fM_keeps_9 n v1 v2 (v3 + (1 : Int32)) (m.1, tk_u2 m.2.1 (452 + (tk_n v1)) (tk_n v3) (m.2.1 v2 (tk_n v3)), m.2.2.1, m.2.2.2)
      else none
      else none
      else none
/-- 3TModel.keeps(I[J)V, row 0 -/
def fM_keeps (a1 : Int32) (a2 : Nat) (m : tk_m) : Option tk_m :=
  if tk_ok a1 6 then
  fM_keeps_9 tk_F a1 a2 (0 : Int32) (m.1, m.2.1, tk_u2 m.2.2.1 450 (tk_n a1) true, m.2.2.2)
  else none
/-- 3TModel.put(III)I, row 0 -/
def fM_put (a1 : Int32) (a2 : Int32) (a3 : Int32) (m : tk_m) : Option (Int32 × tk_m) :=
  if (fM_isSpot a1) = true then
    if (fM_in (Int32.toInt64 a3) (0 : Int64) (2 : Int64)) = true then
      (fM_whyNot a2 m).bind fun o3 =>
      if o3.1 < 0 then
        if tk_ok a2 16 then
        if tk_ok a3 3 then
        (fM_keeps a1 ((351 + 4 * (tk_n a2)) + 1 + (tk_n a3)) o3.2).bind fun o7 =>
        some ((1 : Int32), o7)
        else none
        else none
      else
        (fM_finds o3.1 o3.2).bind fun o8 =>
        some (o8.1, o8.2)
    else
      (fM_finds (0 : Int32) m).bind fun o9 =>
      some (o9.1, o9.2)
  else
    (fM_finds (0 : Int32) m).bind fun o10 =>
    some (o10.1, o10.2)
/-- 3TModel.ratio(III)I, row 0 -/
def fM_ratio (a1 : Int32) (a2 : Int32) (a3 : Int32) (m : tk_m) : Option (Int32 × tk_m) :=
  if (fM_isSpot a1) = true then
    if a3 = 0 then
      (fM_finds (0 : Int32) m).bind fun o3 =>
      some (o3.1, o3.2)
    else
      if (fM_in (Int32.toInt64 a2) (-1000000 : Int64) (1000000 : Int64)) = true then
        if (fM_in (Int32.toInt64 a3) (-1000000 : Int64) (1000000 : Int64)) = true then
          (fM_lowest (Int32.toInt64 a2) (0 : Int64) (0 : Int64) (Int32.toInt64 a3) 458 m).bind fun o6 =>
          (fM_keeps a1 458 o6).bind fun o7 =>
          some ((1 : Int32), o7)
        else
          (fM_finds (0 : Int32) m).bind fun o8 =>
          some (o8.1, o8.2)
      else
        (fM_finds (0 : Int32) m).bind fun o9 =>
        some (o9.1, o9.2)
  else
    (fM_finds (0 : Int32) m).bind fun o10 =>
    some (o10.1, o10.2)
def fM_root_87 (v1 : Int32) (v3 : Int32) (s0 : Int64) (s1 : Int64) (m : tk_m) : Option (Int32 × tk_m) :=
  if v3 = 0 then
    (fM_lowest s1 s0 (m.2.1 295 6) (1 : Int64) 458 m).bind fun o2 =>
    (fM_keeps v1 458 o2).bind fun o3 =>
    some ((1 : Int32), o3)
  else
    (fM_lowest s1 s0 (0 : Int64) (1 : Int64) 458 m).bind fun o4 =>
    (fM_keeps v1 458 o4).bind fun o5 =>
    some ((1 : Int32), o5)
def fM_root_53 (v1 : Int32) (v2 : Int32) (s0 : Int32) (m : tk_m) : Option (Int32 × tk_m) :=
  if v2 = 0 then
    if s0 = 0 then
      fM_root_87 v1 s0 (m.2.1 295 5) (0 : Int64) m
    else
      fM_root_87 v1 s0 (0 : Int64) (0 : Int64) m
  else
    if s0 = 0 then
      fM_root_87 v1 s0 (m.2.1 295 5) (0 : Int64) m
    else
      fM_root_87 v1 s0 (0 : Int64) (m.2.1 295 5) m
def fM_root_35 (v1 : Int32) (v2 : Int32) (m : tk_m) : Option (Int32 × tk_m) :=
  if v2 = 0 then
    fM_root_53 v1 v2 (1 : Int32) m
  else
    if (m.2.1 295 6) = (1 : Int64) then
      fM_root_53 v1 v2 (1 : Int32) m
    else
      fM_root_53 v1 v2 (0 : Int32) m
/-- 3TModel.root(II)I, row 0 -/
def fM_root (a1 : Int32) (a2 : Int32) (m : tk_m) : Option (Int32 × tk_m) :=
  if (fM_isSpot a1) = true then
    if (fM_in (Int32.toInt64 a2) (0 : Int64) (1000000 : Int64)) = true then
      if a2 ≤ 0 then
        fM_root_35 a1 a2 m
      else
        (fM_parts (Int32.toInt64 a2) m).bind fun o4 =>
        fM_root_35 a1 a2 o4
    else
      (fM_finds (0 : Int32) m).bind fun o5 =>
      some (o5.1, o5.2)
  else
    (fM_finds (0 : Int32) m).bind fun o6 =>
    some (o6.1, o6.2)
def fM_works_137 (v1 : Nat) (v2 : Nat) (s0 : Int64) (s1 : Int32) (m : tk_m) : Option tk_m :=
  if tk_ok s1 4 then
  if tk_ok (3 : Int32) (tk_al v1) then
  if tk_ok (3 : Int32) (tk_al v2) then
  (fM_times (tk_u2 m.2.1 458 (tk_n s1) s0 v1 (tk_n (3 : Int32))) (tk_u2 m.2.1 458 (tk_n s1) s0 v2 (tk_n (3 : Int32))) (m.1, tk_u2 m.2.1 458 (tk_n s1) s0, m.2.2.1, m.2.2.2)).bind fun o4 =>
  some (o4.2.1, tk_u2 o4.2.2.1 458 3 o4.1, o4.2.2.2.1, o4.2.2.2.2)
  else none
  else none
  else none
def fM_works_108 (v1 : Nat) (v2 : Nat) (v3 : Int32) (v10 : Int64) (v12 : Int64) (s0 : Int64) (s1 : Int32) (m : tk_m) : Option tk_m :=
  if tk_ok s1 4 then
  if v3 = 0 then
    tk_let (fM_plus v10 v12 (m.1, tk_u2 m.2.1 458 (tk_n s1) s0, m.2.2.1, m.2.2.2)) fun o3 =>
    fM_works_137 v1 v2 o3.1 (1 : Int32) o3.2
  else
    tk_let (fM_minus v10 v12 (m.1, tk_u2 m.2.1 458 (tk_n s1) s0, m.2.2.1, m.2.2.2)) fun o4 =>
    fM_works_137 v1 v2 o4.1 (1 : Int32) o4.2
  else none
def fM_works_17 (v1 : Nat) (v2 : Nat) (v3 : Int32) (s0 : Int64) (m : tk_m) : Option tk_m :=
  if (2 : Int32) ≤ v3 then
    if v3 = (2 : Int32) then
      if tk_ok (0 : Int32) (tk_al v1) then
      if tk_ok (0 : Int32) (tk_al v2) then
      (fM_times (tk_u2 m.2.1 458 2 s0 v1 (tk_n (0 : Int32))) (tk_u2 m.2.1 458 2 s0 v2 (tk_n (0 : Int32))) (m.1, tk_u2 m.2.1 458 2 s0, m.2.2.1, m.2.2.2)).bind fun o5 =>
      if tk_ok (1 : Int32) (tk_al v1) then
      if tk_ok (1 : Int32) (tk_al v2) then
      (fM_times (o5.2.2.1 v1 (tk_n (1 : Int32))) (o5.2.2.1 v2 (tk_n (1 : Int32))) o5.2).bind fun o8 =>
      (fM_times o8.1 s0 o8.2).bind fun o9 =>
      tk_let (fM_plus o5.1 o9.1 o9.2) fun o10 =>
      (fM_times (tk_u2 o10.2.2.1 458 0 o10.1 v1 (tk_n (0 : Int32))) (tk_u2 o10.2.2.1 458 0 o10.1 v2 (tk_n (1 : Int32))) (o10.2.1, tk_u2 o10.2.2.1 458 0 o10.1, o10.2.2.2.1, o10.2.2.2.2)).bind fun o11 =>
      (fM_times (o11.2.2.1 v1 (tk_n (1 : Int32))) (o11.2.2.1 v2 (tk_n (0 : Int32))) o11.2).bind fun o12 =>
      tk_let (fM_plus o11.1 o12.1 o12.2) fun o13 =>
      if tk_ok (3 : Int32) (tk_al v1) then
      if tk_ok (3 : Int32) (tk_al v2) then
      (fM_times (tk_u2 o13.2.2.1 458 1 o13.1 v1 (tk_n (3 : Int32))) (tk_u2 o13.2.2.1 458 1 o13.1 v2 (tk_n (3 : Int32))) (o13.2.1, tk_u2 o13.2.2.1 458 1 o13.1, o13.2.2.2.1, o13.2.2.2.2)).bind fun o16 =>
      some (o16.2.1, tk_u2 o16.2.2.1 458 3 o16.1, o16.2.2.2.1, o16.2.2.2.2)
      else none
      else none
      else none
      else none
      else none
      else none
    else
      if tk_ok (0 : Int32) (tk_al v1) then
      if tk_ok (0 : Int32) (tk_al v2) then
      (fM_times (tk_u2 m.2.1 458 2 s0 v1 (tk_n (0 : Int32))) (tk_u2 m.2.1 458 2 s0 v2 (tk_n (0 : Int32))) (m.1, tk_u2 m.2.1 458 2 s0, m.2.2.1, m.2.2.2)).bind fun o19 =>
      if tk_ok (1 : Int32) (tk_al v1) then
      if tk_ok (1 : Int32) (tk_al v2) then
      (fM_times (o19.2.2.1 v1 (tk_n (1 : Int32))) (o19.2.2.1 v2 (tk_n (1 : Int32))) o19.2).bind fun o22 =>
      (fM_times o22.1 s0 o22.2).bind fun o23 =>
      tk_let (fM_minus o19.1 o23.1 o23.2) fun o24 =>
      if tk_ok (3 : Int32) (tk_al v2) then
      (fM_times o24.1 (o24.2.2.1 v2 (tk_n (3 : Int32))) o24.2).bind fun o26 =>
      (fM_times (tk_u2 o26.2.2.1 458 0 o26.1 v1 (tk_n (1 : Int32))) (tk_u2 o26.2.2.1 458 0 o26.1 v2 (tk_n (0 : Int32))) (o26.2.1, tk_u2 o26.2.2.1 458 0 o26.1, o26.2.2.2.1, o26.2.2.2.2)).bind fun o27 =>
      (fM_times (o27.2.2.1 v1 (tk_n (0 : Int32))) (o27.2.2.1 v2 (tk_n (1 : Int32))) o27.2).bind fun o28 =>
      tk_let (fM_minus o27.1 o28.1 o28.2) fun o29 =>
      (fM_times o29.1 (o29.2.2.1 v2 (tk_n (3 : Int32))) o29.2).bind fun o30 =>
      if tk_ok (3 : Int32) (tk_al v1) then
      (fM_times (tk_u2 o30.2.2.1 458 1 o30.1 v2 (tk_n (0 : Int32))) (tk_u2 o30.2.2.1 458 1 o30.1 v2 (tk_n (0 : Int32))) (o30.2.1, tk_u2 o30.2.2.1 458 1 o30.1, o30.2.2.2.1, o30.2.2.2.2)).bind fun o32 =>
      (fM_times (o32.2.2.1 v2 (tk_n (1 : Int32))) (o32.2.2.1 v2 (tk_n (1 : Int32))) o32.2).bind fun o33 =>
      (fM_times o33.1 s0 o33.2).bind fun o34 =>
      tk_let (fM_minus o32.1 o34.1 o34.2) fun o35 =>
      (fM_times (tk_u2 o30.2.2.1 458 1 o30.1 v1 (tk_n (3 : Int32))) o35.1 o35.2).bind fun o36 =>
      some (o36.2.1, tk_u2 o36.2.2.1 458 3 o36.1, o36.2.2.2.1, o36.2.2.2.2)
      else none
      else none
      else none
      else none
      else none
      else none
  else
    if tk_ok (0 : Int32) (tk_al v1) then
    if tk_ok (3 : Int32) (tk_al v2) then
    (fM_times (tk_u2 m.2.1 458 2 s0 v1 (tk_n (0 : Int32))) (tk_u2 m.2.1 458 2 s0 v2 (tk_n (3 : Int32))) (m.1, tk_u2 m.2.1 458 2 s0, m.2.2.1, m.2.2.2)).bind fun o39 =>
    if tk_ok (0 : Int32) (tk_al v2) then
    if tk_ok (3 : Int32) (tk_al v1) then
    (fM_times (o39.2.2.1 v2 (tk_n (0 : Int32))) (o39.2.2.1 v1 (tk_n (3 : Int32))) o39.2).bind fun o42 =>
    if tk_ok (1 : Int32) (tk_al v1) then
    (fM_times (o42.2.2.1 v1 (tk_n (1 : Int32))) (o42.2.2.1 v2 (tk_n (3 : Int32))) o42.2).bind fun o44 =>
    if tk_ok (1 : Int32) (tk_al v2) then
    (fM_times (o44.2.2.1 v2 (tk_n (1 : Int32))) (o44.2.2.1 v1 (tk_n (3 : Int32))) o44.2).bind fun o46 =>
    if v3 = 0 then
      tk_let (fM_plus o39.1 o42.1 o46.2) fun o48 =>
      fM_works_108 v1 v2 v3 o44.1 o46.1 o48.1 (0 : Int32) o48.2
    else
      tk_let (fM_minus o39.1 o42.1 o46.2) fun o49 =>
      fM_works_108 v1 v2 v3 o44.1 o46.1 o49.1 (0 : Int32) o49.2
    else none
    else none
    else none
    else none
    else none
    else none
/-- 3TModel.works([J[JI)V, row 0 -/
def fM_works (a1 : Nat) (a2 : Nat) (a3 : Int32) (m : tk_m) : Option tk_m :=
  if tk_ok (1 : Int32) (tk_al a1) then
  if (m.2.1 a1 (tk_n (1 : Int32))) = (0 : Int64) then
    if tk_ok (2 : Int32) (tk_al a2) then
    fM_works_17 a1 a2 a3 (m.2.1 a2 (tk_n (2 : Int32))) m
    else none
  else
    if tk_ok (2 : Int32) (tk_al a1) then
    fM_works_17 a1 a2 a3 (m.2.1 a1 (tk_n (2 : Int32))) m
    else none
  else none
def fM_work_146 (v1 : Int32) (v4 : Int32) (v5 : Nat) (v6 : Nat) (m : tk_m) : Option (Int32 × tk_m) :=
  (fM_works v5 v6 v4 (m.1, m.2.1, tk_u2 m.2.2.1 295 4 false, m.2.2.2)).bind fun o1 =>
  if (o1.2.2.1 295 4) = true then
    (fM_finds (7 : Int32) o1).bind fun o3 =>
    some (o3.1, o3.2)
  else
    (fM_lowest (o1.2.1 458 0) (o1.2.1 458 1) (o1.2.1 458 2) (o1.2.1 458 3) 458 o1).bind fun o4 =>
    if (o4.2.2.1 295 4) = true then
      (fM_finds (7 : Int32) o4).bind fun o6 =>
      some (o6.1, o6.2)
    else
      (fM_keeps v1 458 o4).bind fun o7 =>
      some ((1 : Int32), o7)
def fM_work_116 (v1 : Int32) (v4 : Int32) (v5 : Nat) (v6 : Nat) (m : tk_m) : Option (Int32 × tk_m) :=
  if v4 = (3 : Int32) then
    if (m.2.1 v6 0) = (0 : Int64) then
      if (m.2.1 v6 1) = (0 : Int64) then
        (fM_finds (4 : Int32) m).bind fun o4 =>
        some (o4.1, o4.2)
      else
        fM_work_146 v1 v4 v5 v6 m
    else
      fM_work_146 v1 v4 v5 v6 m
  else
    fM_work_146 v1 v4 v5 v6 m
/-- 3TModel.work(IIII)I, row 0 -/
def fM_work (a1 : Int32) (a2 : Int32) (a3 : Int32) (a4 : Int32) (m : tk_m) : Option (Int32 × tk_m) :=
  if (fM_isSpot a1) = true then
    if (fM_isSpot a2) = true then
      if (fM_isSpot a3) = true then
        if (fM_in (Int32.toInt64 a4) (0 : Int64) (3 : Int64)) = true then
          if tk_ok a2 6 then
          if (m.2.2.1 450 (tk_n a2)) = true then
            if tk_ok a3 6 then
            if (m.2.2.1 450 (tk_n a3)) = true then
              if (m.2.1 (452 + (tk_n a2)) 1) = (0 : Int64) then
                fM_work_116 a1 a4 (452 + (tk_n a2)) (452 + (tk_n a3)) m
              else
                if (m.2.1 (452 + (tk_n a3)) 1) = (0 : Int64) then
                  fM_work_116 a1 a4 (452 + (tk_n a2)) (452 + (tk_n a3)) m
                else
                  if (m.2.1 (452 + (tk_n a2)) 2) = (m.2.1 (452 + (tk_n a3)) 2) then
                    fM_work_116 a1 a4 (452 + (tk_n a2)) (452 + (tk_n a3)) m
                  else
                    (fM_finds (2 : Int32) m).bind fun o12 =>
                    some (o12.1, o12.2)
            else
              (fM_finds (5 : Int32) m).bind fun o13 =>
              some (o13.1, o13.2)
            else none
          else
            (fM_finds (5 : Int32) m).bind fun o14 =>
            some (o14.1, o14.2)
          else none
        else
          (fM_finds (0 : Int32) m).bind fun o15 =>
          some (o15.1, o15.2)
      else
        (fM_finds (0 : Int32) m).bind fun o16 =>
        some (o16.1, o16.2)
    else
      (fM_finds (0 : Int32) m).bind fun o17 =>
      some (o17.1, o17.2)
  else
    (fM_finds (0 : Int32) m).bind fun o18 =>
    some (o18.1, o18.2)
/-- 3TModel.compare(II)I, row 0 -/
def fM_compare (a1 : Int32) (a2 : Int32) (m : tk_m) : Option (Int32 × tk_m) :=
  if (fM_isSpot a1) = true then
    if (fM_isSpot a2) = true then
      if tk_ok a1 6 then
      if (m.2.2.1 450 (tk_n a1)) = true then
        if tk_ok a2 6 then
        if (m.2.2.1 450 (tk_n a2)) = true then
          (fM_compares (452 + (tk_n a1)) (452 + (tk_n a2)) m).bind fun o7 =>
          some (o7.1, o7.2)
        else
          (fM_finds (5 : Int32) m).bind fun o8 =>
          some (o8.1, o8.2)
        else none
      else
        (fM_finds (5 : Int32) m).bind fun o9 =>
        some (o9.1, o9.2)
      else none
    else
      (fM_finds (0 : Int32) m).bind fun o10 =>
      some (o10.1, o10.2)
  else
    (fM_finds (0 : Int32) m).bind fun o11 =>
    some (o11.1, o11.2)
/-- 3TModel.number(II)J, row 0 -/
def fM_number (a1 : Int32) (a2 : Int32) (m : tk_m) : Option (Int64 × tk_m) :=
  if (fM_isSpot a1) = true then
    if (fM_in (Int32.toInt64 a2) (0 : Int64) (3 : Int64)) = true then
      if tk_ok a1 6 then
      if (m.2.2.1 450 (tk_n a1)) = true then
        if tk_ok a2 4 then
        some (m.2.1 (452 + (tk_n a1)) (tk_n a2), m)
        else none
      else
        (fM_findsLong (5 : Int32) m).bind fun o6 =>
        some (o6.1, o6.2)
      else none
    else
      (fM_findsLong (0 : Int32) m).bind fun o7 =>
      some (o7.1, o7.2)
  else
    (fM_findsLong (0 : Int32) m).bind fun o8 =>
    some (o8.1, o8.2)
/-- 3TModel.asInt(J)I, row 0 -/
def fM_asInt (a1 : Int64) (m : tk_m) : Option (Int32 × tk_m) :=
  if a1 = (Int32.toInt64 (Int64.toInt32 a1)) then
    some (Int64.toInt32 a1, m)
  else
    (fM_finds (7 : Int32) m).bind fun o2 =>
    some (o2.1, o2.2)
def fM_taken_93 (v2 : Int32) (v3 : Nat) (s0 : Int32) (m : tk_m) : Option (Int32 × tk_m) :=
  if s0 = 0 then
    (fM_finds (2 : Int32) m).bind fun o2 =>
    some (o2.1, o2.2)
  else
    if v2 = 0 then
      (fM_widens (m.2.1 v3 0) (tk_u2 m.1 295 9 (0 : Int32), m.2.1, m.2.2.1, m.2.2.2)).bind fun o4 =>
      (fM_widens (o4.2.2.1 v3 1) o4.2).bind fun o5 =>
      (fM_signOf o4.1 o5.1 (o5.2.2.1 v3 2) o5.2).bind fun o6 =>
      some (o6.1, o6.2)
    else
      if v2 = (1 : Int32) then
        (fM_asInt (m.2.1 v3 2) (tk_u2 m.1 295 9 (0 : Int32), m.2.1, m.2.2.1, m.2.2.2)).bind fun o8 =>
        some (o8.1, o8.2)
      else
        if v2 = (2 : Int32) then
          (fM_asInt (m.2.1 v3 3) (tk_u2 m.1 295 9 (0 : Int32), m.2.1, m.2.2.1, m.2.2.2)).bind fun o10 =>
          some (o10.1, o10.2)
        else
          (fM_asInt (m.2.1 v3 0) (tk_u2 m.1 295 9 (0 : Int32), m.2.1, m.2.2.1, m.2.2.2)).bind fun o11 =>
          some (o11.1, o11.2)
/-- 3TModel.taken(II)I, row 0 -/
def fM_taken (a1 : Int32) (a2 : Int32) (m : tk_m) : Option (Int32 × tk_m) :=
  if (fM_isSpot a1) = true then
    if (fM_in (Int32.toInt64 a2) (0 : Int64) (3 : Int64)) = true then
      if tk_ok a1 6 then
      if (m.2.2.1 450 (tk_n a1)) = true then
        if a2 = 0 then
          fM_taken_93 a2 (452 + (tk_n a1)) (1 : Int32) m
        else
          if a2 = (1 : Int32) then
            if (m.2.1 (452 + (tk_n a1)) 1) = (0 : Int64) then
              fM_taken_93 a2 (452 + (tk_n a1)) (0 : Int32) m
            else
              fM_taken_93 a2 (452 + (tk_n a1)) (1 : Int32) m
          else
            if (m.2.1 (452 + (tk_n a1)) 1) = (0 : Int64) then
              if a2 = (2 : Int32) then
                fM_taken_93 a2 (452 + (tk_n a1)) (1 : Int32) m
              else
                if (m.2.1 (452 + (tk_n a1)) 3) = (1 : Int64) then
                  fM_taken_93 a2 (452 + (tk_n a1)) (1 : Int32) m
                else
                  fM_taken_93 a2 (452 + (tk_n a1)) (0 : Int32) m
            else
              fM_taken_93 a2 (452 + (tk_n a1)) (0 : Int32) m
      else
        (fM_finds (5 : Int32) m).bind fun o11 =>
        some (o11.1, o11.2)
      else none
    else
      (fM_finds (0 : Int32) m).bind fun o12 =>
      some (o12.1, o12.2)
  else
    (fM_finds (0 : Int32) m).bind fun o13 =>
    some (o13.1, o13.2)
/-- 3TModel.clear(I)I, row 0 -/
def fM_clear (a1 : Int32) (m : tk_m) : Option (Int32 × tk_m) :=
  if (fM_isSpot a1) = true then
    if tk_ok a1 6 then
    if (m.2.2.1 450 (tk_n a1)) = true then
      some ((1 : Int32), (m.1, m.2.1, tk_u2 m.2.2.1 450 (tk_n a1) false, m.2.2.2))
    else
      some ((0 : Int32), (m.1, m.2.1, tk_u2 m.2.2.1 450 (tk_n a1) false, m.2.2.2))
    else none
  else
    (fM_finds (0 : Int32) m).bind fun o4 =>
    some (o4.1, o4.2)
def fM_sheet_83 : Nat → Int32 → Int32 → tk_m → Option (Int32 × tk_m)
  | 0, _, _, _ => none
  | n + 1, v1, v4, m =>
    if (40 : Int32) ≤ v4 then
      if tk_ok v1 4 then
      some (m.1 443 (tk_n v1), m)
      else none
    else
      if tk_ok v1 4 then
      if tk_ok v4 40 then
      fM_sheet_83 n v1 (v4 + (1 : Int32)) (m.1, tk_u2 m.2.1 (445 + (tk_n v1)) (tk_n v4) (0 : Int64), m.2.2.1, m.2.2.2)
      else none
      else none
def fM_sheet_58 (v1 : Int32) (v2 : Int32) (v3 : Int32) (m : tk_m) : Option (Int32 × tk_m) :=
  if tk_ok v1 4 then
  if 0 ≤ v2 then
    fM_sheet_83 tk_F v1 (0 : Int32) (tk_u2 (tk_u2 m.1 442 (tk_n v1) v2) 443 (tk_n v1) v3, m.2.1, m.2.2.1, m.2.2.2)
  else
    fM_sheet_83 tk_F v1 (0 : Int32) (tk_u2 (tk_u2 m.1 442 (tk_n v1) v2) 443 (tk_n v1) (0 : Int32), m.2.1, m.2.2.1, m.2.2.2)
  else none
/-- 3TModel.sheet(III)I, row 0 -/
def fM_sheet (a1 : Int32) (a2 : Int32) (a3 : Int32) (m : tk_m) : Option (Int32 × tk_m) :=
  if (fM_isSheet a1) = true then
    if (fM_in (Int32.toInt64 a2) (-1 : Int64) (2 : Int64)) = true then
      if a2 < 0 then
        fM_sheet_58 a1 a2 a3 m
      else
        if 0 ≤ a3 then
          if a3 ≤ (40 : Int32) then
            fM_sheet_58 a1 a2 a3 m
          else
            (fM_finds (0 : Int32) m).bind fun o6 =>
            some (o6.1, o6.2)
        else
          (fM_finds (6 : Int32) m).bind fun o7 =>
          some (o7.1, o7.2)
    else
      (fM_finds (0 : Int32) m).bind fun o8 =>
      some (o8.1, o8.2)
  else
    (fM_finds (0 : Int32) m).bind fun o9 =>
    some (o9.1, o9.2)
/-- 3TModel.whyNoPlace(II)I, row 0 -/
def fM_whyNoPlace (a1 : Int32) (a2 : Int32) (m : tk_m) : Option Int32 :=
  if (fM_isSheet a1) = true then
    if tk_ok a1 4 then
    if 0 ≤ (m.1 442 (tk_n a1)) then
      if (fM_in (Int32.toInt64 a2) (0 : Int64) (Int32.toInt64 ((m.1 443 (tk_n a1)) - (1 : Int32)))) = true then
        some (-1 : Int32)
      else
        some (0 : Int32)
    else
      some (5 : Int32)
    else none
  else
    some (0 : Int32)
/-- 3TModel.write(IIJ)I, row 0 -/
def fM_write (a1 : Int32) (a2 : Int32) (a3 : Int64) (m : tk_m) : Option (Int32 × tk_m) :=
  (fM_whyNoPlace a1 a2 m).bind fun o1 =>
  if o1 < 0 then
    if tk_ok a1 4 then
    if tk_ok a2 40 then
    some ((1 : Int32), (m.1, tk_u2 m.2.1 (445 + (tk_n a1)) (tk_n a2) (fM_cut (m.1 442 (tk_n a1)) a3), m.2.2.1, m.2.2.2))
    else none
    else none
  else
    (fM_finds o1 m).bind fun o5 =>
    some (o5.1, o5.2)
/-- 3TModel.item(II)J, row 0 -/
def fM_item (a1 : Int32) (a2 : Int32) (m : tk_m) : Option (Int64 × tk_m) :=
  (fM_whyNoPlace a1 a2 m).bind fun o1 =>
  if o1 < 0 then
    if tk_ok a1 4 then
    if tk_ok a2 40 then
    some (m.2.1 (445 + (tk_n a1)) (tk_n a2), m)
    else none
    else none
  else
    (fM_findsLong o1 m).bind fun o5 =>
    some (o5.1, o5.2)
def fM_copy_157 : Nat → Int32 → Int32 → Int32 → Int32 → tk_m → Option (Int32 × tk_m)
  | 0, _, _, _, _, _ => none
  | n + 1, v3, v4, v5, v6, m =>
    if v5 ≤ v6 then
      some (v5, m)
    else
      if tk_ok v3 4 then
      if tk_ok v6 40 then
      if tk_ok (v4 + v6) 40 then
      fM_copy_157 n v3 v4 v5 (v6 + (1 : Int32)) (m.1, tk_u2 m.2.1 (445 + (tk_n v3)) (tk_n (v4 + v6)) (m.2.1 459 (tk_n v6)), m.2.2.1, m.2.2.2)
      else none
      else none
      else none
def fM_copy_123 : Nat → Int32 → Int32 → Int32 → Int32 → Int32 → Int32 → tk_m → Option (Int32 × tk_m)
  | 0, _, _, _, _, _, _, _ => none
  | n + 1, v1, v2, v3, v4, v5, v6, m =>
    if v5 ≤ v6 then
      fM_copy_157 tk_F v3 v4 v5 (0 : Int32) m
    else
      if tk_ok v1 4 then
      if tk_ok (v2 + v6) 40 then
      if tk_ok v6 40 then
      fM_copy_123 n v1 v2 v3 v4 v5 (v6 + (1 : Int32)) (m.1, tk_u2 m.2.1 459 (tk_n v6) (m.2.1 (445 + (tk_n v1)) (tk_n (v2 + v6))), m.2.2.1, m.2.2.2)
      else none
      else none
      else none
/-- 3TModel.copy(IIIII)I, row 0 -/
def fM_copy (a1 : Int32) (a2 : Int32) (a3 : Int32) (a4 : Int32) (a5 : Int32) (m : tk_m) : Option (Int32 × tk_m) :=
  if (fM_isSheet a1) = true then
    if (fM_isSheet a3) = true then
      if tk_ok a1 4 then
      if (m.1 442 (tk_n a1)) < 0 then
        (fM_finds (5 : Int32) m).bind fun o5 =>
        some (o5.1, o5.2)
      else
        if tk_ok a3 4 then
        if 0 ≤ (m.1 442 (tk_n a3)) then
          if (m.1 442 (tk_n a1)) = (m.1 442 (tk_n a3)) then
            if a2 < 0 then
              (fM_finds (0 : Int32) m).bind fun o10 =>
              some (o10.1, o10.2)
            else
              if a4 < 0 then
                (fM_finds (0 : Int32) m).bind fun o12 =>
                some (o12.1, o12.2)
              else
                if a5 < 0 then
                  (fM_finds (0 : Int32) m).bind fun o14 =>
                  some (o14.1, o14.2)
                else
                  if (Int32.toInt64 (m.1 443 (tk_n a1))) < ((Int32.toInt64 a2) + (Int32.toInt64 a5)) then
                    (fM_finds (0 : Int32) m).bind fun o16 =>
                    some (o16.1, o16.2)
                  else
                    if ((Int32.toInt64 a4) + (Int32.toInt64 a5)) ≤ (Int32.toInt64 (m.1 443 (tk_n a3))) then
                      fM_copy_123 tk_F a1 a2 a3 a4 a5 (0 : Int32) m
                    else
                      (fM_finds (0 : Int32) m).bind fun o18 =>
                      some (o18.1, o18.2)
          else
            (fM_finds (2 : Int32) m).bind fun o19 =>
            some (o19.1, o19.2)
        else
          (fM_finds (5 : Int32) m).bind fun o20 =>
          some (o20.1, o20.2)
        else none
      else none
    else
      (fM_finds (0 : Int32) m).bind fun o21 =>
      some (o21.1, o21.2)
  else
    (fM_finds (0 : Int32) m).bind fun o22 =>
    some (o22.1, o22.2)
def fM_image_46 (m : tk_m) : Option (Int32 × tk_m) :=
  some (tk_u2 m.1 295 2 ((m.1 295 2) + (1 : Int32)) 295 2, (tk_u2 m.1 295 2 ((m.1 295 2) + (1 : Int32)), m.2.1, m.2.2.1, m.2.2.2))
def fM_image_17 : Nat → Int32 → tk_m → Option (Int32 × tk_m)
  | 0, _, _ => none
  | n + 1, v1, m =>
    if (29 : Int32) ≤ v1 then
      fM_image_46 m
    else
      if tk_ok (m.1 295 2) 8 then
      if tk_ok v1 29 then
      fM_image_17 n (v1 + (1 : Int32)) (tk_u2 m.1 (298 + (tk_n (m.1 295 2))) (tk_n v1) (m.1 296 (tk_n v1)), m.2.1, m.2.2.1, m.2.2.2)
      else none
      else none
/-- 3TModel.image()I, row 0 -/
def fM_image (m : tk_m) : Option (Int32 × tk_m) :=
  if (m.1 295 2) = (8 : Int32) then
    (fM_finds (1 : Int32) m).bind fun o2 =>
    some (o2.1, o2.2)
  else
    fM_image_17 tk_F (0 : Int32) m
def fM_back_25 : Nat → Int32 → tk_m → Option (Int32 × tk_m)
  | 0, _, _ => none
  | n + 1, v1, m =>
    if (29 : Int32) ≤ v1 then
      some (m.1 296 0, m)
    else
      if tk_ok (m.1 295 2) 8 then
      if tk_ok v1 29 then
      fM_back_25 n (v1 + (1 : Int32)) (tk_u2 m.1 296 (tk_n v1) (m.1 (298 + (tk_n (m.1 295 2))) (tk_n v1)), m.2.1, m.2.2.1, m.2.2.2)
      else none
      else none
/-- 3TModel.back()I, row 0 -/
def fM_back (m : tk_m) : Option (Int32 × tk_m) :=
  if (m.1 295 2) = 0 then
    (fM_finds (3 : Int32) m).bind fun o2 =>
    some (o2.1, o2.2)
  else
    fM_back_25 tk_F (0 : Int32) (tk_u2 m.1 295 2 ((m.1 295 2) - (1 : Int32)), m.2.1, m.2.2.1, m.2.2.2)
/-- 3TModel.seed(I)I, row 0 -/
def fM_seed (a1 : Int32) (m : tk_m) : Int32 × tk_m :=
  (m.1 296 4, (tk_u2 m.1 296 4 a1, m.2.1, m.2.2.1, m.2.2.2))
def fM_countOf_4 : Nat → Int32 → Int32 → Int32 → tk_m → Option Int32
  | 0, _, _, _, _ => none
  | n + 1, v1, v2, v3, m =>
    if (m.1 296 0) ≤ v3 then
      some v2
    else
      (fM_kindOf v3 m).bind fun o2 =>
      if (fM_isUnder o2 v1) = true then
        fM_countOf_4 n v1 (v2 + (1 : Int32)) (v3 + (1 : Int32)) m
      else
        fM_countOf_4 n v1 (v2 + (0 : Int32)) (v3 + (1 : Int32)) m
/-- 3TModel.countOf(I)I, row 0 -/
def fM_countOf (a1 : Int32) (m : tk_m) : Option Int32 :=
  fM_countOf_4 tk_F a1 (0 : Int32) (0 : Int32) m
def fM_count_73 : Nat → Int32 → Int32 → tk_m → Option (Int32 × tk_m)
  | 0, _, _, _ => none
  | n + 1, v2, v3, m =>
    if (6 : Int32) ≤ v3 then
      some (v2, m)
    else
      if tk_ok v3 6 then
      if (m.2.2.1 450 (tk_n v3)) = true then
        fM_count_73 n (v2 + (1 : Int32)) (v3 + (1 : Int32)) m
      else
        fM_count_73 n (v2 + (0 : Int32)) (v3 + (1 : Int32)) m
      else none
/-- 3TModel.count(I)I, row 0 -/
def fM_count (a1 : Int32) (m : tk_m) : Option (Int32 × tk_m) :=
  if a1 = 0 then
    some (m.1 296 0, m)
  else
  if a1 = 1 then
    (fM_countOf (1 : Int32) m).bind fun o3 =>
    some (o3, m)
  else
  if a1 = 2 then
    (fM_countOf (3 : Int32) m).bind fun o5 =>
    some (o5, m)
  else
  if a1 = 3 then
    some (m.1 295 2, m)
  else
  if a1 = 4 then
    some (m.1 296 4, m)
  else
  if a1 = 5 then
    fM_count_73 tk_F (0 : Int32) (0 : Int32) m
  else
  (fM_finds (0 : Int32) m).bind fun o9 =>
  some (o9.1, o9.2)
def fM_status_24 : Nat → Int32 → Int32 → Int32 → tk_m → Option (Int32 × tk_m)
  | 0, _, _, _, _ => none
  | n + 1, v1, v2, v3, m =>
    if (8 : Int32) ≤ v3 then
      some (v2, m)
    else
      if v1 < 0 then
        if tk_ok v3 8 then
        fM_status_24 n v1 (v2 + (m.1 306 (tk_n v3))) (v3 + (1 : Int32)) m
        else none
      else
        if v1 = v3 then
          if tk_ok v3 8 then
          fM_status_24 n v1 (v2 + (m.1 306 (tk_n v3))) (v3 + (1 : Int32)) m
          else none
        else
          fM_status_24 n v1 (v2 + (0 : Int32)) (v3 + (1 : Int32)) m
/-- 3TModel.status(I)I, row 0 -/
def fM_status (a1 : Int32) (m : tk_m) : Option (Int32 × tk_m) :=
  if (fM_in (Int32.toInt64 a1) (-1 : Int64) (7 : Int64)) = true then
    fM_status_24 tk_F a1 (0 : Int32) (0 : Int32) m
  else
    (fM_finds (0 : Int32) m).bind fun o2 =>
    some (o2.1, o2.2)

/-- 3TModel.drop()I, row 0 -/
def fM_drop (m : tk_m) : Option (Int32 × tk_m) :=
  if (m.1 296 0) = 0 then
    (fM_finds (3 : Int32) m).bind fun o2 =>
    some (o2.1, o2.2)
  else
    some (tk_u2 m.1 296 0 ((m.1 296 0) - (1 : Int32)) 296 0, (tk_u2 m.1 296 0 ((m.1 296 0) - (1 : Int32)), m.2.1, m.2.2.1, m.2.2.2))
def fM_copies_2 : Nat → Int32 → Int32 → Int32 → tk_m → Option tk_m
  | 0, _, _, _, _ => none
  | n + 1, v1, v2, v3, m =>
    if (4 : Int32) ≤ v3 then
      some m
    else
      if tk_ok (((5 : Int32) + ((4 : Int32) * v1)) + v3) 29 then
      if tk_ok (((5 : Int32) + ((4 : Int32) * v2)) + v3) 29 then
      fM_copies_2 n v1 v2 (v3 + (1 : Int32)) (tk_u2 m.1 296 (tk_n (((5 : Int32) + ((4 : Int32) * v2)) + v3)) (m.1 296 (tk_n (((5 : Int32) + ((4 : Int32) * v1)) + v3))), m.2.1, m.2.2.1, m.2.2.2)
      else none
      else none
/-- 3TModel.copies(II)V, row 0 -/
def fM_copies (a1 : Int32) (a2 : Int32) (m : tk_m) : Option tk_m :=
  fM_copies_2 tk_F a1 a2 (0 : Int32) m
def fM_prune_68 (v2 : Int32) (v3 : Int32) (m : tk_m) : Option (Int32 × tk_m) :=
  some (v3 - v2, (tk_u2 m.1 296 0 v2, m.2.1, m.2.2.1, m.2.2.2))
def fM_prune_30 : Nat → Int32 → Int32 → Int32 → Int32 → tk_m → Option (Int32 × tk_m)
  | 0, _, _, _, _, _ => none
  | n + 1, v1, v2, v3, v4, m =>
    if v3 ≤ v4 then
      fM_prune_68 v2 v3 m
    else
      (fM_kindOf v4 m).bind fun o2 =>
      if (fM_isUnder o2 v1) = true then
        fM_prune_30 n v1 v2 v3 (v4 + (1 : Int32)) m
      else
        (fM_copies v4 v2 m).bind fun o4 =>
        fM_prune_30 n v1 (v2 + (1 : Int32)) v3 (v4 + (1 : Int32)) o4
/-- 3TModel.prune(I)I, row 0 -/
def fM_prune (a1 : Int32) (m : tk_m) : Option (Int32 × tk_m) :=
  if (fM_in (Int32.toInt64 a1) (0 : Int64) (4 : Int64)) = true then
    fM_prune_30 tk_F a1 (0 : Int32) (m.1 296 0) (0 : Int32) m
  else
    (fM_finds (0 : Int32) m).bind fun o2 =>
    some (o2.1, o2.2)
def fM_swaps_2 : Nat → Int32 → Int32 → Int32 → tk_m → Option tk_m
  | 0, _, _, _, _ => none
  | n + 1, v1, v2, v3, m =>
    if (4 : Int32) ≤ v3 then
      some m
    else
      (fM_of0 v1 v3 m).bind fun o2 =>
      (fM_of0 v2 v3 m).bind fun o3 =>
      if tk_ok (((5 : Int32) + ((4 : Int32) * v1)) + v3) 29 then
      if tk_ok (((5 : Int32) + ((4 : Int32) * v2)) + v3) 29 then
      fM_swaps_2 n v1 v2 (v3 + (1 : Int32)) (tk_u2 (tk_u2 m.1 296 (tk_n (((5 : Int32) + ((4 : Int32) * v1)) + v3)) o3) 296 (tk_n (((5 : Int32) + ((4 : Int32) * v2)) + v3)) o2, m.2.1, m.2.2.1, m.2.2.2)
      else none
      else none
/-- 3TModel.swaps(II)V, row 0 -/
def fM_swaps (a1 : Int32) (a2 : Int32) (m : tk_m) : Option tk_m :=
  fM_swaps_2 tk_F a1 a2 (0 : Int32) m
/-- 3TModel.swap(II)I, row 0 -/
def fM_swap (a1 : Int32) (a2 : Int32) (m : tk_m) : Option (Int32 × tk_m) :=
  if (fM_isShape a1 m) = true then
    if (fM_isShape a2 m) = true then
      (fM_swaps a1 a2 m).bind fun o3 =>
      some ((1 : Int32), o3)
    else
      (fM_finds (0 : Int32) m).bind fun o4 =>
      some (o4.1, o4.2)
  else
    (fM_finds (0 : Int32) m).bind fun o5 =>
    some (o5.1, o5.2)
def fM_turn_2 : Nat → Int32 → tk_m → Option (Int32 × tk_m)
  | 0, _, _ => none
  | n + 1, v1, m =>
    if ((m.1 296 0) / (2 : Int32)) ≤ v1 then
      some (m.1 296 0, m)
    else
      (fM_swaps v1 (((m.1 296 0) - (1 : Int32)) - v1) m).bind fun o2 =>
      fM_turn_2 n (v1 + (1 : Int32)) o2
/-- 3TModel.turn()I, row 0 -/
def fM_turn (m : tk_m) : Option (Int32 × tk_m) :=
  fM_turn_2 tk_F (0 : Int32) m
/-- 3TModel.areTwo(II)Z, row 0 -/
def fM_areTwo (a1 : Int32) (a2 : Int32) (m : tk_m) : Bool :=
  if (fM_isShape a1 m) = true then
    if (fM_isShape a2 m) = true then
      if a1 = a2 then
        false
      else
        true
    else
      false
  else
    false
/-- 3TModel.apart(II)I, row 0 -/
def fM_apart (a1 : Int32) (a2 : Int32) (m : tk_m) : Option Int32 :=
  (fM_of0 a1 (1 : Int32) m).bind fun o1 =>
  (fM_of0 a2 (1 : Int32) m).bind fun o2 =>
  (fM_of0 a1 (2 : Int32) m).bind fun o3 =>
  (fM_of0 a2 (2 : Int32) m).bind fun o4 =>
  some (((o1 - o2) * (o1 - o2)) + ((o3 - o4) * (o3 - o4)))
/-- 3TModel.inCommon(III)I, row 0 -/
def fM_inCommon (a1 : Int32) (a2 : Int32) (a3 : Int32) : Int32 :=
  if a2 < a1 then
    (0 : Int32)
  else
    if a3 ≤ a1 then
      if a1 = a2 then
        (1 : Int32)
      else
        if a1 = a3 then
          (1 : Int32)
        else
          (2 : Int32)
    else
      (0 : Int32)
def fM_lies1_50 (v1 : Int32) (v2 : Int32) (v3 : Int32) (v4 : Int32) (m : tk_m) : Option Int32 :=
  (fM_apart v1 v2 m).bind fun o1 =>
  some (fM_inCommon o1 ((v3 + v4) * (v3 + v4)) ((v3 - v4) * (v3 - v4)))
def fM_lies1_135 (v1 : Int32) (v2 : Int32) (v3 : Int32) (m : tk_m) : Option Int32 :=
  (fM_isRound v1 m).bind fun o1 =>
  if o1 = true then
    (fM_slant 1003 v2 m).bind fun o3 =>
    (fM_of0 v1 (1 : Int32) m).bind fun o4 =>
    (fM_slant 1004 v2 m).bind fun o5 =>
    (fM_of0 v1 (2 : Int32) m).bind fun o6 =>
    (fM_of0 v2 (2 : Int32) m).bind fun o7 =>
    (fM_slant 1005 v2 m).bind fun o8 =>
    some (fM_inCommon ((((o3 * o4) + (o5 * o6)) - o7) * (((o3 * o4) + (o5 * o6)) - o7)) ((o8 * v3) * (o8 * v3)) (-1 : Int32))
  else
    none
def fM_lies1_79 (v1 : Int32) (v2 : Int32) (v3 : Int32) (m : tk_m) : Option Int32 :=
  (fM_isRound v1 m).bind fun o1 =>
  if o1 = true then
    fM_lies1_135 v1 v2 v3 m
  else
    (fM_isRound v2 m).bind fun o3 =>
    if o3 = true then
      fM_lies1_135 v1 v2 v3 m
    else
      (fM_of0 v1 (1 : Int32) m).bind fun o5 =>
      (fM_of0 v2 (1 : Int32) m).bind fun o6 =>
      if o5 = o6 then
        (fM_of0 v1 (2 : Int32) m).bind fun o8 =>
        (fM_of0 v2 (2 : Int32) m).bind fun o9 =>
        if o8 = o9 then
          some (3 : Int32)
        else
          some (0 : Int32)
      else
        some (1 : Int32)
/-- 3TModel.lies(II)I, row 0 -/
def fM_lies1 (a1 : Int32) (a2 : Int32) (m : tk_m) : Option Int32 :=
  (fM_of0 a1 (3 : Int32) m).bind fun o1 =>
  (fM_of0 a2 (3 : Int32) m).bind fun o2 =>
  (fM_isRound a1 m).bind fun o3 =>
  if o3 = true then
    (fM_isRound a2 m).bind fun o5 =>
    if o5 = true then
      (fM_apart a1 a2 m).bind fun o7 =>
      if o7 = 0 then
        if o1 = o2 then
          some (3 : Int32)
        else
          fM_lies1_50 a1 a2 o1 o2 m
      else
        fM_lies1_50 a1 a2 o1 o2 m
    else
      fM_lies1_79 a1 a2 o1 m
  else
    fM_lies1_79 a1 a2 o1 m
def fM_lies_50 (v1 : Int32) (v2 : Int32) (v3 : Int32) (v4 : Int32) (m : tk_m) : Option Int32 :=
  (fM_apart v1 v2 m).bind fun o1 =>
  some (fM_inCommon o1 ((v3 + v4) * (v3 + v4)) ((v3 - v4) * (v3 - v4)))
def fM_lies_135 (v1 : Int32) (v2 : Int32) (v3 : Int32) (m : tk_m) : Option Int32 :=
  (fM_isRound v1 m).bind fun o1 =>
  if o1 = true then
    (fM_slant 1003 v2 m).bind fun o3 =>
    (fM_of0 v1 (1 : Int32) m).bind fun o4 =>
    (fM_slant 1004 v2 m).bind fun o5 =>
    (fM_of0 v1 (2 : Int32) m).bind fun o6 =>
    (fM_of0 v2 (2 : Int32) m).bind fun o7 =>
    (fM_slant 1005 v2 m).bind fun o8 =>
    some (fM_inCommon ((((o3 * o4) + (o5 * o6)) - o7) * (((o3 * o4) + (o5 * o6)) - o7)) ((o8 * v3) * (o8 * v3)) (-1 : Int32))
  else
    (fM_lies1 v2 v1 m).bind fun o9 =>
    some o9
def fM_lies_79 (v1 : Int32) (v2 : Int32) (v3 : Int32) (m : tk_m) : Option Int32 :=
  (fM_isRound v1 m).bind fun o1 =>
  if o1 = true then
    fM_lies_135 v1 v2 v3 m
  else
    (fM_isRound v2 m).bind fun o3 =>
    if o3 = true then
      fM_lies_135 v1 v2 v3 m
    else
      (fM_of0 v1 (1 : Int32) m).bind fun o5 =>
      (fM_of0 v2 (1 : Int32) m).bind fun o6 =>
      if o5 = o6 then
        (fM_of0 v1 (2 : Int32) m).bind fun o8 =>
        (fM_of0 v2 (2 : Int32) m).bind fun o9 =>
        if o8 = o9 then
          some (3 : Int32)
        else
          some (0 : Int32)
      else
        some (1 : Int32)
/-- 3TModel.lies(II)I, row 0 -/
def fM_lies (a1 : Int32) (a2 : Int32) (m : tk_m) : Option Int32 :=
  (fM_of0 a1 (3 : Int32) m).bind fun o1 =>
  (fM_of0 a2 (3 : Int32) m).bind fun o2 =>
  (fM_isRound a1 m).bind fun o3 =>
  if o3 = true then
    (fM_isRound a2 m).bind fun o5 =>
    if o5 = true then
      (fM_apart a1 a2 m).bind fun o7 =>
      if o7 = 0 then
        if o1 = o2 then
          some (3 : Int32)
        else
          fM_lies_50 a1 a2 o1 o2 m
      else
        fM_lies_50 a1 a2 o1 o2 m
    else
      fM_lies_79 a1 a2 o1 m
  else
    fM_lies_79 a1 a2 o1 m
/-- 3TModel.lie(II)I, row 0 -/
def fM_lie (a1 : Int32) (a2 : Int32) (m : tk_m) : Option (Int32 × tk_m) :=
  if (fM_areTwo a1 a2 m) = true then
    (fM_lies a1 a2 m).bind fun o2 =>
    some (o2, m)
  else
    (fM_finds (0 : Int32) m).bind fun o3 =>
    some (o3.1, o3.2)
/-- 3TModel.power(III)I, row 0 -/
def fM_power (a1 : Int32) (a2 : Int32) (a3 : Int32) (m : tk_m) : Option (Int32 × tk_m) :=
  if (fM_isShape a1 m) = true then
    if (fM_in (Int32.toInt64 a2) (-99 : Int64) (99 : Int64)) = true then
      if (fM_in (Int32.toInt64 a3) (-99 : Int64) (99 : Int64)) = true then
        (fM_form a1 (0 : Int32) m).bind fun o4 =>
        (fM_form a1 (1 : Int32) m).bind fun o5 =>
        (fM_form a1 (2 : Int32) m).bind fun o6 =>
        (fM_form a1 (3 : Int32) m).bind fun o7 =>
        some ((((o4 * ((a2 * a2) + (a3 * a3))) + (o5 * a2)) + (o6 * a3)) + o7, m)
      else
        (fM_finds (0 : Int32) m).bind fun o8 =>
        some (o8.1, o8.2)
    else
      (fM_finds (0 : Int32) m).bind fun o9 =>
      some (o9.1, o9.2)
  else
    (fM_finds (0 : Int32) m).bind fun o10 =>
    some (o10.1, o10.2)
def fM_divisor_10 : Nat → Int32 → Int32 → Option Int32
  | 0, _, _ => none
  | n + 1, v2, v3 =>
    if v3 = 0 then
      some v2
    else
      if v3 = 0 then none else
      fM_divisor_10 n v3 (tk_irem v2 v3)
/-- 3TModel.divisor(II)I, row 0 -/
def fM_divisor (a1 : Int32) (a2 : Int32) : Option Int32 :=
  fM_divisor_10 tk_F (fZ_abs_I a1) (fZ_abs_I a2)
def fM_radical_147 (v3 : Int32) (v4 : Int32) (v5 : Int32) (v6 : Int32) (s0 : Int32) (m : tk_m) : Option (Int32 × tk_m) :=
  if v3 = 0 then
    if s0 = 0 then none else
    some (v4 / s0, m)
  else
    if v3 = (1 : Int32) then
      if s0 = 0 then none else
      some (v5 / s0, m)
    else
      if s0 = 0 then none else
      some (v6 / s0, m)
def fM_radical_110 (v3 : Int32) (v4 : Int32) (v5 : Int32) (v6 : Int32) (m : tk_m) : Option (Int32 × tk_m) :=
  (fM_divisor v4 v5).bind fun o1 =>
  (fM_divisor o1 v6).bind fun o2 =>
  if v4 < 0 then
    fM_radical_147 v3 v4 v5 v6 (-o2) m
  else
    if v4 = 0 then
      if 0 ≤ v5 then
        fM_radical_147 v3 v4 v5 v6 o2 m
      else
        fM_radical_147 v3 v4 v5 v6 (-o2) m
    else
      fM_radical_147 v3 v4 v5 v6 o2 m
/-- 3TModel.radical(III)I, row 0 -/
def fM_radical (a1 : Int32) (a2 : Int32) (a3 : Int32) (m : tk_m) : Option (Int32 × tk_m) :=
  if (fM_areTwo a1 a2 m) = true then
    if (fM_in (Int32.toInt64 a3) (0 : Int64) (2 : Int64)) = true then
      (fM_isRound a1 m).bind fun o3 =>
      if o3 = true then
        (fM_isRound a2 m).bind fun o5 =>
        if o5 = true then
          (fM_form a2 (1 : Int32) m).bind fun o7 =>
          (fM_form a1 (1 : Int32) m).bind fun o8 =>
          (fM_form a2 (2 : Int32) m).bind fun o9 =>
          (fM_form a1 (2 : Int32) m).bind fun o10 =>
          (fM_form a1 (3 : Int32) m).bind fun o11 =>
          (fM_form a2 (3 : Int32) m).bind fun o12 =>
          if (o7 - o8) = 0 then
            if (o9 - o10) = 0 then
              (fM_finds (3 : Int32) m).bind fun o15 =>
              some (o15.1, o15.2)
            else
              fM_radical_110 a3 (o7 - o8) (o9 - o10) (o11 - o12) m
          else
            fM_radical_110 a3 (o7 - o8) (o9 - o10) (o11 - o12) m
        else
          (fM_finds (2 : Int32) m).bind fun o16 =>
          some (o16.1, o16.2)
      else
        (fM_finds (2 : Int32) m).bind fun o17 =>
        some (o17.1, o17.2)
    else
      (fM_finds (0 : Int32) m).bind fun o18 =>
      some (o18.1, o18.2)
  else
    (fM_finds (0 : Int32) m).bind fun o19 =>
    some (o19.1, o19.2)
/-- 3TModel.ring(II)I, row 0 -/
def fM_ring (a1 : Int32) (a2 : Int32) (m : tk_m) : Option (Int32 × tk_m) :=
  if (fM_areTwo a1 a2 m) = true then
    (fM_kindOf a1 m).bind fun o2 =>
    if o2 = (1 : Int32) then
      (fM_kindOf a2 m).bind fun o4 =>
      if o4 = (1 : Int32) then
        (fM_lies a1 a2 m).bind fun o6 =>
        if o6 = 0 then
          (fM_of0 a1 (3 : Int32) m).bind fun o8 =>
          (fM_of0 a2 (3 : Int32) m).bind fun o9 =>
          (fM_apart a1 a2 m).bind fun o10 =>
          if ((3 : Int32) * (fZ_abs_I (((o8 * o8) + (o9 * o9)) - o10))) = ((5 : Int32) * (((2 : Int32) * o8) * o9)) then
            some ((6 : Int32), m)
          else
            if (fZ_abs_I (((o8 * o8) + (o9 * o9)) - o10)) = ((3 : Int32) * (((2 : Int32) * o8) * o9)) then
              some ((4 : Int32), m)
            else
              if (fZ_abs_I (((o8 * o8) + (o9 * o9)) - o10)) = ((7 : Int32) * (((2 : Int32) * o8) * o9)) then
                some ((3 : Int32), m)
              else
                (fM_finds (3 : Int32) m).bind fun o14 =>
                some (o14.1, o14.2)
        else
          (fM_finds (4 : Int32) m).bind fun o15 =>
          some (o15.1, o15.2)
      else
        (fM_finds (2 : Int32) m).bind fun o16 =>
        some (o16.1, o16.2)
    else
      (fM_finds (2 : Int32) m).bind fun o17 =>
      some (o17.1, o17.2)
  else
    (fM_finds (0 : Int32) m).bind fun o18 =>
    some (o18.1, o18.2)
/-- 3TModel.three(III)I, row 0 -/
def fM_three_III (a1 : Int32) (a2 : Int32) (a3 : Int32) (m : tk_m) : Option (Int32 × tk_m) :=
  if (fM_areTwo a1 a2 m) = true then
    if (fM_areTwo a1 a3 m) = true then
      if (fM_areTwo a2 a3 m) = true then
        some ((1 : Int32), (tk_u2 (tk_u2 (tk_u2 m.1 296 1 a1) 296 2 a2) 296 3 a3, m.2.1, m.2.2.1, m.2.2.2))
      else
        (fM_finds (0 : Int32) m).bind fun o4 =>
        some (o4.1, o4.2)
    else
      (fM_finds (0 : Int32) m).bind fun o5 =>
      some (o5.1, o5.2)
  else
    (fM_finds (0 : Int32) m).bind fun o6 =>
    some (o6.1, o6.2)
/-- 3TModel.ofThree(I)I, row 0 -/
def fM_ofThree (a1 : Int32) (m : tk_m) : Option (Int32 × tk_m) :=
  if (fM_in (Int32.toInt64 a1) (0 : Int64) (2 : Int64)) = true then
    if tk_ok ((1 : Int32) + a1) 29 then
    some (m.1 296 (tk_n ((1 : Int32) + a1)), m)
    else none
  else
    (fM_finds (0 : Int32) m).bind fun o3 =>
    some (o3.1, o3.2)
def fM_draw_114 (r80 : Int32 → Int32 → Int32 → tk_m → Option (Int32 × tk_m)) (r97 : Int32 → Int32 → Int32 → Int32 → tk_m → Option (Int32 × tk_m)) : Nat → Int32 → Int32 → Int32 → Int32 → Int32 → tk_m → Option (Int32 × tk_m)
  | 0, _, _, _, _, _, _ => none
  | n + 1, v2, v3, v4, v5, v6, m =>
    if (m.1 296 0) ≤ v6 then
      r97 v2 v3 v4 (v5 + (1 : Int32)) m
    else
      if v3 = v2 then
        fM_draw_114 r80 r97 n v2 (v3 + (1 : Int32)) v4 v5 (v6 + (1 : Int32)) (tk_u2 (tk_u2 (tk_u2 m.1 296 1 v4) 296 2 v5) 296 3 v6, m.2.1, m.2.2.1, m.2.2.2)
      else
        fM_draw_114 r80 r97 n v2 (v3 + (1 : Int32)) v4 v5 (v6 + (1 : Int32)) m
def fM_draw_97 (r80 : Int32 → Int32 → Int32 → tk_m → Option (Int32 × tk_m)) : Nat → Int32 → Int32 → Int32 → Int32 → tk_m → Option (Int32 × tk_m)
  | 0, _, _, _, _, _ => none
  | n + 1, v2, v3, v4, v5, m =>
    if (m.1 296 0) ≤ v5 then
      r80 v2 v3 (v4 + (1 : Int32)) m
    else
      fM_draw_114 r80 (fM_draw_97 r80 n) tk_F v2 v3 v4 v5 (v5 + (1 : Int32)) m
def fM_draw_80 : Nat → Int32 → Int32 → Int32 → tk_m → Option (Int32 × tk_m)
  | 0, _, _, _, _ => none
  | n + 1, v2, v3, v4, m =>
    if (m.1 296 0) ≤ v4 then
      some (v2, m)
    else
      fM_draw_97 (fM_draw_80 n) tk_F v2 v3 v4 (v4 + (1 : Int32)) m
/-- 3TModel.draw()I, row 0 -/
def fM_draw (m : tk_m) : Option (Int32 × tk_m) :=
  if (3 : Int32) ≤ (m.1 296 0) then
    if ((((tk_u2 m.1 296 4 (((m.1 296 4) * (1103515245 : Int32)) + (12345 : Int32)) 296 0) * ((tk_u2 m.1 296 4 (((m.1 296 4) * (1103515245 : Int32)) + (12345 : Int32)) 296 0) - (1 : Int32))) * ((tk_u2 m.1 296 4 (((m.1 296 4) * (1103515245 : Int32)) + (12345 : Int32)) 296 0) - (2 : Int32))) / (6 : Int32)) = 0 then none else
    fM_draw_80 tk_F (tk_irem (tk_iushr (tk_u2 m.1 296 4 (((m.1 296 4) * (1103515245 : Int32)) + (12345 : Int32)) 296 4) (8 : Int32)) ((((tk_u2 m.1 296 4 (((m.1 296 4) * (1103515245 : Int32)) + (12345 : Int32)) 296 0) * ((tk_u2 m.1 296 4 (((m.1 296 4) * (1103515245 : Int32)) + (12345 : Int32)) 296 0) - (1 : Int32))) * ((tk_u2 m.1 296 4 (((m.1 296 4) * (1103515245 : Int32)) + (12345 : Int32)) 296 0) - (2 : Int32))) / (6 : Int32))) (0 : Int32) (0 : Int32) (tk_u2 m.1 296 4 (((m.1 296 4) * (1103515245 : Int32)) + (12345 : Int32)), m.2.1, m.2.2.1, m.2.2.2)
  else
    (fM_finds (4 : Int32) m).bind fun o3 =>
    some (o3.1, o3.2)
/-- 3TModel.areThere()Z, row 0 -/
def fM_areThere (m : tk_m) : Bool :=
  if (fM_isShape (m.1 296 1) m) = true then
    if (fM_isShape (m.1 296 2) m) = true then
      if (fM_isShape (m.1 296 3) m) = true then
        true
      else
        false
    else
      false
  else
    false
/-- 3TModel.three(I)I, row 0 -/
def fM_three_I (a1 : Int32) (m : tk_m) : Option Int32 :=
  if tk_ok ((1 : Int32) + a1) 29 then
  some (m.1 296 (tk_n ((1 : Int32) + a1)))
  else none
def fM_stays_2 : Nat → Int32 → tk_m → Option Int32
  | 0, _, _ => none
  | n + 1, v1, m =>
    if (3 : Int32) ≤ v1 then
      some (-1 : Int32)
    else
      (fM_three_I v1 m).bind fun o2 =>
      (fM_isRound o2 m).bind fun o3 =>
      if o3 = true then
        some v1
      else
        fM_stays_2 n (v1 + (1 : Int32)) m
/-- 3TModel.stays()I, row 0 -/
def fM_stays (m : tk_m) : Option Int32 :=
  fM_stays_2 tk_F (0 : Int32) m
/-- 3TModel.bit(II)I, row 0 -/
def fM_bit (a1 : Int32) (a2 : Int32) : Int32 :=
  if ((tk_ishr a1 a2) &&& (1 : Int32)) = 0 then
    (1 : Int32)
  else
    (-1 : Int32)
def fM_doCount_2 : Nat → Int32 → Int32 → tk_m → Option Bool
  | 0, _, _, _ => none
  | n + 1, v1, v2, m =>
    if (3 : Int32) ≤ v2 then
      some true
    else
      if 0 ≤ (fM_bit v1 v2) then
        fM_doCount_2 n v1 (v2 + (1 : Int32)) m
      else
        (fM_three_I v2 m).bind fun o3 =>
        (fM_kindOf o3 m).bind fun o4 =>
        if o4 = (3 : Int32) then
          some false
        else
          fM_doCount_2 n v1 (v2 + (1 : Int32)) m
/-- 3TModel.doCount(I)Z, row 0 -/
def fM_doCount (a1 : Int32) (m : tk_m) : Option Bool :=
  fM_doCount_2 tk_F a1 (0 : Int32) m
/-- 3TModel.takesStraight(II)V, row 0 -/
def fM_takesStraight (a1 : Int32) (a2 : Int32) (m : tk_m) : Option tk_m :=
  (fM_three_I a2 m).bind fun o1 =>
  if tk_ok (m.1 295 16) 3 then
  (fM_slant 1003 o1 m).bind fun o3 =>
  (fM_slant 1004 o1 (m.1, tk_u2 m.2.1 (433 + (tk_n (m.1 295 16))) 0 (Int32.toInt64 o3), m.2.2.1, m.2.2.2)).bind fun o4 =>
  (fM_slant 1005 o1 (m.1, tk_u2 (tk_u2 m.2.1 (433 + (tk_n (m.1 295 16))) 0 (Int32.toInt64 o3)) (433 + (tk_n (m.1 295 16))) 1 (Int32.toInt64 o4), m.2.2.1, m.2.2.2)).bind fun o5 =>
  (fM_of0 o1 (2 : Int32) (m.1, tk_u2 (tk_u2 (tk_u2 m.2.1 (433 + (tk_n (m.1 295 16))) 0 (Int32.toInt64 o3)) (433 + (tk_n (m.1 295 16))) 1 (Int32.toInt64 o4)) (433 + (tk_n (m.1 295 16))) 2 (Int32.toInt64 ((-(fM_bit a1 a2)) * o5)), m.2.2.1, m.2.2.2)).bind fun o6 =>
  some (tk_u2 m.1 295 16 ((m.1 295 16) + (1 : Int32)), tk_u2 (tk_u2 (tk_u2 (tk_u2 m.2.1 (433 + (tk_n (m.1 295 16))) 0 (Int32.toInt64 o3)) (433 + (tk_n (m.1 295 16))) 1 (Int32.toInt64 o4)) (433 + (tk_n (m.1 295 16))) 2 (Int32.toInt64 ((-(fM_bit a1 a2)) * o5))) (433 + (tk_n (m.1 295 16))) 3 (Int32.toInt64 ((2 : Int32) * o6)), m.2.2.1, m.2.2.2)
  else none
/-- 3TModel.takesRound(III)V, row 0 -/
def fM_takesRound (a1 : Int32) (a2 : Int32) (a3 : Int32) (m : tk_m) : Option tk_m :=
  (fM_three_I a2 m).bind fun o1 =>
  (fM_three_I a3 m).bind fun o2 =>
  if tk_ok (m.1 295 16) 3 then
  (fM_of0 o1 (1 : Int32) m).bind fun o4 =>
  (fM_of0 o2 (1 : Int32) m).bind fun o5 =>
  (fM_of0 o1 (2 : Int32) (m.1, tk_u2 m.2.1 (433 + (tk_n (m.1 295 16))) 0 (Int32.toInt64 (o4 - o5)), m.2.2.1, m.2.2.2)).bind fun o6 =>
  (fM_of0 o2 (2 : Int32) (m.1, tk_u2 m.2.1 (433 + (tk_n (m.1 295 16))) 0 (Int32.toInt64 (o4 - o5)), m.2.2.1, m.2.2.2)).bind fun o7 =>
  (fM_of0 o2 (3 : Int32) (m.1, tk_u2 (tk_u2 m.2.1 (433 + (tk_n (m.1 295 16))) 0 (Int32.toInt64 (o4 - o5))) (433 + (tk_n (m.1 295 16))) 1 (Int32.toInt64 (o6 - o7)), m.2.2.1, m.2.2.2)).bind fun o8 =>
  (fM_of0 o1 (3 : Int32) (m.1, tk_u2 (tk_u2 m.2.1 (433 + (tk_n (m.1 295 16))) 0 (Int32.toInt64 (o4 - o5))) (433 + (tk_n (m.1 295 16))) 1 (Int32.toInt64 (o6 - o7)), m.2.2.1, m.2.2.2)).bind fun o9 =>
  (fM_form o1 (3 : Int32) (m.1, tk_u2 (tk_u2 (tk_u2 m.2.1 (433 + (tk_n (m.1 295 16))) 0 (Int32.toInt64 (o4 - o5))) (433 + (tk_n (m.1 295 16))) 1 (Int32.toInt64 (o6 - o7))) (433 + (tk_n (m.1 295 16))) 2 (Int32.toInt64 (((fM_bit a1 a3) * o8) - ((fM_bit a1 a2) * o9))), m.2.2.1, m.2.2.2)).bind fun o10 =>
  (fM_form o2 (3 : Int32) (m.1, tk_u2 (tk_u2 (tk_u2 m.2.1 (433 + (tk_n (m.1 295 16))) 0 (Int32.toInt64 (o4 - o5))) (433 + (tk_n (m.1 295 16))) 1 (Int32.toInt64 (o6 - o7))) (433 + (tk_n (m.1 295 16))) 2 (Int32.toInt64 (((fM_bit a1 a3) * o8) - ((fM_bit a1 a2) * o9))), m.2.2.1, m.2.2.2)).bind fun o11 =>
  some (tk_u2 m.1 295 16 ((m.1 295 16) + (1 : Int32)), tk_u2 (tk_u2 (tk_u2 (tk_u2 m.2.1 (433 + (tk_n (m.1 295 16))) 0 (Int32.toInt64 (o4 - o5))) (433 + (tk_n (m.1 295 16))) 1 (Int32.toInt64 (o6 - o7))) (433 + (tk_n (m.1 295 16))) 2 (Int32.toInt64 (((fM_bit a1 a3) * o8) - ((fM_bit a1 a2) * o9)))) (433 + (tk_n (m.1 295 16))) 3 (Int32.toInt64 (o10 - o11)), m.2.2.1, m.2.2.2)
  else none
def fM_crosses_2 : Nat → Nat → Nat → Nat → Int32 → tk_m → Option tk_m
  | 0, _, _, _, _, _ => none
  | n + 1, v0, v1, v2, v3, m =>
    if (3 : Int32) ≤ v3 then
      some m
    else
      if tk_ok (tk_irem (v3 + (1 : Int32)) (3 : Int32)) (tk_al v0) then
      if tk_ok (tk_irem (v3 + (2 : Int32)) (3 : Int32)) (tk_al v1) then
      if tk_ok (tk_irem (v3 + (2 : Int32)) (3 : Int32)) (tk_al v0) then
      if tk_ok (tk_irem (v3 + (1 : Int32)) (3 : Int32)) (tk_al v1) then
      if tk_ok v3 (tk_al v2) then
      fM_crosses_2 n v0 v1 v2 (v3 + (1 : Int32)) (m.1, tk_u2 m.2.1 v2 (tk_n v3) (((m.2.1 v0 (tk_n (tk_irem (v3 + (1 : Int32)) (3 : Int32)))) * (m.2.1 v1 (tk_n (tk_irem (v3 + (2 : Int32)) (3 : Int32))))) - ((m.2.1 v0 (tk_n (tk_irem (v3 + (2 : Int32)) (3 : Int32)))) * (m.2.1 v1 (tk_n (tk_irem (v3 + (1 : Int32)) (3 : Int32)))))), m.2.2.1, m.2.2.2)
      else none
      else none
      else none
      else none
      else none
/-- 3TModel.crosses([J[J[J)V, row 0 -/
def fM_crosses (a1 : Nat) (a2 : Nat) (a3 : Nat) (m : tk_m) : Option tk_m :=
  fM_crosses_2 tk_F a1 a2 a3 (0 : Int32) m
def fM_below_28 : Nat → Int64 → Int64 → Option Int64
  | 0, _, _ => none
  | n + 1, v4, v6 =>
    if v6 = (0 : Int64) then
      some v4
    else
      if v6 = 0 then none else
      fM_below_28 n v6 (tk_lrem v4 v6)
/-- 3TModel.below(JJ)J, row 0 -/
def fM_below (a1 : Int64) (a2 : Int64) : Option Int64 :=
  if (0 : Int64) ≤ a1 then
    if (0 : Int64) ≤ a2 then
      fM_below_28 tk_F (-a1) (-a2)
    else
      fM_below_28 tk_F (-a1) a2
  else
    if (0 : Int64) ≤ a2 then
      fM_below_28 tk_F a1 (-a2)
    else
      fM_below_28 tk_F a1 a2
/-- 3TModel.by(JJ)J, row 0 -/
def fM_by (a1 : Int64) (a2 : Int64) (m : tk_m) : Option (Int64 × tk_m) :=
  if a1 = (-9223372036854775808 : Int64) then
    if a2 = (-1 : Int64) then
      if a2 = 0 then none else
      some (a1 / a2, (m.1, m.2.1, tk_u2 m.2.2.1 295 4 ((m.2.2.1 295 4) || true), m.2.2.2))
    else
      if a2 = 0 then none else
      some (a1 / a2, (m.1, m.2.1, tk_u2 m.2.2.1 295 4 ((m.2.2.1 295 4) || false), m.2.2.2))
  else
    if a2 = 0 then none else
    some (a1 / a2, (m.1, m.2.1, tk_u2 m.2.2.1 295 4 ((m.2.2.1 295 4) || false), m.2.2.2))
def fM_lowest_24 (v1 : Int64) (v3 : Int64) (v5 : Int64) (v7 : Int64) (v9 : Nat) (v10 : Int64) (m : tk_m) : Option tk_m :=
  (fM_by v1 v10 m).bind fun o1 =>
  if tk_ok (0 : Int32) (tk_al v9) then
  (fM_by v3 v10 (o1.2.1, tk_u2 o1.2.2.1 v9 (tk_n (0 : Int32)) o1.1, o1.2.2.2.1, o1.2.2.2.2)).bind fun o3 =>
  if tk_ok (1 : Int32) (tk_al v9) then
  if v3 = (0 : Int64) then
    if tk_ok (2 : Int32) (tk_al v9) then
    (fM_by v7 v10 (o3.2.1, tk_u2 (tk_u2 o3.2.2.1 v9 (tk_n (1 : Int32)) o3.1) v9 (tk_n (2 : Int32)) (0 : Int64), o3.2.2.2.1, o3.2.2.2.2)).bind fun o7 =>
    if tk_ok (3 : Int32) (tk_al v9) then
    some (o7.2.1, tk_u2 o7.2.2.1 v9 (tk_n (3 : Int32)) o7.1, o7.2.2.2.1, o7.2.2.2.2)
    else none
    else none
  else
    if tk_ok (2 : Int32) (tk_al v9) then
    (fM_by v7 v10 (o3.2.1, tk_u2 (tk_u2 o3.2.2.1 v9 (tk_n (1 : Int32)) o3.1) v9 (tk_n (2 : Int32)) v5, o3.2.2.2.1, o3.2.2.2.2)).bind fun o10 =>
    if tk_ok (3 : Int32) (tk_al v9) then
    some (o10.2.1, tk_u2 o10.2.2.1 v9 (tk_n (3 : Int32)) o10.1, o10.2.2.2.1, o10.2.2.2.2)
    else none
    else none
  else none
  else none
/-- 3TModel.lowest(JJJJ[J)V, row 0 -/
def fM_lowest (a1 : Int64) (a2 : Int64) (a3 : Int64) (a4 : Int64) (a5 : Nat) (m : tk_m) : Option tk_m :=
  (fM_below a1 a2).bind fun o1 =>
  (fM_below o1 a4).bind fun o2 =>
  if a4 ≤ (0 : Int64) then
    fM_lowest_24 a1 a2 a3 a4 a5 o2 m
  else
    fM_lowest_24 a1 a2 a3 a4 a5 (-o2) m
/-- java/lang/Long.signum(J)I, row 0 -/
def fZ_signum_J (a1 : Int64) : Int32 :=
  Int64.toInt32 ((tk_lshr a1 (63 : Int32)) ||| (tk_lushr (-a1) (63 : Int32)))
def fM_widens_31 : Nat → Int32 → Int64 → Int32 → tk_m → Option (Int32 × tk_m)
  | 0, _, _, _, _ => none
  | n + 1, v3, v4, v6, m =>
    if (60 : Int32) ≤ v6 then
      some (v3, m)
    else
      if tk_ok v3 40 then
      if tk_ok v6 60 then
      fM_widens_31 n v3 (v4 / (10000 : Int64)) (v6 + (1 : Int32)) (tk_u2 m.1 (308 + (tk_n v3)) (tk_n v6) (Int64.toInt32 (fZ_abs_J (tk_lrem v4 (10000 : Int64)))), m.2.1, m.2.2.1, m.2.2.2)
      else none
      else none
/-- 3TModel.widens(J)I, row 0 -/
def fM_widens (a1 : Int64) (m : tk_m) : Option (Int32 × tk_m) :=
  if tk_ok (m.1 295 9) 40 then
  fM_widens_31 tk_F (m.1 295 9) a1 (0 : Int32) (tk_u2 (tk_u2 m.1 295 9 ((m.1 295 9) + (1 : Int32))) 348 (tk_n (m.1 295 9)) (fZ_signum_J a1), m.2.1, m.2.2.1, m.2.2.2)
  else none
def fM_timesWide_II_92 (r40 : Int32 → Int32 → Int32 → Int64 → Int32 → tk_m → Option (Int32 × tk_m)) (v1 : Int32) (v2 : Int32) (v3 : Int32) (v4 : Int64) (v6 : Int32) (m : tk_m) : Option (Int32 × tk_m) :=
  if tk_ok v3 40 then
  if tk_ok v6 60 then
  r40 v1 v2 v3 (v4 / (10000 : Int64)) (v6 + (1 : Int32)) (tk_u2 m.1 (308 + (tk_n v3)) (tk_n v6) (Int64.toInt32 (tk_lrem v4 (10000 : Int64))), m.2.1, m.2.2.1, m.2.2.2)
  else none
  else none
def fM_timesWide_II_50 (r40 : Int32 → Int32 → Int32 → Int64 → Int32 → tk_m → Option (Int32 × tk_m)) : Nat → Int32 → Int32 → Int32 → Int64 → Int32 → Int32 → tk_m → Option (Int32 × tk_m)
  | 0, _, _, _, _, _, _, _ => none
  | n + 1, v1, v2, v3, v4, v6, v7, m =>
    if v6 < v7 then
      fM_timesWide_II_92 r40 v1 v2 v3 v4 v6 m
    else
      if tk_ok v1 40 then
      if tk_ok v7 60 then
      if tk_ok v2 40 then
      if tk_ok (v6 - v7) 60 then
      fM_timesWide_II_50 r40 n v1 v2 v3 (v4 + ((Int32.toInt64 (m.1 (308 + (tk_n v1)) (tk_n v7))) * (Int32.toInt64 (m.1 (308 + (tk_n v2)) (tk_n (v6 - v7)))))) v6 (v7 + (1 : Int32)) m
      else none
      else none
      else none
      else none
def fM_timesWide_II_40 : Nat → Int32 → Int32 → Int32 → Int64 → Int32 → tk_m → Option (Int32 × tk_m)
  | 0, _, _, _, _, _, _ => none
  | n + 1, v1, v2, v3, v4, v6, m =>
    if (60 : Int32) ≤ v6 then
      some (v3, m)
    else
      fM_timesWide_II_50 (fM_timesWide_II_40 n) tk_F v1 v2 v3 v4 v6 (0 : Int32) m
/-- 3TModel.timesWide(II)I, row 0 -/
def fM_timesWide_II (a1 : Int32) (a2 : Int32) (m : tk_m) : Option (Int32 × tk_m) :=
  if tk_ok a1 40 then
  if tk_ok a2 40 then
  if tk_ok (m.1 295 9) 40 then
  fM_timesWide_II_40 tk_F a1 a2 (m.1 295 9) (0 : Int64) (0 : Int32) (tk_u2 (tk_u2 m.1 295 9 ((m.1 295 9) + (1 : Int32))) 348 (tk_n (m.1 295 9)) ((tk_u2 m.1 295 9 ((m.1 295 9) + (1 : Int32)) 348 (tk_n a1)) * (tk_u2 m.1 295 9 ((m.1 295 9) + (1 : Int32)) 348 (tk_n a2))), m.2.1, m.2.2.1, m.2.2.2)
  else none
  else none
  else none
def fM_compareSizes_26 (v1 : Int32) (v2 : Int32) (v3 : Int32) (m : tk_m) : Option Int32 :=
  if tk_ok v1 40 then
  if tk_ok v3 60 then
  if tk_ok v2 40 then
  if (m.1 (308 + (tk_n v2)) (tk_n v3)) ≤ (m.1 (308 + (tk_n v1)) (tk_n v3)) then
    some (1 : Int32)
  else
    some (-1 : Int32)
  else none
  else none
  else none
def fM_compareSizes_3 : Nat → Int32 → Int32 → Int32 → tk_m → Option Int32
  | 0, _, _, _, _ => none
  | n + 1, v1, v2, v3, m =>
    if v3 < 0 then
      some (0 : Int32)
    else
      if tk_ok v1 40 then
      if tk_ok v3 60 then
      if tk_ok v2 40 then
      if (m.1 (308 + (tk_n v1)) (tk_n v3)) = (m.1 (308 + (tk_n v2)) (tk_n v3)) then
        fM_compareSizes_3 n v1 v2 (v3 + (-1 : Int32)) m
      else
        fM_compareSizes_26 v1 v2 v3 m
      else none
      else none
      else none
/-- 3TModel.compareSizes(II)I, row 0 -/
def fM_compareSizes (a1 : Int32) (a2 : Int32) (m : tk_m) : Option Int32 :=
  fM_compareSizes_3 tk_F a1 a2 (59 : Int32) m
/-- 3TModel.signOf(IIJ)I, row 0 -/
def fM_signOf (a1 : Int32) (a2 : Int32) (a3 : Int64) (m : tk_m) : Option (Int32 × tk_m) :=
  if tk_ok a2 40 then
  if (m.1 348 (tk_n a2)) = 0 then
    if tk_ok a1 40 then
    some (m.1 348 (tk_n a1), m)
    else none
  else
    if tk_ok a1 40 then
    if (m.1 348 (tk_n a1)) = (m.1 348 (tk_n a2)) then
      some (m.1 348 (tk_n a1), m)
    else
      if (m.1 348 (tk_n a1)) = 0 then
        some (m.1 348 (tk_n a2), m)
      else
        (fM_timesWide_II a1 a1 m).bind fun o7 =>
        (fM_timesWide_II a2 a2 o7.2).bind fun o8 =>
        (fM_widens a3 o8.2).bind fun o9 =>
        (fM_timesWide_II o8.1 o9.1 o9.2).bind fun o10 =>
        (fM_compareSizes o7.1 o10.1 o10.2).bind fun o11 =>
        if o11 = 0 then
          some ((0 : Int32), o10.2)
        else
          if o11 ≤ 0 then
            some (o10.2.1 348 (tk_n a2), o10.2)
          else
            some (o10.2.1 348 (tk_n a1), o10.2)
    else none
  else none
def fM_takes_150 (v1 : Int32) (v2 : Int64) (v4 : Int64) (v6 : Nat) (v7 : Int64) (m : tk_m) : Option tk_m :=
  if v7 = 0 then none else
  (fM_widens (tk_u2 (tk_u2 m.2.1 v6 6 v2) v6 7 (v4 / v7) v6 2) (tk_u2 m.1 295 9 (0 : Int32), tk_u2 (tk_u2 m.2.1 v6 6 v2) v6 7 (v4 / v7), m.2.2.1, m.2.2.2)).bind fun o2 =>
  (fM_widens (o2.2.2.1 v6 5) o2.2).bind fun o3 =>
  (fM_signOf o2.1 o3.1 v2 o3.2).bind fun o4 =>
  if 0 < o4.1 then
    if tk_ok (o4.2.1 295 10) 16 then
    some (tk_u2 (tk_u2 o4.2.1 349 (tk_n (o4.2.1 295 10)) v1) 295 10 ((tk_u2 o4.2.1 349 (tk_n (o4.2.1 295 10)) v1 295 10) + (1 : Int32)), o4.2.2.1, o4.2.2.2.1, o4.2.2.2.2)
    else none
  else
    some o4.2
def fM_takes_73 : Nat → Int32 → Int64 → Int64 → Nat → Int64 → Int32 → tk_m → Option tk_m
  | 0, _, _, _, _, _, _, _ => none
  | n + 1, v1, v2, v4, v6, v7, v9, m =>
    if (3 : Int32) ≤ v9 then
      fM_takes_150 v1 v2 v4 v6 v7 m
    else
      if tk_ok v9 3 then
      if v7 = 0 then none else
      if tk_ok v9 8 then
      if v7 = 0 then none else
      if tk_ok ((3 : Int32) + v9) 8 then
      if tk_ok (m.1 295 10) 16 then
      (fM_lowest (tk_u2 (tk_u2 m.2.1 v6 (tk_n v9) ((m.2.1 440 (tk_n v9)) / v7)) v6 (tk_n ((3 : Int32) + v9)) ((tk_u2 m.2.1 v6 (tk_n v9) ((m.2.1 440 (tk_n v9)) / v7) 441 (tk_n v9)) / v7) 440 (tk_n v9)) (tk_u2 (tk_u2 m.2.1 v6 (tk_n v9) ((m.2.1 440 (tk_n v9)) / v7)) v6 (tk_n ((3 : Int32) + v9)) ((tk_u2 m.2.1 v6 (tk_n v9) ((m.2.1 440 (tk_n v9)) / v7) 441 (tk_n v9)) / v7) 441 (tk_n v9)) v2 v4 ((351 + 4 * (tk_n (m.1 295 10))) + 1 + (tk_n v9)) (m.1, tk_u2 (tk_u2 m.2.1 v6 (tk_n v9) ((m.2.1 440 (tk_n v9)) / v7)) v6 (tk_n ((3 : Int32) + v9)) ((tk_u2 m.2.1 v6 (tk_n v9) ((m.2.1 440 (tk_n v9)) / v7) 441 (tk_n v9)) / v7), m.2.2.1, m.2.2.2)).bind fun o8 =>
      fM_takes_73 n v1 v2 v4 v6 v7 (v9 + (1 : Int32)) o8
      else none
      else none
      else none
      else none
def fM_takes_58 (v1 : Int32) (v2 : Int64) (v4 : Int64) (v6 : Nat) (v7 : Int64) (m : tk_m) : Option tk_m :=
  if v4 ≤ (0 : Int64) then
    fM_takes_73 tk_F v1 v2 v4 v6 v7 (0 : Int32) m
  else
    fM_takes_73 tk_F v1 v2 v4 v6 (-v7) (0 : Int32) m
def fM_takes_22 : Nat → Int32 → Int64 → Int64 → Nat → Int64 → Int32 → tk_m → Option tk_m
  | 0, _, _, _, _, _, _, _ => none
  | n + 1, v1, v2, v4, v6, v7, v9, m =>
    if (3 : Int32) ≤ v9 then
      fM_takes_58 v1 v2 v4 v6 v7 m
    else
      if tk_ok v9 3 then
      (fM_below v7 (m.2.1 440 (tk_n v9))).bind fun o3 =>
      (fM_below o3 (m.2.1 441 (tk_n v9))).bind fun o4 =>
      fM_takes_22 n v1 v2 v4 v6 o4 (v9 + (1 : Int32)) m
      else none
/-- 3TModel.takes(IJJ)V, row 0 -/
def fM_takes (a1 : Int32) (a2 : Int64) (a3 : Int64) (m : tk_m) : Option tk_m :=
  if tk_ok (m.1 295 10) 16 then
  (fM_below a3 (0 : Int64)).bind fun o2 =>
  fM_takes_22 tk_F a1 a2 a3 (416 + (tk_n (m.1 295 10))) o2 (0 : Int32) m
  else none
def fM_byFirst_203 (v1 : Int32) (v2 : Int64) (m : tk_m) : Option tk_m :=
  (fM_takes v1 (0 : Int64) ((2 : Int64) * v2) m).bind fun o1 =>
  some o1
def fM_byFirst_158 (r120 : Int32 → Int64 → Int32 → tk_m → Option tk_m) : Nat → Int32 → Int64 → Int32 → Int32 → tk_m → Option tk_m
  | 0, _, _, _, _, _ => none
  | n + 1, v1, v2, v4, v5, m =>
    if (3 : Int32) ≤ v5 then
      r120 v1 v2 (v4 + (1 : Int32)) m
    else
      if tk_ok v5 3 then
      if tk_ok v4 3 then
      fM_byFirst_158 r120 n v1 v2 v4 (v5 + (1 : Int32)) (m.1, tk_u2 m.2.1 440 (tk_n v5) ((m.2.1 440 (tk_n v5)) + ((m.2.1 (433 + (tk_n v4)) 3) * (m.2.1 438 (tk_n v5)))), m.2.2.1, m.2.2.2)
      else none
      else none
def fM_byFirst_120 : Nat → Int32 → Int64 → Int32 → tk_m → Option tk_m
  | 0, _, _, _, _ => none
  | n + 1, v1, v2, v4, m =>
    if (3 : Int32) ≤ v4 then
      fM_byFirst_203 v1 v2 m
    else
      if tk_ok (tk_irem (v4 + (1 : Int32)) (3 : Int32)) 3 then
      if tk_ok (tk_irem (v4 + (2 : Int32)) (3 : Int32)) 3 then
      (fM_crosses (433 + (tk_n (tk_irem (v4 + (1 : Int32)) (3 : Int32)))) (433 + (tk_n (tk_irem (v4 + (2 : Int32)) (3 : Int32)))) 438 m).bind fun o4 =>
      fM_byFirst_158 (fM_byFirst_120 n) tk_F v1 v2 v4 (0 : Int32) o4
      else none
      else none
def fM_byFirst_89 : Nat → Int32 → Int64 → Int32 → tk_m → Option tk_m
  | 0, _, _, _, _ => none
  | n + 1, v1, v2, v4, m =>
    if (3 : Int32) ≤ v4 then
      fM_byFirst_120 tk_F v1 v2 (0 : Int32) m
    else
      if tk_ok v4 3 then
      fM_byFirst_89 n v1 v2 (v4 + (1 : Int32)) (m.1, tk_u2 (tk_u2 m.2.1 440 (tk_n v4) (0 : Int64)) 441 (tk_n v4) (0 : Int64), m.2.2.1, m.2.2.2)
      else none
/-- 3TModel.byFirst(I)V, row 0 -/
def fM_byFirst (a1 : Int32) (m : tk_m) : Option tk_m :=
  (fM_crosses 434 435 438 m).bind fun o1 =>
  if ((((o1.2.1 433 0) * (o1.2.1 438 0)) + ((o1.2.1 433 1) * (o1.2.1 438 1))) + ((o1.2.1 433 2) * (o1.2.1 438 2))) = (0 : Int64) then
    some (tk_u2 o1.1 295 11 ((o1.1 295 11) ||| (tk_ishl (1 : Int32) a1)), o1.2.1, o1.2.2.1, o1.2.2.2)
  else
    fM_byFirst_89 tk_F a1 ((((o1.2.1 433 0) * (o1.2.1 438 0)) + ((o1.2.1 433 1) * (o1.2.1 438 1))) + ((o1.2.1 433 2) * (o1.2.1 438 2))) (0 : Int32) o1
/-- 3TModel.quadric([J[J)J, row 0 -/
def fM_quadric (a1 : Nat) (a2 : Nat) (m : tk_m) : Option Int64 :=
  if tk_ok (0 : Int32) (tk_al a1) then
  if tk_ok (0 : Int32) (tk_al a2) then
  if tk_ok (1 : Int32) (tk_al a1) then
  if tk_ok (1 : Int32) (tk_al a2) then
  if tk_ok (2 : Int32) (tk_al a1) then
  if tk_ok (2 : Int32) (tk_al a2) then
  some ((((m.2.1 a1 (tk_n (0 : Int32))) * (m.2.1 a2 (tk_n (0 : Int32)))) + ((m.2.1 a1 (tk_n (1 : Int32))) * (m.2.1 a2 (tk_n (1 : Int32))))) - ((m.2.1 a1 (tk_n (2 : Int32))) * (m.2.1 a2 (tk_n (2 : Int32)))))
  else none
  else none
  else none
  else none
  else none
  else none
def fM_parts_95 (v3 : Int64) (m : tk_m) : Option tk_m :=
  some (m.1, tk_u2 m.2.1 295 6 ((m.2.1 295 6) * v3), m.2.2.1, m.2.2.2)
def fM_parts_61 (r17 : Int64 → Int64 → tk_m → Option tk_m) (v3 : Int64) (v5 : Int64) (m : tk_m) : Option tk_m :=
  if v5 = 0 then none else
  if (tk_lrem v3 v5) = (0 : Int64) then
    if v5 = 0 then none else
    r17 (v3 / v5) (v5 + (1 : Int64)) (m.1, tk_u2 m.2.1 295 6 ((m.2.1 295 6) * v5), m.2.2.1, m.2.2.2)
  else
    r17 v3 (v5 + (1 : Int64)) m
def fM_parts_27 (r17 : Int64 → Int64 → tk_m → Option tk_m) : Nat → Int64 → Int64 → tk_m → Option tk_m
  | 0, _, _, _ => none
  | n + 1, v3, v5, m =>
    if (v5 * v5) = 0 then none else
    if (tk_lrem v3 (v5 * v5)) = (0 : Int64) then
      if (v5 * v5) = 0 then none else
      fM_parts_27 r17 n (v3 / (v5 * v5)) v5 (m.1, tk_u2 m.2.1 295 5 ((m.2.1 295 5) * v5), m.2.2.1, m.2.2.2)
    else
      fM_parts_61 r17 v3 v5 m
def fM_parts_17 : Nat → Int64 → Int64 → tk_m → Option tk_m
  | 0, _, _, _ => none
  | n + 1, v3, v5, m =>
    if v3 < (v5 * v5) then
      fM_parts_95 v3 m
    else
      fM_parts_27 (fM_parts_17 n) tk_F v3 v5 m
/-- 3TModel.parts(J)V, row 0 -/
def fM_parts (a1 : Int64) (m : tk_m) : Option tk_m :=
  fM_parts_17 tk_F a1 (2 : Int64) (m.1, tk_u2 (tk_u2 m.2.1 295 5 (1 : Int64)) 295 6 (1 : Int64), m.2.2.1, m.2.2.2)
/-- 3TModel.timesWide(JJ)I, row 0 -/
def fM_timesWide_JJ (a1 : Int64) (a2 : Int64) (m : tk_m) : Option (Int32 × tk_m) :=
  (fM_widens a1 m).bind fun o1 =>
  (fM_widens a2 o1.2).bind fun o2 =>
  (fM_timesWide_II o1.1 o2.1 o2.2).bind fun o3 =>
  some (o3.1, o3.2)
/-- 3TModel.turned(I)I, row 0 -/
def fM_turned (a1 : Int32) (m : tk_m) : Option (Int32 × tk_m) :=
  if tk_ok a1 40 then
  some (a1, (tk_u2 m.1 348 (tk_n a1) (-(m.1 348 (tk_n a1))), m.2.1, m.2.2.1, m.2.2.2))
  else none
/-- java/lang/Math.floorMod(II)I, row 0 -/
def fZ_floorMod_I (a1 : Int32) (a2 : Int32) : Option Int32 :=
  if a2 = 0 then none else
  if 0 ≤ (a1 ^^^ a2) then
    some (tk_irem a1 a2)
  else
    if (tk_irem a1 a2) = 0 then
      some (tk_irem a1 a2)
    else
      some ((tk_irem a1 a2) + a2)
/-- java/lang/Math.floorDiv(II)I, row 0 -/
def fZ_floorDiv_I (a1 : Int32) (a2 : Int32) : Option Int32 :=
  if a2 = 0 then none else
  if 0 ≤ (a1 ^^^ a2) then
    some (a1 / a2)
  else
    if ((a1 / a2) * a2) = a1 then
      some (a1 / a2)
    else
      some ((a1 / a2) - (1 : Int32))
def fM_plusWide_177 (r131 : Int32 → Int32 → Int32 → Int32 → Int32 → Int32 → tk_m → Option (Int32 × tk_m)) (v3 : Int32) (v4 : Int32) (v5 : Int32) (v6 : Int32) (v7 : Int32) (v8 : Int32) (s0 : Int32) (s1 : Int32) (m : tk_m) : Option (Int32 × tk_m) :=
  if tk_ok v3 40 then
  (fZ_floorMod_I ((s1 + s0) + v7) (10000 : Int32)).bind fun o2 =>
  if tk_ok v8 60 then
  (fZ_floorDiv_I ((s1 + s0) + v7) (10000 : Int32)).bind fun o4 =>
  r131 v3 v4 v5 v6 o4 (v8 + (1 : Int32)) (tk_u2 m.1 (308 + (tk_n v3)) (tk_n v8) o2, m.2.1, m.2.2.1, m.2.2.2)
  else none
  else none
def fM_plusWide_131 : Nat → Int32 → Int32 → Int32 → Int32 → Int32 → Int32 → tk_m → Option (Int32 × tk_m)
  | 0, _, _, _, _, _, _, _ => none
  | n + 1, v3, v4, v5, v6, v7, v8, m =>
    if (60 : Int32) ≤ v8 then
      some (v3, m)
    else
      if tk_ok v5 40 then
      if tk_ok v8 60 then
      if v4 = 0 then
        if tk_ok v6 40 then
        fM_plusWide_177 (fM_plusWide_131 n) v3 v4 v5 v6 v7 v8 (-(m.1 (308 + (tk_n v6)) (tk_n v8))) (m.1 (308 + (tk_n v5)) (tk_n v8)) m
        else none
      else
        if tk_ok v6 40 then
        fM_plusWide_177 (fM_plusWide_131 n) v3 v4 v5 v6 v7 v8 (m.1 (308 + (tk_n v6)) (tk_n v8)) (m.1 (308 + (tk_n v5)) (tk_n v8)) m
        else none
      else none
      else none
def fM_plusWide_65 (v1 : Int32) (v2 : Int32) (v3 : Int32) (v4 : Int32) (v5 : Int32) (s0 : Int32) (m : tk_m) : Option (Int32 × tk_m) :=
  if v4 = 0 then
    (fM_compareSizes v1 v2 m).bind fun o2 =>
    if o2 = 0 then
      if tk_ok v3 40 then
      fM_plusWide_131 tk_F v3 v4 v5 s0 (0 : Int32) (0 : Int32) (tk_u2 m.1 348 (tk_n v3) (0 : Int32), m.2.1, m.2.2.1, m.2.2.2)
      else none
    else
      if tk_ok v5 40 then
      if tk_ok v3 40 then
      fM_plusWide_131 tk_F v3 v4 v5 s0 (0 : Int32) (0 : Int32) (tk_u2 m.1 348 (tk_n v3) (m.1 348 (tk_n v5)), m.2.1, m.2.2.1, m.2.2.2)
      else none
      else none
  else
    if tk_ok v1 40 then
    if (m.1 348 (tk_n v1)) = 0 then
      if tk_ok v2 40 then
      if tk_ok v3 40 then
      fM_plusWide_131 tk_F v3 v4 v5 s0 (0 : Int32) (0 : Int32) (tk_u2 m.1 348 (tk_n v3) (m.1 348 (tk_n v2)), m.2.1, m.2.2.1, m.2.2.2)
      else none
      else none
    else
      if tk_ok v3 40 then
      fM_plusWide_131 tk_F v3 v4 v5 s0 (0 : Int32) (0 : Int32) (tk_u2 m.1 348 (tk_n v3) (m.1 348 (tk_n v1)), m.2.1, m.2.2.1, m.2.2.2)
      else none
    else none
def fM_plusWide_36 (v1 : Int32) (v2 : Int32) (v3 : Int32) (s0 : Int32) (m : tk_m) : Option (Int32 × tk_m) :=
  (fM_compareSizes v1 v2 m).bind fun o1 =>
  if 0 ≤ o1 then
    if v1 = v1 then
      fM_plusWide_65 v1 v2 v3 s0 v1 v2 m
    else
      fM_plusWide_65 v1 v2 v3 s0 v1 v1 m
  else
    if v2 = v1 then
      fM_plusWide_65 v1 v2 v3 s0 v2 v2 m
    else
      fM_plusWide_65 v1 v2 v3 s0 v2 v1 m
/-- 3TModel.plusWide(II)I, row 0 -/
def fM_plusWide (a1 : Int32) (a2 : Int32) (m : tk_m) : Option (Int32 × tk_m) :=
  if tk_ok a1 40 then
  if tk_ok a2 40 then
  if ((tk_u2 m.1 295 9 ((m.1 295 9) + (1 : Int32)) 348 (tk_n a1)) * (tk_u2 m.1 295 9 ((m.1 295 9) + (1 : Int32)) 348 (tk_n a2))) < 0 then
    fM_plusWide_36 a1 a2 (m.1 295 9) (0 : Int32) (tk_u2 m.1 295 9 ((m.1 295 9) + (1 : Int32)), m.2.1, m.2.2.1, m.2.2.2)
  else
    fM_plusWide_36 a1 a2 (m.1 295 9) (1 : Int32) (tk_u2 m.1 295 9 ((m.1 295 9) + (1 : Int32)), m.2.1, m.2.2.1, m.2.2.2)
  else none
  else none
def fM_compares_218 (v1 : Nat) (v2 : Nat) (v3 : Int32) (v4 : Int32) (v5 : Int32) (v6 : Int32) (v7 : Int32) (s0 : Int32) (m : tk_m) : Option (Int32 × tk_m) :=
  if tk_ok v3 40 then
  if (m.1 348 (tk_n v3)) = 0 then
    some (s0, m)
  else
    if (m.1 348 (tk_n v3)) = s0 then
      some (s0, m)
    else
      (fM_timesWide_II v3 v3 m).bind fun o4 =>
      (fM_plusWide v6 v7 o4.2).bind fun o5 =>
      (fM_turned o5.1 o5.2).bind fun o6 =>
      (fM_plusWide o4.1 o6.1 o6.2).bind fun o7 =>
      (fM_timesWide_II v4 v5 o7.2).bind fun o8 =>
      (fM_widens (2 : Int64) o8.2).bind fun o9 =>
      (fM_timesWide_II o8.1 o9.1 o9.2).bind fun o10 =>
      (fM_turned o10.1 o10.2).bind fun o11 =>
      if tk_ok (2 : Int32) (tk_al v1) then
      if tk_ok (2 : Int32) (tk_al v2) then
      (fM_signOf o7.1 o11.1 ((o11.2.2.1 v1 (tk_n (2 : Int32))) * (o11.2.2.1 v2 (tk_n (2 : Int32)))) o11.2).bind fun o14 =>
      if o14.1 ≤ 0 then
        some (s0, o14.2)
      else
        some (o14.2.1 348 (tk_n v3), o14.2)
      else none
      else none
  else none
/-- 3TModel.compares([J[J)I, row 0 -/
def fM_compares (a1 : Nat) (a2 : Nat) (m : tk_m) : Option (Int32 × tk_m) :=
  if tk_ok (0 : Int32) (tk_al a1) then
  if tk_ok (3 : Int32) (tk_al a2) then
  (fM_timesWide_JJ (m.2.1 a1 (tk_n (0 : Int32))) (m.2.1 a2 (tk_n (3 : Int32))) (tk_u2 m.1 295 9 (0 : Int32), m.2.1, m.2.2.1, m.2.2.2)).bind fun o3 =>
  if tk_ok (0 : Int32) (tk_al a2) then
  if tk_ok (3 : Int32) (tk_al a1) then
  (fM_timesWide_JJ (o3.2.2.1 a2 (tk_n (0 : Int32))) (o3.2.2.1 a1 (tk_n (3 : Int32))) o3.2).bind fun o6 =>
  (fM_turned o6.1 o6.2).bind fun o7 =>
  (fM_plusWide o3.1 o7.1 o7.2).bind fun o8 =>
  if tk_ok (1 : Int32) (tk_al a1) then
  (fM_timesWide_JJ (o8.2.2.1 a1 (tk_n (1 : Int32))) (o8.2.2.1 a2 (tk_n (3 : Int32))) o8.2).bind fun o10 =>
  if tk_ok (1 : Int32) (tk_al a2) then
  (fM_timesWide_JJ (o10.2.2.1 a2 (tk_n (1 : Int32))) (o10.2.2.1 a1 (tk_n (3 : Int32))) o10.2).bind fun o12 =>
  (fM_turned o12.1 o12.2).bind fun o13 =>
  if tk_ok o10.1 40 then
  if (o13.2.1 348 (tk_n o10.1)) = 0 then
    if tk_ok (2 : Int32) (tk_al a2) then
    (fM_signOf o8.1 o13.1 (o13.2.2.1 a2 (tk_n (2 : Int32))) o13.2).bind fun o17 =>
    some (o17.1, o17.2)
    else none
  else
    if tk_ok o13.1 40 then
    if (o13.2.1 348 (tk_n o13.1)) = 0 then
      if tk_ok (2 : Int32) (tk_al a1) then
      (fM_signOf o8.1 o10.1 (o13.2.2.1 a1 (tk_n (2 : Int32))) o13.2).bind fun o21 =>
      some (o21.1, o21.2)
      else none
    else
      if tk_ok (2 : Int32) (tk_al a1) then
      if tk_ok (2 : Int32) (tk_al a2) then
      if (o13.2.2.1 a1 (tk_n (2 : Int32))) = (o13.2.2.1 a2 (tk_n (2 : Int32))) then
        (fM_plusWide o10.1 o13.1 o13.2).bind fun o25 =>
        (fM_signOf o8.1 o25.1 (o25.2.2.1 a1 (tk_n (2 : Int32))) o25.2).bind fun o26 =>
        some (o26.1, o26.2)
      else
        (fM_timesWide_II o10.1 o10.1 o13.2).bind fun o27 =>
        (fM_widens (o27.2.2.1 a1 (tk_n (2 : Int32))) o27.2).bind fun o28 =>
        (fM_timesWide_II o27.1 o28.1 o28.2).bind fun o29 =>
        (fM_timesWide_II o13.1 o13.1 o29.2).bind fun o30 =>
        (fM_widens (o30.2.2.1 a2 (tk_n (2 : Int32))) o30.2).bind fun o31 =>
        (fM_timesWide_II o30.1 o31.1 o31.2).bind fun o32 =>
        if (o32.2.1 348 (tk_n o10.1)) = (o32.2.1 348 (tk_n o13.1)) then
          fM_compares_218 a1 a2 o8.1 o10.1 o13.1 o29.1 o32.1 (o32.2.1 348 (tk_n o10.1)) o32.2
        else
          (fM_compareSizes o29.1 o32.1 o32.2).bind fun o34 =>
          if o34 ≤ 0 then
            fM_compares_218 a1 a2 o8.1 o10.1 o13.1 o29.1 o32.1 (o32.2.1 348 (tk_n o13.1)) o32.2
          else
            fM_compares_218 a1 a2 o8.1 o10.1 o13.1 o29.1 o32.1 (o32.2.1 348 (tk_n o10.1)) o32.2
      else none
      else none
    else none
  else none
  else none
  else none
  else none
  else none
  else none
  else none
def fM_laysInOrder_183 : Nat → Int32 → Int32 → tk_m → Option tk_m
  | 0, _, _, _ => none
  | n + 1, v1, v3, m =>
    if (8 : Int32) ≤ v3 then
      some m
    else
      if tk_ok v1 16 then
      if tk_ok v3 8 then
      if tk_ok (v1 + (1 : Int32)) 16 then
      fM_laysInOrder_183 n v1 (v3 + (1 : Int32)) (m.1, tk_u2 (tk_u2 m.2.1 (416 + (tk_n v1)) (tk_n v3) (m.2.1 (416 + (tk_n (v1 + (1 : Int32)))) (tk_n v3))) (416 + (tk_n (v1 + (1 : Int32)))) (tk_n v3) (m.2.1 (416 + (tk_n v1)) (tk_n v3)), m.2.2.1, m.2.2.2)
      else none
      else none
      else none
def fM_laysInOrder_111 (r103 : Int32 → Int32 → tk_m → Option tk_m) : Nat → Int32 → Int32 → Int32 → tk_m → Option tk_m
  | 0, _, _, _, _ => none
  | n + 1, v1, v3, v4, m =>
    if (4 : Int32) ≤ v4 then
      r103 v1 (v3 + (1 : Int32)) m
    else
      if tk_ok v1 16 then
      if tk_ok v3 3 then
      if tk_ok v4 4 then
      if tk_ok (v1 + (1 : Int32)) 16 then
      fM_laysInOrder_111 r103 n v1 v3 (v4 + (1 : Int32)) (m.1, tk_u2 (tk_u2 m.2.1 ((351 + 4 * (tk_n v1)) + 1 + (tk_n v3)) (tk_n v4) (m.2.1 ((351 + 4 * (tk_n (v1 + (1 : Int32)))) + 1 + (tk_n v3)) (tk_n v4))) ((351 + 4 * (tk_n (v1 + (1 : Int32)))) + 1 + (tk_n v3)) (tk_n v4) (m.2.1 ((351 + 4 * (tk_n v1)) + 1 + (tk_n v3)) (tk_n v4)), m.2.2.1, m.2.2.2)
      else none
      else none
      else none
      else none
def fM_laysInOrder_103 : Nat → Int32 → Int32 → tk_m → Option tk_m
  | 0, _, _, _ => none
  | n + 1, v1, v3, m =>
    if (3 : Int32) ≤ v3 then
      fM_laysInOrder_183 tk_F v1 (0 : Int32) m
    else
      fM_laysInOrder_111 (fM_laysInOrder_103 n) tk_F v1 v3 (0 : Int32) m
def fM_laysInOrder_64 (v1 : Int32) (s0 : Int32) (m : tk_m) : Option tk_m :=
  if s0 = 0 then
    if tk_ok v1 16 then
    if tk_ok (v1 + (1 : Int32)) 16 then
    (fM_compares ((351 + 4 * (tk_n v1)) + 1 + 1) ((351 + 4 * (tk_n (v1 + (1 : Int32)))) + 1 + 1) m).bind fun o4 =>
    if 0 < o4.1 then
      fM_laysInOrder_103 tk_F v1 (0 : Int32) o4.2
    else
      some o4.2
    else none
    else none
  else
    if 0 < s0 then
      fM_laysInOrder_103 tk_F v1 (0 : Int32) m
    else
      some m
/-- 3TModel.laysInOrder(I)V, row 0 -/
def fM_laysInOrder (a1 : Int32) (m : tk_m) : Option tk_m :=
  if (2 : Int32) ≤ ((m.1 295 10) - a1) then
    if tk_ok a1 16 then
    if tk_ok (a1 + (1 : Int32)) 16 then
    (fM_compares ((351 + 4 * (tk_n a1)) + 1 + 2) ((351 + 4 * (tk_n (a1 + (1 : Int32)))) + 1 + 2) m).bind fun o4 =>
    if o4.1 = 0 then
      (fM_compares ((351 + 4 * (tk_n a1)) + 1 + 0) ((351 + 4 * (tk_n (a1 + (1 : Int32)))) + 1 + 0) o4.2).bind fun o6 =>
      fM_laysInOrder_64 a1 o6.1 o6.2
    else
      fM_laysInOrder_64 a1 o4.1 o4.2
    else none
    else none
  else
    some m
def fM_solves_78 (v1 : Int32) (v4 : Int64) (v8 : Int64) (m : tk_m) : Option tk_m :=
  (fM_takes v1 (0 : Int64) (v4 * v8) m).bind fun o1 =>
  some o1
def fM_solves_38 : Nat → Int32 → Int64 → Int64 → Int64 → Int32 → tk_m → Option tk_m
  | 0, _, _, _, _, _, _ => none
  | n + 1, v1, v4, v6, v8, v11, m =>
    if (3 : Int32) ≤ v11 then
      fM_solves_78 v1 v4 v8 m
    else
      if tk_ok v11 3 then
      fM_solves_38 n v1 v4 v6 v8 (v11 + (1 : Int32)) (m.1, tk_u2 m.2.1 440 (tk_n v11) ((v4 * (m.2.1 437 (tk_n v11))) - (v6 * (m.2.1 436 (tk_n v11)))), m.2.2.1, m.2.2.2)
      else none
def fM_solves_267 (r130 : Int32 → Int64 → Int64 → Int64 → Int32 → Int64 → Int32 → tk_m → Option tk_m) (v1 : Int32) (v2 : Int64) (v4 : Int64) (v8 : Int64) (v10 : Int32) (v11 : Int64) (v13 : Int32) (m : tk_m) : Option tk_m :=
  if v11 = (0 : Int64) then
    (fM_takes v1 (0 : Int64) (((2 : Int64) * v2) * v8) m).bind fun o2 =>
    r130 v1 v2 v4 v8 v10 v11 (v13 + (2 : Int32)) o2
  else
    if (m.2.1 295 6) = (1 : Int64) then
      (fM_takes v1 (0 : Int64) (((2 : Int64) * v2) * v8) m).bind fun o4 =>
      r130 v1 v2 v4 v8 v10 v11 (v13 + (2 : Int32)) o4
    else
      (fM_takes v1 (m.2.1 295 6) (((2 : Int64) * v2) * v8) m).bind fun o5 =>
      r130 v1 v2 v4 v8 v10 v11 (v13 + (2 : Int32)) o5
def fM_solves_230 (r130 : Int32 → Int64 → Int64 → Int64 → Int32 → Int64 → Int32 → tk_m → Option tk_m) (r150 : Int32 → Int64 → Int64 → Int64 → Int32 → Int64 → Int32 → Int32 → tk_m → Option tk_m) (v1 : Int32) (v2 : Int64) (v4 : Int64) (v8 : Int64) (v10 : Int32) (v11 : Int64) (v13 : Int32) (v14 : Int32) (v15 : Int64) (s0 : Int64) (s1 : Int64) (s2 : Int32) (m : tk_m) : Option tk_m :=
  if tk_ok s2 3 then
  if v11 = (0 : Int64) then
    if tk_ok v14 3 then
    r150 v1 v2 v4 v8 v10 v11 v13 (v14 + (1 : Int32)) (m.1, tk_u2 (tk_u2 m.2.1 440 (tk_n s2) (s1 + s0)) 441 (tk_n v14) (0 : Int64), m.2.2.1, m.2.2.2)
    else none
  else
    if (tk_u2 m.2.1 440 (tk_n s2) (s1 + s0) 295 6) = (1 : Int64) then
      if tk_ok v14 3 then
      r150 v1 v2 v4 v8 v10 v11 v13 (v14 + (1 : Int32)) (m.1, tk_u2 (tk_u2 m.2.1 440 (tk_n s2) (s1 + s0)) 441 (tk_n v14) (0 : Int64), m.2.2.1, m.2.2.2)
      else none
    else
      if tk_ok v14 3 then
      r150 v1 v2 v4 v8 v10 v11 v13 (v14 + (1 : Int32)) (m.1, tk_u2 (tk_u2 m.2.1 440 (tk_n s2) (s1 + s0)) 441 (tk_n v14) v15, m.2.2.1, m.2.2.2)
      else none
  else none
def fM_solves_183 (r130 : Int32 → Int64 → Int64 → Int64 → Int32 → Int64 → Int32 → tk_m → Option tk_m) (r150 : Int32 → Int64 → Int64 → Int64 → Int32 → Int64 → Int32 → Int32 → tk_m → Option tk_m) (v1 : Int32) (v2 : Int64) (v4 : Int64) (v8 : Int64) (v10 : Int32) (v11 : Int64) (v13 : Int32) (v14 : Int32) (s0 : Int64) (m : tk_m) : Option tk_m :=
  if tk_ok v14 3 then
  if (m.2.1 295 6) = (1 : Int64) then
    fM_solves_230 r130 r150 v1 v2 v4 v8 v10 v11 v13 v14 s0 s0 ((((2 : Int64) * v2) * (m.2.1 437 (tk_n v14))) - (v4 * (m.2.1 436 (tk_n v14)))) v14 m
  else
    fM_solves_230 r130 r150 v1 v2 v4 v8 v10 v11 v13 v14 s0 (0 : Int64) ((((2 : Int64) * v2) * (m.2.1 437 (tk_n v14))) - (v4 * (m.2.1 436 (tk_n v14)))) v14 m
  else none
def fM_solves_150 (r130 : Int32 → Int64 → Int64 → Int64 → Int32 → Int64 → Int32 → tk_m → Option tk_m) : Nat → Int32 → Int64 → Int64 → Int64 → Int32 → Int64 → Int32 → Int32 → tk_m → Option tk_m
  | 0, _, _, _, _, _, _, _, _, _ => none
  | n + 1, v1, v2, v4, v8, v10, v11, v13, v14, m =>
    if (3 : Int32) ≤ v14 then
      fM_solves_267 r130 v1 v2 v4 v8 v10 v11 v13 m
    else
      if v11 = (0 : Int64) then
        fM_solves_183 r130 (fM_solves_150 r130 n) v1 v2 v4 v8 v10 v11 v13 v14 (0 : Int64) m
      else
        if tk_ok v14 3 then
        fM_solves_183 r130 (fM_solves_150 r130 n) v1 v2 v4 v8 v10 v11 v13 v14 (((Int32.toInt64 v13) * (m.2.1 436 (tk_n v14))) * (m.2.1 295 5)) m
        else none
def fM_solves_130 : Nat → Int32 → Int64 → Int64 → Int64 → Int32 → Int64 → Int32 → tk_m → Option tk_m
  | 0, _, _, _, _, _, _, _, _ => none
  | n + 1, v1, v2, v4, v8, v10, v11, v13, m =>
    if v11 = (0 : Int64) then
      if (-1 : Int32) < v13 then
        (fM_laysInOrder v10 m).bind fun o3 =>
        some o3
      else
        fM_solves_150 (fM_solves_130 n) tk_F v1 v2 v4 v8 v10 v11 v13 (0 : Int32) m
    else
      if (1 : Int32) < v13 then
        (fM_laysInOrder v10 m).bind fun o5 =>
        some o5
      else
        fM_solves_150 (fM_solves_130 n) tk_F v1 v2 v4 v8 v10 v11 v13 (0 : Int32) m
def fM_solves_29 (v1 : Int32) (v2 : Int64) (v4 : Int64) (v6 : Int64) (v8 : Int64) (v10 : Int32) (m : tk_m) : Option tk_m :=
  if v2 = (0 : Int64) then
    fM_solves_38 tk_F v1 v4 v6 v8 (0 : Int32) m
  else
    if (0 : Int64) ≤ ((v4 * v4) - (((4 : Int64) * v2) * v6)) then
      if ((v4 * v4) - (((4 : Int64) * v2) * v6)) ≤ (0 : Int64) then
        fM_solves_130 tk_F v1 v2 v4 v8 v10 ((v4 * v4) - (((4 : Int64) * v2) * v6)) (-1 : Int32) m
      else
        (fM_parts ((v4 * v4) - (((4 : Int64) * v2) * v6)) m).bind fun o4 =>
        fM_solves_130 tk_F v1 v2 v4 v8 v10 ((v4 * v4) - (((4 : Int64) * v2) * v6)) (-1 : Int32) o4
    else
      some m
def fM_solves_9 : Nat → Int32 → Int64 → Int64 → Int64 → Int64 → Int32 → Int32 → tk_m → Option tk_m
  | 0, _, _, _, _, _, _, _, _ => none
  | n + 1, v1, v2, v4, v6, v8, v10, v11, m =>
    if (3 : Int32) ≤ v11 then
      fM_solves_29 v1 v2 v4 v6 v8 v10 m
    else
      if tk_ok v11 3 then
      fM_solves_9 n v1 v2 v4 v6 v8 v10 (v11 + (1 : Int32)) (m.1, tk_u2 m.2.1 441 (tk_n v11) (0 : Int64), m.2.2.1, m.2.2.2)
      else none
/-- 3TModel.solves(IJJJJ)V, row 0 -/
def fM_solves (a1 : Int32) (a2 : Int64) (a3 : Int64) (a4 : Int64) (a5 : Int64) (m : tk_m) : Option tk_m :=
  fM_solves_9 tk_F a1 a2 a3 a4 a5 (m.1 295 10) (0 : Int32) m
def fM_byLine_431 (v1 : Int32) (v5 : Int64) (v8 : Int64) (v10 : Int64) (v12 : Int64) (m : tk_m) : Option tk_m :=
  (fM_below v8 v10).bind fun o1 =>
  (fM_below o1 v12).bind fun o2 =>
  if (-o2) = 0 then none else
  if (-o2) = 0 then none else
  if (-o2) = 0 then none else
  (fM_solves v1 (v8 / (-o2)) (v10 / (-o2)) (v12 / (-o2)) v5 m).bind fun o6 =>
  some o6
def fM_byLine_169 (v1 : Int32) (v2 : Int32) (v3 : Int64) (m : tk_m) : Option tk_m :=
  (fM_three_I v2 m).bind fun o1 =>
  (fM_of0 o1 (1 : Int32) m).bind fun o2 =>
  (fM_of0 o1 (2 : Int32) (m.1, tk_u2 m.2.1 438 0 ((-2 : Int64) * (Int32.toInt64 o2)), m.2.2.1, m.2.2.2)).bind fun o3 =>
  (fM_of0 o1 (3 : Int32) (m.1, tk_u2 (tk_u2 m.2.1 438 0 ((-2 : Int64) * (Int32.toInt64 o2))) 438 1 ((-2 : Int64) * (Int32.toInt64 o3)), m.2.2.1, m.2.2.2)).bind fun o4 =>
  (fM_quadric 436 436 (m.1, tk_u2 (tk_u2 (tk_u2 m.2.1 438 0 ((-2 : Int64) * (Int32.toInt64 o2))) 438 1 ((-2 : Int64) * (Int32.toInt64 o3))) 438 2 (((2 : Int64) * (Int32.toInt64 (fM_bit v1 v2))) * (Int32.toInt64 o4)), m.2.2.1, m.2.2.2)).bind fun o5 =>
  (fM_quadric 437 436 (m.1, tk_u2 (tk_u2 (tk_u2 m.2.1 438 0 ((-2 : Int64) * (Int32.toInt64 o2))) 438 1 ((-2 : Int64) * (Int32.toInt64 o3))) 438 2 (((2 : Int64) * (Int32.toInt64 (fM_bit v1 v2))) * (Int32.toInt64 o4)), m.2.2.1, m.2.2.2)).bind fun o6 =>
  (fM_quadric 437 437 (m.1, tk_u2 (tk_u2 (tk_u2 m.2.1 438 0 ((-2 : Int64) * (Int32.toInt64 o2))) 438 1 ((-2 : Int64) * (Int32.toInt64 o3))) 438 2 (((2 : Int64) * (Int32.toInt64 (fM_bit v1 v2))) * (Int32.toInt64 o4)), m.2.2.1, m.2.2.2)).bind fun o7 =>
  (fM_form o1 (3 : Int32) (m.1, tk_u2 (tk_u2 (tk_u2 m.2.1 438 0 ((-2 : Int64) * (Int32.toInt64 o2))) 438 1 ((-2 : Int64) * (Int32.toInt64 o3))) 438 2 (((2 : Int64) * (Int32.toInt64 (fM_bit v1 v2))) * (Int32.toInt64 o4)), m.2.2.1, m.2.2.2)).bind fun o8 =>
  if o5 = (0 : Int64) then
    if (((2 : Int64) * o6) + (((2 : Int64) * v3) * ((((tk_u2 (tk_u2 (tk_u2 m.2.1 438 0 ((-2 : Int64) * (Int32.toInt64 o2))) 438 1 ((-2 : Int64) * (Int32.toInt64 o3))) 438 2 (((2 : Int64) * (Int32.toInt64 (fM_bit v1 v2))) * (Int32.toInt64 o4)) 438 0) * (tk_u2 (tk_u2 (tk_u2 m.2.1 438 0 ((-2 : Int64) * (Int32.toInt64 o2))) 438 1 ((-2 : Int64) * (Int32.toInt64 o3))) 438 2 (((2 : Int64) * (Int32.toInt64 (fM_bit v1 v2))) * (Int32.toInt64 o4)) 436 0)) + ((tk_u2 (tk_u2 (tk_u2 m.2.1 438 0 ((-2 : Int64) * (Int32.toInt64 o2))) 438 1 ((-2 : Int64) * (Int32.toInt64 o3))) 438 2 (((2 : Int64) * (Int32.toInt64 (fM_bit v1 v2))) * (Int32.toInt64 o4)) 438 1) * (tk_u2 (tk_u2 (tk_u2 m.2.1 438 0 ((-2 : Int64) * (Int32.toInt64 o2))) 438 1 ((-2 : Int64) * (Int32.toInt64 o3))) 438 2 (((2 : Int64) * (Int32.toInt64 (fM_bit v1 v2))) * (Int32.toInt64 o4)) 436 1))) + ((tk_u2 (tk_u2 (tk_u2 m.2.1 438 0 ((-2 : Int64) * (Int32.toInt64 o2))) 438 1 ((-2 : Int64) * (Int32.toInt64 o3))) 438 2 (((2 : Int64) * (Int32.toInt64 (fM_bit v1 v2))) * (Int32.toInt64 o4)) 438 2) * (tk_u2 (tk_u2 (tk_u2 m.2.1 438 0 ((-2 : Int64) * (Int32.toInt64 o2))) 438 1 ((-2 : Int64) * (Int32.toInt64 o3))) 438 2 (((2 : Int64) * (Int32.toInt64 (fM_bit v1 v2))) * (Int32.toInt64 o4)) 436 2))))) = (0 : Int64) then
      if ((o7 + (((2 : Int64) * v3) * ((((tk_u2 (tk_u2 (tk_u2 m.2.1 438 0 ((-2 : Int64) * (Int32.toInt64 o2))) 438 1 ((-2 : Int64) * (Int32.toInt64 o3))) 438 2 (((2 : Int64) * (Int32.toInt64 (fM_bit v1 v2))) * (Int32.toInt64 o4)) 438 0) * (tk_u2 (tk_u2 (tk_u2 m.2.1 438 0 ((-2 : Int64) * (Int32.toInt64 o2))) 438 1 ((-2 : Int64) * (Int32.toInt64 o3))) 438 2 (((2 : Int64) * (Int32.toInt64 (fM_bit v1 v2))) * (Int32.toInt64 o4)) 437 0)) + ((tk_u2 (tk_u2 (tk_u2 m.2.1 438 0 ((-2 : Int64) * (Int32.toInt64 o2))) 438 1 ((-2 : Int64) * (Int32.toInt64 o3))) 438 2 (((2 : Int64) * (Int32.toInt64 (fM_bit v1 v2))) * (Int32.toInt64 o4)) 438 1) * (tk_u2 (tk_u2 (tk_u2 m.2.1 438 0 ((-2 : Int64) * (Int32.toInt64 o2))) 438 1 ((-2 : Int64) * (Int32.toInt64 o3))) 438 2 (((2 : Int64) * (Int32.toInt64 (fM_bit v1 v2))) * (Int32.toInt64 o4)) 437 1))) + ((tk_u2 (tk_u2 (tk_u2 m.2.1 438 0 ((-2 : Int64) * (Int32.toInt64 o2))) 438 1 ((-2 : Int64) * (Int32.toInt64 o3))) 438 2 (((2 : Int64) * (Int32.toInt64 (fM_bit v1 v2))) * (Int32.toInt64 o4)) 438 2) * (tk_u2 (tk_u2 (tk_u2 m.2.1 438 0 ((-2 : Int64) * (Int32.toInt64 o2))) 438 1 ((-2 : Int64) * (Int32.toInt64 o3))) 438 2 (((2 : Int64) * (Int32.toInt64 (fM_bit v1 v2))) * (Int32.toInt64 o4)) 437 2))))) + ((((2 : Int64) * v3) * ((2 : Int64) * v3)) * (Int32.toInt64 o8))) = (0 : Int64) then
        some (tk_u2 m.1 295 11 ((m.1 295 11) ||| (tk_ishl (1 : Int32) v1)), tk_u2 (tk_u2 (tk_u2 m.2.1 438 0 ((-2 : Int64) * (Int32.toInt64 o2))) 438 1 ((-2 : Int64) * (Int32.toInt64 o3))) 438 2 (((2 : Int64) * (Int32.toInt64 (fM_bit v1 v2))) * (Int32.toInt64 o4)), m.2.2.1, m.2.2.2)
      else
        some (tk_u2 m.1 295 11 ((m.1 295 11) ||| (0 : Int32)), tk_u2 (tk_u2 (tk_u2 m.2.1 438 0 ((-2 : Int64) * (Int32.toInt64 o2))) 438 1 ((-2 : Int64) * (Int32.toInt64 o3))) 438 2 (((2 : Int64) * (Int32.toInt64 (fM_bit v1 v2))) * (Int32.toInt64 o4)), m.2.2.1, m.2.2.2)
    else
      fM_byLine_431 v1 ((2 : Int64) * v3) o5 (((2 : Int64) * o6) + (((2 : Int64) * v3) * ((((tk_u2 (tk_u2 (tk_u2 m.2.1 438 0 ((-2 : Int64) * (Int32.toInt64 o2))) 438 1 ((-2 : Int64) * (Int32.toInt64 o3))) 438 2 (((2 : Int64) * (Int32.toInt64 (fM_bit v1 v2))) * (Int32.toInt64 o4)) 438 0) * (tk_u2 (tk_u2 (tk_u2 m.2.1 438 0 ((-2 : Int64) * (Int32.toInt64 o2))) 438 1 ((-2 : Int64) * (Int32.toInt64 o3))) 438 2 (((2 : Int64) * (Int32.toInt64 (fM_bit v1 v2))) * (Int32.toInt64 o4)) 436 0)) + ((tk_u2 (tk_u2 (tk_u2 m.2.1 438 0 ((-2 : Int64) * (Int32.toInt64 o2))) 438 1 ((-2 : Int64) * (Int32.toInt64 o3))) 438 2 (((2 : Int64) * (Int32.toInt64 (fM_bit v1 v2))) * (Int32.toInt64 o4)) 438 1) * (tk_u2 (tk_u2 (tk_u2 m.2.1 438 0 ((-2 : Int64) * (Int32.toInt64 o2))) 438 1 ((-2 : Int64) * (Int32.toInt64 o3))) 438 2 (((2 : Int64) * (Int32.toInt64 (fM_bit v1 v2))) * (Int32.toInt64 o4)) 436 1))) + ((tk_u2 (tk_u2 (tk_u2 m.2.1 438 0 ((-2 : Int64) * (Int32.toInt64 o2))) 438 1 ((-2 : Int64) * (Int32.toInt64 o3))) 438 2 (((2 : Int64) * (Int32.toInt64 (fM_bit v1 v2))) * (Int32.toInt64 o4)) 438 2) * (tk_u2 (tk_u2 (tk_u2 m.2.1 438 0 ((-2 : Int64) * (Int32.toInt64 o2))) 438 1 ((-2 : Int64) * (Int32.toInt64 o3))) 438 2 (((2 : Int64) * (Int32.toInt64 (fM_bit v1 v2))) * (Int32.toInt64 o4)) 436 2))))) ((o7 + (((2 : Int64) * v3) * ((((tk_u2 (tk_u2 (tk_u2 m.2.1 438 0 ((-2 : Int64) * (Int32.toInt64 o2))) 438 1 ((-2 : Int64) * (Int32.toInt64 o3))) 438 2 (((2 : Int64) * (Int32.toInt64 (fM_bit v1 v2))) * (Int32.toInt64 o4)) 438 0) * (tk_u2 (tk_u2 (tk_u2 m.2.1 438 0 ((-2 : Int64) * (Int32.toInt64 o2))) 438 1 ((-2 : Int64) * (Int32.toInt64 o3))) 438 2 (((2 : Int64) * (Int32.toInt64 (fM_bit v1 v2))) * (Int32.toInt64 o4)) 437 0)) + ((tk_u2 (tk_u2 (tk_u2 m.2.1 438 0 ((-2 : Int64) * (Int32.toInt64 o2))) 438 1 ((-2 : Int64) * (Int32.toInt64 o3))) 438 2 (((2 : Int64) * (Int32.toInt64 (fM_bit v1 v2))) * (Int32.toInt64 o4)) 438 1) * (tk_u2 (tk_u2 (tk_u2 m.2.1 438 0 ((-2 : Int64) * (Int32.toInt64 o2))) 438 1 ((-2 : Int64) * (Int32.toInt64 o3))) 438 2 (((2 : Int64) * (Int32.toInt64 (fM_bit v1 v2))) * (Int32.toInt64 o4)) 437 1))) + ((tk_u2 (tk_u2 (tk_u2 m.2.1 438 0 ((-2 : Int64) * (Int32.toInt64 o2))) 438 1 ((-2 : Int64) * (Int32.toInt64 o3))) 438 2 (((2 : Int64) * (Int32.toInt64 (fM_bit v1 v2))) * (Int32.toInt64 o4)) 438 2) * (tk_u2 (tk_u2 (tk_u2 m.2.1 438 0 ((-2 : Int64) * (Int32.toInt64 o2))) 438 1 ((-2 : Int64) * (Int32.toInt64 o3))) 438 2 (((2 : Int64) * (Int32.toInt64 (fM_bit v1 v2))) * (Int32.toInt64 o4)) 437 2))))) + ((((2 : Int64) * v3) * ((2 : Int64) * v3)) * (Int32.toInt64 o8))) (m.1, tk_u2 (tk_u2 (tk_u2 m.2.1 438 0 ((-2 : Int64) * (Int32.toInt64 o2))) 438 1 ((-2 : Int64) * (Int32.toInt64 o3))) 438 2 (((2 : Int64) * (Int32.toInt64 (fM_bit v1 v2))) * (Int32.toInt64 o4)), m.2.2.1, m.2.2.2)
  else
    fM_byLine_431 v1 ((2 : Int64) * v3) o5 (((2 : Int64) * o6) + (((2 : Int64) * v3) * ((((tk_u2 (tk_u2 (tk_u2 m.2.1 438 0 ((-2 : Int64) * (Int32.toInt64 o2))) 438 1 ((-2 : Int64) * (Int32.toInt64 o3))) 438 2 (((2 : Int64) * (Int32.toInt64 (fM_bit v1 v2))) * (Int32.toInt64 o4)) 438 0) * (tk_u2 (tk_u2 (tk_u2 m.2.1 438 0 ((-2 : Int64) * (Int32.toInt64 o2))) 438 1 ((-2 : Int64) * (Int32.toInt64 o3))) 438 2 (((2 : Int64) * (Int32.toInt64 (fM_bit v1 v2))) * (Int32.toInt64 o4)) 436 0)) + ((tk_u2 (tk_u2 (tk_u2 m.2.1 438 0 ((-2 : Int64) * (Int32.toInt64 o2))) 438 1 ((-2 : Int64) * (Int32.toInt64 o3))) 438 2 (((2 : Int64) * (Int32.toInt64 (fM_bit v1 v2))) * (Int32.toInt64 o4)) 438 1) * (tk_u2 (tk_u2 (tk_u2 m.2.1 438 0 ((-2 : Int64) * (Int32.toInt64 o2))) 438 1 ((-2 : Int64) * (Int32.toInt64 o3))) 438 2 (((2 : Int64) * (Int32.toInt64 (fM_bit v1 v2))) * (Int32.toInt64 o4)) 436 1))) + ((tk_u2 (tk_u2 (tk_u2 m.2.1 438 0 ((-2 : Int64) * (Int32.toInt64 o2))) 438 1 ((-2 : Int64) * (Int32.toInt64 o3))) 438 2 (((2 : Int64) * (Int32.toInt64 (fM_bit v1 v2))) * (Int32.toInt64 o4)) 438 2) * (tk_u2 (tk_u2 (tk_u2 m.2.1 438 0 ((-2 : Int64) * (Int32.toInt64 o2))) 438 1 ((-2 : Int64) * (Int32.toInt64 o3))) 438 2 (((2 : Int64) * (Int32.toInt64 (fM_bit v1 v2))) * (Int32.toInt64 o4)) 436 2))))) ((o7 + (((2 : Int64) * v3) * ((((tk_u2 (tk_u2 (tk_u2 m.2.1 438 0 ((-2 : Int64) * (Int32.toInt64 o2))) 438 1 ((-2 : Int64) * (Int32.toInt64 o3))) 438 2 (((2 : Int64) * (Int32.toInt64 (fM_bit v1 v2))) * (Int32.toInt64 o4)) 438 0) * (tk_u2 (tk_u2 (tk_u2 m.2.1 438 0 ((-2 : Int64) * (Int32.toInt64 o2))) 438 1 ((-2 : Int64) * (Int32.toInt64 o3))) 438 2 (((2 : Int64) * (Int32.toInt64 (fM_bit v1 v2))) * (Int32.toInt64 o4)) 437 0)) + ((tk_u2 (tk_u2 (tk_u2 m.2.1 438 0 ((-2 : Int64) * (Int32.toInt64 o2))) 438 1 ((-2 : Int64) * (Int32.toInt64 o3))) 438 2 (((2 : Int64) * (Int32.toInt64 (fM_bit v1 v2))) * (Int32.toInt64 o4)) 438 1) * (tk_u2 (tk_u2 (tk_u2 m.2.1 438 0 ((-2 : Int64) * (Int32.toInt64 o2))) 438 1 ((-2 : Int64) * (Int32.toInt64 o3))) 438 2 (((2 : Int64) * (Int32.toInt64 (fM_bit v1 v2))) * (Int32.toInt64 o4)) 437 1))) + ((tk_u2 (tk_u2 (tk_u2 m.2.1 438 0 ((-2 : Int64) * (Int32.toInt64 o2))) 438 1 ((-2 : Int64) * (Int32.toInt64 o3))) 438 2 (((2 : Int64) * (Int32.toInt64 (fM_bit v1 v2))) * (Int32.toInt64 o4)) 438 2) * (tk_u2 (tk_u2 (tk_u2 m.2.1 438 0 ((-2 : Int64) * (Int32.toInt64 o2))) 438 1 ((-2 : Int64) * (Int32.toInt64 o3))) 438 2 (((2 : Int64) * (Int32.toInt64 (fM_bit v1 v2))) * (Int32.toInt64 o4)) 437 2))))) + ((((2 : Int64) * v3) * ((2 : Int64) * v3)) * (Int32.toInt64 o8))) (m.1, tk_u2 (tk_u2 (tk_u2 m.2.1 438 0 ((-2 : Int64) * (Int32.toInt64 o2))) 438 1 ((-2 : Int64) * (Int32.toInt64 o3))) 438 2 (((2 : Int64) * (Int32.toInt64 (fM_bit v1 v2))) * (Int32.toInt64 o4)), m.2.2.1, m.2.2.2)
def fM_byLine_117 : Nat → Int32 → Int32 → Int64 → Int32 → tk_m → Option tk_m
  | 0, _, _, _, _, _ => none
  | n + 1, v1, v2, v3, v5, m =>
    if (3 : Int32) ≤ v5 then
      fM_byLine_169 v1 v2 v3 m
    else
      if tk_ok v5 3 then
      fM_byLine_117 n v1 v2 v3 (v5 + (1 : Int32)) (m.1, tk_u2 m.2.1 437 (tk_n v5) (((m.2.1 433 3) * (m.2.1 438 (tk_n v5))) + ((m.2.1 434 3) * (m.2.1 439 (tk_n v5)))), m.2.2.1, m.2.2.2)
      else none
/-- 3TModel.byLine(II)V, row 0 -/
def fM_byLine (a1 : Int32) (a2 : Int32) (m : tk_m) : Option tk_m :=
  (fM_crosses 433 434 436 m).bind fun o1 =>
  if ((((o1.2.1 436 0) * (o1.2.1 436 0)) + ((o1.2.1 436 1) * (o1.2.1 436 1))) + ((o1.2.1 436 2) * (o1.2.1 436 2))) = (0 : Int64) then
    some (tk_u2 o1.1 295 11 ((o1.1 295 11) ||| (tk_ishl (1 : Int32) a1)), o1.2.1, o1.2.2.1, o1.2.2.2)
  else
    (fM_crosses 434 436 438 o1).bind fun o3 =>
    (fM_crosses 436 433 439 o3).bind fun o4 =>
    fM_byLine_117 tk_F a1 a2 ((((o1.2.1 436 0) * (o1.2.1 436 0)) + ((o1.2.1 436 1) * (o1.2.1 436 1))) + ((o1.2.1 436 2) * (o1.2.1 436 2))) (0 : Int32) o4

/-! ===== the law ===== -/
def tk_kL (pc : Nat) : Option (List Nat) := match Nat.beq pc 18 with
  | true => some [0, 1, 2, 3]
  | false => none
theorem tk_swo_0_41 {x : Int32} (h0 : ¬ x = 0) (h1 : ¬ x = 1) (h2 : ¬ x = 2) (h3 : ¬ x = 3) (h4 : ¬ x = 4) (h5 : ¬ x = 5) (h6 : ¬ x = 6) (h7 : ¬ x = 7) (h8 : ¬ x = 8) (h9 : ¬ x = 9) (h10 : ¬ x = 10) (h11 : ¬ x = 11) (h12 : ¬ x = 12) (h13 : ¬ x = 13) (h14 : ¬ x = 14) (h15 : ¬ x = 15) (h16 : ¬ x = 16) (h17 : ¬ x = 17) (h18 : ¬ x = 18) (h19 : ¬ x = 19) (h20 : ¬ x = 20) (h21 : ¬ x = 21) (h22 : ¬ x = 22) (h23 : ¬ x = 23) (h24 : ¬ x = 24) (h25 : ¬ x = 25) (h26 : ¬ x = 26) (h27 : ¬ x = 27) (h28 : ¬ x = 28) (h29 : ¬ x = 29) (h30 : ¬ x = 30) (h31 : ¬ x = 31) (h32 : ¬ x = 32) (h33 : ¬ x = 33) (h34 : ¬ x = 34) (h35 : ¬ x = 35) (h36 : ¬ x = 36) (h37 : ¬ x = 37) (h38 : ¬ x = 38) (h39 : ¬ x = 39) (h40 : ¬ x = 40) (h41 : ¬ x = 41) : x.toInt < 0 ∨ 41 < x.toInt := tk_swo (fun k ha hb => by
  rcases (show k = 0 ∨ k = 1 ∨ k = 2 ∨ k = 3 ∨ k = 4 ∨ k = 5 ∨ k = 6 ∨ k = 7 ∨ k = 8 ∨ k = 9 ∨ k = 10 ∨ k = 11 ∨ k = 12 ∨ k = 13 ∨ k = 14 ∨ k = 15 ∨ k = 16 ∨ k = 17 ∨ k = 18 ∨ k = 19 ∨ k = 20 ∨ k = 21 ∨ k = 22 ∨ k = 23 ∨ k = 24 ∨ k = 25 ∨ k = 26 ∨ k = 27 ∨ k = 28 ∨ k = 29 ∨ k = 30 ∨ k = 31 ∨ k = 32 ∨ k = 33 ∨ k = 34 ∨ k = 35 ∨ k = 36 ∨ k = 37 ∨ k = 38 ∨ k = 39 ∨ k = 40 ∨ k = 41 by omega) with rfl | rfl | rfl | rfl | rfl | rfl | rfl | rfl | rfl | rfl | rfl | rfl | rfl | rfl | rfl | rfl | rfl | rfl | rfl | rfl | rfl | rfl | rfl | rfl | rfl | rfl | rfl | rfl | rfl | rfl | rfl | rfl | rfl | rfl | rfl | rfl | rfl | rfl | rfl | rfl | rfl | rfl
  · exact h0
  · exact h1
  · exact h2
  · exact h3
  · exact h4
  · exact h5
  · exact h6
  · exact h7
  · exact h8
  · exact h9
  · exact h10
  · exact h11
  · exact h12
  · exact h13
  · exact h14
  · exact h15
  · exact h16
  · exact h17
  · exact h18
  · exact h19
  · exact h20
  · exact h21
  · exact h22
  · exact h23
  · exact h24
  · exact h25
  · exact h26
  · exact h27
  · exact h28
  · exact h29
  · exact h30
  · exact h31
  · exact h32
  · exact h33
  · exact h34
  · exact h35
  · exact h36
  · exact h37
  · exact h38
  · exact h39
  · exact h40
  · exact h41)
def fL_law_18 (sc : tk_X) : Nat → Int32 → tk_m → Option (Bool × tk_m)
  | 0, _, _ => none
  | n + 1, v3, m =>
    if ((Int32.ofNat sc.1) - (6 : Int32)) < v3 then
      some (true, m)
    else
      if tk_ok v3 sc.1 then
      if ((sc.2 (tk_n v3)) &&& (63 : Int32)) = 0 then
        if tk_ok (v3 + (1 : Int32)) sc.1 then
        if tk_ok (v3 + (2 : Int32)) sc.1 then
        if tk_ok (v3 + (3 : Int32)) sc.1 then
        (fX_round (sc.2 (tk_n (v3 + (1 : Int32)))) (sc.2 (tk_n (v3 + (2 : Int32)))) (sc.2 (tk_n (v3 + (3 : Int32)))) m).bind fun o7 =>
        (fM_round (sc.2 (tk_n (v3 + (1 : Int32)))) (sc.2 (tk_n (v3 + (2 : Int32)))) (sc.2 (tk_n (v3 + (3 : Int32)))) o7.2).bind fun o8 =>
        if o7.1 = o8.1 then
          fL_law_18 sc n (v3 + (6 : Int32)) o8.2
        else
          some (false, o8.2)
        else none
        else none
        else none
      else
      if ((sc.2 (tk_n v3)) &&& (63 : Int32)) = 1 then
        if tk_ok (v3 + (1 : Int32)) sc.1 then
        if tk_ok (v3 + (2 : Int32)) sc.1 then
        (fX_straight (sc.2 (tk_n (v3 + (1 : Int32)))) (sc.2 (tk_n (v3 + (2 : Int32)))) m).bind fun o13 =>
        (fM_straight (sc.2 (tk_n (v3 + (1 : Int32)))) (sc.2 (tk_n (v3 + (2 : Int32)))) o13.2).bind fun o14 =>
        if o13.1 = o14.1 then
          fL_law_18 sc n (v3 + (6 : Int32)) o14.2
        else
          some (false, o14.2)
        else none
        else none
      else
      if ((sc.2 (tk_n v3)) &&& (63 : Int32)) = 2 then
        if tk_ok (v3 + (1 : Int32)) sc.1 then
        if tk_ok (v3 + (2 : Int32)) sc.1 then
        (fX_of (sc.2 (tk_n (v3 + (1 : Int32)))) (sc.2 (tk_n (v3 + (2 : Int32)))) m).bind fun o19 =>
        (fM_of (sc.2 (tk_n (v3 + (1 : Int32)))) (sc.2 (tk_n (v3 + (2 : Int32)))) o19.2).bind fun o20 =>
        if o19.1 = o20.1 then
          fL_law_18 sc n (v3 + (6 : Int32)) o20.2
        else
          some (false, o20.2)
        else none
        else none
      else
      if ((sc.2 (tk_n v3)) &&& (63 : Int32)) = 3 then
        if tk_ok (v3 + (1 : Int32)) sc.1 then
        if tk_ok (v3 + (2 : Int32)) sc.1 then
        if tk_ok (v3 + (3 : Int32)) sc.1 then
        (fX_change (sc.2 (tk_n (v3 + (1 : Int32)))) (sc.2 (tk_n (v3 + (2 : Int32)))) (sc.2 (tk_n (v3 + (3 : Int32)))) m).bind fun o26 =>
        (fM_change (sc.2 (tk_n (v3 + (1 : Int32)))) (sc.2 (tk_n (v3 + (2 : Int32)))) (sc.2 (tk_n (v3 + (3 : Int32)))) o26.2).bind fun o27 =>
        if o26.1 = o27.1 then
          fL_law_18 sc n (v3 + (6 : Int32)) o27.2
        else
          some (false, o27.2)
        else none
        else none
        else none
      else
      if ((sc.2 (tk_n v3)) &&& (63 : Int32)) = 4 then
        if tk_ok (v3 + (1 : Int32)) sc.1 then
        if tk_ok (v3 + (2 : Int32)) sc.1 then
        (fX_as (sc.2 (tk_n (v3 + (1 : Int32)))) (sc.2 (tk_n (v3 + (2 : Int32)))) m).bind fun o32 =>
        (fM_as (sc.2 (tk_n (v3 + (1 : Int32)))) (sc.2 (tk_n (v3 + (2 : Int32)))) o32.2).bind fun o33 =>
        if o32.1 = o33.1 then
          fL_law_18 sc n (v3 + (6 : Int32)) o33.2
        else
          some (false, o33.2)
        else none
        else none
      else
      if ((sc.2 (tk_n v3)) &&& (63 : Int32)) = 5 then
        (fX_drop m).bind fun o36 =>
        (fM_drop o36.2).bind fun o37 =>
        if o36.1 = o37.1 then
          fL_law_18 sc n (v3 + (6 : Int32)) o37.2
        else
          some (false, o37.2)
      else
      if ((sc.2 (tk_n v3)) &&& (63 : Int32)) = 6 then
        if tk_ok (v3 + (1 : Int32)) sc.1 then
        (fX_prune (sc.2 (tk_n (v3 + (1 : Int32)))) m).bind fun o41 =>
        (fM_prune (sc.2 (tk_n (v3 + (1 : Int32)))) o41.2).bind fun o42 =>
        if o41.1 = o42.1 then
          fL_law_18 sc n (v3 + (6 : Int32)) o42.2
        else
          some (false, o42.2)
        else none
      else
      if ((sc.2 (tk_n v3)) &&& (63 : Int32)) = 7 then
        if tk_ok (v3 + (1 : Int32)) sc.1 then
        if tk_ok (v3 + (2 : Int32)) sc.1 then
        (fX_swap (sc.2 (tk_n (v3 + (1 : Int32)))) (sc.2 (tk_n (v3 + (2 : Int32)))) m).bind fun o47 =>
        (fM_swap (sc.2 (tk_n (v3 + (1 : Int32)))) (sc.2 (tk_n (v3 + (2 : Int32)))) o47.2).bind fun o48 =>
        if o47.1 = o48.1 then
          fL_law_18 sc n (v3 + (6 : Int32)) o48.2
        else
          some (false, o48.2)
        else none
        else none
      else
      if ((sc.2 (tk_n v3)) &&& (63 : Int32)) = 8 then
        (fX_turn m).bind fun o51 =>
        (fM_turn o51.2).bind fun o52 =>
        if o51.1 = o52.1 then
          fL_law_18 sc n (v3 + (6 : Int32)) o52.2
        else
          some (false, o52.2)
      else
      if ((sc.2 (tk_n v3)) &&& (63 : Int32)) = 9 then
        if tk_ok (v3 + (1 : Int32)) sc.1 then
        if tk_ok (v3 + (2 : Int32)) sc.1 then
        (fX_lie (sc.2 (tk_n (v3 + (1 : Int32)))) (sc.2 (tk_n (v3 + (2 : Int32)))) m).bind fun o57 =>
        (fM_lie (sc.2 (tk_n (v3 + (1 : Int32)))) (sc.2 (tk_n (v3 + (2 : Int32)))) o57.2).bind fun o58 =>
        if o57.1 = o58.1 then
          fL_law_18 sc n (v3 + (6 : Int32)) o58.2
        else
          some (false, o58.2)
        else none
        else none
      else
      if ((sc.2 (tk_n v3)) &&& (63 : Int32)) = 10 then
        if tk_ok (v3 + (1 : Int32)) sc.1 then
        if tk_ok (v3 + (2 : Int32)) sc.1 then
        if tk_ok (v3 + (3 : Int32)) sc.1 then
        (fX_power (sc.2 (tk_n (v3 + (1 : Int32)))) (sc.2 (tk_n (v3 + (2 : Int32)))) (sc.2 (tk_n (v3 + (3 : Int32)))) m).bind fun o64 =>
        (fM_power (sc.2 (tk_n (v3 + (1 : Int32)))) (sc.2 (tk_n (v3 + (2 : Int32)))) (sc.2 (tk_n (v3 + (3 : Int32)))) o64.2).bind fun o65 =>
        if o64.1 = o65.1 then
          fL_law_18 sc n (v3 + (6 : Int32)) o65.2
        else
          some (false, o65.2)
        else none
        else none
        else none
      else
      if ((sc.2 (tk_n v3)) &&& (63 : Int32)) = 11 then
        if tk_ok (v3 + (1 : Int32)) sc.1 then
        if tk_ok (v3 + (2 : Int32)) sc.1 then
        if tk_ok (v3 + (3 : Int32)) sc.1 then
        (fX_radical (sc.2 (tk_n (v3 + (1 : Int32)))) (sc.2 (tk_n (v3 + (2 : Int32)))) (sc.2 (tk_n (v3 + (3 : Int32)))) m).bind fun o71 =>
        (fM_radical (sc.2 (tk_n (v3 + (1 : Int32)))) (sc.2 (tk_n (v3 + (2 : Int32)))) (sc.2 (tk_n (v3 + (3 : Int32)))) o71.2).bind fun o72 =>
        if o71.1 = o72.1 then
          fL_law_18 sc n (v3 + (6 : Int32)) o72.2
        else
          some (false, o72.2)
        else none
        else none
        else none
      else
      if ((sc.2 (tk_n v3)) &&& (63 : Int32)) = 12 then
        if tk_ok (v3 + (1 : Int32)) sc.1 then
        if tk_ok (v3 + (2 : Int32)) sc.1 then
        (fX_ring (sc.2 (tk_n (v3 + (1 : Int32)))) (sc.2 (tk_n (v3 + (2 : Int32)))) m).bind fun o77 =>
        (fM_ring (sc.2 (tk_n (v3 + (1 : Int32)))) (sc.2 (tk_n (v3 + (2 : Int32)))) o77.2).bind fun o78 =>
        if o77.1 = o78.1 then
          fL_law_18 sc n (v3 + (6 : Int32)) o78.2
        else
          some (false, o78.2)
        else none
        else none
      else
      if ((sc.2 (tk_n v3)) &&& (63 : Int32)) = 13 then
        if tk_ok (v3 + (1 : Int32)) sc.1 then
        if tk_ok (v3 + (2 : Int32)) sc.1 then
        if tk_ok (v3 + (3 : Int32)) sc.1 then
        (fX_three (sc.2 (tk_n (v3 + (1 : Int32)))) (sc.2 (tk_n (v3 + (2 : Int32)))) (sc.2 (tk_n (v3 + (3 : Int32)))) m).bind fun o84 =>
        (fM_three_III (sc.2 (tk_n (v3 + (1 : Int32)))) (sc.2 (tk_n (v3 + (2 : Int32)))) (sc.2 (tk_n (v3 + (3 : Int32)))) o84.2).bind fun o85 =>
        if o84.1 = o85.1 then
          fL_law_18 sc n (v3 + (6 : Int32)) o85.2
        else
          some (false, o85.2)
        else none
        else none
        else none
      else
      if ((sc.2 (tk_n v3)) &&& (63 : Int32)) = 14 then
        if tk_ok (v3 + (1 : Int32)) sc.1 then
        (fX_ofThree (sc.2 (tk_n (v3 + (1 : Int32)))) m).bind fun o89 =>
        (fM_ofThree (sc.2 (tk_n (v3 + (1 : Int32)))) o89.2).bind fun o90 =>
        if o89.1 = o90.1 then
          fL_law_18 sc n (v3 + (6 : Int32)) o90.2
        else
          some (false, o90.2)
        else none
      else
      if ((sc.2 (tk_n v3)) &&& (63 : Int32)) = 15 then
        (fX_draw m).bind fun o93 =>
        (fM_draw o93.2).bind fun o94 =>
        if o93.1 = o94.1 then
          fL_law_18 sc n (v3 + (6 : Int32)) o94.2
        else
          some (false, o94.2)
      else
      if ((sc.2 (tk_n v3)) &&& (63 : Int32)) = 16 then
        if tk_ok (v3 + (1 : Int32)) sc.1 then
        (fX_answers (sc.2 (tk_n (v3 + (1 : Int32)))) m).bind fun o98 =>
        (fM_answers_I (sc.2 (tk_n (v3 + (1 : Int32)))) o98.2).bind fun o99 =>
        if o98.1 = o99.1 then
          fL_law_18 sc n (v3 + (6 : Int32)) o99.2
        else
          some (false, o99.2)
        else none
      else
      if ((sc.2 (tk_n v3)) &&& (63 : Int32)) = 17 then
        if tk_ok (v3 + (1 : Int32)) sc.1 then
        (fX_signs (sc.2 (tk_n (v3 + (1 : Int32)))) m).bind fun o103 =>
        (fM_signs (sc.2 (tk_n (v3 + (1 : Int32)))) o103.2).bind fun o104 =>
        if o103.1 = o104.1 then
          fL_law_18 sc n (v3 + (6 : Int32)) o104.2
        else
          some (false, o104.2)
        else none
      else
      if ((sc.2 (tk_n v3)) &&& (63 : Int32)) = 18 then
        if tk_ok (v3 + (1 : Int32)) sc.1 then
        if tk_ok (v3 + (2 : Int32)) sc.1 then
        if tk_ok (v3 + (3 : Int32)) sc.1 then
        (fX_answer (sc.2 (tk_n (v3 + (1 : Int32)))) (sc.2 (tk_n (v3 + (2 : Int32)))) (sc.2 (tk_n (v3 + (3 : Int32)))) m).bind fun o110 =>
        (fM_answer (sc.2 (tk_n (v3 + (1 : Int32)))) (sc.2 (tk_n (v3 + (2 : Int32)))) (sc.2 (tk_n (v3 + (3 : Int32)))) o110.2).bind fun o111 =>
        if o110.1 = o111.1 then
          fL_law_18 sc n (v3 + (6 : Int32)) o111.2
        else
          some (false, o111.2)
        else none
        else none
        else none
      else
      if ((sc.2 (tk_n v3)) &&& (63 : Int32)) = 19 then
        if tk_ok (v3 + (1 : Int32)) sc.1 then
        (fX_best (sc.2 (tk_n (v3 + (1 : Int32)))) m).bind fun o115 =>
        (fM_best (sc.2 (tk_n (v3 + (1 : Int32)))) o115.2).bind fun o116 =>
        if o115.1 = o116.1 then
          fL_law_18 sc n (v3 + (6 : Int32)) o116.2
        else
          some (false, o116.2)
        else none
      else
      if ((sc.2 (tk_n v3)) &&& (63 : Int32)) = 20 then
        if tk_ok (v3 + (1 : Int32)) sc.1 then
        (fX_rank (sc.2 (tk_n (v3 + (1 : Int32)))) m).bind fun o120 =>
        (fM_rank (sc.2 (tk_n (v3 + (1 : Int32)))) o120.2).bind fun o121 =>
        if o120.1 = o121.1 then
          fL_law_18 sc n (v3 + (6 : Int32)) o121.2
        else
          some (false, o121.2)
        else none
      else
      if ((sc.2 (tk_n v3)) &&& (63 : Int32)) = 21 then
        if tk_ok (v3 + (1 : Int32)) sc.1 then
        if tk_ok (v3 + (2 : Int32)) sc.1 then
        (fX_touches (sc.2 (tk_n (v3 + (1 : Int32)))) (sc.2 (tk_n (v3 + (2 : Int32)))) m).bind fun o126 =>
        (fM_touches (sc.2 (tk_n (v3 + (1 : Int32)))) (sc.2 (tk_n (v3 + (2 : Int32)))) o126.2).bind fun o127 =>
        if o126.1 = o127.1 then
          fL_law_18 sc n (v3 + (6 : Int32)) o127.2
        else
          some (false, o127.2)
        else none
        else none
      else
      if ((sc.2 (tk_n v3)) &&& (63 : Int32)) = 22 then
        if tk_ok (v3 + (1 : Int32)) sc.1 then
        if tk_ok (v3 + (2 : Int32)) sc.1 then
        (fX_lays (sc.2 (tk_n (v3 + (1 : Int32)))) (sc.2 (tk_n (v3 + (2 : Int32)))) m).bind fun o132 =>
        (fM_lays (sc.2 (tk_n (v3 + (1 : Int32)))) (sc.2 (tk_n (v3 + (2 : Int32)))) o132.2).bind fun o133 =>
        if o132.1 = o133.1 then
          fL_law_18 sc n (v3 + (6 : Int32)) o133.2
        else
          some (false, o133.2)
        else none
        else none
      else
      if ((sc.2 (tk_n v3)) &&& (63 : Int32)) = 23 then
        if tk_ok (v3 + (1 : Int32)) sc.1 then
        if tk_ok (v3 + (2 : Int32)) sc.1 then
        if tk_ok (v3 + (3 : Int32)) sc.1 then
        if tk_ok (v3 + (4 : Int32)) sc.1 then
        (fX_invert (sc.2 (tk_n (v3 + (1 : Int32)))) (sc.2 (tk_n (v3 + (2 : Int32)))) (sc.2 (tk_n (v3 + (3 : Int32)))) (sc.2 (tk_n (v3 + (4 : Int32)))) m).bind fun o140 =>
        (fM_invert (sc.2 (tk_n (v3 + (1 : Int32)))) (sc.2 (tk_n (v3 + (2 : Int32)))) (sc.2 (tk_n (v3 + (3 : Int32)))) (sc.2 (tk_n (v3 + (4 : Int32)))) o140.2).bind fun o141 =>
        if o140.1 = o141.1 then
          fL_law_18 sc n (v3 + (6 : Int32)) o141.2
        else
          some (false, o141.2)
        else none
        else none
        else none
        else none
      else
      if ((sc.2 (tk_n v3)) &&& (63 : Int32)) = 24 then
        if tk_ok (v3 + (1 : Int32)) sc.1 then
        (fX_tell (sc.2 (tk_n (v3 + (1 : Int32)))) m).bind fun o145 =>
        (fM_tell (sc.2 (tk_n (v3 + (1 : Int32)))) o145.2).bind fun o146 =>
        if o145.1 = o146.1 then
          fL_law_18 sc n (v3 + (6 : Int32)) o146.2
        else
          some (false, o146.2)
        else none
      else
      if ((sc.2 (tk_n v3)) &&& (63 : Int32)) = 25 then
        if tk_ok (v3 + (1 : Int32)) sc.1 then
        if tk_ok (v3 + (2 : Int32)) sc.1 then
        if tk_ok (v3 + (3 : Int32)) sc.1 then
        (fX_put (sc.2 (tk_n (v3 + (1 : Int32)))) (sc.2 (tk_n (v3 + (2 : Int32)))) (sc.2 (tk_n (v3 + (3 : Int32)))) m).bind fun o152 =>
        (fM_put (sc.2 (tk_n (v3 + (1 : Int32)))) (sc.2 (tk_n (v3 + (2 : Int32)))) (sc.2 (tk_n (v3 + (3 : Int32)))) o152.2).bind fun o153 =>
        if o152.1 = o153.1 then
          fL_law_18 sc n (v3 + (6 : Int32)) o153.2
        else
          some (false, o153.2)
        else none
        else none
        else none
      else
      if ((sc.2 (tk_n v3)) &&& (63 : Int32)) = 26 then
        if tk_ok (v3 + (1 : Int32)) sc.1 then
        if tk_ok (v3 + (2 : Int32)) sc.1 then
        if tk_ok (v3 + (3 : Int32)) sc.1 then
        (fX_ratio (sc.2 (tk_n (v3 + (1 : Int32)))) (sc.2 (tk_n (v3 + (2 : Int32)))) (sc.2 (tk_n (v3 + (3 : Int32)))) m).bind fun o159 =>
        (fM_ratio (sc.2 (tk_n (v3 + (1 : Int32)))) (sc.2 (tk_n (v3 + (2 : Int32)))) (sc.2 (tk_n (v3 + (3 : Int32)))) o159.2).bind fun o160 =>
        if o159.1 = o160.1 then
          fL_law_18 sc n (v3 + (6 : Int32)) o160.2
        else
          some (false, o160.2)
        else none
        else none
        else none
      else
      if ((sc.2 (tk_n v3)) &&& (63 : Int32)) = 27 then
        if tk_ok (v3 + (1 : Int32)) sc.1 then
        if tk_ok (v3 + (2 : Int32)) sc.1 then
        (fX_root (sc.2 (tk_n (v3 + (1 : Int32)))) (sc.2 (tk_n (v3 + (2 : Int32)))) m).bind fun o165 =>
        (fM_root (sc.2 (tk_n (v3 + (1 : Int32)))) (sc.2 (tk_n (v3 + (2 : Int32)))) o165.2).bind fun o166 =>
        if o165.1 = o166.1 then
          fL_law_18 sc n (v3 + (6 : Int32)) o166.2
        else
          some (false, o166.2)
        else none
        else none
      else
      if ((sc.2 (tk_n v3)) &&& (63 : Int32)) = 28 then
        if tk_ok (v3 + (1 : Int32)) sc.1 then
        if tk_ok (v3 + (2 : Int32)) sc.1 then
        if tk_ok (v3 + (3 : Int32)) sc.1 then
        if tk_ok (v3 + (4 : Int32)) sc.1 then
        (fX_work (sc.2 (tk_n (v3 + (1 : Int32)))) (sc.2 (tk_n (v3 + (2 : Int32)))) (sc.2 (tk_n (v3 + (3 : Int32)))) (sc.2 (tk_n (v3 + (4 : Int32)))) m).bind fun o173 =>
        (fM_work (sc.2 (tk_n (v3 + (1 : Int32)))) (sc.2 (tk_n (v3 + (2 : Int32)))) (sc.2 (tk_n (v3 + (3 : Int32)))) (sc.2 (tk_n (v3 + (4 : Int32)))) o173.2).bind fun o174 =>
        if o173.1 = o174.1 then
          fL_law_18 sc n (v3 + (6 : Int32)) o174.2
        else
          some (false, o174.2)
        else none
        else none
        else none
        else none
      else
      if ((sc.2 (tk_n v3)) &&& (63 : Int32)) = 29 then
        if tk_ok (v3 + (1 : Int32)) sc.1 then
        if tk_ok (v3 + (2 : Int32)) sc.1 then
        (fX_compare (sc.2 (tk_n (v3 + (1 : Int32)))) (sc.2 (tk_n (v3 + (2 : Int32)))) m).bind fun o179 =>
        (fM_compare (sc.2 (tk_n (v3 + (1 : Int32)))) (sc.2 (tk_n (v3 + (2 : Int32)))) o179.2).bind fun o180 =>
        if o179.1 = o180.1 then
          fL_law_18 sc n (v3 + (6 : Int32)) o180.2
        else
          some (false, o180.2)
        else none
        else none
      else
      if ((sc.2 (tk_n v3)) &&& (63 : Int32)) = 30 then
        if tk_ok (v3 + (1 : Int32)) sc.1 then
        if tk_ok (v3 + (2 : Int32)) sc.1 then
        (fX_number (sc.2 (tk_n (v3 + (1 : Int32)))) (sc.2 (tk_n (v3 + (2 : Int32)))) m).bind fun o185 =>
        (fM_number (sc.2 (tk_n (v3 + (1 : Int32)))) (sc.2 (tk_n (v3 + (2 : Int32)))) o185.2).bind fun o186 =>
        if o185.1 = o186.1 then
          fL_law_18 sc n (v3 + (6 : Int32)) o186.2
        else
          some (false, o186.2)
        else none
        else none
      else
      if ((sc.2 (tk_n v3)) &&& (63 : Int32)) = 31 then
        if tk_ok (v3 + (1 : Int32)) sc.1 then
        if tk_ok (v3 + (2 : Int32)) sc.1 then
        (fX_taken (sc.2 (tk_n (v3 + (1 : Int32)))) (sc.2 (tk_n (v3 + (2 : Int32)))) m).bind fun o191 =>
        (fM_taken (sc.2 (tk_n (v3 + (1 : Int32)))) (sc.2 (tk_n (v3 + (2 : Int32)))) o191.2).bind fun o192 =>
        if o191.1 = o192.1 then
          fL_law_18 sc n (v3 + (6 : Int32)) o192.2
        else
          some (false, o192.2)
        else none
        else none
      else
      if ((sc.2 (tk_n v3)) &&& (63 : Int32)) = 32 then
        if tk_ok (v3 + (1 : Int32)) sc.1 then
        (fX_clear (sc.2 (tk_n (v3 + (1 : Int32)))) m).bind fun o196 =>
        (fM_clear (sc.2 (tk_n (v3 + (1 : Int32)))) o196.2).bind fun o197 =>
        if o196.1 = o197.1 then
          fL_law_18 sc n (v3 + (6 : Int32)) o197.2
        else
          some (false, o197.2)
        else none
      else
      if ((sc.2 (tk_n v3)) &&& (63 : Int32)) = 33 then
        if tk_ok (v3 + (1 : Int32)) sc.1 then
        if tk_ok (v3 + (2 : Int32)) sc.1 then
        if tk_ok (v3 + (3 : Int32)) sc.1 then
        (fX_sheet (sc.2 (tk_n (v3 + (1 : Int32)))) (sc.2 (tk_n (v3 + (2 : Int32)))) (sc.2 (tk_n (v3 + (3 : Int32)))) m).bind fun o203 =>
        (fM_sheet (sc.2 (tk_n (v3 + (1 : Int32)))) (sc.2 (tk_n (v3 + (2 : Int32)))) (sc.2 (tk_n (v3 + (3 : Int32)))) o203.2).bind fun o204 =>
        if o203.1 = o204.1 then
          fL_law_18 sc n (v3 + (6 : Int32)) o204.2
        else
          some (false, o204.2)
        else none
        else none
        else none
      else
      if ((sc.2 (tk_n v3)) &&& (63 : Int32)) = 34 then
        if tk_ok (v3 + (1 : Int32)) sc.1 then
        if tk_ok (v3 + (2 : Int32)) sc.1 then
        if tk_ok (v3 + (3 : Int32)) sc.1 then
        if tk_ok (v3 + (4 : Int32)) sc.1 then
        (fX_write (sc.2 (tk_n (v3 + (1 : Int32)))) (sc.2 (tk_n (v3 + (2 : Int32)))) ((tk_lshl (Int32.toInt64 (sc.2 (tk_n (v3 + (3 : Int32))))) (32 : Int32)) ||| ((Int32.toInt64 (sc.2 (tk_n (v3 + (4 : Int32))))) &&& (4294967295 : Int64))) m).bind fun o211 =>
        (fM_write (sc.2 (tk_n (v3 + (1 : Int32)))) (sc.2 (tk_n (v3 + (2 : Int32)))) ((tk_lshl (Int32.toInt64 (sc.2 (tk_n (v3 + (3 : Int32))))) (32 : Int32)) ||| ((Int32.toInt64 (sc.2 (tk_n (v3 + (4 : Int32))))) &&& (4294967295 : Int64))) o211.2).bind fun o212 =>
        if o211.1 = o212.1 then
          fL_law_18 sc n (v3 + (6 : Int32)) o212.2
        else
          some (false, o212.2)
        else none
        else none
        else none
        else none
      else
      if ((sc.2 (tk_n v3)) &&& (63 : Int32)) = 35 then
        if tk_ok (v3 + (1 : Int32)) sc.1 then
        if tk_ok (v3 + (2 : Int32)) sc.1 then
        (fX_item (sc.2 (tk_n (v3 + (1 : Int32)))) (sc.2 (tk_n (v3 + (2 : Int32)))) m).bind fun o217 =>
        (fM_item (sc.2 (tk_n (v3 + (1 : Int32)))) (sc.2 (tk_n (v3 + (2 : Int32)))) o217.2).bind fun o218 =>
        if o217.1 = o218.1 then
          fL_law_18 sc n (v3 + (6 : Int32)) o218.2
        else
          some (false, o218.2)
        else none
        else none
      else
      if ((sc.2 (tk_n v3)) &&& (63 : Int32)) = 36 then
        if tk_ok (v3 + (1 : Int32)) sc.1 then
        if tk_ok (v3 + (2 : Int32)) sc.1 then
        if tk_ok (v3 + (3 : Int32)) sc.1 then
        if tk_ok (v3 + (4 : Int32)) sc.1 then
        if tk_ok (v3 + (5 : Int32)) sc.1 then
        (fX_copy (sc.2 (tk_n (v3 + (1 : Int32)))) (sc.2 (tk_n (v3 + (2 : Int32)))) (sc.2 (tk_n (v3 + (3 : Int32)))) (sc.2 (tk_n (v3 + (4 : Int32)))) (sc.2 (tk_n (v3 + (5 : Int32)))) m).bind fun o226 =>
        (fM_copy (sc.2 (tk_n (v3 + (1 : Int32)))) (sc.2 (tk_n (v3 + (2 : Int32)))) (sc.2 (tk_n (v3 + (3 : Int32)))) (sc.2 (tk_n (v3 + (4 : Int32)))) (sc.2 (tk_n (v3 + (5 : Int32)))) o226.2).bind fun o227 =>
        if o226.1 = o227.1 then
          fL_law_18 sc n (v3 + (6 : Int32)) o227.2
        else
          some (false, o227.2)
        else none
        else none
        else none
        else none
        else none
      else
      if ((sc.2 (tk_n v3)) &&& (63 : Int32)) = 37 then
        (fX_image m).bind fun o230 =>
        (fM_image o230.2).bind fun o231 =>
        if o230.1 = o231.1 then
          fL_law_18 sc n (v3 + (6 : Int32)) o231.2
        else
          some (false, o231.2)
      else
      if ((sc.2 (tk_n v3)) &&& (63 : Int32)) = 38 then
        (fX_back m).bind fun o234 =>
        (fM_back o234.2).bind fun o235 =>
        if o234.1 = o235.1 then
          fL_law_18 sc n (v3 + (6 : Int32)) o235.2
        else
          some (false, o235.2)
      else
      if ((sc.2 (tk_n v3)) &&& (63 : Int32)) = 39 then
        if tk_ok (v3 + (1 : Int32)) sc.1 then
        tk_let (fX_seed (sc.2 (tk_n (v3 + (1 : Int32)))) m) fun o239 =>
        tk_let (fM_seed (sc.2 (tk_n (v3 + (1 : Int32)))) o239.2) fun o240 =>
        if o239.1 = o240.1 then
          fL_law_18 sc n (v3 + (6 : Int32)) o240.2
        else
          some (false, o240.2)
        else none
      else
      if ((sc.2 (tk_n v3)) &&& (63 : Int32)) = 40 then
        if tk_ok (v3 + (1 : Int32)) sc.1 then
        (fX_count (sc.2 (tk_n (v3 + (1 : Int32)))) m).bind fun o244 =>
        (fM_count (sc.2 (tk_n (v3 + (1 : Int32)))) o244.2).bind fun o245 =>
        if o244.1 = o245.1 then
          fL_law_18 sc n (v3 + (6 : Int32)) o245.2
        else
          some (false, o245.2)
        else none
      else
      if ((sc.2 (tk_n v3)) &&& (63 : Int32)) = 41 then
        if tk_ok (v3 + (1 : Int32)) sc.1 then
        (fX_status (sc.2 (tk_n (v3 + (1 : Int32)))) m).bind fun o249 =>
        (fM_status (sc.2 (tk_n (v3 + (1 : Int32)))) o249.2).bind fun o250 =>
        if o249.1 = o250.1 then
          fL_law_18 sc n (v3 + (6 : Int32)) o250.2
        else
          some (false, o250.2)
        else none
      else
      fL_law_18 sc n (v3 + (6 : Int32)) m
      else none
set_option maxHeartbeats 20000000 in
set_option maxRecDepth 50000 in
theorem ok_fL_law_18 (sc : tk_X) : ∀ (n : Nat) (v3 : Int32) (m : tk_m) (out : Bool × tk_m), fL_law_18 sc n v3 m = some out → tk_Ex sc 10 tk_rL tk_kL 18 [(0, .ref 1006), (1, .ref 0), (2, .ref 295), (3, .int v3)] [] (tk_full m) (some (.int (tk_b out.1)), tk_full out.2) := by
  intro n
  induction n with
  | zero =>
    intro v3 m out h
    cases h
  | succ n ih =>
    intro v3 m out h
    unfold fL_law_18 at h
    refine tk_Ps  2 (pc' := 20) (ls' := [(0, .ref 1006), (1, .ref 0), (2, .ref 295), (3, .int v3)]) (st' := [.ref 1006, .int v3]) rfl ?_
    refine tk_Hlx  rfl rfl ?_
    refine tk_Ps  2 (pc' := 24) (ls' := [(0, .ref 1006), (1, .ref 0), (2, .ref 295), (3, .int v3)]) (st' := [.int ((Int32.ofNat sc.1) - (6 : Int32)), .int v3]) rfl ?_
    by_cases hc1 : ((Int32.ofNat sc.1) - (6 : Int32)) < v3
    · replace h := tk_ifT hc1 h
      refine tk_bT  rfl rfl rfl (c := ((Int32.ofNat sc.1) - (6 : Int32)) < v3) hc1 (pc' := 1601) (ls' := [(0, .ref 1006), (1, .ref 0), (2, .ref 295), (3, .int v3)]) (st' := []) ?_
      refine tk_Ps  1 (pc' := 1602) (ls' := [(0, .ref 1006), (1, .ref 0), (2, .ref 295), (3, .int v3)]) (st' := [.int (1 : Int32)]) rfl ?_
      replace h := Option.some.inj h
      subst h
      exact tk_RB (b := true)  rfl rfl rfl
    · replace h := tk_ifF hc1 h
      refine tk_bF  rfl rfl rfl (c := ((Int32.ofNat sc.1) - (6 : Int32)) < v3) hc1 (pc' := 27) (ls' := [(0, .ref 1006), (1, .ref 0), (2, .ref 295), (3, .int v3)]) (st' := []) ?_
      refine tk_Ps  2 (pc' := 29) (ls' := [(0, .ref 1006), (1, .ref 0), (2, .ref 295), (3, .int v3)]) (st' := [.int v3, .ref 1006]) rfl ?_
      obtain ⟨hg2, h⟩ := tk_grd h
      refine tk_Hx6  rfl rfl hg2 ?_
      refine tk_Ps  2 (pc' := 33) (ls' := [(0, .ref 1006), (1, .ref 0), (2, .ref 295), (3, .int v3)]) (st' := [.int ((sc.2 (tk_n v3)) &&& (63 : Int32))]) rfl ?_
      by_cases hs3 : ((sc.2 (tk_n v3)) &&& (63 : Int32)) = 0
      · replace h := tk_ifT hs3 h
        refine tk_sw  rfl rfl hs3 rfl (pc' := 216) (ls' := [(0, .ref 1006), (1, .ref 0), (2, .ref 295), (3, .int v3)]) (st' := []) ?_
        refine tk_Ps  5 (pc' := 221) (ls' := [(0, .ref 1006), (1, .ref 0), (2, .ref 295), (3, .int v3)]) (st' := [.int (v3 + (1 : Int32)), .ref 1006, .ref 0]) rfl ?_
        obtain ⟨hg4, h⟩ := tk_grd h
        refine tk_Hx6  rfl rfl hg4 ?_
        refine tk_Ps  4 (pc' := 226) (ls' := [(0, .ref 1006), (1, .ref 0), (2, .ref 295), (3, .int v3)]) (st' := [.int (v3 + (2 : Int32)), .ref 1006, .int (sc.2 (tk_n (v3 + (1 : Int32)))), .ref 0]) rfl ?_
        obtain ⟨hg5, h⟩ := tk_grd h
        refine tk_Hx6  rfl rfl hg5 ?_
        refine tk_Ps  4 (pc' := 231) (ls' := [(0, .ref 1006), (1, .ref 0), (2, .ref 295), (3, .int v3)]) (st' := [.int (v3 + (3 : Int32)), .ref 1006, .int (sc.2 (tk_n (v3 + (2 : Int32)))), .int (sc.2 (tk_n (v3 + (1 : Int32)))), .ref 0]) rfl ?_
        obtain ⟨hg6, h⟩ := tk_grd h
        refine tk_Hx6  rfl rfl hg6 ?_
        obtain ⟨o7, ho7, h⟩ := tk_bnd h
        refine tk_cV1  rfl rfl (r := 0) (as := [.int (sc.2 (tk_n (v3 + (1 : Int32)))), .int (sc.2 (tk_n (v3 + (2 : Int32)))), .int (sc.2 (tk_n (v3 + (3 : Int32))))]) (rest := []) rfl ly0 rfl rfl (ok_fX_round sc (sc.2 (tk_n (v3 + (1 : Int32)))) (sc.2 (tk_n (v3 + (2 : Int32)))) (sc.2 (tk_n (v3 + (3 : Int32)))) m ho7) ?_
        refine tk_Ps  5 (pc' := 240) (ls' := [(0, .ref 1006), (1, .ref 0), (2, .ref 295), (3, .int v3)]) (st' := [.int (v3 + (1 : Int32)), .ref 1006, .ref 295, .int o7.1]) rfl ?_
        refine tk_Hx6  rfl rfl hg4 ?_
        refine tk_Ps  4 (pc' := 245) (ls' := [(0, .ref 1006), (1, .ref 0), (2, .ref 295), (3, .int v3)]) (st' := [.int (v3 + (2 : Int32)), .ref 1006, .int (sc.2 (tk_n (v3 + (1 : Int32)))), .ref 295, .int o7.1]) rfl ?_
        refine tk_Hx6  rfl rfl hg5 ?_
        refine tk_Ps  4 (pc' := 250) (ls' := [(0, .ref 1006), (1, .ref 0), (2, .ref 295), (3, .int v3)]) (st' := [.int (v3 + (3 : Int32)), .ref 1006, .int (sc.2 (tk_n (v3 + (2 : Int32)))), .int (sc.2 (tk_n (v3 + (1 : Int32)))), .ref 295, .int o7.1]) rfl ?_
        refine tk_Hx6  rfl rfl hg6 ?_
        obtain ⟨o8, ho8, h⟩ := tk_bnd h
        refine tk_cV1  rfl rfl (r := 295) (as := [.int (sc.2 (tk_n (v3 + (1 : Int32)))), .int (sc.2 (tk_n (v3 + (2 : Int32)))), .int (sc.2 (tk_n (v3 + (3 : Int32))))]) (rest := [.int o7.1]) rfl ly295 rfl rfl (ok_fM_round sc (sc.2 (tk_n (v3 + (1 : Int32)))) (sc.2 (tk_n (v3 + (2 : Int32)))) (sc.2 (tk_n (v3 + (3 : Int32)))) o7.2 ho8) ?_
        by_cases hc9 : o7.1 = o8.1
        · replace h := tk_ifT hc9 h
          refine tk_bT  rfl rfl rfl (c := o7.1 = o8.1) hc9 (pc' := 1595) (ls' := [(0, .ref 1006), (1, .ref 0), (2, .ref 295), (3, .int v3)]) (st' := []) ?_
          refine tk_Ps  2 (pc' := 18) (ls' := [(3, .int (v3 + (6 : Int32))), (0, .ref 1006), (1, .ref 0), (2, .ref 295)]) (st' := []) rfl ?_
          refine tk_Kp  (ls' := [(0, .ref 1006), (1, .ref 0), (2, .ref 295), (3, .int (v3 + (6 : Int32)))]) rfl rfl ?_
          exact ih (v3 + (6 : Int32)) o8.2 _ h
        · replace h := tk_ifF hc9 h
          refine tk_bF  rfl rfl rfl (c := o7.1 = o8.1) hc9 (pc' := 257) (ls' := [(0, .ref 1006), (1, .ref 0), (2, .ref 295), (3, .int v3)]) (st' := []) ?_
          refine tk_Ps  1 (pc' := 258) (ls' := [(0, .ref 1006), (1, .ref 0), (2, .ref 295), (3, .int v3)]) (st' := [.int (0 : Int32)]) rfl ?_
          replace h := Option.some.inj h
          subst h
          exact tk_RB (b := false)  rfl rfl rfl
      replace h := tk_ifF hs3 h
      by_cases hs10 : ((sc.2 (tk_n v3)) &&& (63 : Int32)) = 1
      · replace h := tk_ifT hs10 h
        refine tk_sw  rfl rfl hs10 rfl (pc' := 259) (ls' := [(0, .ref 1006), (1, .ref 0), (2, .ref 295), (3, .int v3)]) (st' := []) ?_
        refine tk_Ps  5 (pc' := 264) (ls' := [(0, .ref 1006), (1, .ref 0), (2, .ref 295), (3, .int v3)]) (st' := [.int (v3 + (1 : Int32)), .ref 1006, .ref 0]) rfl ?_
        obtain ⟨hg11, h⟩ := tk_grd h
        refine tk_Hx6  rfl rfl hg11 ?_
        refine tk_Ps  4 (pc' := 269) (ls' := [(0, .ref 1006), (1, .ref 0), (2, .ref 295), (3, .int v3)]) (st' := [.int (v3 + (2 : Int32)), .ref 1006, .int (sc.2 (tk_n (v3 + (1 : Int32)))), .ref 0]) rfl ?_
        obtain ⟨hg12, h⟩ := tk_grd h
        refine tk_Hx6  rfl rfl hg12 ?_
        obtain ⟨o13, ho13, h⟩ := tk_bnd h
        refine tk_cV1  rfl rfl (r := 0) (as := [.int (sc.2 (tk_n (v3 + (1 : Int32)))), .int (sc.2 (tk_n (v3 + (2 : Int32))))]) (rest := []) rfl ly0 rfl rfl (ok_fX_straight sc (sc.2 (tk_n (v3 + (1 : Int32)))) (sc.2 (tk_n (v3 + (2 : Int32)))) m ho13) ?_
        refine tk_Ps  5 (pc' := 278) (ls' := [(0, .ref 1006), (1, .ref 0), (2, .ref 295), (3, .int v3)]) (st' := [.int (v3 + (1 : Int32)), .ref 1006, .ref 295, .int o13.1]) rfl ?_
        refine tk_Hx6  rfl rfl hg11 ?_
        refine tk_Ps  4 (pc' := 283) (ls' := [(0, .ref 1006), (1, .ref 0), (2, .ref 295), (3, .int v3)]) (st' := [.int (v3 + (2 : Int32)), .ref 1006, .int (sc.2 (tk_n (v3 + (1 : Int32)))), .ref 295, .int o13.1]) rfl ?_
        refine tk_Hx6  rfl rfl hg12 ?_
        obtain ⟨o14, ho14, h⟩ := tk_bnd h
        refine tk_cV1  rfl rfl (r := 295) (as := [.int (sc.2 (tk_n (v3 + (1 : Int32)))), .int (sc.2 (tk_n (v3 + (2 : Int32))))]) (rest := [.int o13.1]) rfl ly295 rfl rfl (ok_fM_straight sc (sc.2 (tk_n (v3 + (1 : Int32)))) (sc.2 (tk_n (v3 + (2 : Int32)))) o13.2 ho14) ?_
        by_cases hc15 : o13.1 = o14.1
        · replace h := tk_ifT hc15 h
          refine tk_bT  rfl rfl rfl (c := o13.1 = o14.1) hc15 (pc' := 1595) (ls' := [(0, .ref 1006), (1, .ref 0), (2, .ref 295), (3, .int v3)]) (st' := []) ?_
          refine tk_Ps  2 (pc' := 18) (ls' := [(3, .int (v3 + (6 : Int32))), (0, .ref 1006), (1, .ref 0), (2, .ref 295)]) (st' := []) rfl ?_
          refine tk_Kp  (ls' := [(0, .ref 1006), (1, .ref 0), (2, .ref 295), (3, .int (v3 + (6 : Int32)))]) rfl rfl ?_
          exact ih (v3 + (6 : Int32)) o14.2 _ h
        · replace h := tk_ifF hc15 h
          refine tk_bF  rfl rfl rfl (c := o13.1 = o14.1) hc15 (pc' := 290) (ls' := [(0, .ref 1006), (1, .ref 0), (2, .ref 295), (3, .int v3)]) (st' := []) ?_
          refine tk_Ps  1 (pc' := 291) (ls' := [(0, .ref 1006), (1, .ref 0), (2, .ref 295), (3, .int v3)]) (st' := [.int (0 : Int32)]) rfl ?_
          replace h := Option.some.inj h
          subst h
          exact tk_RB (b := false)  rfl rfl rfl
      replace h := tk_ifF hs10 h
      by_cases hs16 : ((sc.2 (tk_n v3)) &&& (63 : Int32)) = 2
      · replace h := tk_ifT hs16 h
        refine tk_sw  rfl rfl hs16 rfl (pc' := 292) (ls' := [(0, .ref 1006), (1, .ref 0), (2, .ref 295), (3, .int v3)]) (st' := []) ?_
        refine tk_Ps  5 (pc' := 297) (ls' := [(0, .ref 1006), (1, .ref 0), (2, .ref 295), (3, .int v3)]) (st' := [.int (v3 + (1 : Int32)), .ref 1006, .ref 0]) rfl ?_
        obtain ⟨hg17, h⟩ := tk_grd h
        refine tk_Hx6  rfl rfl hg17 ?_
        refine tk_Ps  4 (pc' := 302) (ls' := [(0, .ref 1006), (1, .ref 0), (2, .ref 295), (3, .int v3)]) (st' := [.int (v3 + (2 : Int32)), .ref 1006, .int (sc.2 (tk_n (v3 + (1 : Int32)))), .ref 0]) rfl ?_
        obtain ⟨hg18, h⟩ := tk_grd h
        refine tk_Hx6  rfl rfl hg18 ?_
        obtain ⟨o19, ho19, h⟩ := tk_bnd h
        refine tk_cV1  rfl rfl (r := 0) (as := [.int (sc.2 (tk_n (v3 + (1 : Int32)))), .int (sc.2 (tk_n (v3 + (2 : Int32))))]) (rest := []) rfl ly0 rfl rfl (ok_fX_of sc (sc.2 (tk_n (v3 + (1 : Int32)))) (sc.2 (tk_n (v3 + (2 : Int32)))) m ho19) ?_
        refine tk_Ps  5 (pc' := 311) (ls' := [(0, .ref 1006), (1, .ref 0), (2, .ref 295), (3, .int v3)]) (st' := [.int (v3 + (1 : Int32)), .ref 1006, .ref 295, .int o19.1]) rfl ?_
        refine tk_Hx6  rfl rfl hg17 ?_
        refine tk_Ps  4 (pc' := 316) (ls' := [(0, .ref 1006), (1, .ref 0), (2, .ref 295), (3, .int v3)]) (st' := [.int (v3 + (2 : Int32)), .ref 1006, .int (sc.2 (tk_n (v3 + (1 : Int32)))), .ref 295, .int o19.1]) rfl ?_
        refine tk_Hx6  rfl rfl hg18 ?_
        obtain ⟨o20, ho20, h⟩ := tk_bnd h
        refine tk_cV1  rfl rfl (r := 295) (as := [.int (sc.2 (tk_n (v3 + (1 : Int32)))), .int (sc.2 (tk_n (v3 + (2 : Int32))))]) (rest := [.int o19.1]) rfl ly295 rfl rfl (ok_fM_of sc (sc.2 (tk_n (v3 + (1 : Int32)))) (sc.2 (tk_n (v3 + (2 : Int32)))) o19.2 ho20) ?_
        by_cases hc21 : o19.1 = o20.1
        · replace h := tk_ifT hc21 h
          refine tk_bT  rfl rfl rfl (c := o19.1 = o20.1) hc21 (pc' := 1595) (ls' := [(0, .ref 1006), (1, .ref 0), (2, .ref 295), (3, .int v3)]) (st' := []) ?_
          refine tk_Ps  2 (pc' := 18) (ls' := [(3, .int (v3 + (6 : Int32))), (0, .ref 1006), (1, .ref 0), (2, .ref 295)]) (st' := []) rfl ?_
          refine tk_Kp  (ls' := [(0, .ref 1006), (1, .ref 0), (2, .ref 295), (3, .int (v3 + (6 : Int32)))]) rfl rfl ?_
          exact ih (v3 + (6 : Int32)) o20.2 _ h
        · replace h := tk_ifF hc21 h
          refine tk_bF  rfl rfl rfl (c := o19.1 = o20.1) hc21 (pc' := 323) (ls' := [(0, .ref 1006), (1, .ref 0), (2, .ref 295), (3, .int v3)]) (st' := []) ?_
          refine tk_Ps  1 (pc' := 324) (ls' := [(0, .ref 1006), (1, .ref 0), (2, .ref 295), (3, .int v3)]) (st' := [.int (0 : Int32)]) rfl ?_
          replace h := Option.some.inj h
          subst h
          exact tk_RB (b := false)  rfl rfl rfl
      replace h := tk_ifF hs16 h
      by_cases hs22 : ((sc.2 (tk_n v3)) &&& (63 : Int32)) = 3
      · replace h := tk_ifT hs22 h
        refine tk_sw  rfl rfl hs22 rfl (pc' := 325) (ls' := [(0, .ref 1006), (1, .ref 0), (2, .ref 295), (3, .int v3)]) (st' := []) ?_
        refine tk_Ps  5 (pc' := 330) (ls' := [(0, .ref 1006), (1, .ref 0), (2, .ref 295), (3, .int v3)]) (st' := [.int (v3 + (1 : Int32)), .ref 1006, .ref 0]) rfl ?_
        obtain ⟨hg23, h⟩ := tk_grd h
        refine tk_Hx6  rfl rfl hg23 ?_
        refine tk_Ps  4 (pc' := 335) (ls' := [(0, .ref 1006), (1, .ref 0), (2, .ref 295), (3, .int v3)]) (st' := [.int (v3 + (2 : Int32)), .ref 1006, .int (sc.2 (tk_n (v3 + (1 : Int32)))), .ref 0]) rfl ?_
        obtain ⟨hg24, h⟩ := tk_grd h
        refine tk_Hx6  rfl rfl hg24 ?_
        refine tk_Ps  4 (pc' := 340) (ls' := [(0, .ref 1006), (1, .ref 0), (2, .ref 295), (3, .int v3)]) (st' := [.int (v3 + (3 : Int32)), .ref 1006, .int (sc.2 (tk_n (v3 + (2 : Int32)))), .int (sc.2 (tk_n (v3 + (1 : Int32)))), .ref 0]) rfl ?_
        obtain ⟨hg25, h⟩ := tk_grd h
        refine tk_Hx6  rfl rfl hg25 ?_
        obtain ⟨o26, ho26, h⟩ := tk_bnd h
        refine tk_cV1  rfl rfl (r := 0) (as := [.int (sc.2 (tk_n (v3 + (1 : Int32)))), .int (sc.2 (tk_n (v3 + (2 : Int32)))), .int (sc.2 (tk_n (v3 + (3 : Int32))))]) (rest := []) rfl ly0 rfl rfl (ok_fX_change sc (sc.2 (tk_n (v3 + (1 : Int32)))) (sc.2 (tk_n (v3 + (2 : Int32)))) (sc.2 (tk_n (v3 + (3 : Int32)))) m ho26) ?_
        refine tk_Ps  5 (pc' := 349) (ls' := [(0, .ref 1006), (1, .ref 0), (2, .ref 295), (3, .int v3)]) (st' := [.int (v3 + (1 : Int32)), .ref 1006, .ref 295, .int o26.1]) rfl ?_
        refine tk_Hx6  rfl rfl hg23 ?_
        refine tk_Ps  4 (pc' := 354) (ls' := [(0, .ref 1006), (1, .ref 0), (2, .ref 295), (3, .int v3)]) (st' := [.int (v3 + (2 : Int32)), .ref 1006, .int (sc.2 (tk_n (v3 + (1 : Int32)))), .ref 295, .int o26.1]) rfl ?_
        refine tk_Hx6  rfl rfl hg24 ?_
        refine tk_Ps  4 (pc' := 359) (ls' := [(0, .ref 1006), (1, .ref 0), (2, .ref 295), (3, .int v3)]) (st' := [.int (v3 + (3 : Int32)), .ref 1006, .int (sc.2 (tk_n (v3 + (2 : Int32)))), .int (sc.2 (tk_n (v3 + (1 : Int32)))), .ref 295, .int o26.1]) rfl ?_
        refine tk_Hx6  rfl rfl hg25 ?_
        obtain ⟨o27, ho27, h⟩ := tk_bnd h
        refine tk_cV1  rfl rfl (r := 295) (as := [.int (sc.2 (tk_n (v3 + (1 : Int32)))), .int (sc.2 (tk_n (v3 + (2 : Int32)))), .int (sc.2 (tk_n (v3 + (3 : Int32))))]) (rest := [.int o26.1]) rfl ly295 rfl rfl (ok_fM_change sc (sc.2 (tk_n (v3 + (1 : Int32)))) (sc.2 (tk_n (v3 + (2 : Int32)))) (sc.2 (tk_n (v3 + (3 : Int32)))) o26.2 ho27) ?_
        by_cases hc28 : o26.1 = o27.1
        · replace h := tk_ifT hc28 h
          refine tk_bT  rfl rfl rfl (c := o26.1 = o27.1) hc28 (pc' := 1595) (ls' := [(0, .ref 1006), (1, .ref 0), (2, .ref 295), (3, .int v3)]) (st' := []) ?_
          refine tk_Ps  2 (pc' := 18) (ls' := [(3, .int (v3 + (6 : Int32))), (0, .ref 1006), (1, .ref 0), (2, .ref 295)]) (st' := []) rfl ?_
          refine tk_Kp  (ls' := [(0, .ref 1006), (1, .ref 0), (2, .ref 295), (3, .int (v3 + (6 : Int32)))]) rfl rfl ?_
          exact ih (v3 + (6 : Int32)) o27.2 _ h
        · replace h := tk_ifF hc28 h
          refine tk_bF  rfl rfl rfl (c := o26.1 = o27.1) hc28 (pc' := 366) (ls' := [(0, .ref 1006), (1, .ref 0), (2, .ref 295), (3, .int v3)]) (st' := []) ?_
          refine tk_Ps  1 (pc' := 367) (ls' := [(0, .ref 1006), (1, .ref 0), (2, .ref 295), (3, .int v3)]) (st' := [.int (0 : Int32)]) rfl ?_
          replace h := Option.some.inj h
          subst h
          exact tk_RB (b := false)  rfl rfl rfl
      replace h := tk_ifF hs22 h
      by_cases hs29 : ((sc.2 (tk_n v3)) &&& (63 : Int32)) = 4
      · replace h := tk_ifT hs29 h
        refine tk_sw  rfl rfl hs29 rfl (pc' := 368) (ls' := [(0, .ref 1006), (1, .ref 0), (2, .ref 295), (3, .int v3)]) (st' := []) ?_
        refine tk_Ps  5 (pc' := 373) (ls' := [(0, .ref 1006), (1, .ref 0), (2, .ref 295), (3, .int v3)]) (st' := [.int (v3 + (1 : Int32)), .ref 1006, .ref 0]) rfl ?_
        obtain ⟨hg30, h⟩ := tk_grd h
        refine tk_Hx6  rfl rfl hg30 ?_
        refine tk_Ps  4 (pc' := 378) (ls' := [(0, .ref 1006), (1, .ref 0), (2, .ref 295), (3, .int v3)]) (st' := [.int (v3 + (2 : Int32)), .ref 1006, .int (sc.2 (tk_n (v3 + (1 : Int32)))), .ref 0]) rfl ?_
        obtain ⟨hg31, h⟩ := tk_grd h
        refine tk_Hx6  rfl rfl hg31 ?_
        obtain ⟨o32, ho32, h⟩ := tk_bnd h
        refine tk_cV1  rfl rfl (r := 0) (as := [.int (sc.2 (tk_n (v3 + (1 : Int32)))), .int (sc.2 (tk_n (v3 + (2 : Int32))))]) (rest := []) rfl ly0 rfl rfl (ok_fX_as sc (sc.2 (tk_n (v3 + (1 : Int32)))) (sc.2 (tk_n (v3 + (2 : Int32)))) m ho32) ?_
        refine tk_Ps  5 (pc' := 387) (ls' := [(0, .ref 1006), (1, .ref 0), (2, .ref 295), (3, .int v3)]) (st' := [.int (v3 + (1 : Int32)), .ref 1006, .ref 295, .int o32.1]) rfl ?_
        refine tk_Hx6  rfl rfl hg30 ?_
        refine tk_Ps  4 (pc' := 392) (ls' := [(0, .ref 1006), (1, .ref 0), (2, .ref 295), (3, .int v3)]) (st' := [.int (v3 + (2 : Int32)), .ref 1006, .int (sc.2 (tk_n (v3 + (1 : Int32)))), .ref 295, .int o32.1]) rfl ?_
        refine tk_Hx6  rfl rfl hg31 ?_
        obtain ⟨o33, ho33, h⟩ := tk_bnd h
        refine tk_cV1  rfl rfl (r := 295) (as := [.int (sc.2 (tk_n (v3 + (1 : Int32)))), .int (sc.2 (tk_n (v3 + (2 : Int32))))]) (rest := [.int o32.1]) rfl ly295 rfl rfl (ok_fM_as sc (sc.2 (tk_n (v3 + (1 : Int32)))) (sc.2 (tk_n (v3 + (2 : Int32)))) o32.2 ho33) ?_
        by_cases hc34 : o32.1 = o33.1
        · replace h := tk_ifT hc34 h
          refine tk_bT  rfl rfl rfl (c := o32.1 = o33.1) hc34 (pc' := 1595) (ls' := [(0, .ref 1006), (1, .ref 0), (2, .ref 295), (3, .int v3)]) (st' := []) ?_
          refine tk_Ps  2 (pc' := 18) (ls' := [(3, .int (v3 + (6 : Int32))), (0, .ref 1006), (1, .ref 0), (2, .ref 295)]) (st' := []) rfl ?_
          refine tk_Kp  (ls' := [(0, .ref 1006), (1, .ref 0), (2, .ref 295), (3, .int (v3 + (6 : Int32)))]) rfl rfl ?_
          exact ih (v3 + (6 : Int32)) o33.2 _ h
        · replace h := tk_ifF hc34 h
          refine tk_bF  rfl rfl rfl (c := o32.1 = o33.1) hc34 (pc' := 399) (ls' := [(0, .ref 1006), (1, .ref 0), (2, .ref 295), (3, .int v3)]) (st' := []) ?_
          refine tk_Ps  1 (pc' := 400) (ls' := [(0, .ref 1006), (1, .ref 0), (2, .ref 295), (3, .int v3)]) (st' := [.int (0 : Int32)]) rfl ?_
          replace h := Option.some.inj h
          subst h
          exact tk_RB (b := false)  rfl rfl rfl
      replace h := tk_ifF hs29 h
      by_cases hs35 : ((sc.2 (tk_n v3)) &&& (63 : Int32)) = 5
      · replace h := tk_ifT hs35 h
        refine tk_sw  rfl rfl hs35 rfl (pc' := 401) (ls' := [(0, .ref 1006), (1, .ref 0), (2, .ref 295), (3, .int v3)]) (st' := []) ?_
        refine tk_Ps  1 (pc' := 402) (ls' := [(0, .ref 1006), (1, .ref 0), (2, .ref 295), (3, .int v3)]) (st' := [.ref 0]) rfl ?_
        obtain ⟨o36, ho36, h⟩ := tk_bnd h
        refine tk_cV1  rfl rfl (r := 0) (as := []) (rest := []) rfl ly0 rfl rfl (ok_fX_drop sc m ho36) ?_
        refine tk_Ps  1 (pc' := 406) (ls' := [(0, .ref 1006), (1, .ref 0), (2, .ref 295), (3, .int v3)]) (st' := [.ref 295, .int o36.1]) rfl ?_
        obtain ⟨o37, ho37, h⟩ := tk_bnd h
        refine tk_cV1  rfl rfl (r := 295) (as := []) (rest := [.int o36.1]) rfl ly295 rfl rfl (ok_fM_drop sc o36.2 ho37) ?_
        by_cases hc38 : o36.1 = o37.1
        · replace h := tk_ifT hc38 h
          refine tk_bT  rfl rfl rfl (c := o36.1 = o37.1) hc38 (pc' := 1595) (ls' := [(0, .ref 1006), (1, .ref 0), (2, .ref 295), (3, .int v3)]) (st' := []) ?_
          refine tk_Ps  2 (pc' := 18) (ls' := [(3, .int (v3 + (6 : Int32))), (0, .ref 1006), (1, .ref 0), (2, .ref 295)]) (st' := []) rfl ?_
          refine tk_Kp  (ls' := [(0, .ref 1006), (1, .ref 0), (2, .ref 295), (3, .int (v3 + (6 : Int32)))]) rfl rfl ?_
          exact ih (v3 + (6 : Int32)) o37.2 _ h
        · replace h := tk_ifF hc38 h
          refine tk_bF  rfl rfl rfl (c := o36.1 = o37.1) hc38 (pc' := 412) (ls' := [(0, .ref 1006), (1, .ref 0), (2, .ref 295), (3, .int v3)]) (st' := []) ?_
          refine tk_Ps  1 (pc' := 413) (ls' := [(0, .ref 1006), (1, .ref 0), (2, .ref 295), (3, .int v3)]) (st' := [.int (0 : Int32)]) rfl ?_
          replace h := Option.some.inj h
          subst h
          exact tk_RB (b := false)  rfl rfl rfl
      replace h := tk_ifF hs35 h
      by_cases hs39 : ((sc.2 (tk_n v3)) &&& (63 : Int32)) = 6
      · replace h := tk_ifT hs39 h
        refine tk_sw  rfl rfl hs39 rfl (pc' := 414) (ls' := [(0, .ref 1006), (1, .ref 0), (2, .ref 295), (3, .int v3)]) (st' := []) ?_
        refine tk_Ps  5 (pc' := 419) (ls' := [(0, .ref 1006), (1, .ref 0), (2, .ref 295), (3, .int v3)]) (st' := [.int (v3 + (1 : Int32)), .ref 1006, .ref 0]) rfl ?_
        obtain ⟨hg40, h⟩ := tk_grd h
        refine tk_Hx6  rfl rfl hg40 ?_
        obtain ⟨o41, ho41, h⟩ := tk_bnd h
        refine tk_cV1  rfl rfl (r := 0) (as := [.int (sc.2 (tk_n (v3 + (1 : Int32))))]) (rest := []) rfl ly0 rfl rfl (ok_fX_prune sc (sc.2 (tk_n (v3 + (1 : Int32)))) m ho41) ?_
        refine tk_Ps  5 (pc' := 428) (ls' := [(0, .ref 1006), (1, .ref 0), (2, .ref 295), (3, .int v3)]) (st' := [.int (v3 + (1 : Int32)), .ref 1006, .ref 295, .int o41.1]) rfl ?_
        refine tk_Hx6  rfl rfl hg40 ?_
        obtain ⟨o42, ho42, h⟩ := tk_bnd h
        refine tk_cV1  rfl rfl (r := 295) (as := [.int (sc.2 (tk_n (v3 + (1 : Int32))))]) (rest := [.int o41.1]) rfl ly295 rfl rfl (ok_fM_prune sc (sc.2 (tk_n (v3 + (1 : Int32)))) o41.2 ho42) ?_
        by_cases hc43 : o41.1 = o42.1
        · replace h := tk_ifT hc43 h
          refine tk_bT  rfl rfl rfl (c := o41.1 = o42.1) hc43 (pc' := 1595) (ls' := [(0, .ref 1006), (1, .ref 0), (2, .ref 295), (3, .int v3)]) (st' := []) ?_
          refine tk_Ps  2 (pc' := 18) (ls' := [(3, .int (v3 + (6 : Int32))), (0, .ref 1006), (1, .ref 0), (2, .ref 295)]) (st' := []) rfl ?_
          refine tk_Kp  (ls' := [(0, .ref 1006), (1, .ref 0), (2, .ref 295), (3, .int (v3 + (6 : Int32)))]) rfl rfl ?_
          exact ih (v3 + (6 : Int32)) o42.2 _ h
        · replace h := tk_ifF hc43 h
          refine tk_bF  rfl rfl rfl (c := o41.1 = o42.1) hc43 (pc' := 435) (ls' := [(0, .ref 1006), (1, .ref 0), (2, .ref 295), (3, .int v3)]) (st' := []) ?_
          refine tk_Ps  1 (pc' := 436) (ls' := [(0, .ref 1006), (1, .ref 0), (2, .ref 295), (3, .int v3)]) (st' := [.int (0 : Int32)]) rfl ?_
          replace h := Option.some.inj h
          subst h
          exact tk_RB (b := false)  rfl rfl rfl
      replace h := tk_ifF hs39 h
      by_cases hs44 : ((sc.2 (tk_n v3)) &&& (63 : Int32)) = 7
      · replace h := tk_ifT hs44 h
        refine tk_sw  rfl rfl hs44 rfl (pc' := 437) (ls' := [(0, .ref 1006), (1, .ref 0), (2, .ref 295), (3, .int v3)]) (st' := []) ?_
        refine tk_Ps  5 (pc' := 442) (ls' := [(0, .ref 1006), (1, .ref 0), (2, .ref 295), (3, .int v3)]) (st' := [.int (v3 + (1 : Int32)), .ref 1006, .ref 0]) rfl ?_
        obtain ⟨hg45, h⟩ := tk_grd h
        refine tk_Hx6  rfl rfl hg45 ?_
        refine tk_Ps  4 (pc' := 447) (ls' := [(0, .ref 1006), (1, .ref 0), (2, .ref 295), (3, .int v3)]) (st' := [.int (v3 + (2 : Int32)), .ref 1006, .int (sc.2 (tk_n (v3 + (1 : Int32)))), .ref 0]) rfl ?_
        obtain ⟨hg46, h⟩ := tk_grd h
        refine tk_Hx6  rfl rfl hg46 ?_
        obtain ⟨o47, ho47, h⟩ := tk_bnd h
        refine tk_cV1  rfl rfl (r := 0) (as := [.int (sc.2 (tk_n (v3 + (1 : Int32)))), .int (sc.2 (tk_n (v3 + (2 : Int32))))]) (rest := []) rfl ly0 rfl rfl (ok_fX_swap sc (sc.2 (tk_n (v3 + (1 : Int32)))) (sc.2 (tk_n (v3 + (2 : Int32)))) m ho47) ?_
        refine tk_Ps  5 (pc' := 456) (ls' := [(0, .ref 1006), (1, .ref 0), (2, .ref 295), (3, .int v3)]) (st' := [.int (v3 + (1 : Int32)), .ref 1006, .ref 295, .int o47.1]) rfl ?_
        refine tk_Hx6  rfl rfl hg45 ?_
        refine tk_Ps  4 (pc' := 461) (ls' := [(0, .ref 1006), (1, .ref 0), (2, .ref 295), (3, .int v3)]) (st' := [.int (v3 + (2 : Int32)), .ref 1006, .int (sc.2 (tk_n (v3 + (1 : Int32)))), .ref 295, .int o47.1]) rfl ?_
        refine tk_Hx6  rfl rfl hg46 ?_
        obtain ⟨o48, ho48, h⟩ := tk_bnd h
        refine tk_cV1  rfl rfl (r := 295) (as := [.int (sc.2 (tk_n (v3 + (1 : Int32)))), .int (sc.2 (tk_n (v3 + (2 : Int32))))]) (rest := [.int o47.1]) rfl ly295 rfl rfl (ok_fM_swap sc (sc.2 (tk_n (v3 + (1 : Int32)))) (sc.2 (tk_n (v3 + (2 : Int32)))) o47.2 ho48) ?_
        by_cases hc49 : o47.1 = o48.1
        · replace h := tk_ifT hc49 h
          refine tk_bT  rfl rfl rfl (c := o47.1 = o48.1) hc49 (pc' := 1595) (ls' := [(0, .ref 1006), (1, .ref 0), (2, .ref 295), (3, .int v3)]) (st' := []) ?_
          refine tk_Ps  2 (pc' := 18) (ls' := [(3, .int (v3 + (6 : Int32))), (0, .ref 1006), (1, .ref 0), (2, .ref 295)]) (st' := []) rfl ?_
          refine tk_Kp  (ls' := [(0, .ref 1006), (1, .ref 0), (2, .ref 295), (3, .int (v3 + (6 : Int32)))]) rfl rfl ?_
          exact ih (v3 + (6 : Int32)) o48.2 _ h
        · replace h := tk_ifF hc49 h
          refine tk_bF  rfl rfl rfl (c := o47.1 = o48.1) hc49 (pc' := 468) (ls' := [(0, .ref 1006), (1, .ref 0), (2, .ref 295), (3, .int v3)]) (st' := []) ?_
          refine tk_Ps  1 (pc' := 469) (ls' := [(0, .ref 1006), (1, .ref 0), (2, .ref 295), (3, .int v3)]) (st' := [.int (0 : Int32)]) rfl ?_
          replace h := Option.some.inj h
          subst h
          exact tk_RB (b := false)  rfl rfl rfl
      replace h := tk_ifF hs44 h
      by_cases hs50 : ((sc.2 (tk_n v3)) &&& (63 : Int32)) = 8
      · replace h := tk_ifT hs50 h
        refine tk_sw  rfl rfl hs50 rfl (pc' := 470) (ls' := [(0, .ref 1006), (1, .ref 0), (2, .ref 295), (3, .int v3)]) (st' := []) ?_
        refine tk_Ps  1 (pc' := 471) (ls' := [(0, .ref 1006), (1, .ref 0), (2, .ref 295), (3, .int v3)]) (st' := [.ref 0]) rfl ?_
        obtain ⟨o51, ho51, h⟩ := tk_bnd h
        refine tk_cV1  rfl rfl (r := 0) (as := []) (rest := []) rfl ly0 rfl rfl (ok_fX_turn sc m ho51) ?_
        refine tk_Ps  1 (pc' := 475) (ls' := [(0, .ref 1006), (1, .ref 0), (2, .ref 295), (3, .int v3)]) (st' := [.ref 295, .int o51.1]) rfl ?_
        obtain ⟨o52, ho52, h⟩ := tk_bnd h
        refine tk_cV1  rfl rfl (r := 295) (as := []) (rest := [.int o51.1]) rfl ly295 rfl rfl (ok_fM_turn sc o51.2 ho52) ?_
        by_cases hc53 : o51.1 = o52.1
        · replace h := tk_ifT hc53 h
          refine tk_bT  rfl rfl rfl (c := o51.1 = o52.1) hc53 (pc' := 1595) (ls' := [(0, .ref 1006), (1, .ref 0), (2, .ref 295), (3, .int v3)]) (st' := []) ?_
          refine tk_Ps  2 (pc' := 18) (ls' := [(3, .int (v3 + (6 : Int32))), (0, .ref 1006), (1, .ref 0), (2, .ref 295)]) (st' := []) rfl ?_
          refine tk_Kp  (ls' := [(0, .ref 1006), (1, .ref 0), (2, .ref 295), (3, .int (v3 + (6 : Int32)))]) rfl rfl ?_
          exact ih (v3 + (6 : Int32)) o52.2 _ h
        · replace h := tk_ifF hc53 h
          refine tk_bF  rfl rfl rfl (c := o51.1 = o52.1) hc53 (pc' := 481) (ls' := [(0, .ref 1006), (1, .ref 0), (2, .ref 295), (3, .int v3)]) (st' := []) ?_
          refine tk_Ps  1 (pc' := 482) (ls' := [(0, .ref 1006), (1, .ref 0), (2, .ref 295), (3, .int v3)]) (st' := [.int (0 : Int32)]) rfl ?_
          replace h := Option.some.inj h
          subst h
          exact tk_RB (b := false)  rfl rfl rfl
      replace h := tk_ifF hs50 h
      by_cases hs54 : ((sc.2 (tk_n v3)) &&& (63 : Int32)) = 9
      · replace h := tk_ifT hs54 h
        refine tk_sw  rfl rfl hs54 rfl (pc' := 483) (ls' := [(0, .ref 1006), (1, .ref 0), (2, .ref 295), (3, .int v3)]) (st' := []) ?_
        refine tk_Ps  5 (pc' := 488) (ls' := [(0, .ref 1006), (1, .ref 0), (2, .ref 295), (3, .int v3)]) (st' := [.int (v3 + (1 : Int32)), .ref 1006, .ref 0]) rfl ?_
        obtain ⟨hg55, h⟩ := tk_grd h
        refine tk_Hx6  rfl rfl hg55 ?_
        refine tk_Ps  4 (pc' := 493) (ls' := [(0, .ref 1006), (1, .ref 0), (2, .ref 295), (3, .int v3)]) (st' := [.int (v3 + (2 : Int32)), .ref 1006, .int (sc.2 (tk_n (v3 + (1 : Int32)))), .ref 0]) rfl ?_
        obtain ⟨hg56, h⟩ := tk_grd h
        refine tk_Hx6  rfl rfl hg56 ?_
        obtain ⟨o57, ho57, h⟩ := tk_bnd h
        refine tk_cV1  rfl rfl (r := 0) (as := [.int (sc.2 (tk_n (v3 + (1 : Int32)))), .int (sc.2 (tk_n (v3 + (2 : Int32))))]) (rest := []) rfl ly0 rfl rfl (ok_fX_lie sc (sc.2 (tk_n (v3 + (1 : Int32)))) (sc.2 (tk_n (v3 + (2 : Int32)))) m ho57) ?_
        refine tk_Ps  5 (pc' := 502) (ls' := [(0, .ref 1006), (1, .ref 0), (2, .ref 295), (3, .int v3)]) (st' := [.int (v3 + (1 : Int32)), .ref 1006, .ref 295, .int o57.1]) rfl ?_
        refine tk_Hx6  rfl rfl hg55 ?_
        refine tk_Ps  4 (pc' := 507) (ls' := [(0, .ref 1006), (1, .ref 0), (2, .ref 295), (3, .int v3)]) (st' := [.int (v3 + (2 : Int32)), .ref 1006, .int (sc.2 (tk_n (v3 + (1 : Int32)))), .ref 295, .int o57.1]) rfl ?_
        refine tk_Hx6  rfl rfl hg56 ?_
        obtain ⟨o58, ho58, h⟩ := tk_bnd h
        refine tk_cV1  rfl rfl (r := 295) (as := [.int (sc.2 (tk_n (v3 + (1 : Int32)))), .int (sc.2 (tk_n (v3 + (2 : Int32))))]) (rest := [.int o57.1]) rfl ly295 rfl rfl (ok_fM_lie sc (sc.2 (tk_n (v3 + (1 : Int32)))) (sc.2 (tk_n (v3 + (2 : Int32)))) o57.2 ho58) ?_
        by_cases hc59 : o57.1 = o58.1
        · replace h := tk_ifT hc59 h
          refine tk_bT  rfl rfl rfl (c := o57.1 = o58.1) hc59 (pc' := 1595) (ls' := [(0, .ref 1006), (1, .ref 0), (2, .ref 295), (3, .int v3)]) (st' := []) ?_
          refine tk_Ps  2 (pc' := 18) (ls' := [(3, .int (v3 + (6 : Int32))), (0, .ref 1006), (1, .ref 0), (2, .ref 295)]) (st' := []) rfl ?_
          refine tk_Kp  (ls' := [(0, .ref 1006), (1, .ref 0), (2, .ref 295), (3, .int (v3 + (6 : Int32)))]) rfl rfl ?_
          exact ih (v3 + (6 : Int32)) o58.2 _ h
        · replace h := tk_ifF hc59 h
          refine tk_bF  rfl rfl rfl (c := o57.1 = o58.1) hc59 (pc' := 514) (ls' := [(0, .ref 1006), (1, .ref 0), (2, .ref 295), (3, .int v3)]) (st' := []) ?_
          refine tk_Ps  1 (pc' := 515) (ls' := [(0, .ref 1006), (1, .ref 0), (2, .ref 295), (3, .int v3)]) (st' := [.int (0 : Int32)]) rfl ?_
          replace h := Option.some.inj h
          subst h
          exact tk_RB (b := false)  rfl rfl rfl
      replace h := tk_ifF hs54 h
      by_cases hs60 : ((sc.2 (tk_n v3)) &&& (63 : Int32)) = 10
      · replace h := tk_ifT hs60 h
        refine tk_sw  rfl rfl hs60 rfl (pc' := 516) (ls' := [(0, .ref 1006), (1, .ref 0), (2, .ref 295), (3, .int v3)]) (st' := []) ?_
        refine tk_Ps  5 (pc' := 521) (ls' := [(0, .ref 1006), (1, .ref 0), (2, .ref 295), (3, .int v3)]) (st' := [.int (v3 + (1 : Int32)), .ref 1006, .ref 0]) rfl ?_
        obtain ⟨hg61, h⟩ := tk_grd h
        refine tk_Hx6  rfl rfl hg61 ?_
        refine tk_Ps  4 (pc' := 526) (ls' := [(0, .ref 1006), (1, .ref 0), (2, .ref 295), (3, .int v3)]) (st' := [.int (v3 + (2 : Int32)), .ref 1006, .int (sc.2 (tk_n (v3 + (1 : Int32)))), .ref 0]) rfl ?_
        obtain ⟨hg62, h⟩ := tk_grd h
        refine tk_Hx6  rfl rfl hg62 ?_
        refine tk_Ps  4 (pc' := 531) (ls' := [(0, .ref 1006), (1, .ref 0), (2, .ref 295), (3, .int v3)]) (st' := [.int (v3 + (3 : Int32)), .ref 1006, .int (sc.2 (tk_n (v3 + (2 : Int32)))), .int (sc.2 (tk_n (v3 + (1 : Int32)))), .ref 0]) rfl ?_
        obtain ⟨hg63, h⟩ := tk_grd h
        refine tk_Hx6  rfl rfl hg63 ?_
        obtain ⟨o64, ho64, h⟩ := tk_bnd h
        refine tk_cV1  rfl rfl (r := 0) (as := [.int (sc.2 (tk_n (v3 + (1 : Int32)))), .int (sc.2 (tk_n (v3 + (2 : Int32)))), .int (sc.2 (tk_n (v3 + (3 : Int32))))]) (rest := []) rfl ly0 rfl rfl (ok_fX_power sc (sc.2 (tk_n (v3 + (1 : Int32)))) (sc.2 (tk_n (v3 + (2 : Int32)))) (sc.2 (tk_n (v3 + (3 : Int32)))) m ho64) ?_
        refine tk_Ps  5 (pc' := 540) (ls' := [(0, .ref 1006), (1, .ref 0), (2, .ref 295), (3, .int v3)]) (st' := [.int (v3 + (1 : Int32)), .ref 1006, .ref 295, .int o64.1]) rfl ?_
        refine tk_Hx6  rfl rfl hg61 ?_
        refine tk_Ps  4 (pc' := 545) (ls' := [(0, .ref 1006), (1, .ref 0), (2, .ref 295), (3, .int v3)]) (st' := [.int (v3 + (2 : Int32)), .ref 1006, .int (sc.2 (tk_n (v3 + (1 : Int32)))), .ref 295, .int o64.1]) rfl ?_
        refine tk_Hx6  rfl rfl hg62 ?_
        refine tk_Ps  4 (pc' := 550) (ls' := [(0, .ref 1006), (1, .ref 0), (2, .ref 295), (3, .int v3)]) (st' := [.int (v3 + (3 : Int32)), .ref 1006, .int (sc.2 (tk_n (v3 + (2 : Int32)))), .int (sc.2 (tk_n (v3 + (1 : Int32)))), .ref 295, .int o64.1]) rfl ?_
        refine tk_Hx6  rfl rfl hg63 ?_
        obtain ⟨o65, ho65, h⟩ := tk_bnd h
        refine tk_cV1  rfl rfl (r := 295) (as := [.int (sc.2 (tk_n (v3 + (1 : Int32)))), .int (sc.2 (tk_n (v3 + (2 : Int32)))), .int (sc.2 (tk_n (v3 + (3 : Int32))))]) (rest := [.int o64.1]) rfl ly295 rfl rfl (ok_fM_power sc (sc.2 (tk_n (v3 + (1 : Int32)))) (sc.2 (tk_n (v3 + (2 : Int32)))) (sc.2 (tk_n (v3 + (3 : Int32)))) o64.2 ho65) ?_
        by_cases hc66 : o64.1 = o65.1
        · replace h := tk_ifT hc66 h
          refine tk_bT  rfl rfl rfl (c := o64.1 = o65.1) hc66 (pc' := 1595) (ls' := [(0, .ref 1006), (1, .ref 0), (2, .ref 295), (3, .int v3)]) (st' := []) ?_
          refine tk_Ps  2 (pc' := 18) (ls' := [(3, .int (v3 + (6 : Int32))), (0, .ref 1006), (1, .ref 0), (2, .ref 295)]) (st' := []) rfl ?_
          refine tk_Kp  (ls' := [(0, .ref 1006), (1, .ref 0), (2, .ref 295), (3, .int (v3 + (6 : Int32)))]) rfl rfl ?_
          exact ih (v3 + (6 : Int32)) o65.2 _ h
        · replace h := tk_ifF hc66 h
          refine tk_bF  rfl rfl rfl (c := o64.1 = o65.1) hc66 (pc' := 557) (ls' := [(0, .ref 1006), (1, .ref 0), (2, .ref 295), (3, .int v3)]) (st' := []) ?_
          refine tk_Ps  1 (pc' := 558) (ls' := [(0, .ref 1006), (1, .ref 0), (2, .ref 295), (3, .int v3)]) (st' := [.int (0 : Int32)]) rfl ?_
          replace h := Option.some.inj h
          subst h
          exact tk_RB (b := false)  rfl rfl rfl
      replace h := tk_ifF hs60 h
      by_cases hs67 : ((sc.2 (tk_n v3)) &&& (63 : Int32)) = 11
      · replace h := tk_ifT hs67 h
        refine tk_sw  rfl rfl hs67 rfl (pc' := 559) (ls' := [(0, .ref 1006), (1, .ref 0), (2, .ref 295), (3, .int v3)]) (st' := []) ?_
        refine tk_Ps  5 (pc' := 564) (ls' := [(0, .ref 1006), (1, .ref 0), (2, .ref 295), (3, .int v3)]) (st' := [.int (v3 + (1 : Int32)), .ref 1006, .ref 0]) rfl ?_
        obtain ⟨hg68, h⟩ := tk_grd h
        refine tk_Hx6  rfl rfl hg68 ?_
        refine tk_Ps  4 (pc' := 569) (ls' := [(0, .ref 1006), (1, .ref 0), (2, .ref 295), (3, .int v3)]) (st' := [.int (v3 + (2 : Int32)), .ref 1006, .int (sc.2 (tk_n (v3 + (1 : Int32)))), .ref 0]) rfl ?_
        obtain ⟨hg69, h⟩ := tk_grd h
        refine tk_Hx6  rfl rfl hg69 ?_
        refine tk_Ps  4 (pc' := 574) (ls' := [(0, .ref 1006), (1, .ref 0), (2, .ref 295), (3, .int v3)]) (st' := [.int (v3 + (3 : Int32)), .ref 1006, .int (sc.2 (tk_n (v3 + (2 : Int32)))), .int (sc.2 (tk_n (v3 + (1 : Int32)))), .ref 0]) rfl ?_
        obtain ⟨hg70, h⟩ := tk_grd h
        refine tk_Hx6  rfl rfl hg70 ?_
        obtain ⟨o71, ho71, h⟩ := tk_bnd h
        refine tk_cV1  rfl rfl (r := 0) (as := [.int (sc.2 (tk_n (v3 + (1 : Int32)))), .int (sc.2 (tk_n (v3 + (2 : Int32)))), .int (sc.2 (tk_n (v3 + (3 : Int32))))]) (rest := []) rfl ly0 rfl rfl (ok_fX_radical sc (sc.2 (tk_n (v3 + (1 : Int32)))) (sc.2 (tk_n (v3 + (2 : Int32)))) (sc.2 (tk_n (v3 + (3 : Int32)))) m ho71) ?_
        refine tk_Ps  5 (pc' := 583) (ls' := [(0, .ref 1006), (1, .ref 0), (2, .ref 295), (3, .int v3)]) (st' := [.int (v3 + (1 : Int32)), .ref 1006, .ref 295, .int o71.1]) rfl ?_
        refine tk_Hx6  rfl rfl hg68 ?_
        refine tk_Ps  4 (pc' := 588) (ls' := [(0, .ref 1006), (1, .ref 0), (2, .ref 295), (3, .int v3)]) (st' := [.int (v3 + (2 : Int32)), .ref 1006, .int (sc.2 (tk_n (v3 + (1 : Int32)))), .ref 295, .int o71.1]) rfl ?_
        refine tk_Hx6  rfl rfl hg69 ?_
        refine tk_Ps  4 (pc' := 593) (ls' := [(0, .ref 1006), (1, .ref 0), (2, .ref 295), (3, .int v3)]) (st' := [.int (v3 + (3 : Int32)), .ref 1006, .int (sc.2 (tk_n (v3 + (2 : Int32)))), .int (sc.2 (tk_n (v3 + (1 : Int32)))), .ref 295, .int o71.1]) rfl ?_
        refine tk_Hx6  rfl rfl hg70 ?_
        obtain ⟨o72, ho72, h⟩ := tk_bnd h
        refine tk_cV1  rfl rfl (r := 295) (as := [.int (sc.2 (tk_n (v3 + (1 : Int32)))), .int (sc.2 (tk_n (v3 + (2 : Int32)))), .int (sc.2 (tk_n (v3 + (3 : Int32))))]) (rest := [.int o71.1]) rfl ly295 rfl rfl (ok_fM_radical sc (sc.2 (tk_n (v3 + (1 : Int32)))) (sc.2 (tk_n (v3 + (2 : Int32)))) (sc.2 (tk_n (v3 + (3 : Int32)))) o71.2 ho72) ?_
        by_cases hc73 : o71.1 = o72.1
        · replace h := tk_ifT hc73 h
          refine tk_bT  rfl rfl rfl (c := o71.1 = o72.1) hc73 (pc' := 1595) (ls' := [(0, .ref 1006), (1, .ref 0), (2, .ref 295), (3, .int v3)]) (st' := []) ?_
          refine tk_Ps  2 (pc' := 18) (ls' := [(3, .int (v3 + (6 : Int32))), (0, .ref 1006), (1, .ref 0), (2, .ref 295)]) (st' := []) rfl ?_
          refine tk_Kp  (ls' := [(0, .ref 1006), (1, .ref 0), (2, .ref 295), (3, .int (v3 + (6 : Int32)))]) rfl rfl ?_
          exact ih (v3 + (6 : Int32)) o72.2 _ h
        · replace h := tk_ifF hc73 h
          refine tk_bF  rfl rfl rfl (c := o71.1 = o72.1) hc73 (pc' := 600) (ls' := [(0, .ref 1006), (1, .ref 0), (2, .ref 295), (3, .int v3)]) (st' := []) ?_
          refine tk_Ps  1 (pc' := 601) (ls' := [(0, .ref 1006), (1, .ref 0), (2, .ref 295), (3, .int v3)]) (st' := [.int (0 : Int32)]) rfl ?_
          replace h := Option.some.inj h
          subst h
          exact tk_RB (b := false)  rfl rfl rfl
      replace h := tk_ifF hs67 h
      by_cases hs74 : ((sc.2 (tk_n v3)) &&& (63 : Int32)) = 12
      · replace h := tk_ifT hs74 h
        refine tk_sw  rfl rfl hs74 rfl (pc' := 602) (ls' := [(0, .ref 1006), (1, .ref 0), (2, .ref 295), (3, .int v3)]) (st' := []) ?_
        refine tk_Ps  5 (pc' := 607) (ls' := [(0, .ref 1006), (1, .ref 0), (2, .ref 295), (3, .int v3)]) (st' := [.int (v3 + (1 : Int32)), .ref 1006, .ref 0]) rfl ?_
        obtain ⟨hg75, h⟩ := tk_grd h
        refine tk_Hx6  rfl rfl hg75 ?_
        refine tk_Ps  4 (pc' := 612) (ls' := [(0, .ref 1006), (1, .ref 0), (2, .ref 295), (3, .int v3)]) (st' := [.int (v3 + (2 : Int32)), .ref 1006, .int (sc.2 (tk_n (v3 + (1 : Int32)))), .ref 0]) rfl ?_
        obtain ⟨hg76, h⟩ := tk_grd h
        refine tk_Hx6  rfl rfl hg76 ?_
        obtain ⟨o77, ho77, h⟩ := tk_bnd h
        refine tk_cV1  rfl rfl (r := 0) (as := [.int (sc.2 (tk_n (v3 + (1 : Int32)))), .int (sc.2 (tk_n (v3 + (2 : Int32))))]) (rest := []) rfl ly0 rfl rfl (ok_fX_ring sc (sc.2 (tk_n (v3 + (1 : Int32)))) (sc.2 (tk_n (v3 + (2 : Int32)))) m ho77) ?_
        refine tk_Ps  5 (pc' := 621) (ls' := [(0, .ref 1006), (1, .ref 0), (2, .ref 295), (3, .int v3)]) (st' := [.int (v3 + (1 : Int32)), .ref 1006, .ref 295, .int o77.1]) rfl ?_
        refine tk_Hx6  rfl rfl hg75 ?_
        refine tk_Ps  4 (pc' := 626) (ls' := [(0, .ref 1006), (1, .ref 0), (2, .ref 295), (3, .int v3)]) (st' := [.int (v3 + (2 : Int32)), .ref 1006, .int (sc.2 (tk_n (v3 + (1 : Int32)))), .ref 295, .int o77.1]) rfl ?_
        refine tk_Hx6  rfl rfl hg76 ?_
        obtain ⟨o78, ho78, h⟩ := tk_bnd h
        refine tk_cV1  rfl rfl (r := 295) (as := [.int (sc.2 (tk_n (v3 + (1 : Int32)))), .int (sc.2 (tk_n (v3 + (2 : Int32))))]) (rest := [.int o77.1]) rfl ly295 rfl rfl (ok_fM_ring sc (sc.2 (tk_n (v3 + (1 : Int32)))) (sc.2 (tk_n (v3 + (2 : Int32)))) o77.2 ho78) ?_
        by_cases hc79 : o77.1 = o78.1
        · replace h := tk_ifT hc79 h
          refine tk_bT  rfl rfl rfl (c := o77.1 = o78.1) hc79 (pc' := 1595) (ls' := [(0, .ref 1006), (1, .ref 0), (2, .ref 295), (3, .int v3)]) (st' := []) ?_
          refine tk_Ps  2 (pc' := 18) (ls' := [(3, .int (v3 + (6 : Int32))), (0, .ref 1006), (1, .ref 0), (2, .ref 295)]) (st' := []) rfl ?_
          refine tk_Kp  (ls' := [(0, .ref 1006), (1, .ref 0), (2, .ref 295), (3, .int (v3 + (6 : Int32)))]) rfl rfl ?_
          exact ih (v3 + (6 : Int32)) o78.2 _ h
        · replace h := tk_ifF hc79 h
          refine tk_bF  rfl rfl rfl (c := o77.1 = o78.1) hc79 (pc' := 633) (ls' := [(0, .ref 1006), (1, .ref 0), (2, .ref 295), (3, .int v3)]) (st' := []) ?_
          refine tk_Ps  1 (pc' := 634) (ls' := [(0, .ref 1006), (1, .ref 0), (2, .ref 295), (3, .int v3)]) (st' := [.int (0 : Int32)]) rfl ?_
          replace h := Option.some.inj h
          subst h
          exact tk_RB (b := false)  rfl rfl rfl
      replace h := tk_ifF hs74 h
      by_cases hs80 : ((sc.2 (tk_n v3)) &&& (63 : Int32)) = 13
      · replace h := tk_ifT hs80 h
        refine tk_sw  rfl rfl hs80 rfl (pc' := 635) (ls' := [(0, .ref 1006), (1, .ref 0), (2, .ref 295), (3, .int v3)]) (st' := []) ?_
        refine tk_Ps  5 (pc' := 640) (ls' := [(0, .ref 1006), (1, .ref 0), (2, .ref 295), (3, .int v3)]) (st' := [.int (v3 + (1 : Int32)), .ref 1006, .ref 0]) rfl ?_
        obtain ⟨hg81, h⟩ := tk_grd h
        refine tk_Hx6  rfl rfl hg81 ?_
        refine tk_Ps  4 (pc' := 645) (ls' := [(0, .ref 1006), (1, .ref 0), (2, .ref 295), (3, .int v3)]) (st' := [.int (v3 + (2 : Int32)), .ref 1006, .int (sc.2 (tk_n (v3 + (1 : Int32)))), .ref 0]) rfl ?_
        obtain ⟨hg82, h⟩ := tk_grd h
        refine tk_Hx6  rfl rfl hg82 ?_
        refine tk_Ps  4 (pc' := 650) (ls' := [(0, .ref 1006), (1, .ref 0), (2, .ref 295), (3, .int v3)]) (st' := [.int (v3 + (3 : Int32)), .ref 1006, .int (sc.2 (tk_n (v3 + (2 : Int32)))), .int (sc.2 (tk_n (v3 + (1 : Int32)))), .ref 0]) rfl ?_
        obtain ⟨hg83, h⟩ := tk_grd h
        refine tk_Hx6  rfl rfl hg83 ?_
        obtain ⟨o84, ho84, h⟩ := tk_bnd h
        refine tk_cV1  rfl rfl (r := 0) (as := [.int (sc.2 (tk_n (v3 + (1 : Int32)))), .int (sc.2 (tk_n (v3 + (2 : Int32)))), .int (sc.2 (tk_n (v3 + (3 : Int32))))]) (rest := []) rfl ly0 rfl rfl (ok_fX_three sc (sc.2 (tk_n (v3 + (1 : Int32)))) (sc.2 (tk_n (v3 + (2 : Int32)))) (sc.2 (tk_n (v3 + (3 : Int32)))) m ho84) ?_
        refine tk_Ps  5 (pc' := 659) (ls' := [(0, .ref 1006), (1, .ref 0), (2, .ref 295), (3, .int v3)]) (st' := [.int (v3 + (1 : Int32)), .ref 1006, .ref 295, .int o84.1]) rfl ?_
        refine tk_Hx6  rfl rfl hg81 ?_
        refine tk_Ps  4 (pc' := 664) (ls' := [(0, .ref 1006), (1, .ref 0), (2, .ref 295), (3, .int v3)]) (st' := [.int (v3 + (2 : Int32)), .ref 1006, .int (sc.2 (tk_n (v3 + (1 : Int32)))), .ref 295, .int o84.1]) rfl ?_
        refine tk_Hx6  rfl rfl hg82 ?_
        refine tk_Ps  4 (pc' := 669) (ls' := [(0, .ref 1006), (1, .ref 0), (2, .ref 295), (3, .int v3)]) (st' := [.int (v3 + (3 : Int32)), .ref 1006, .int (sc.2 (tk_n (v3 + (2 : Int32)))), .int (sc.2 (tk_n (v3 + (1 : Int32)))), .ref 295, .int o84.1]) rfl ?_
        refine tk_Hx6  rfl rfl hg83 ?_
        obtain ⟨o85, ho85, h⟩ := tk_bnd h
        refine tk_cV1  rfl rfl (r := 295) (as := [.int (sc.2 (tk_n (v3 + (1 : Int32)))), .int (sc.2 (tk_n (v3 + (2 : Int32)))), .int (sc.2 (tk_n (v3 + (3 : Int32))))]) (rest := [.int o84.1]) rfl ly295 rfl rfl (ok_fM_three_III sc (sc.2 (tk_n (v3 + (1 : Int32)))) (sc.2 (tk_n (v3 + (2 : Int32)))) (sc.2 (tk_n (v3 + (3 : Int32)))) o84.2 ho85) ?_
        by_cases hc86 : o84.1 = o85.1
        · replace h := tk_ifT hc86 h
          refine tk_bT  rfl rfl rfl (c := o84.1 = o85.1) hc86 (pc' := 1595) (ls' := [(0, .ref 1006), (1, .ref 0), (2, .ref 295), (3, .int v3)]) (st' := []) ?_
          refine tk_Ps  2 (pc' := 18) (ls' := [(3, .int (v3 + (6 : Int32))), (0, .ref 1006), (1, .ref 0), (2, .ref 295)]) (st' := []) rfl ?_
          refine tk_Kp  (ls' := [(0, .ref 1006), (1, .ref 0), (2, .ref 295), (3, .int (v3 + (6 : Int32)))]) rfl rfl ?_
          exact ih (v3 + (6 : Int32)) o85.2 _ h
        · replace h := tk_ifF hc86 h
          refine tk_bF  rfl rfl rfl (c := o84.1 = o85.1) hc86 (pc' := 676) (ls' := [(0, .ref 1006), (1, .ref 0), (2, .ref 295), (3, .int v3)]) (st' := []) ?_
          refine tk_Ps  1 (pc' := 677) (ls' := [(0, .ref 1006), (1, .ref 0), (2, .ref 295), (3, .int v3)]) (st' := [.int (0 : Int32)]) rfl ?_
          replace h := Option.some.inj h
          subst h
          exact tk_RB (b := false)  rfl rfl rfl
      replace h := tk_ifF hs80 h
      by_cases hs87 : ((sc.2 (tk_n v3)) &&& (63 : Int32)) = 14
      · replace h := tk_ifT hs87 h
        refine tk_sw  rfl rfl hs87 rfl (pc' := 678) (ls' := [(0, .ref 1006), (1, .ref 0), (2, .ref 295), (3, .int v3)]) (st' := []) ?_
        refine tk_Ps  5 (pc' := 683) (ls' := [(0, .ref 1006), (1, .ref 0), (2, .ref 295), (3, .int v3)]) (st' := [.int (v3 + (1 : Int32)), .ref 1006, .ref 0]) rfl ?_
        obtain ⟨hg88, h⟩ := tk_grd h
        refine tk_Hx6  rfl rfl hg88 ?_
        obtain ⟨o89, ho89, h⟩ := tk_bnd h
        refine tk_cV1  rfl rfl (r := 0) (as := [.int (sc.2 (tk_n (v3 + (1 : Int32))))]) (rest := []) rfl ly0 rfl rfl (ok_fX_ofThree sc (sc.2 (tk_n (v3 + (1 : Int32)))) m ho89) ?_
        refine tk_Ps  5 (pc' := 692) (ls' := [(0, .ref 1006), (1, .ref 0), (2, .ref 295), (3, .int v3)]) (st' := [.int (v3 + (1 : Int32)), .ref 1006, .ref 295, .int o89.1]) rfl ?_
        refine tk_Hx6  rfl rfl hg88 ?_
        obtain ⟨o90, ho90, h⟩ := tk_bnd h
        refine tk_cV1  rfl rfl (r := 295) (as := [.int (sc.2 (tk_n (v3 + (1 : Int32))))]) (rest := [.int o89.1]) rfl ly295 rfl rfl (ok_fM_ofThree sc (sc.2 (tk_n (v3 + (1 : Int32)))) o89.2 ho90) ?_
        by_cases hc91 : o89.1 = o90.1
        · replace h := tk_ifT hc91 h
          refine tk_bT  rfl rfl rfl (c := o89.1 = o90.1) hc91 (pc' := 1595) (ls' := [(0, .ref 1006), (1, .ref 0), (2, .ref 295), (3, .int v3)]) (st' := []) ?_
          refine tk_Ps  2 (pc' := 18) (ls' := [(3, .int (v3 + (6 : Int32))), (0, .ref 1006), (1, .ref 0), (2, .ref 295)]) (st' := []) rfl ?_
          refine tk_Kp  (ls' := [(0, .ref 1006), (1, .ref 0), (2, .ref 295), (3, .int (v3 + (6 : Int32)))]) rfl rfl ?_
          exact ih (v3 + (6 : Int32)) o90.2 _ h
        · replace h := tk_ifF hc91 h
          refine tk_bF  rfl rfl rfl (c := o89.1 = o90.1) hc91 (pc' := 699) (ls' := [(0, .ref 1006), (1, .ref 0), (2, .ref 295), (3, .int v3)]) (st' := []) ?_
          refine tk_Ps  1 (pc' := 700) (ls' := [(0, .ref 1006), (1, .ref 0), (2, .ref 295), (3, .int v3)]) (st' := [.int (0 : Int32)]) rfl ?_
          replace h := Option.some.inj h
          subst h
          exact tk_RB (b := false)  rfl rfl rfl
      replace h := tk_ifF hs87 h
      by_cases hs92 : ((sc.2 (tk_n v3)) &&& (63 : Int32)) = 15
      · replace h := tk_ifT hs92 h
        refine tk_sw  rfl rfl hs92 rfl (pc' := 701) (ls' := [(0, .ref 1006), (1, .ref 0), (2, .ref 295), (3, .int v3)]) (st' := []) ?_
        refine tk_Ps  1 (pc' := 702) (ls' := [(0, .ref 1006), (1, .ref 0), (2, .ref 295), (3, .int v3)]) (st' := [.ref 0]) rfl ?_
        obtain ⟨o93, ho93, h⟩ := tk_bnd h
        refine tk_cV1  rfl rfl (r := 0) (as := []) (rest := []) rfl ly0 rfl rfl (ok_fX_draw sc m ho93) ?_
        refine tk_Ps  1 (pc' := 706) (ls' := [(0, .ref 1006), (1, .ref 0), (2, .ref 295), (3, .int v3)]) (st' := [.ref 295, .int o93.1]) rfl ?_
        obtain ⟨o94, ho94, h⟩ := tk_bnd h
        refine tk_cV1  rfl rfl (r := 295) (as := []) (rest := [.int o93.1]) rfl ly295 rfl rfl (ok_fM_draw sc o93.2 ho94) ?_
        by_cases hc95 : o93.1 = o94.1
        · replace h := tk_ifT hc95 h
          refine tk_bT  rfl rfl rfl (c := o93.1 = o94.1) hc95 (pc' := 1595) (ls' := [(0, .ref 1006), (1, .ref 0), (2, .ref 295), (3, .int v3)]) (st' := []) ?_
          refine tk_Ps  2 (pc' := 18) (ls' := [(3, .int (v3 + (6 : Int32))), (0, .ref 1006), (1, .ref 0), (2, .ref 295)]) (st' := []) rfl ?_
          refine tk_Kp  (ls' := [(0, .ref 1006), (1, .ref 0), (2, .ref 295), (3, .int (v3 + (6 : Int32)))]) rfl rfl ?_
          exact ih (v3 + (6 : Int32)) o94.2 _ h
        · replace h := tk_ifF hc95 h
          refine tk_bF  rfl rfl rfl (c := o93.1 = o94.1) hc95 (pc' := 712) (ls' := [(0, .ref 1006), (1, .ref 0), (2, .ref 295), (3, .int v3)]) (st' := []) ?_
          refine tk_Ps  1 (pc' := 713) (ls' := [(0, .ref 1006), (1, .ref 0), (2, .ref 295), (3, .int v3)]) (st' := [.int (0 : Int32)]) rfl ?_
          replace h := Option.some.inj h
          subst h
          exact tk_RB (b := false)  rfl rfl rfl
      replace h := tk_ifF hs92 h
      by_cases hs96 : ((sc.2 (tk_n v3)) &&& (63 : Int32)) = 16
      · replace h := tk_ifT hs96 h
        refine tk_sw  rfl rfl hs96 rfl (pc' := 714) (ls' := [(0, .ref 1006), (1, .ref 0), (2, .ref 295), (3, .int v3)]) (st' := []) ?_
        refine tk_Ps  5 (pc' := 719) (ls' := [(0, .ref 1006), (1, .ref 0), (2, .ref 295), (3, .int v3)]) (st' := [.int (v3 + (1 : Int32)), .ref 1006, .ref 0]) rfl ?_
        obtain ⟨hg97, h⟩ := tk_grd h
        refine tk_Hx6  rfl rfl hg97 ?_
        obtain ⟨o98, ho98, h⟩ := tk_bnd h
        refine tk_cV1  rfl rfl (r := 0) (as := [.int (sc.2 (tk_n (v3 + (1 : Int32))))]) (rest := []) rfl ly0 rfl rfl (ok_fX_answers sc (sc.2 (tk_n (v3 + (1 : Int32)))) m ho98) ?_
        refine tk_Ps  5 (pc' := 728) (ls' := [(0, .ref 1006), (1, .ref 0), (2, .ref 295), (3, .int v3)]) (st' := [.int (v3 + (1 : Int32)), .ref 1006, .ref 295, .int o98.1]) rfl ?_
        refine tk_Hx6  rfl rfl hg97 ?_
        obtain ⟨o99, ho99, h⟩ := tk_bnd h
        refine tk_cV1  rfl rfl (r := 295) (as := [.int (sc.2 (tk_n (v3 + (1 : Int32))))]) (rest := [.int o98.1]) rfl ly295 rfl rfl (ok_fM_answers_I sc (sc.2 (tk_n (v3 + (1 : Int32)))) o98.2 ho99) ?_
        by_cases hc100 : o98.1 = o99.1
        · replace h := tk_ifT hc100 h
          refine tk_bT  rfl rfl rfl (c := o98.1 = o99.1) hc100 (pc' := 1595) (ls' := [(0, .ref 1006), (1, .ref 0), (2, .ref 295), (3, .int v3)]) (st' := []) ?_
          refine tk_Ps  2 (pc' := 18) (ls' := [(3, .int (v3 + (6 : Int32))), (0, .ref 1006), (1, .ref 0), (2, .ref 295)]) (st' := []) rfl ?_
          refine tk_Kp  (ls' := [(0, .ref 1006), (1, .ref 0), (2, .ref 295), (3, .int (v3 + (6 : Int32)))]) rfl rfl ?_
          exact ih (v3 + (6 : Int32)) o99.2 _ h
        · replace h := tk_ifF hc100 h
          refine tk_bF  rfl rfl rfl (c := o98.1 = o99.1) hc100 (pc' := 735) (ls' := [(0, .ref 1006), (1, .ref 0), (2, .ref 295), (3, .int v3)]) (st' := []) ?_
          refine tk_Ps  1 (pc' := 736) (ls' := [(0, .ref 1006), (1, .ref 0), (2, .ref 295), (3, .int v3)]) (st' := [.int (0 : Int32)]) rfl ?_
          replace h := Option.some.inj h
          subst h
          exact tk_RB (b := false)  rfl rfl rfl
      replace h := tk_ifF hs96 h
      by_cases hs101 : ((sc.2 (tk_n v3)) &&& (63 : Int32)) = 17
      · replace h := tk_ifT hs101 h
        refine tk_sw  rfl rfl hs101 rfl (pc' := 737) (ls' := [(0, .ref 1006), (1, .ref 0), (2, .ref 295), (3, .int v3)]) (st' := []) ?_
        refine tk_Ps  5 (pc' := 742) (ls' := [(0, .ref 1006), (1, .ref 0), (2, .ref 295), (3, .int v3)]) (st' := [.int (v3 + (1 : Int32)), .ref 1006, .ref 0]) rfl ?_
        obtain ⟨hg102, h⟩ := tk_grd h
        refine tk_Hx6  rfl rfl hg102 ?_
        obtain ⟨o103, ho103, h⟩ := tk_bnd h
        refine tk_cV1  rfl rfl (r := 0) (as := [.int (sc.2 (tk_n (v3 + (1 : Int32))))]) (rest := []) rfl ly0 rfl rfl (ok_fX_signs sc (sc.2 (tk_n (v3 + (1 : Int32)))) m ho103) ?_
        refine tk_Ps  5 (pc' := 751) (ls' := [(0, .ref 1006), (1, .ref 0), (2, .ref 295), (3, .int v3)]) (st' := [.int (v3 + (1 : Int32)), .ref 1006, .ref 295, .int o103.1]) rfl ?_
        refine tk_Hx6  rfl rfl hg102 ?_
        obtain ⟨o104, ho104, h⟩ := tk_bnd h
        refine tk_cV1  rfl rfl (r := 295) (as := [.int (sc.2 (tk_n (v3 + (1 : Int32))))]) (rest := [.int o103.1]) rfl ly295 rfl rfl (ok_fM_signs sc (sc.2 (tk_n (v3 + (1 : Int32)))) o103.2 ho104) ?_
        by_cases hc105 : o103.1 = o104.1
        · replace h := tk_ifT hc105 h
          refine tk_bT  rfl rfl rfl (c := o103.1 = o104.1) hc105 (pc' := 1595) (ls' := [(0, .ref 1006), (1, .ref 0), (2, .ref 295), (3, .int v3)]) (st' := []) ?_
          refine tk_Ps  2 (pc' := 18) (ls' := [(3, .int (v3 + (6 : Int32))), (0, .ref 1006), (1, .ref 0), (2, .ref 295)]) (st' := []) rfl ?_
          refine tk_Kp  (ls' := [(0, .ref 1006), (1, .ref 0), (2, .ref 295), (3, .int (v3 + (6 : Int32)))]) rfl rfl ?_
          exact ih (v3 + (6 : Int32)) o104.2 _ h
        · replace h := tk_ifF hc105 h
          refine tk_bF  rfl rfl rfl (c := o103.1 = o104.1) hc105 (pc' := 758) (ls' := [(0, .ref 1006), (1, .ref 0), (2, .ref 295), (3, .int v3)]) (st' := []) ?_
          refine tk_Ps  1 (pc' := 759) (ls' := [(0, .ref 1006), (1, .ref 0), (2, .ref 295), (3, .int v3)]) (st' := [.int (0 : Int32)]) rfl ?_
          replace h := Option.some.inj h
          subst h
          exact tk_RB (b := false)  rfl rfl rfl
      replace h := tk_ifF hs101 h
      by_cases hs106 : ((sc.2 (tk_n v3)) &&& (63 : Int32)) = 18
      · replace h := tk_ifT hs106 h
        refine tk_sw  rfl rfl hs106 rfl (pc' := 760) (ls' := [(0, .ref 1006), (1, .ref 0), (2, .ref 295), (3, .int v3)]) (st' := []) ?_
        refine tk_Ps  5 (pc' := 765) (ls' := [(0, .ref 1006), (1, .ref 0), (2, .ref 295), (3, .int v3)]) (st' := [.int (v3 + (1 : Int32)), .ref 1006, .ref 0]) rfl ?_
        obtain ⟨hg107, h⟩ := tk_grd h
        refine tk_Hx6  rfl rfl hg107 ?_
        refine tk_Ps  4 (pc' := 770) (ls' := [(0, .ref 1006), (1, .ref 0), (2, .ref 295), (3, .int v3)]) (st' := [.int (v3 + (2 : Int32)), .ref 1006, .int (sc.2 (tk_n (v3 + (1 : Int32)))), .ref 0]) rfl ?_
        obtain ⟨hg108, h⟩ := tk_grd h
        refine tk_Hx6  rfl rfl hg108 ?_
        refine tk_Ps  4 (pc' := 775) (ls' := [(0, .ref 1006), (1, .ref 0), (2, .ref 295), (3, .int v3)]) (st' := [.int (v3 + (3 : Int32)), .ref 1006, .int (sc.2 (tk_n (v3 + (2 : Int32)))), .int (sc.2 (tk_n (v3 + (1 : Int32)))), .ref 0]) rfl ?_
        obtain ⟨hg109, h⟩ := tk_grd h
        refine tk_Hx6  rfl rfl hg109 ?_
        obtain ⟨o110, ho110, h⟩ := tk_bnd h
        refine tk_cV1  rfl rfl (r := 0) (as := [.int (sc.2 (tk_n (v3 + (1 : Int32)))), .int (sc.2 (tk_n (v3 + (2 : Int32)))), .int (sc.2 (tk_n (v3 + (3 : Int32))))]) (rest := []) rfl ly0 rfl rfl (ok_fX_answer sc (sc.2 (tk_n (v3 + (1 : Int32)))) (sc.2 (tk_n (v3 + (2 : Int32)))) (sc.2 (tk_n (v3 + (3 : Int32)))) m ho110) ?_
        refine tk_Ps  5 (pc' := 784) (ls' := [(0, .ref 1006), (1, .ref 0), (2, .ref 295), (3, .int v3)]) (st' := [.int (v3 + (1 : Int32)), .ref 1006, .ref 295, .long o110.1]) rfl ?_
        refine tk_Hx6  rfl rfl hg107 ?_
        refine tk_Ps  4 (pc' := 789) (ls' := [(0, .ref 1006), (1, .ref 0), (2, .ref 295), (3, .int v3)]) (st' := [.int (v3 + (2 : Int32)), .ref 1006, .int (sc.2 (tk_n (v3 + (1 : Int32)))), .ref 295, .long o110.1]) rfl ?_
        refine tk_Hx6  rfl rfl hg108 ?_
        refine tk_Ps  4 (pc' := 794) (ls' := [(0, .ref 1006), (1, .ref 0), (2, .ref 295), (3, .int v3)]) (st' := [.int (v3 + (3 : Int32)), .ref 1006, .int (sc.2 (tk_n (v3 + (2 : Int32)))), .int (sc.2 (tk_n (v3 + (1 : Int32)))), .ref 295, .long o110.1]) rfl ?_
        refine tk_Hx6  rfl rfl hg109 ?_
        obtain ⟨o111, ho111, h⟩ := tk_bnd h
        refine tk_cV1  rfl rfl (r := 295) (as := [.int (sc.2 (tk_n (v3 + (1 : Int32)))), .int (sc.2 (tk_n (v3 + (2 : Int32)))), .int (sc.2 (tk_n (v3 + (3 : Int32))))]) (rest := [.long o110.1]) rfl ly295 rfl rfl (ok_fM_answer sc (sc.2 (tk_n (v3 + (1 : Int32)))) (sc.2 (tk_n (v3 + (2 : Int32)))) (sc.2 (tk_n (v3 + (3 : Int32)))) o110.2 ho111) ?_
        refine tk_Ps  1 (pc' := 799) (ls' := [(0, .ref 1006), (1, .ref 0), (2, .ref 295), (3, .int v3)]) (st' := [.int (lg_cmp o110.1 o111.1)]) rfl ?_
        by_cases hc112 : o110.1 = o111.1
        · replace h := tk_ifT hc112 h
          refine tk_bT  rfl rfl tk_eL_eq (c := o110.1 = o111.1) hc112 (pc' := 1595) (ls' := [(0, .ref 1006), (1, .ref 0), (2, .ref 295), (3, .int v3)]) (st' := []) ?_
          refine tk_Ps  2 (pc' := 18) (ls' := [(3, .int (v3 + (6 : Int32))), (0, .ref 1006), (1, .ref 0), (2, .ref 295)]) (st' := []) rfl ?_
          refine tk_Kp  (ls' := [(0, .ref 1006), (1, .ref 0), (2, .ref 295), (3, .int (v3 + (6 : Int32)))]) rfl rfl ?_
          exact ih (v3 + (6 : Int32)) o111.2 _ h
        · replace h := tk_ifF hc112 h
          refine tk_bF  rfl rfl tk_eL_eq (c := o110.1 = o111.1) hc112 (pc' := 802) (ls' := [(0, .ref 1006), (1, .ref 0), (2, .ref 295), (3, .int v3)]) (st' := []) ?_
          refine tk_Ps  1 (pc' := 803) (ls' := [(0, .ref 1006), (1, .ref 0), (2, .ref 295), (3, .int v3)]) (st' := [.int (0 : Int32)]) rfl ?_
          replace h := Option.some.inj h
          subst h
          exact tk_RB (b := false)  rfl rfl rfl
      replace h := tk_ifF hs106 h
      by_cases hs113 : ((sc.2 (tk_n v3)) &&& (63 : Int32)) = 19
      · replace h := tk_ifT hs113 h
        refine tk_sw  rfl rfl hs113 rfl (pc' := 804) (ls' := [(0, .ref 1006), (1, .ref 0), (2, .ref 295), (3, .int v3)]) (st' := []) ?_
        refine tk_Ps  5 (pc' := 809) (ls' := [(0, .ref 1006), (1, .ref 0), (2, .ref 295), (3, .int v3)]) (st' := [.int (v3 + (1 : Int32)), .ref 1006, .ref 0]) rfl ?_
        obtain ⟨hg114, h⟩ := tk_grd h
        refine tk_Hx6  rfl rfl hg114 ?_
        obtain ⟨o115, ho115, h⟩ := tk_bnd h
        refine tk_cV1  rfl rfl (r := 0) (as := [.int (sc.2 (tk_n (v3 + (1 : Int32))))]) (rest := []) rfl ly0 rfl rfl (ok_fX_best sc (sc.2 (tk_n (v3 + (1 : Int32)))) m ho115) ?_
        refine tk_Ps  5 (pc' := 818) (ls' := [(0, .ref 1006), (1, .ref 0), (2, .ref 295), (3, .int v3)]) (st' := [.int (v3 + (1 : Int32)), .ref 1006, .ref 295, .int o115.1]) rfl ?_
        refine tk_Hx6  rfl rfl hg114 ?_
        obtain ⟨o116, ho116, h⟩ := tk_bnd h
        refine tk_cV1  rfl rfl (r := 295) (as := [.int (sc.2 (tk_n (v3 + (1 : Int32))))]) (rest := [.int o115.1]) rfl ly295 rfl rfl (ok_fM_best sc (sc.2 (tk_n (v3 + (1 : Int32)))) o115.2 ho116) ?_
        by_cases hc117 : o115.1 = o116.1
        · replace h := tk_ifT hc117 h
          refine tk_bT  rfl rfl rfl (c := o115.1 = o116.1) hc117 (pc' := 1595) (ls' := [(0, .ref 1006), (1, .ref 0), (2, .ref 295), (3, .int v3)]) (st' := []) ?_
          refine tk_Ps  2 (pc' := 18) (ls' := [(3, .int (v3 + (6 : Int32))), (0, .ref 1006), (1, .ref 0), (2, .ref 295)]) (st' := []) rfl ?_
          refine tk_Kp  (ls' := [(0, .ref 1006), (1, .ref 0), (2, .ref 295), (3, .int (v3 + (6 : Int32)))]) rfl rfl ?_
          exact ih (v3 + (6 : Int32)) o116.2 _ h
        · replace h := tk_ifF hc117 h
          refine tk_bF  rfl rfl rfl (c := o115.1 = o116.1) hc117 (pc' := 825) (ls' := [(0, .ref 1006), (1, .ref 0), (2, .ref 295), (3, .int v3)]) (st' := []) ?_
          refine tk_Ps  1 (pc' := 826) (ls' := [(0, .ref 1006), (1, .ref 0), (2, .ref 295), (3, .int v3)]) (st' := [.int (0 : Int32)]) rfl ?_
          replace h := Option.some.inj h
          subst h
          exact tk_RB (b := false)  rfl rfl rfl
      replace h := tk_ifF hs113 h
      by_cases hs118 : ((sc.2 (tk_n v3)) &&& (63 : Int32)) = 20
      · replace h := tk_ifT hs118 h
        refine tk_sw  rfl rfl hs118 rfl (pc' := 827) (ls' := [(0, .ref 1006), (1, .ref 0), (2, .ref 295), (3, .int v3)]) (st' := []) ?_
        refine tk_Ps  5 (pc' := 832) (ls' := [(0, .ref 1006), (1, .ref 0), (2, .ref 295), (3, .int v3)]) (st' := [.int (v3 + (1 : Int32)), .ref 1006, .ref 0]) rfl ?_
        obtain ⟨hg119, h⟩ := tk_grd h
        refine tk_Hx6  rfl rfl hg119 ?_
        obtain ⟨o120, ho120, h⟩ := tk_bnd h
        refine tk_cV1  rfl rfl (r := 0) (as := [.int (sc.2 (tk_n (v3 + (1 : Int32))))]) (rest := []) rfl ly0 rfl rfl (ok_fX_rank sc (sc.2 (tk_n (v3 + (1 : Int32)))) m ho120) ?_
        refine tk_Ps  5 (pc' := 841) (ls' := [(0, .ref 1006), (1, .ref 0), (2, .ref 295), (3, .int v3)]) (st' := [.int (v3 + (1 : Int32)), .ref 1006, .ref 295, .int o120.1]) rfl ?_
        refine tk_Hx6  rfl rfl hg119 ?_
        obtain ⟨o121, ho121, h⟩ := tk_bnd h
        refine tk_cV1  rfl rfl (r := 295) (as := [.int (sc.2 (tk_n (v3 + (1 : Int32))))]) (rest := [.int o120.1]) rfl ly295 rfl rfl (ok_fM_rank sc (sc.2 (tk_n (v3 + (1 : Int32)))) o120.2 ho121) ?_
        by_cases hc122 : o120.1 = o121.1
        · replace h := tk_ifT hc122 h
          refine tk_bT  rfl rfl rfl (c := o120.1 = o121.1) hc122 (pc' := 1595) (ls' := [(0, .ref 1006), (1, .ref 0), (2, .ref 295), (3, .int v3)]) (st' := []) ?_
          refine tk_Ps  2 (pc' := 18) (ls' := [(3, .int (v3 + (6 : Int32))), (0, .ref 1006), (1, .ref 0), (2, .ref 295)]) (st' := []) rfl ?_
          refine tk_Kp  (ls' := [(0, .ref 1006), (1, .ref 0), (2, .ref 295), (3, .int (v3 + (6 : Int32)))]) rfl rfl ?_
          exact ih (v3 + (6 : Int32)) o121.2 _ h
        · replace h := tk_ifF hc122 h
          refine tk_bF  rfl rfl rfl (c := o120.1 = o121.1) hc122 (pc' := 848) (ls' := [(0, .ref 1006), (1, .ref 0), (2, .ref 295), (3, .int v3)]) (st' := []) ?_
          refine tk_Ps  1 (pc' := 849) (ls' := [(0, .ref 1006), (1, .ref 0), (2, .ref 295), (3, .int v3)]) (st' := [.int (0 : Int32)]) rfl ?_
          replace h := Option.some.inj h
          subst h
          exact tk_RB (b := false)  rfl rfl rfl
      replace h := tk_ifF hs118 h
      by_cases hs123 : ((sc.2 (tk_n v3)) &&& (63 : Int32)) = 21
      · replace h := tk_ifT hs123 h
        refine tk_sw  rfl rfl hs123 rfl (pc' := 850) (ls' := [(0, .ref 1006), (1, .ref 0), (2, .ref 295), (3, .int v3)]) (st' := []) ?_
        refine tk_Ps  5 (pc' := 855) (ls' := [(0, .ref 1006), (1, .ref 0), (2, .ref 295), (3, .int v3)]) (st' := [.int (v3 + (1 : Int32)), .ref 1006, .ref 0]) rfl ?_
        obtain ⟨hg124, h⟩ := tk_grd h
        refine tk_Hx6  rfl rfl hg124 ?_
        refine tk_Ps  4 (pc' := 860) (ls' := [(0, .ref 1006), (1, .ref 0), (2, .ref 295), (3, .int v3)]) (st' := [.int (v3 + (2 : Int32)), .ref 1006, .int (sc.2 (tk_n (v3 + (1 : Int32)))), .ref 0]) rfl ?_
        obtain ⟨hg125, h⟩ := tk_grd h
        refine tk_Hx6  rfl rfl hg125 ?_
        obtain ⟨o126, ho126, h⟩ := tk_bnd h
        refine tk_cV1  rfl rfl (r := 0) (as := [.int (sc.2 (tk_n (v3 + (1 : Int32)))), .int (sc.2 (tk_n (v3 + (2 : Int32))))]) (rest := []) rfl ly0 rfl rfl (ok_fX_touches sc (sc.2 (tk_n (v3 + (1 : Int32)))) (sc.2 (tk_n (v3 + (2 : Int32)))) m ho126) ?_
        refine tk_Ps  5 (pc' := 869) (ls' := [(0, .ref 1006), (1, .ref 0), (2, .ref 295), (3, .int v3)]) (st' := [.int (v3 + (1 : Int32)), .ref 1006, .ref 295, .int o126.1]) rfl ?_
        refine tk_Hx6  rfl rfl hg124 ?_
        refine tk_Ps  4 (pc' := 874) (ls' := [(0, .ref 1006), (1, .ref 0), (2, .ref 295), (3, .int v3)]) (st' := [.int (v3 + (2 : Int32)), .ref 1006, .int (sc.2 (tk_n (v3 + (1 : Int32)))), .ref 295, .int o126.1]) rfl ?_
        refine tk_Hx6  rfl rfl hg125 ?_
        obtain ⟨o127, ho127, h⟩ := tk_bnd h
        refine tk_cV1  rfl rfl (r := 295) (as := [.int (sc.2 (tk_n (v3 + (1 : Int32)))), .int (sc.2 (tk_n (v3 + (2 : Int32))))]) (rest := [.int o126.1]) rfl ly295 rfl rfl (ok_fM_touches sc (sc.2 (tk_n (v3 + (1 : Int32)))) (sc.2 (tk_n (v3 + (2 : Int32)))) o126.2 ho127) ?_
        by_cases hc128 : o126.1 = o127.1
        · replace h := tk_ifT hc128 h
          refine tk_bT  rfl rfl rfl (c := o126.1 = o127.1) hc128 (pc' := 1595) (ls' := [(0, .ref 1006), (1, .ref 0), (2, .ref 295), (3, .int v3)]) (st' := []) ?_
          refine tk_Ps  2 (pc' := 18) (ls' := [(3, .int (v3 + (6 : Int32))), (0, .ref 1006), (1, .ref 0), (2, .ref 295)]) (st' := []) rfl ?_
          refine tk_Kp  (ls' := [(0, .ref 1006), (1, .ref 0), (2, .ref 295), (3, .int (v3 + (6 : Int32)))]) rfl rfl ?_
          exact ih (v3 + (6 : Int32)) o127.2 _ h
        · replace h := tk_ifF hc128 h
          refine tk_bF  rfl rfl rfl (c := o126.1 = o127.1) hc128 (pc' := 881) (ls' := [(0, .ref 1006), (1, .ref 0), (2, .ref 295), (3, .int v3)]) (st' := []) ?_
          refine tk_Ps  1 (pc' := 882) (ls' := [(0, .ref 1006), (1, .ref 0), (2, .ref 295), (3, .int v3)]) (st' := [.int (0 : Int32)]) rfl ?_
          replace h := Option.some.inj h
          subst h
          exact tk_RB (b := false)  rfl rfl rfl
      replace h := tk_ifF hs123 h
      by_cases hs129 : ((sc.2 (tk_n v3)) &&& (63 : Int32)) = 22
      · replace h := tk_ifT hs129 h
        refine tk_sw  rfl rfl hs129 rfl (pc' := 883) (ls' := [(0, .ref 1006), (1, .ref 0), (2, .ref 295), (3, .int v3)]) (st' := []) ?_
        refine tk_Ps  5 (pc' := 888) (ls' := [(0, .ref 1006), (1, .ref 0), (2, .ref 295), (3, .int v3)]) (st' := [.int (v3 + (1 : Int32)), .ref 1006, .ref 0]) rfl ?_
        obtain ⟨hg130, h⟩ := tk_grd h
        refine tk_Hx6  rfl rfl hg130 ?_
        refine tk_Ps  4 (pc' := 893) (ls' := [(0, .ref 1006), (1, .ref 0), (2, .ref 295), (3, .int v3)]) (st' := [.int (v3 + (2 : Int32)), .ref 1006, .int (sc.2 (tk_n (v3 + (1 : Int32)))), .ref 0]) rfl ?_
        obtain ⟨hg131, h⟩ := tk_grd h
        refine tk_Hx6  rfl rfl hg131 ?_
        obtain ⟨o132, ho132, h⟩ := tk_bnd h
        refine tk_cV1  rfl rfl (r := 0) (as := [.int (sc.2 (tk_n (v3 + (1 : Int32)))), .int (sc.2 (tk_n (v3 + (2 : Int32))))]) (rest := []) rfl ly0 rfl rfl (ok_fX_lays sc (sc.2 (tk_n (v3 + (1 : Int32)))) (sc.2 (tk_n (v3 + (2 : Int32)))) m ho132) ?_
        refine tk_Ps  5 (pc' := 902) (ls' := [(0, .ref 1006), (1, .ref 0), (2, .ref 295), (3, .int v3)]) (st' := [.int (v3 + (1 : Int32)), .ref 1006, .ref 295, .int o132.1]) rfl ?_
        refine tk_Hx6  rfl rfl hg130 ?_
        refine tk_Ps  4 (pc' := 907) (ls' := [(0, .ref 1006), (1, .ref 0), (2, .ref 295), (3, .int v3)]) (st' := [.int (v3 + (2 : Int32)), .ref 1006, .int (sc.2 (tk_n (v3 + (1 : Int32)))), .ref 295, .int o132.1]) rfl ?_
        refine tk_Hx6  rfl rfl hg131 ?_
        obtain ⟨o133, ho133, h⟩ := tk_bnd h
        refine tk_cV1  rfl rfl (r := 295) (as := [.int (sc.2 (tk_n (v3 + (1 : Int32)))), .int (sc.2 (tk_n (v3 + (2 : Int32))))]) (rest := [.int o132.1]) rfl ly295 rfl rfl (ok_fM_lays sc (sc.2 (tk_n (v3 + (1 : Int32)))) (sc.2 (tk_n (v3 + (2 : Int32)))) o132.2 ho133) ?_
        by_cases hc134 : o132.1 = o133.1
        · replace h := tk_ifT hc134 h
          refine tk_bT  rfl rfl rfl (c := o132.1 = o133.1) hc134 (pc' := 1595) (ls' := [(0, .ref 1006), (1, .ref 0), (2, .ref 295), (3, .int v3)]) (st' := []) ?_
          refine tk_Ps  2 (pc' := 18) (ls' := [(3, .int (v3 + (6 : Int32))), (0, .ref 1006), (1, .ref 0), (2, .ref 295)]) (st' := []) rfl ?_
          refine tk_Kp  (ls' := [(0, .ref 1006), (1, .ref 0), (2, .ref 295), (3, .int (v3 + (6 : Int32)))]) rfl rfl ?_
          exact ih (v3 + (6 : Int32)) o133.2 _ h
        · replace h := tk_ifF hc134 h
          refine tk_bF  rfl rfl rfl (c := o132.1 = o133.1) hc134 (pc' := 914) (ls' := [(0, .ref 1006), (1, .ref 0), (2, .ref 295), (3, .int v3)]) (st' := []) ?_
          refine tk_Ps  1 (pc' := 915) (ls' := [(0, .ref 1006), (1, .ref 0), (2, .ref 295), (3, .int v3)]) (st' := [.int (0 : Int32)]) rfl ?_
          replace h := Option.some.inj h
          subst h
          exact tk_RB (b := false)  rfl rfl rfl
      replace h := tk_ifF hs129 h
      by_cases hs135 : ((sc.2 (tk_n v3)) &&& (63 : Int32)) = 23
      · replace h := tk_ifT hs135 h
        refine tk_sw  rfl rfl hs135 rfl (pc' := 916) (ls' := [(0, .ref 1006), (1, .ref 0), (2, .ref 295), (3, .int v3)]) (st' := []) ?_
        refine tk_Ps  5 (pc' := 921) (ls' := [(0, .ref 1006), (1, .ref 0), (2, .ref 295), (3, .int v3)]) (st' := [.int (v3 + (1 : Int32)), .ref 1006, .ref 0]) rfl ?_
        obtain ⟨hg136, h⟩ := tk_grd h
        refine tk_Hx6  rfl rfl hg136 ?_
        refine tk_Ps  4 (pc' := 926) (ls' := [(0, .ref 1006), (1, .ref 0), (2, .ref 295), (3, .int v3)]) (st' := [.int (v3 + (2 : Int32)), .ref 1006, .int (sc.2 (tk_n (v3 + (1 : Int32)))), .ref 0]) rfl ?_
        obtain ⟨hg137, h⟩ := tk_grd h
        refine tk_Hx6  rfl rfl hg137 ?_
        refine tk_Ps  4 (pc' := 931) (ls' := [(0, .ref 1006), (1, .ref 0), (2, .ref 295), (3, .int v3)]) (st' := [.int (v3 + (3 : Int32)), .ref 1006, .int (sc.2 (tk_n (v3 + (2 : Int32)))), .int (sc.2 (tk_n (v3 + (1 : Int32)))), .ref 0]) rfl ?_
        obtain ⟨hg138, h⟩ := tk_grd h
        refine tk_Hx6  rfl rfl hg138 ?_
        refine tk_Ps  4 (pc' := 936) (ls' := [(0, .ref 1006), (1, .ref 0), (2, .ref 295), (3, .int v3)]) (st' := [.int (v3 + (4 : Int32)), .ref 1006, .int (sc.2 (tk_n (v3 + (3 : Int32)))), .int (sc.2 (tk_n (v3 + (2 : Int32)))), .int (sc.2 (tk_n (v3 + (1 : Int32)))), .ref 0]) rfl ?_
        obtain ⟨hg139, h⟩ := tk_grd h
        refine tk_Hx6  rfl rfl hg139 ?_
        obtain ⟨o140, ho140, h⟩ := tk_bnd h
        refine tk_cV1  rfl rfl (r := 0) (as := [.int (sc.2 (tk_n (v3 + (1 : Int32)))), .int (sc.2 (tk_n (v3 + (2 : Int32)))), .int (sc.2 (tk_n (v3 + (3 : Int32)))), .int (sc.2 (tk_n (v3 + (4 : Int32))))]) (rest := []) rfl ly0 rfl rfl (ok_fX_invert sc (sc.2 (tk_n (v3 + (1 : Int32)))) (sc.2 (tk_n (v3 + (2 : Int32)))) (sc.2 (tk_n (v3 + (3 : Int32)))) (sc.2 (tk_n (v3 + (4 : Int32)))) m ho140) ?_
        refine tk_Ps  5 (pc' := 945) (ls' := [(0, .ref 1006), (1, .ref 0), (2, .ref 295), (3, .int v3)]) (st' := [.int (v3 + (1 : Int32)), .ref 1006, .ref 295, .int o140.1]) rfl ?_
        refine tk_Hx6  rfl rfl hg136 ?_
        refine tk_Ps  4 (pc' := 950) (ls' := [(0, .ref 1006), (1, .ref 0), (2, .ref 295), (3, .int v3)]) (st' := [.int (v3 + (2 : Int32)), .ref 1006, .int (sc.2 (tk_n (v3 + (1 : Int32)))), .ref 295, .int o140.1]) rfl ?_
        refine tk_Hx6  rfl rfl hg137 ?_
        refine tk_Ps  4 (pc' := 955) (ls' := [(0, .ref 1006), (1, .ref 0), (2, .ref 295), (3, .int v3)]) (st' := [.int (v3 + (3 : Int32)), .ref 1006, .int (sc.2 (tk_n (v3 + (2 : Int32)))), .int (sc.2 (tk_n (v3 + (1 : Int32)))), .ref 295, .int o140.1]) rfl ?_
        refine tk_Hx6  rfl rfl hg138 ?_
        refine tk_Ps  4 (pc' := 960) (ls' := [(0, .ref 1006), (1, .ref 0), (2, .ref 295), (3, .int v3)]) (st' := [.int (v3 + (4 : Int32)), .ref 1006, .int (sc.2 (tk_n (v3 + (3 : Int32)))), .int (sc.2 (tk_n (v3 + (2 : Int32)))), .int (sc.2 (tk_n (v3 + (1 : Int32)))), .ref 295, .int o140.1]) rfl ?_
        refine tk_Hx6  rfl rfl hg139 ?_
        obtain ⟨o141, ho141, h⟩ := tk_bnd h
        refine tk_cV1  rfl rfl (r := 295) (as := [.int (sc.2 (tk_n (v3 + (1 : Int32)))), .int (sc.2 (tk_n (v3 + (2 : Int32)))), .int (sc.2 (tk_n (v3 + (3 : Int32)))), .int (sc.2 (tk_n (v3 + (4 : Int32))))]) (rest := [.int o140.1]) rfl ly295 rfl rfl (ok_fM_invert sc (sc.2 (tk_n (v3 + (1 : Int32)))) (sc.2 (tk_n (v3 + (2 : Int32)))) (sc.2 (tk_n (v3 + (3 : Int32)))) (sc.2 (tk_n (v3 + (4 : Int32)))) o140.2 ho141) ?_
        by_cases hc142 : o140.1 = o141.1
        · replace h := tk_ifT hc142 h
          refine tk_bT  rfl rfl rfl (c := o140.1 = o141.1) hc142 (pc' := 1595) (ls' := [(0, .ref 1006), (1, .ref 0), (2, .ref 295), (3, .int v3)]) (st' := []) ?_
          refine tk_Ps  2 (pc' := 18) (ls' := [(3, .int (v3 + (6 : Int32))), (0, .ref 1006), (1, .ref 0), (2, .ref 295)]) (st' := []) rfl ?_
          refine tk_Kp  (ls' := [(0, .ref 1006), (1, .ref 0), (2, .ref 295), (3, .int (v3 + (6 : Int32)))]) rfl rfl ?_
          exact ih (v3 + (6 : Int32)) o141.2 _ h
        · replace h := tk_ifF hc142 h
          refine tk_bF  rfl rfl rfl (c := o140.1 = o141.1) hc142 (pc' := 967) (ls' := [(0, .ref 1006), (1, .ref 0), (2, .ref 295), (3, .int v3)]) (st' := []) ?_
          refine tk_Ps  1 (pc' := 968) (ls' := [(0, .ref 1006), (1, .ref 0), (2, .ref 295), (3, .int v3)]) (st' := [.int (0 : Int32)]) rfl ?_
          replace h := Option.some.inj h
          subst h
          exact tk_RB (b := false)  rfl rfl rfl
      replace h := tk_ifF hs135 h
      by_cases hs143 : ((sc.2 (tk_n v3)) &&& (63 : Int32)) = 24
      · replace h := tk_ifT hs143 h
        refine tk_sw  rfl rfl hs143 rfl (pc' := 969) (ls' := [(0, .ref 1006), (1, .ref 0), (2, .ref 295), (3, .int v3)]) (st' := []) ?_
        refine tk_Ps  5 (pc' := 974) (ls' := [(0, .ref 1006), (1, .ref 0), (2, .ref 295), (3, .int v3)]) (st' := [.int (v3 + (1 : Int32)), .ref 1006, .ref 0]) rfl ?_
        obtain ⟨hg144, h⟩ := tk_grd h
        refine tk_Hx6  rfl rfl hg144 ?_
        obtain ⟨o145, ho145, h⟩ := tk_bnd h
        refine tk_cV1  rfl rfl (r := 0) (as := [.int (sc.2 (tk_n (v3 + (1 : Int32))))]) (rest := []) rfl ly0 rfl rfl (ok_fX_tell sc (sc.2 (tk_n (v3 + (1 : Int32)))) m ho145) ?_
        refine tk_Ps  5 (pc' := 983) (ls' := [(0, .ref 1006), (1, .ref 0), (2, .ref 295), (3, .int v3)]) (st' := [.int (v3 + (1 : Int32)), .ref 1006, .ref 295, .int o145.1]) rfl ?_
        refine tk_Hx6  rfl rfl hg144 ?_
        obtain ⟨o146, ho146, h⟩ := tk_bnd h
        refine tk_cV1  rfl rfl (r := 295) (as := [.int (sc.2 (tk_n (v3 + (1 : Int32))))]) (rest := [.int o145.1]) rfl ly295 rfl rfl (ok_fM_tell sc (sc.2 (tk_n (v3 + (1 : Int32)))) o145.2 ho146) ?_
        by_cases hc147 : o145.1 = o146.1
        · replace h := tk_ifT hc147 h
          refine tk_bT  rfl rfl rfl (c := o145.1 = o146.1) hc147 (pc' := 1595) (ls' := [(0, .ref 1006), (1, .ref 0), (2, .ref 295), (3, .int v3)]) (st' := []) ?_
          refine tk_Ps  2 (pc' := 18) (ls' := [(3, .int (v3 + (6 : Int32))), (0, .ref 1006), (1, .ref 0), (2, .ref 295)]) (st' := []) rfl ?_
          refine tk_Kp  (ls' := [(0, .ref 1006), (1, .ref 0), (2, .ref 295), (3, .int (v3 + (6 : Int32)))]) rfl rfl ?_
          exact ih (v3 + (6 : Int32)) o146.2 _ h
        · replace h := tk_ifF hc147 h
          refine tk_bF  rfl rfl rfl (c := o145.1 = o146.1) hc147 (pc' := 990) (ls' := [(0, .ref 1006), (1, .ref 0), (2, .ref 295), (3, .int v3)]) (st' := []) ?_
          refine tk_Ps  1 (pc' := 991) (ls' := [(0, .ref 1006), (1, .ref 0), (2, .ref 295), (3, .int v3)]) (st' := [.int (0 : Int32)]) rfl ?_
          replace h := Option.some.inj h
          subst h
          exact tk_RB (b := false)  rfl rfl rfl
      replace h := tk_ifF hs143 h
      by_cases hs148 : ((sc.2 (tk_n v3)) &&& (63 : Int32)) = 25
      · replace h := tk_ifT hs148 h
        refine tk_sw  rfl rfl hs148 rfl (pc' := 992) (ls' := [(0, .ref 1006), (1, .ref 0), (2, .ref 295), (3, .int v3)]) (st' := []) ?_
        refine tk_Ps  5 (pc' := 997) (ls' := [(0, .ref 1006), (1, .ref 0), (2, .ref 295), (3, .int v3)]) (st' := [.int (v3 + (1 : Int32)), .ref 1006, .ref 0]) rfl ?_
        obtain ⟨hg149, h⟩ := tk_grd h
        refine tk_Hx6  rfl rfl hg149 ?_
        refine tk_Ps  4 (pc' := 1002) (ls' := [(0, .ref 1006), (1, .ref 0), (2, .ref 295), (3, .int v3)]) (st' := [.int (v3 + (2 : Int32)), .ref 1006, .int (sc.2 (tk_n (v3 + (1 : Int32)))), .ref 0]) rfl ?_
        obtain ⟨hg150, h⟩ := tk_grd h
        refine tk_Hx6  rfl rfl hg150 ?_
        refine tk_Ps  4 (pc' := 1007) (ls' := [(0, .ref 1006), (1, .ref 0), (2, .ref 295), (3, .int v3)]) (st' := [.int (v3 + (3 : Int32)), .ref 1006, .int (sc.2 (tk_n (v3 + (2 : Int32)))), .int (sc.2 (tk_n (v3 + (1 : Int32)))), .ref 0]) rfl ?_
        obtain ⟨hg151, h⟩ := tk_grd h
        refine tk_Hx6  rfl rfl hg151 ?_
        obtain ⟨o152, ho152, h⟩ := tk_bnd h
        refine tk_cV1  rfl rfl (r := 0) (as := [.int (sc.2 (tk_n (v3 + (1 : Int32)))), .int (sc.2 (tk_n (v3 + (2 : Int32)))), .int (sc.2 (tk_n (v3 + (3 : Int32))))]) (rest := []) rfl ly0 rfl rfl (ok_fX_put sc (sc.2 (tk_n (v3 + (1 : Int32)))) (sc.2 (tk_n (v3 + (2 : Int32)))) (sc.2 (tk_n (v3 + (3 : Int32)))) m ho152) ?_
        refine tk_Ps  5 (pc' := 1016) (ls' := [(0, .ref 1006), (1, .ref 0), (2, .ref 295), (3, .int v3)]) (st' := [.int (v3 + (1 : Int32)), .ref 1006, .ref 295, .int o152.1]) rfl ?_
        refine tk_Hx6  rfl rfl hg149 ?_
        refine tk_Ps  4 (pc' := 1021) (ls' := [(0, .ref 1006), (1, .ref 0), (2, .ref 295), (3, .int v3)]) (st' := [.int (v3 + (2 : Int32)), .ref 1006, .int (sc.2 (tk_n (v3 + (1 : Int32)))), .ref 295, .int o152.1]) rfl ?_
        refine tk_Hx6  rfl rfl hg150 ?_
        refine tk_Ps  4 (pc' := 1026) (ls' := [(0, .ref 1006), (1, .ref 0), (2, .ref 295), (3, .int v3)]) (st' := [.int (v3 + (3 : Int32)), .ref 1006, .int (sc.2 (tk_n (v3 + (2 : Int32)))), .int (sc.2 (tk_n (v3 + (1 : Int32)))), .ref 295, .int o152.1]) rfl ?_
        refine tk_Hx6  rfl rfl hg151 ?_
        obtain ⟨o153, ho153, h⟩ := tk_bnd h
        refine tk_cV1  rfl rfl (r := 295) (as := [.int (sc.2 (tk_n (v3 + (1 : Int32)))), .int (sc.2 (tk_n (v3 + (2 : Int32)))), .int (sc.2 (tk_n (v3 + (3 : Int32))))]) (rest := [.int o152.1]) rfl ly295 rfl rfl (ok_fM_put sc (sc.2 (tk_n (v3 + (1 : Int32)))) (sc.2 (tk_n (v3 + (2 : Int32)))) (sc.2 (tk_n (v3 + (3 : Int32)))) o152.2 ho153) ?_
        by_cases hc154 : o152.1 = o153.1
        · replace h := tk_ifT hc154 h
          refine tk_bT  rfl rfl rfl (c := o152.1 = o153.1) hc154 (pc' := 1595) (ls' := [(0, .ref 1006), (1, .ref 0), (2, .ref 295), (3, .int v3)]) (st' := []) ?_
          refine tk_Ps  2 (pc' := 18) (ls' := [(3, .int (v3 + (6 : Int32))), (0, .ref 1006), (1, .ref 0), (2, .ref 295)]) (st' := []) rfl ?_
          refine tk_Kp  (ls' := [(0, .ref 1006), (1, .ref 0), (2, .ref 295), (3, .int (v3 + (6 : Int32)))]) rfl rfl ?_
          exact ih (v3 + (6 : Int32)) o153.2 _ h
        · replace h := tk_ifF hc154 h
          refine tk_bF  rfl rfl rfl (c := o152.1 = o153.1) hc154 (pc' := 1033) (ls' := [(0, .ref 1006), (1, .ref 0), (2, .ref 295), (3, .int v3)]) (st' := []) ?_
          refine tk_Ps  1 (pc' := 1034) (ls' := [(0, .ref 1006), (1, .ref 0), (2, .ref 295), (3, .int v3)]) (st' := [.int (0 : Int32)]) rfl ?_
          replace h := Option.some.inj h
          subst h
          exact tk_RB (b := false)  rfl rfl rfl
      replace h := tk_ifF hs148 h
      by_cases hs155 : ((sc.2 (tk_n v3)) &&& (63 : Int32)) = 26
      · replace h := tk_ifT hs155 h
        refine tk_sw  rfl rfl hs155 rfl (pc' := 1035) (ls' := [(0, .ref 1006), (1, .ref 0), (2, .ref 295), (3, .int v3)]) (st' := []) ?_
        refine tk_Ps  5 (pc' := 1040) (ls' := [(0, .ref 1006), (1, .ref 0), (2, .ref 295), (3, .int v3)]) (st' := [.int (v3 + (1 : Int32)), .ref 1006, .ref 0]) rfl ?_
        obtain ⟨hg156, h⟩ := tk_grd h
        refine tk_Hx6  rfl rfl hg156 ?_
        refine tk_Ps  4 (pc' := 1045) (ls' := [(0, .ref 1006), (1, .ref 0), (2, .ref 295), (3, .int v3)]) (st' := [.int (v3 + (2 : Int32)), .ref 1006, .int (sc.2 (tk_n (v3 + (1 : Int32)))), .ref 0]) rfl ?_
        obtain ⟨hg157, h⟩ := tk_grd h
        refine tk_Hx6  rfl rfl hg157 ?_
        refine tk_Ps  4 (pc' := 1050) (ls' := [(0, .ref 1006), (1, .ref 0), (2, .ref 295), (3, .int v3)]) (st' := [.int (v3 + (3 : Int32)), .ref 1006, .int (sc.2 (tk_n (v3 + (2 : Int32)))), .int (sc.2 (tk_n (v3 + (1 : Int32)))), .ref 0]) rfl ?_
        obtain ⟨hg158, h⟩ := tk_grd h
        refine tk_Hx6  rfl rfl hg158 ?_
        obtain ⟨o159, ho159, h⟩ := tk_bnd h
        refine tk_cV1  rfl rfl (r := 0) (as := [.int (sc.2 (tk_n (v3 + (1 : Int32)))), .int (sc.2 (tk_n (v3 + (2 : Int32)))), .int (sc.2 (tk_n (v3 + (3 : Int32))))]) (rest := []) rfl ly0 rfl rfl (ok_fX_ratio sc (sc.2 (tk_n (v3 + (1 : Int32)))) (sc.2 (tk_n (v3 + (2 : Int32)))) (sc.2 (tk_n (v3 + (3 : Int32)))) m ho159) ?_
        refine tk_Ps  5 (pc' := 1059) (ls' := [(0, .ref 1006), (1, .ref 0), (2, .ref 295), (3, .int v3)]) (st' := [.int (v3 + (1 : Int32)), .ref 1006, .ref 295, .int o159.1]) rfl ?_
        refine tk_Hx6  rfl rfl hg156 ?_
        refine tk_Ps  4 (pc' := 1064) (ls' := [(0, .ref 1006), (1, .ref 0), (2, .ref 295), (3, .int v3)]) (st' := [.int (v3 + (2 : Int32)), .ref 1006, .int (sc.2 (tk_n (v3 + (1 : Int32)))), .ref 295, .int o159.1]) rfl ?_
        refine tk_Hx6  rfl rfl hg157 ?_
        refine tk_Ps  4 (pc' := 1069) (ls' := [(0, .ref 1006), (1, .ref 0), (2, .ref 295), (3, .int v3)]) (st' := [.int (v3 + (3 : Int32)), .ref 1006, .int (sc.2 (tk_n (v3 + (2 : Int32)))), .int (sc.2 (tk_n (v3 + (1 : Int32)))), .ref 295, .int o159.1]) rfl ?_
        refine tk_Hx6  rfl rfl hg158 ?_
        obtain ⟨o160, ho160, h⟩ := tk_bnd h
        refine tk_cV1  rfl rfl (r := 295) (as := [.int (sc.2 (tk_n (v3 + (1 : Int32)))), .int (sc.2 (tk_n (v3 + (2 : Int32)))), .int (sc.2 (tk_n (v3 + (3 : Int32))))]) (rest := [.int o159.1]) rfl ly295 rfl rfl (ok_fM_ratio sc (sc.2 (tk_n (v3 + (1 : Int32)))) (sc.2 (tk_n (v3 + (2 : Int32)))) (sc.2 (tk_n (v3 + (3 : Int32)))) o159.2 ho160) ?_
        by_cases hc161 : o159.1 = o160.1
        · replace h := tk_ifT hc161 h
          refine tk_bT  rfl rfl rfl (c := o159.1 = o160.1) hc161 (pc' := 1595) (ls' := [(0, .ref 1006), (1, .ref 0), (2, .ref 295), (3, .int v3)]) (st' := []) ?_
          refine tk_Ps  2 (pc' := 18) (ls' := [(3, .int (v3 + (6 : Int32))), (0, .ref 1006), (1, .ref 0), (2, .ref 295)]) (st' := []) rfl ?_
          refine tk_Kp  (ls' := [(0, .ref 1006), (1, .ref 0), (2, .ref 295), (3, .int (v3 + (6 : Int32)))]) rfl rfl ?_
          exact ih (v3 + (6 : Int32)) o160.2 _ h
        · replace h := tk_ifF hc161 h
          refine tk_bF  rfl rfl rfl (c := o159.1 = o160.1) hc161 (pc' := 1076) (ls' := [(0, .ref 1006), (1, .ref 0), (2, .ref 295), (3, .int v3)]) (st' := []) ?_
          refine tk_Ps  1 (pc' := 1077) (ls' := [(0, .ref 1006), (1, .ref 0), (2, .ref 295), (3, .int v3)]) (st' := [.int (0 : Int32)]) rfl ?_
          replace h := Option.some.inj h
          subst h
          exact tk_RB (b := false)  rfl rfl rfl
      replace h := tk_ifF hs155 h
      by_cases hs162 : ((sc.2 (tk_n v3)) &&& (63 : Int32)) = 27
      · replace h := tk_ifT hs162 h
        refine tk_sw  rfl rfl hs162 rfl (pc' := 1078) (ls' := [(0, .ref 1006), (1, .ref 0), (2, .ref 295), (3, .int v3)]) (st' := []) ?_
        refine tk_Ps  5 (pc' := 1083) (ls' := [(0, .ref 1006), (1, .ref 0), (2, .ref 295), (3, .int v3)]) (st' := [.int (v3 + (1 : Int32)), .ref 1006, .ref 0]) rfl ?_
        obtain ⟨hg163, h⟩ := tk_grd h
        refine tk_Hx6  rfl rfl hg163 ?_
        refine tk_Ps  4 (pc' := 1088) (ls' := [(0, .ref 1006), (1, .ref 0), (2, .ref 295), (3, .int v3)]) (st' := [.int (v3 + (2 : Int32)), .ref 1006, .int (sc.2 (tk_n (v3 + (1 : Int32)))), .ref 0]) rfl ?_
        obtain ⟨hg164, h⟩ := tk_grd h
        refine tk_Hx6  rfl rfl hg164 ?_
        obtain ⟨o165, ho165, h⟩ := tk_bnd h
        refine tk_cV1  rfl rfl (r := 0) (as := [.int (sc.2 (tk_n (v3 + (1 : Int32)))), .int (sc.2 (tk_n (v3 + (2 : Int32))))]) (rest := []) rfl ly0 rfl rfl (ok_fX_root sc (sc.2 (tk_n (v3 + (1 : Int32)))) (sc.2 (tk_n (v3 + (2 : Int32)))) m ho165) ?_
        refine tk_Ps  5 (pc' := 1097) (ls' := [(0, .ref 1006), (1, .ref 0), (2, .ref 295), (3, .int v3)]) (st' := [.int (v3 + (1 : Int32)), .ref 1006, .ref 295, .int o165.1]) rfl ?_
        refine tk_Hx6  rfl rfl hg163 ?_
        refine tk_Ps  4 (pc' := 1102) (ls' := [(0, .ref 1006), (1, .ref 0), (2, .ref 295), (3, .int v3)]) (st' := [.int (v3 + (2 : Int32)), .ref 1006, .int (sc.2 (tk_n (v3 + (1 : Int32)))), .ref 295, .int o165.1]) rfl ?_
        refine tk_Hx6  rfl rfl hg164 ?_
        obtain ⟨o166, ho166, h⟩ := tk_bnd h
        refine tk_cV1  rfl rfl (r := 295) (as := [.int (sc.2 (tk_n (v3 + (1 : Int32)))), .int (sc.2 (tk_n (v3 + (2 : Int32))))]) (rest := [.int o165.1]) rfl ly295 rfl rfl (ok_fM_root sc (sc.2 (tk_n (v3 + (1 : Int32)))) (sc.2 (tk_n (v3 + (2 : Int32)))) o165.2 ho166) ?_
        by_cases hc167 : o165.1 = o166.1
        · replace h := tk_ifT hc167 h
          refine tk_bT  rfl rfl rfl (c := o165.1 = o166.1) hc167 (pc' := 1595) (ls' := [(0, .ref 1006), (1, .ref 0), (2, .ref 295), (3, .int v3)]) (st' := []) ?_
          refine tk_Ps  2 (pc' := 18) (ls' := [(3, .int (v3 + (6 : Int32))), (0, .ref 1006), (1, .ref 0), (2, .ref 295)]) (st' := []) rfl ?_
          refine tk_Kp  (ls' := [(0, .ref 1006), (1, .ref 0), (2, .ref 295), (3, .int (v3 + (6 : Int32)))]) rfl rfl ?_
          exact ih (v3 + (6 : Int32)) o166.2 _ h
        · replace h := tk_ifF hc167 h
          refine tk_bF  rfl rfl rfl (c := o165.1 = o166.1) hc167 (pc' := 1109) (ls' := [(0, .ref 1006), (1, .ref 0), (2, .ref 295), (3, .int v3)]) (st' := []) ?_
          refine tk_Ps  1 (pc' := 1110) (ls' := [(0, .ref 1006), (1, .ref 0), (2, .ref 295), (3, .int v3)]) (st' := [.int (0 : Int32)]) rfl ?_
          replace h := Option.some.inj h
          subst h
          exact tk_RB (b := false)  rfl rfl rfl
      replace h := tk_ifF hs162 h
      by_cases hs168 : ((sc.2 (tk_n v3)) &&& (63 : Int32)) = 28
      · replace h := tk_ifT hs168 h
        refine tk_sw  rfl rfl hs168 rfl (pc' := 1111) (ls' := [(0, .ref 1006), (1, .ref 0), (2, .ref 295), (3, .int v3)]) (st' := []) ?_
        refine tk_Ps  5 (pc' := 1116) (ls' := [(0, .ref 1006), (1, .ref 0), (2, .ref 295), (3, .int v3)]) (st' := [.int (v3 + (1 : Int32)), .ref 1006, .ref 0]) rfl ?_
        obtain ⟨hg169, h⟩ := tk_grd h
        refine tk_Hx6  rfl rfl hg169 ?_
        refine tk_Ps  4 (pc' := 1121) (ls' := [(0, .ref 1006), (1, .ref 0), (2, .ref 295), (3, .int v3)]) (st' := [.int (v3 + (2 : Int32)), .ref 1006, .int (sc.2 (tk_n (v3 + (1 : Int32)))), .ref 0]) rfl ?_
        obtain ⟨hg170, h⟩ := tk_grd h
        refine tk_Hx6  rfl rfl hg170 ?_
        refine tk_Ps  4 (pc' := 1126) (ls' := [(0, .ref 1006), (1, .ref 0), (2, .ref 295), (3, .int v3)]) (st' := [.int (v3 + (3 : Int32)), .ref 1006, .int (sc.2 (tk_n (v3 + (2 : Int32)))), .int (sc.2 (tk_n (v3 + (1 : Int32)))), .ref 0]) rfl ?_
        obtain ⟨hg171, h⟩ := tk_grd h
        refine tk_Hx6  rfl rfl hg171 ?_
        refine tk_Ps  4 (pc' := 1131) (ls' := [(0, .ref 1006), (1, .ref 0), (2, .ref 295), (3, .int v3)]) (st' := [.int (v3 + (4 : Int32)), .ref 1006, .int (sc.2 (tk_n (v3 + (3 : Int32)))), .int (sc.2 (tk_n (v3 + (2 : Int32)))), .int (sc.2 (tk_n (v3 + (1 : Int32)))), .ref 0]) rfl ?_
        obtain ⟨hg172, h⟩ := tk_grd h
        refine tk_Hx6  rfl rfl hg172 ?_
        obtain ⟨o173, ho173, h⟩ := tk_bnd h
        refine tk_cV1  rfl rfl (r := 0) (as := [.int (sc.2 (tk_n (v3 + (1 : Int32)))), .int (sc.2 (tk_n (v3 + (2 : Int32)))), .int (sc.2 (tk_n (v3 + (3 : Int32)))), .int (sc.2 (tk_n (v3 + (4 : Int32))))]) (rest := []) rfl ly0 rfl rfl (ok_fX_work sc (sc.2 (tk_n (v3 + (1 : Int32)))) (sc.2 (tk_n (v3 + (2 : Int32)))) (sc.2 (tk_n (v3 + (3 : Int32)))) (sc.2 (tk_n (v3 + (4 : Int32)))) m ho173) ?_
        refine tk_Ps  5 (pc' := 1140) (ls' := [(0, .ref 1006), (1, .ref 0), (2, .ref 295), (3, .int v3)]) (st' := [.int (v3 + (1 : Int32)), .ref 1006, .ref 295, .int o173.1]) rfl ?_
        refine tk_Hx6  rfl rfl hg169 ?_
        refine tk_Ps  4 (pc' := 1145) (ls' := [(0, .ref 1006), (1, .ref 0), (2, .ref 295), (3, .int v3)]) (st' := [.int (v3 + (2 : Int32)), .ref 1006, .int (sc.2 (tk_n (v3 + (1 : Int32)))), .ref 295, .int o173.1]) rfl ?_
        refine tk_Hx6  rfl rfl hg170 ?_
        refine tk_Ps  4 (pc' := 1150) (ls' := [(0, .ref 1006), (1, .ref 0), (2, .ref 295), (3, .int v3)]) (st' := [.int (v3 + (3 : Int32)), .ref 1006, .int (sc.2 (tk_n (v3 + (2 : Int32)))), .int (sc.2 (tk_n (v3 + (1 : Int32)))), .ref 295, .int o173.1]) rfl ?_
        refine tk_Hx6  rfl rfl hg171 ?_
        refine tk_Ps  4 (pc' := 1155) (ls' := [(0, .ref 1006), (1, .ref 0), (2, .ref 295), (3, .int v3)]) (st' := [.int (v3 + (4 : Int32)), .ref 1006, .int (sc.2 (tk_n (v3 + (3 : Int32)))), .int (sc.2 (tk_n (v3 + (2 : Int32)))), .int (sc.2 (tk_n (v3 + (1 : Int32)))), .ref 295, .int o173.1]) rfl ?_
        refine tk_Hx6  rfl rfl hg172 ?_
        obtain ⟨o174, ho174, h⟩ := tk_bnd h
        refine tk_cV1  rfl rfl (r := 295) (as := [.int (sc.2 (tk_n (v3 + (1 : Int32)))), .int (sc.2 (tk_n (v3 + (2 : Int32)))), .int (sc.2 (tk_n (v3 + (3 : Int32)))), .int (sc.2 (tk_n (v3 + (4 : Int32))))]) (rest := [.int o173.1]) rfl ly295 rfl rfl (ok_fM_work sc (sc.2 (tk_n (v3 + (1 : Int32)))) (sc.2 (tk_n (v3 + (2 : Int32)))) (sc.2 (tk_n (v3 + (3 : Int32)))) (sc.2 (tk_n (v3 + (4 : Int32)))) o173.2 ho174) ?_
        by_cases hc175 : o173.1 = o174.1
        · replace h := tk_ifT hc175 h
          refine tk_bT  rfl rfl rfl (c := o173.1 = o174.1) hc175 (pc' := 1595) (ls' := [(0, .ref 1006), (1, .ref 0), (2, .ref 295), (3, .int v3)]) (st' := []) ?_
          refine tk_Ps  2 (pc' := 18) (ls' := [(3, .int (v3 + (6 : Int32))), (0, .ref 1006), (1, .ref 0), (2, .ref 295)]) (st' := []) rfl ?_
          refine tk_Kp  (ls' := [(0, .ref 1006), (1, .ref 0), (2, .ref 295), (3, .int (v3 + (6 : Int32)))]) rfl rfl ?_
          exact ih (v3 + (6 : Int32)) o174.2 _ h
        · replace h := tk_ifF hc175 h
          refine tk_bF  rfl rfl rfl (c := o173.1 = o174.1) hc175 (pc' := 1162) (ls' := [(0, .ref 1006), (1, .ref 0), (2, .ref 295), (3, .int v3)]) (st' := []) ?_
          refine tk_Ps  1 (pc' := 1163) (ls' := [(0, .ref 1006), (1, .ref 0), (2, .ref 295), (3, .int v3)]) (st' := [.int (0 : Int32)]) rfl ?_
          replace h := Option.some.inj h
          subst h
          exact tk_RB (b := false)  rfl rfl rfl
      replace h := tk_ifF hs168 h
      by_cases hs176 : ((sc.2 (tk_n v3)) &&& (63 : Int32)) = 29
      · replace h := tk_ifT hs176 h
        refine tk_sw  rfl rfl hs176 rfl (pc' := 1164) (ls' := [(0, .ref 1006), (1, .ref 0), (2, .ref 295), (3, .int v3)]) (st' := []) ?_
        refine tk_Ps  5 (pc' := 1169) (ls' := [(0, .ref 1006), (1, .ref 0), (2, .ref 295), (3, .int v3)]) (st' := [.int (v3 + (1 : Int32)), .ref 1006, .ref 0]) rfl ?_
        obtain ⟨hg177, h⟩ := tk_grd h
        refine tk_Hx6  rfl rfl hg177 ?_
        refine tk_Ps  4 (pc' := 1174) (ls' := [(0, .ref 1006), (1, .ref 0), (2, .ref 295), (3, .int v3)]) (st' := [.int (v3 + (2 : Int32)), .ref 1006, .int (sc.2 (tk_n (v3 + (1 : Int32)))), .ref 0]) rfl ?_
        obtain ⟨hg178, h⟩ := tk_grd h
        refine tk_Hx6  rfl rfl hg178 ?_
        obtain ⟨o179, ho179, h⟩ := tk_bnd h
        refine tk_cV1  rfl rfl (r := 0) (as := [.int (sc.2 (tk_n (v3 + (1 : Int32)))), .int (sc.2 (tk_n (v3 + (2 : Int32))))]) (rest := []) rfl ly0 rfl rfl (ok_fX_compare sc (sc.2 (tk_n (v3 + (1 : Int32)))) (sc.2 (tk_n (v3 + (2 : Int32)))) m ho179) ?_
        refine tk_Ps  5 (pc' := 1183) (ls' := [(0, .ref 1006), (1, .ref 0), (2, .ref 295), (3, .int v3)]) (st' := [.int (v3 + (1 : Int32)), .ref 1006, .ref 295, .int o179.1]) rfl ?_
        refine tk_Hx6  rfl rfl hg177 ?_
        refine tk_Ps  4 (pc' := 1188) (ls' := [(0, .ref 1006), (1, .ref 0), (2, .ref 295), (3, .int v3)]) (st' := [.int (v3 + (2 : Int32)), .ref 1006, .int (sc.2 (tk_n (v3 + (1 : Int32)))), .ref 295, .int o179.1]) rfl ?_
        refine tk_Hx6  rfl rfl hg178 ?_
        obtain ⟨o180, ho180, h⟩ := tk_bnd h
        refine tk_cV1  rfl rfl (r := 295) (as := [.int (sc.2 (tk_n (v3 + (1 : Int32)))), .int (sc.2 (tk_n (v3 + (2 : Int32))))]) (rest := [.int o179.1]) rfl ly295 rfl rfl (ok_fM_compare sc (sc.2 (tk_n (v3 + (1 : Int32)))) (sc.2 (tk_n (v3 + (2 : Int32)))) o179.2 ho180) ?_
        by_cases hc181 : o179.1 = o180.1
        · replace h := tk_ifT hc181 h
          refine tk_bT  rfl rfl rfl (c := o179.1 = o180.1) hc181 (pc' := 1595) (ls' := [(0, .ref 1006), (1, .ref 0), (2, .ref 295), (3, .int v3)]) (st' := []) ?_
          refine tk_Ps  2 (pc' := 18) (ls' := [(3, .int (v3 + (6 : Int32))), (0, .ref 1006), (1, .ref 0), (2, .ref 295)]) (st' := []) rfl ?_
          refine tk_Kp  (ls' := [(0, .ref 1006), (1, .ref 0), (2, .ref 295), (3, .int (v3 + (6 : Int32)))]) rfl rfl ?_
          exact ih (v3 + (6 : Int32)) o180.2 _ h
        · replace h := tk_ifF hc181 h
          refine tk_bF  rfl rfl rfl (c := o179.1 = o180.1) hc181 (pc' := 1195) (ls' := [(0, .ref 1006), (1, .ref 0), (2, .ref 295), (3, .int v3)]) (st' := []) ?_
          refine tk_Ps  1 (pc' := 1196) (ls' := [(0, .ref 1006), (1, .ref 0), (2, .ref 295), (3, .int v3)]) (st' := [.int (0 : Int32)]) rfl ?_
          replace h := Option.some.inj h
          subst h
          exact tk_RB (b := false)  rfl rfl rfl
      replace h := tk_ifF hs176 h
      by_cases hs182 : ((sc.2 (tk_n v3)) &&& (63 : Int32)) = 30
      · replace h := tk_ifT hs182 h
        refine tk_sw  rfl rfl hs182 rfl (pc' := 1197) (ls' := [(0, .ref 1006), (1, .ref 0), (2, .ref 295), (3, .int v3)]) (st' := []) ?_
        refine tk_Ps  5 (pc' := 1202) (ls' := [(0, .ref 1006), (1, .ref 0), (2, .ref 295), (3, .int v3)]) (st' := [.int (v3 + (1 : Int32)), .ref 1006, .ref 0]) rfl ?_
        obtain ⟨hg183, h⟩ := tk_grd h
        refine tk_Hx6  rfl rfl hg183 ?_
        refine tk_Ps  4 (pc' := 1207) (ls' := [(0, .ref 1006), (1, .ref 0), (2, .ref 295), (3, .int v3)]) (st' := [.int (v3 + (2 : Int32)), .ref 1006, .int (sc.2 (tk_n (v3 + (1 : Int32)))), .ref 0]) rfl ?_
        obtain ⟨hg184, h⟩ := tk_grd h
        refine tk_Hx6  rfl rfl hg184 ?_
        obtain ⟨o185, ho185, h⟩ := tk_bnd h
        refine tk_cV1  rfl rfl (r := 0) (as := [.int (sc.2 (tk_n (v3 + (1 : Int32)))), .int (sc.2 (tk_n (v3 + (2 : Int32))))]) (rest := []) rfl ly0 rfl rfl (ok_fX_number sc (sc.2 (tk_n (v3 + (1 : Int32)))) (sc.2 (tk_n (v3 + (2 : Int32)))) m ho185) ?_
        refine tk_Ps  5 (pc' := 1216) (ls' := [(0, .ref 1006), (1, .ref 0), (2, .ref 295), (3, .int v3)]) (st' := [.int (v3 + (1 : Int32)), .ref 1006, .ref 295, .long o185.1]) rfl ?_
        refine tk_Hx6  rfl rfl hg183 ?_
        refine tk_Ps  4 (pc' := 1221) (ls' := [(0, .ref 1006), (1, .ref 0), (2, .ref 295), (3, .int v3)]) (st' := [.int (v3 + (2 : Int32)), .ref 1006, .int (sc.2 (tk_n (v3 + (1 : Int32)))), .ref 295, .long o185.1]) rfl ?_
        refine tk_Hx6  rfl rfl hg184 ?_
        obtain ⟨o186, ho186, h⟩ := tk_bnd h
        refine tk_cV1  rfl rfl (r := 295) (as := [.int (sc.2 (tk_n (v3 + (1 : Int32)))), .int (sc.2 (tk_n (v3 + (2 : Int32))))]) (rest := [.long o185.1]) rfl ly295 rfl rfl (ok_fM_number sc (sc.2 (tk_n (v3 + (1 : Int32)))) (sc.2 (tk_n (v3 + (2 : Int32)))) o185.2 ho186) ?_
        refine tk_Ps  1 (pc' := 1226) (ls' := [(0, .ref 1006), (1, .ref 0), (2, .ref 295), (3, .int v3)]) (st' := [.int (lg_cmp o185.1 o186.1)]) rfl ?_
        by_cases hc187 : o185.1 = o186.1
        · replace h := tk_ifT hc187 h
          refine tk_bT  rfl rfl tk_eL_eq (c := o185.1 = o186.1) hc187 (pc' := 1595) (ls' := [(0, .ref 1006), (1, .ref 0), (2, .ref 295), (3, .int v3)]) (st' := []) ?_
          refine tk_Ps  2 (pc' := 18) (ls' := [(3, .int (v3 + (6 : Int32))), (0, .ref 1006), (1, .ref 0), (2, .ref 295)]) (st' := []) rfl ?_
          refine tk_Kp  (ls' := [(0, .ref 1006), (1, .ref 0), (2, .ref 295), (3, .int (v3 + (6 : Int32)))]) rfl rfl ?_
          exact ih (v3 + (6 : Int32)) o186.2 _ h
        · replace h := tk_ifF hc187 h
          refine tk_bF  rfl rfl tk_eL_eq (c := o185.1 = o186.1) hc187 (pc' := 1229) (ls' := [(0, .ref 1006), (1, .ref 0), (2, .ref 295), (3, .int v3)]) (st' := []) ?_
          refine tk_Ps  1 (pc' := 1230) (ls' := [(0, .ref 1006), (1, .ref 0), (2, .ref 295), (3, .int v3)]) (st' := [.int (0 : Int32)]) rfl ?_
          replace h := Option.some.inj h
          subst h
          exact tk_RB (b := false)  rfl rfl rfl
      replace h := tk_ifF hs182 h
      by_cases hs188 : ((sc.2 (tk_n v3)) &&& (63 : Int32)) = 31
      · replace h := tk_ifT hs188 h
        refine tk_sw  rfl rfl hs188 rfl (pc' := 1231) (ls' := [(0, .ref 1006), (1, .ref 0), (2, .ref 295), (3, .int v3)]) (st' := []) ?_
        refine tk_Ps  5 (pc' := 1236) (ls' := [(0, .ref 1006), (1, .ref 0), (2, .ref 295), (3, .int v3)]) (st' := [.int (v3 + (1 : Int32)), .ref 1006, .ref 0]) rfl ?_
        obtain ⟨hg189, h⟩ := tk_grd h
        refine tk_Hx6  rfl rfl hg189 ?_
        refine tk_Ps  4 (pc' := 1241) (ls' := [(0, .ref 1006), (1, .ref 0), (2, .ref 295), (3, .int v3)]) (st' := [.int (v3 + (2 : Int32)), .ref 1006, .int (sc.2 (tk_n (v3 + (1 : Int32)))), .ref 0]) rfl ?_
        obtain ⟨hg190, h⟩ := tk_grd h
        refine tk_Hx6  rfl rfl hg190 ?_
        obtain ⟨o191, ho191, h⟩ := tk_bnd h
        refine tk_cV1  rfl rfl (r := 0) (as := [.int (sc.2 (tk_n (v3 + (1 : Int32)))), .int (sc.2 (tk_n (v3 + (2 : Int32))))]) (rest := []) rfl ly0 rfl rfl (ok_fX_taken sc (sc.2 (tk_n (v3 + (1 : Int32)))) (sc.2 (tk_n (v3 + (2 : Int32)))) m ho191) ?_
        refine tk_Ps  5 (pc' := 1250) (ls' := [(0, .ref 1006), (1, .ref 0), (2, .ref 295), (3, .int v3)]) (st' := [.int (v3 + (1 : Int32)), .ref 1006, .ref 295, .int o191.1]) rfl ?_
        refine tk_Hx6  rfl rfl hg189 ?_
        refine tk_Ps  4 (pc' := 1255) (ls' := [(0, .ref 1006), (1, .ref 0), (2, .ref 295), (3, .int v3)]) (st' := [.int (v3 + (2 : Int32)), .ref 1006, .int (sc.2 (tk_n (v3 + (1 : Int32)))), .ref 295, .int o191.1]) rfl ?_
        refine tk_Hx6  rfl rfl hg190 ?_
        obtain ⟨o192, ho192, h⟩ := tk_bnd h
        refine tk_cV1  rfl rfl (r := 295) (as := [.int (sc.2 (tk_n (v3 + (1 : Int32)))), .int (sc.2 (tk_n (v3 + (2 : Int32))))]) (rest := [.int o191.1]) rfl ly295 rfl rfl (ok_fM_taken sc (sc.2 (tk_n (v3 + (1 : Int32)))) (sc.2 (tk_n (v3 + (2 : Int32)))) o191.2 ho192) ?_
        by_cases hc193 : o191.1 = o192.1
        · replace h := tk_ifT hc193 h
          refine tk_bT  rfl rfl rfl (c := o191.1 = o192.1) hc193 (pc' := 1595) (ls' := [(0, .ref 1006), (1, .ref 0), (2, .ref 295), (3, .int v3)]) (st' := []) ?_
          refine tk_Ps  2 (pc' := 18) (ls' := [(3, .int (v3 + (6 : Int32))), (0, .ref 1006), (1, .ref 0), (2, .ref 295)]) (st' := []) rfl ?_
          refine tk_Kp  (ls' := [(0, .ref 1006), (1, .ref 0), (2, .ref 295), (3, .int (v3 + (6 : Int32)))]) rfl rfl ?_
          exact ih (v3 + (6 : Int32)) o192.2 _ h
        · replace h := tk_ifF hc193 h
          refine tk_bF  rfl rfl rfl (c := o191.1 = o192.1) hc193 (pc' := 1262) (ls' := [(0, .ref 1006), (1, .ref 0), (2, .ref 295), (3, .int v3)]) (st' := []) ?_
          refine tk_Ps  1 (pc' := 1263) (ls' := [(0, .ref 1006), (1, .ref 0), (2, .ref 295), (3, .int v3)]) (st' := [.int (0 : Int32)]) rfl ?_
          replace h := Option.some.inj h
          subst h
          exact tk_RB (b := false)  rfl rfl rfl
      replace h := tk_ifF hs188 h
      by_cases hs194 : ((sc.2 (tk_n v3)) &&& (63 : Int32)) = 32
      · replace h := tk_ifT hs194 h
        refine tk_sw  rfl rfl hs194 rfl (pc' := 1264) (ls' := [(0, .ref 1006), (1, .ref 0), (2, .ref 295), (3, .int v3)]) (st' := []) ?_
        refine tk_Ps  5 (pc' := 1269) (ls' := [(0, .ref 1006), (1, .ref 0), (2, .ref 295), (3, .int v3)]) (st' := [.int (v3 + (1 : Int32)), .ref 1006, .ref 0]) rfl ?_
        obtain ⟨hg195, h⟩ := tk_grd h
        refine tk_Hx6  rfl rfl hg195 ?_
        obtain ⟨o196, ho196, h⟩ := tk_bnd h
        refine tk_cV1  rfl rfl (r := 0) (as := [.int (sc.2 (tk_n (v3 + (1 : Int32))))]) (rest := []) rfl ly0 rfl rfl (ok_fX_clear sc (sc.2 (tk_n (v3 + (1 : Int32)))) m ho196) ?_
        refine tk_Ps  5 (pc' := 1278) (ls' := [(0, .ref 1006), (1, .ref 0), (2, .ref 295), (3, .int v3)]) (st' := [.int (v3 + (1 : Int32)), .ref 1006, .ref 295, .int o196.1]) rfl ?_
        refine tk_Hx6  rfl rfl hg195 ?_
        obtain ⟨o197, ho197, h⟩ := tk_bnd h
        refine tk_cV1  rfl rfl (r := 295) (as := [.int (sc.2 (tk_n (v3 + (1 : Int32))))]) (rest := [.int o196.1]) rfl ly295 rfl rfl (ok_fM_clear sc (sc.2 (tk_n (v3 + (1 : Int32)))) o196.2 ho197) ?_
        by_cases hc198 : o196.1 = o197.1
        · replace h := tk_ifT hc198 h
          refine tk_bT  rfl rfl rfl (c := o196.1 = o197.1) hc198 (pc' := 1595) (ls' := [(0, .ref 1006), (1, .ref 0), (2, .ref 295), (3, .int v3)]) (st' := []) ?_
          refine tk_Ps  2 (pc' := 18) (ls' := [(3, .int (v3 + (6 : Int32))), (0, .ref 1006), (1, .ref 0), (2, .ref 295)]) (st' := []) rfl ?_
          refine tk_Kp  (ls' := [(0, .ref 1006), (1, .ref 0), (2, .ref 295), (3, .int (v3 + (6 : Int32)))]) rfl rfl ?_
          exact ih (v3 + (6 : Int32)) o197.2 _ h
        · replace h := tk_ifF hc198 h
          refine tk_bF  rfl rfl rfl (c := o196.1 = o197.1) hc198 (pc' := 1285) (ls' := [(0, .ref 1006), (1, .ref 0), (2, .ref 295), (3, .int v3)]) (st' := []) ?_
          refine tk_Ps  1 (pc' := 1286) (ls' := [(0, .ref 1006), (1, .ref 0), (2, .ref 295), (3, .int v3)]) (st' := [.int (0 : Int32)]) rfl ?_
          replace h := Option.some.inj h
          subst h
          exact tk_RB (b := false)  rfl rfl rfl
      replace h := tk_ifF hs194 h
      by_cases hs199 : ((sc.2 (tk_n v3)) &&& (63 : Int32)) = 33
      · replace h := tk_ifT hs199 h
        refine tk_sw  rfl rfl hs199 rfl (pc' := 1287) (ls' := [(0, .ref 1006), (1, .ref 0), (2, .ref 295), (3, .int v3)]) (st' := []) ?_
        refine tk_Ps  5 (pc' := 1292) (ls' := [(0, .ref 1006), (1, .ref 0), (2, .ref 295), (3, .int v3)]) (st' := [.int (v3 + (1 : Int32)), .ref 1006, .ref 0]) rfl ?_
        obtain ⟨hg200, h⟩ := tk_grd h
        refine tk_Hx6  rfl rfl hg200 ?_
        refine tk_Ps  4 (pc' := 1297) (ls' := [(0, .ref 1006), (1, .ref 0), (2, .ref 295), (3, .int v3)]) (st' := [.int (v3 + (2 : Int32)), .ref 1006, .int (sc.2 (tk_n (v3 + (1 : Int32)))), .ref 0]) rfl ?_
        obtain ⟨hg201, h⟩ := tk_grd h
        refine tk_Hx6  rfl rfl hg201 ?_
        refine tk_Ps  4 (pc' := 1302) (ls' := [(0, .ref 1006), (1, .ref 0), (2, .ref 295), (3, .int v3)]) (st' := [.int (v3 + (3 : Int32)), .ref 1006, .int (sc.2 (tk_n (v3 + (2 : Int32)))), .int (sc.2 (tk_n (v3 + (1 : Int32)))), .ref 0]) rfl ?_
        obtain ⟨hg202, h⟩ := tk_grd h
        refine tk_Hx6  rfl rfl hg202 ?_
        obtain ⟨o203, ho203, h⟩ := tk_bnd h
        refine tk_cV1  rfl rfl (r := 0) (as := [.int (sc.2 (tk_n (v3 + (1 : Int32)))), .int (sc.2 (tk_n (v3 + (2 : Int32)))), .int (sc.2 (tk_n (v3 + (3 : Int32))))]) (rest := []) rfl ly0 rfl rfl (ok_fX_sheet sc (sc.2 (tk_n (v3 + (1 : Int32)))) (sc.2 (tk_n (v3 + (2 : Int32)))) (sc.2 (tk_n (v3 + (3 : Int32)))) m ho203) ?_
        refine tk_Ps  5 (pc' := 1311) (ls' := [(0, .ref 1006), (1, .ref 0), (2, .ref 295), (3, .int v3)]) (st' := [.int (v3 + (1 : Int32)), .ref 1006, .ref 295, .int o203.1]) rfl ?_
        refine tk_Hx6  rfl rfl hg200 ?_
        refine tk_Ps  4 (pc' := 1316) (ls' := [(0, .ref 1006), (1, .ref 0), (2, .ref 295), (3, .int v3)]) (st' := [.int (v3 + (2 : Int32)), .ref 1006, .int (sc.2 (tk_n (v3 + (1 : Int32)))), .ref 295, .int o203.1]) rfl ?_
        refine tk_Hx6  rfl rfl hg201 ?_
        refine tk_Ps  4 (pc' := 1321) (ls' := [(0, .ref 1006), (1, .ref 0), (2, .ref 295), (3, .int v3)]) (st' := [.int (v3 + (3 : Int32)), .ref 1006, .int (sc.2 (tk_n (v3 + (2 : Int32)))), .int (sc.2 (tk_n (v3 + (1 : Int32)))), .ref 295, .int o203.1]) rfl ?_
        refine tk_Hx6  rfl rfl hg202 ?_
        obtain ⟨o204, ho204, h⟩ := tk_bnd h
        refine tk_cV1  rfl rfl (r := 295) (as := [.int (sc.2 (tk_n (v3 + (1 : Int32)))), .int (sc.2 (tk_n (v3 + (2 : Int32)))), .int (sc.2 (tk_n (v3 + (3 : Int32))))]) (rest := [.int o203.1]) rfl ly295 rfl rfl (ok_fM_sheet sc (sc.2 (tk_n (v3 + (1 : Int32)))) (sc.2 (tk_n (v3 + (2 : Int32)))) (sc.2 (tk_n (v3 + (3 : Int32)))) o203.2 ho204) ?_
        by_cases hc205 : o203.1 = o204.1
        · replace h := tk_ifT hc205 h
          refine tk_bT  rfl rfl rfl (c := o203.1 = o204.1) hc205 (pc' := 1595) (ls' := [(0, .ref 1006), (1, .ref 0), (2, .ref 295), (3, .int v3)]) (st' := []) ?_
          refine tk_Ps  2 (pc' := 18) (ls' := [(3, .int (v3 + (6 : Int32))), (0, .ref 1006), (1, .ref 0), (2, .ref 295)]) (st' := []) rfl ?_
          refine tk_Kp  (ls' := [(0, .ref 1006), (1, .ref 0), (2, .ref 295), (3, .int (v3 + (6 : Int32)))]) rfl rfl ?_
          exact ih (v3 + (6 : Int32)) o204.2 _ h
        · replace h := tk_ifF hc205 h
          refine tk_bF  rfl rfl rfl (c := o203.1 = o204.1) hc205 (pc' := 1328) (ls' := [(0, .ref 1006), (1, .ref 0), (2, .ref 295), (3, .int v3)]) (st' := []) ?_
          refine tk_Ps  1 (pc' := 1329) (ls' := [(0, .ref 1006), (1, .ref 0), (2, .ref 295), (3, .int v3)]) (st' := [.int (0 : Int32)]) rfl ?_
          replace h := Option.some.inj h
          subst h
          exact tk_RB (b := false)  rfl rfl rfl
      replace h := tk_ifF hs199 h
      by_cases hs206 : ((sc.2 (tk_n v3)) &&& (63 : Int32)) = 34
      · replace h := tk_ifT hs206 h
        refine tk_sw  rfl rfl hs206 rfl (pc' := 1330) (ls' := [(0, .ref 1006), (1, .ref 0), (2, .ref 295), (3, .int v3)]) (st' := []) ?_
        refine tk_Ps  5 (pc' := 1335) (ls' := [(0, .ref 1006), (1, .ref 0), (2, .ref 295), (3, .int v3)]) (st' := [.int (v3 + (1 : Int32)), .ref 1006, .ref 0]) rfl ?_
        obtain ⟨hg207, h⟩ := tk_grd h
        refine tk_Hx6  rfl rfl hg207 ?_
        refine tk_Ps  4 (pc' := 1340) (ls' := [(0, .ref 1006), (1, .ref 0), (2, .ref 295), (3, .int v3)]) (st' := [.int (v3 + (2 : Int32)), .ref 1006, .int (sc.2 (tk_n (v3 + (1 : Int32)))), .ref 0]) rfl ?_
        obtain ⟨hg208, h⟩ := tk_grd h
        refine tk_Hx6  rfl rfl hg208 ?_
        refine tk_Ps  4 (pc' := 1345) (ls' := [(0, .ref 1006), (1, .ref 0), (2, .ref 295), (3, .int v3)]) (st' := [.int (v3 + (3 : Int32)), .ref 1006, .int (sc.2 (tk_n (v3 + (2 : Int32)))), .int (sc.2 (tk_n (v3 + (1 : Int32)))), .ref 0]) rfl ?_
        obtain ⟨hg209, h⟩ := tk_grd h
        refine tk_Hx6  rfl rfl hg209 ?_
        refine tk_Ps  7 (pc' := 1354) (ls' := [(0, .ref 1006), (1, .ref 0), (2, .ref 295), (3, .int v3)]) (st' := [.int (v3 + (4 : Int32)), .ref 1006, .long (tk_lshl (Int32.toInt64 (sc.2 (tk_n (v3 + (3 : Int32))))) (32 : Int32)), .int (sc.2 (tk_n (v3 + (2 : Int32)))), .int (sc.2 (tk_n (v3 + (1 : Int32)))), .ref 0]) rfl ?_
        obtain ⟨hg210, h⟩ := tk_grd h
        refine tk_Hx6  rfl rfl hg210 ?_
        refine tk_Ps  4 (pc' := 1361) (ls' := [(0, .ref 1006), (1, .ref 0), (2, .ref 295), (3, .int v3)]) (st' := [.long ((tk_lshl (Int32.toInt64 (sc.2 (tk_n (v3 + (3 : Int32))))) (32 : Int32)) ||| ((Int32.toInt64 (sc.2 (tk_n (v3 + (4 : Int32))))) &&& (4294967295 : Int64))), .int (sc.2 (tk_n (v3 + (2 : Int32)))), .int (sc.2 (tk_n (v3 + (1 : Int32)))), .ref 0]) rfl ?_
        obtain ⟨o211, ho211, h⟩ := tk_bnd h
        refine tk_cV1  rfl rfl (r := 0) (as := [.int (sc.2 (tk_n (v3 + (1 : Int32)))), .int (sc.2 (tk_n (v3 + (2 : Int32)))), .long ((tk_lshl (Int32.toInt64 (sc.2 (tk_n (v3 + (3 : Int32))))) (32 : Int32)) ||| ((Int32.toInt64 (sc.2 (tk_n (v3 + (4 : Int32))))) &&& (4294967295 : Int64)))]) (rest := []) rfl ly0 rfl rfl (ok_fX_write sc (sc.2 (tk_n (v3 + (1 : Int32)))) (sc.2 (tk_n (v3 + (2 : Int32)))) ((tk_lshl (Int32.toInt64 (sc.2 (tk_n (v3 + (3 : Int32))))) (32 : Int32)) ||| ((Int32.toInt64 (sc.2 (tk_n (v3 + (4 : Int32))))) &&& (4294967295 : Int64))) m ho211) ?_
        refine tk_Ps  5 (pc' := 1369) (ls' := [(0, .ref 1006), (1, .ref 0), (2, .ref 295), (3, .int v3)]) (st' := [.int (v3 + (1 : Int32)), .ref 1006, .ref 295, .int o211.1]) rfl ?_
        refine tk_Hx6  rfl rfl hg207 ?_
        refine tk_Ps  4 (pc' := 1374) (ls' := [(0, .ref 1006), (1, .ref 0), (2, .ref 295), (3, .int v3)]) (st' := [.int (v3 + (2 : Int32)), .ref 1006, .int (sc.2 (tk_n (v3 + (1 : Int32)))), .ref 295, .int o211.1]) rfl ?_
        refine tk_Hx6  rfl rfl hg208 ?_
        refine tk_Ps  4 (pc' := 1379) (ls' := [(0, .ref 1006), (1, .ref 0), (2, .ref 295), (3, .int v3)]) (st' := [.int (v3 + (3 : Int32)), .ref 1006, .int (sc.2 (tk_n (v3 + (2 : Int32)))), .int (sc.2 (tk_n (v3 + (1 : Int32)))), .ref 295, .int o211.1]) rfl ?_
        refine tk_Hx6  rfl rfl hg209 ?_
        refine tk_Ps  7 (pc' := 1388) (ls' := [(0, .ref 1006), (1, .ref 0), (2, .ref 295), (3, .int v3)]) (st' := [.int (v3 + (4 : Int32)), .ref 1006, .long (tk_lshl (Int32.toInt64 (sc.2 (tk_n (v3 + (3 : Int32))))) (32 : Int32)), .int (sc.2 (tk_n (v3 + (2 : Int32)))), .int (sc.2 (tk_n (v3 + (1 : Int32)))), .ref 295, .int o211.1]) rfl ?_
        refine tk_Hx6  rfl rfl hg210 ?_
        refine tk_Ps  4 (pc' := 1395) (ls' := [(0, .ref 1006), (1, .ref 0), (2, .ref 295), (3, .int v3)]) (st' := [.long ((tk_lshl (Int32.toInt64 (sc.2 (tk_n (v3 + (3 : Int32))))) (32 : Int32)) ||| ((Int32.toInt64 (sc.2 (tk_n (v3 + (4 : Int32))))) &&& (4294967295 : Int64))), .int (sc.2 (tk_n (v3 + (2 : Int32)))), .int (sc.2 (tk_n (v3 + (1 : Int32)))), .ref 295, .int o211.1]) rfl ?_
        obtain ⟨o212, ho212, h⟩ := tk_bnd h
        refine tk_cV1  rfl rfl (r := 295) (as := [.int (sc.2 (tk_n (v3 + (1 : Int32)))), .int (sc.2 (tk_n (v3 + (2 : Int32)))), .long ((tk_lshl (Int32.toInt64 (sc.2 (tk_n (v3 + (3 : Int32))))) (32 : Int32)) ||| ((Int32.toInt64 (sc.2 (tk_n (v3 + (4 : Int32))))) &&& (4294967295 : Int64)))]) (rest := [.int o211.1]) rfl ly295 rfl rfl (ok_fM_write sc (sc.2 (tk_n (v3 + (1 : Int32)))) (sc.2 (tk_n (v3 + (2 : Int32)))) ((tk_lshl (Int32.toInt64 (sc.2 (tk_n (v3 + (3 : Int32))))) (32 : Int32)) ||| ((Int32.toInt64 (sc.2 (tk_n (v3 + (4 : Int32))))) &&& (4294967295 : Int64))) o211.2 ho212) ?_
        by_cases hc213 : o211.1 = o212.1
        · replace h := tk_ifT hc213 h
          refine tk_bT  rfl rfl rfl (c := o211.1 = o212.1) hc213 (pc' := 1595) (ls' := [(0, .ref 1006), (1, .ref 0), (2, .ref 295), (3, .int v3)]) (st' := []) ?_
          refine tk_Ps  2 (pc' := 18) (ls' := [(3, .int (v3 + (6 : Int32))), (0, .ref 1006), (1, .ref 0), (2, .ref 295)]) (st' := []) rfl ?_
          refine tk_Kp  (ls' := [(0, .ref 1006), (1, .ref 0), (2, .ref 295), (3, .int (v3 + (6 : Int32)))]) rfl rfl ?_
          exact ih (v3 + (6 : Int32)) o212.2 _ h
        · replace h := tk_ifF hc213 h
          refine tk_bF  rfl rfl rfl (c := o211.1 = o212.1) hc213 (pc' := 1401) (ls' := [(0, .ref 1006), (1, .ref 0), (2, .ref 295), (3, .int v3)]) (st' := []) ?_
          refine tk_Ps  1 (pc' := 1402) (ls' := [(0, .ref 1006), (1, .ref 0), (2, .ref 295), (3, .int v3)]) (st' := [.int (0 : Int32)]) rfl ?_
          replace h := Option.some.inj h
          subst h
          exact tk_RB (b := false)  rfl rfl rfl
      replace h := tk_ifF hs206 h
      by_cases hs214 : ((sc.2 (tk_n v3)) &&& (63 : Int32)) = 35
      · replace h := tk_ifT hs214 h
        refine tk_sw  rfl rfl hs214 rfl (pc' := 1403) (ls' := [(0, .ref 1006), (1, .ref 0), (2, .ref 295), (3, .int v3)]) (st' := []) ?_
        refine tk_Ps  5 (pc' := 1408) (ls' := [(0, .ref 1006), (1, .ref 0), (2, .ref 295), (3, .int v3)]) (st' := [.int (v3 + (1 : Int32)), .ref 1006, .ref 0]) rfl ?_
        obtain ⟨hg215, h⟩ := tk_grd h
        refine tk_Hx6  rfl rfl hg215 ?_
        refine tk_Ps  4 (pc' := 1413) (ls' := [(0, .ref 1006), (1, .ref 0), (2, .ref 295), (3, .int v3)]) (st' := [.int (v3 + (2 : Int32)), .ref 1006, .int (sc.2 (tk_n (v3 + (1 : Int32)))), .ref 0]) rfl ?_
        obtain ⟨hg216, h⟩ := tk_grd h
        refine tk_Hx6  rfl rfl hg216 ?_
        obtain ⟨o217, ho217, h⟩ := tk_bnd h
        refine tk_cV1  rfl rfl (r := 0) (as := [.int (sc.2 (tk_n (v3 + (1 : Int32)))), .int (sc.2 (tk_n (v3 + (2 : Int32))))]) (rest := []) rfl ly0 rfl rfl (ok_fX_item sc (sc.2 (tk_n (v3 + (1 : Int32)))) (sc.2 (tk_n (v3 + (2 : Int32)))) m ho217) ?_
        refine tk_Ps  5 (pc' := 1422) (ls' := [(0, .ref 1006), (1, .ref 0), (2, .ref 295), (3, .int v3)]) (st' := [.int (v3 + (1 : Int32)), .ref 1006, .ref 295, .long o217.1]) rfl ?_
        refine tk_Hx6  rfl rfl hg215 ?_
        refine tk_Ps  4 (pc' := 1427) (ls' := [(0, .ref 1006), (1, .ref 0), (2, .ref 295), (3, .int v3)]) (st' := [.int (v3 + (2 : Int32)), .ref 1006, .int (sc.2 (tk_n (v3 + (1 : Int32)))), .ref 295, .long o217.1]) rfl ?_
        refine tk_Hx6  rfl rfl hg216 ?_
        obtain ⟨o218, ho218, h⟩ := tk_bnd h
        refine tk_cV1  rfl rfl (r := 295) (as := [.int (sc.2 (tk_n (v3 + (1 : Int32)))), .int (sc.2 (tk_n (v3 + (2 : Int32))))]) (rest := [.long o217.1]) rfl ly295 rfl rfl (ok_fM_item sc (sc.2 (tk_n (v3 + (1 : Int32)))) (sc.2 (tk_n (v3 + (2 : Int32)))) o217.2 ho218) ?_
        refine tk_Ps  1 (pc' := 1432) (ls' := [(0, .ref 1006), (1, .ref 0), (2, .ref 295), (3, .int v3)]) (st' := [.int (lg_cmp o217.1 o218.1)]) rfl ?_
        by_cases hc219 : o217.1 = o218.1
        · replace h := tk_ifT hc219 h
          refine tk_bT  rfl rfl tk_eL_eq (c := o217.1 = o218.1) hc219 (pc' := 1595) (ls' := [(0, .ref 1006), (1, .ref 0), (2, .ref 295), (3, .int v3)]) (st' := []) ?_
          refine tk_Ps  2 (pc' := 18) (ls' := [(3, .int (v3 + (6 : Int32))), (0, .ref 1006), (1, .ref 0), (2, .ref 295)]) (st' := []) rfl ?_
          refine tk_Kp  (ls' := [(0, .ref 1006), (1, .ref 0), (2, .ref 295), (3, .int (v3 + (6 : Int32)))]) rfl rfl ?_
          exact ih (v3 + (6 : Int32)) o218.2 _ h
        · replace h := tk_ifF hc219 h
          refine tk_bF  rfl rfl tk_eL_eq (c := o217.1 = o218.1) hc219 (pc' := 1435) (ls' := [(0, .ref 1006), (1, .ref 0), (2, .ref 295), (3, .int v3)]) (st' := []) ?_
          refine tk_Ps  1 (pc' := 1436) (ls' := [(0, .ref 1006), (1, .ref 0), (2, .ref 295), (3, .int v3)]) (st' := [.int (0 : Int32)]) rfl ?_
          replace h := Option.some.inj h
          subst h
          exact tk_RB (b := false)  rfl rfl rfl
      replace h := tk_ifF hs214 h
      by_cases hs220 : ((sc.2 (tk_n v3)) &&& (63 : Int32)) = 36
      · replace h := tk_ifT hs220 h
        refine tk_sw  rfl rfl hs220 rfl (pc' := 1437) (ls' := [(0, .ref 1006), (1, .ref 0), (2, .ref 295), (3, .int v3)]) (st' := []) ?_
        refine tk_Ps  5 (pc' := 1442) (ls' := [(0, .ref 1006), (1, .ref 0), (2, .ref 295), (3, .int v3)]) (st' := [.int (v3 + (1 : Int32)), .ref 1006, .ref 0]) rfl ?_
        obtain ⟨hg221, h⟩ := tk_grd h
        refine tk_Hx6  rfl rfl hg221 ?_
        refine tk_Ps  4 (pc' := 1447) (ls' := [(0, .ref 1006), (1, .ref 0), (2, .ref 295), (3, .int v3)]) (st' := [.int (v3 + (2 : Int32)), .ref 1006, .int (sc.2 (tk_n (v3 + (1 : Int32)))), .ref 0]) rfl ?_
        obtain ⟨hg222, h⟩ := tk_grd h
        refine tk_Hx6  rfl rfl hg222 ?_
        refine tk_Ps  4 (pc' := 1452) (ls' := [(0, .ref 1006), (1, .ref 0), (2, .ref 295), (3, .int v3)]) (st' := [.int (v3 + (3 : Int32)), .ref 1006, .int (sc.2 (tk_n (v3 + (2 : Int32)))), .int (sc.2 (tk_n (v3 + (1 : Int32)))), .ref 0]) rfl ?_
        obtain ⟨hg223, h⟩ := tk_grd h
        refine tk_Hx6  rfl rfl hg223 ?_
        refine tk_Ps  4 (pc' := 1457) (ls' := [(0, .ref 1006), (1, .ref 0), (2, .ref 295), (3, .int v3)]) (st' := [.int (v3 + (4 : Int32)), .ref 1006, .int (sc.2 (tk_n (v3 + (3 : Int32)))), .int (sc.2 (tk_n (v3 + (2 : Int32)))), .int (sc.2 (tk_n (v3 + (1 : Int32)))), .ref 0]) rfl ?_
        obtain ⟨hg224, h⟩ := tk_grd h
        refine tk_Hx6  rfl rfl hg224 ?_
        refine tk_Ps  4 (pc' := 1462) (ls' := [(0, .ref 1006), (1, .ref 0), (2, .ref 295), (3, .int v3)]) (st' := [.int (v3 + (5 : Int32)), .ref 1006, .int (sc.2 (tk_n (v3 + (4 : Int32)))), .int (sc.2 (tk_n (v3 + (3 : Int32)))), .int (sc.2 (tk_n (v3 + (2 : Int32)))), .int (sc.2 (tk_n (v3 + (1 : Int32)))), .ref 0]) rfl ?_
        obtain ⟨hg225, h⟩ := tk_grd h
        refine tk_Hx6  rfl rfl hg225 ?_
        obtain ⟨o226, ho226, h⟩ := tk_bnd h
        refine tk_cV1  rfl rfl (r := 0) (as := [.int (sc.2 (tk_n (v3 + (1 : Int32)))), .int (sc.2 (tk_n (v3 + (2 : Int32)))), .int (sc.2 (tk_n (v3 + (3 : Int32)))), .int (sc.2 (tk_n (v3 + (4 : Int32)))), .int (sc.2 (tk_n (v3 + (5 : Int32))))]) (rest := []) rfl ly0 rfl rfl (ok_fX_copy sc (sc.2 (tk_n (v3 + (1 : Int32)))) (sc.2 (tk_n (v3 + (2 : Int32)))) (sc.2 (tk_n (v3 + (3 : Int32)))) (sc.2 (tk_n (v3 + (4 : Int32)))) (sc.2 (tk_n (v3 + (5 : Int32)))) m ho226) ?_
        refine tk_Ps  5 (pc' := 1471) (ls' := [(0, .ref 1006), (1, .ref 0), (2, .ref 295), (3, .int v3)]) (st' := [.int (v3 + (1 : Int32)), .ref 1006, .ref 295, .int o226.1]) rfl ?_
        refine tk_Hx6  rfl rfl hg221 ?_
        refine tk_Ps  4 (pc' := 1476) (ls' := [(0, .ref 1006), (1, .ref 0), (2, .ref 295), (3, .int v3)]) (st' := [.int (v3 + (2 : Int32)), .ref 1006, .int (sc.2 (tk_n (v3 + (1 : Int32)))), .ref 295, .int o226.1]) rfl ?_
        refine tk_Hx6  rfl rfl hg222 ?_
        refine tk_Ps  4 (pc' := 1481) (ls' := [(0, .ref 1006), (1, .ref 0), (2, .ref 295), (3, .int v3)]) (st' := [.int (v3 + (3 : Int32)), .ref 1006, .int (sc.2 (tk_n (v3 + (2 : Int32)))), .int (sc.2 (tk_n (v3 + (1 : Int32)))), .ref 295, .int o226.1]) rfl ?_
        refine tk_Hx6  rfl rfl hg223 ?_
        refine tk_Ps  4 (pc' := 1486) (ls' := [(0, .ref 1006), (1, .ref 0), (2, .ref 295), (3, .int v3)]) (st' := [.int (v3 + (4 : Int32)), .ref 1006, .int (sc.2 (tk_n (v3 + (3 : Int32)))), .int (sc.2 (tk_n (v3 + (2 : Int32)))), .int (sc.2 (tk_n (v3 + (1 : Int32)))), .ref 295, .int o226.1]) rfl ?_
        refine tk_Hx6  rfl rfl hg224 ?_
        refine tk_Ps  4 (pc' := 1491) (ls' := [(0, .ref 1006), (1, .ref 0), (2, .ref 295), (3, .int v3)]) (st' := [.int (v3 + (5 : Int32)), .ref 1006, .int (sc.2 (tk_n (v3 + (4 : Int32)))), .int (sc.2 (tk_n (v3 + (3 : Int32)))), .int (sc.2 (tk_n (v3 + (2 : Int32)))), .int (sc.2 (tk_n (v3 + (1 : Int32)))), .ref 295, .int o226.1]) rfl ?_
        refine tk_Hx6  rfl rfl hg225 ?_
        obtain ⟨o227, ho227, h⟩ := tk_bnd h
        refine tk_cV1  rfl rfl (r := 295) (as := [.int (sc.2 (tk_n (v3 + (1 : Int32)))), .int (sc.2 (tk_n (v3 + (2 : Int32)))), .int (sc.2 (tk_n (v3 + (3 : Int32)))), .int (sc.2 (tk_n (v3 + (4 : Int32)))), .int (sc.2 (tk_n (v3 + (5 : Int32))))]) (rest := [.int o226.1]) rfl ly295 rfl rfl (ok_fM_copy sc (sc.2 (tk_n (v3 + (1 : Int32)))) (sc.2 (tk_n (v3 + (2 : Int32)))) (sc.2 (tk_n (v3 + (3 : Int32)))) (sc.2 (tk_n (v3 + (4 : Int32)))) (sc.2 (tk_n (v3 + (5 : Int32)))) o226.2 ho227) ?_
        by_cases hc228 : o226.1 = o227.1
        · replace h := tk_ifT hc228 h
          refine tk_bT  rfl rfl rfl (c := o226.1 = o227.1) hc228 (pc' := 1595) (ls' := [(0, .ref 1006), (1, .ref 0), (2, .ref 295), (3, .int v3)]) (st' := []) ?_
          refine tk_Ps  2 (pc' := 18) (ls' := [(3, .int (v3 + (6 : Int32))), (0, .ref 1006), (1, .ref 0), (2, .ref 295)]) (st' := []) rfl ?_
          refine tk_Kp  (ls' := [(0, .ref 1006), (1, .ref 0), (2, .ref 295), (3, .int (v3 + (6 : Int32)))]) rfl rfl ?_
          exact ih (v3 + (6 : Int32)) o227.2 _ h
        · replace h := tk_ifF hc228 h
          refine tk_bF  rfl rfl rfl (c := o226.1 = o227.1) hc228 (pc' := 1498) (ls' := [(0, .ref 1006), (1, .ref 0), (2, .ref 295), (3, .int v3)]) (st' := []) ?_
          refine tk_Ps  1 (pc' := 1499) (ls' := [(0, .ref 1006), (1, .ref 0), (2, .ref 295), (3, .int v3)]) (st' := [.int (0 : Int32)]) rfl ?_
          replace h := Option.some.inj h
          subst h
          exact tk_RB (b := false)  rfl rfl rfl
      replace h := tk_ifF hs220 h
      by_cases hs229 : ((sc.2 (tk_n v3)) &&& (63 : Int32)) = 37
      · replace h := tk_ifT hs229 h
        refine tk_sw  rfl rfl hs229 rfl (pc' := 1500) (ls' := [(0, .ref 1006), (1, .ref 0), (2, .ref 295), (3, .int v3)]) (st' := []) ?_
        refine tk_Ps  1 (pc' := 1501) (ls' := [(0, .ref 1006), (1, .ref 0), (2, .ref 295), (3, .int v3)]) (st' := [.ref 0]) rfl ?_
        obtain ⟨o230, ho230, h⟩ := tk_bnd h
        refine tk_cV1  rfl rfl (r := 0) (as := []) (rest := []) rfl ly0 rfl rfl (ok_fX_image sc m ho230) ?_
        refine tk_Ps  1 (pc' := 1505) (ls' := [(0, .ref 1006), (1, .ref 0), (2, .ref 295), (3, .int v3)]) (st' := [.ref 295, .int o230.1]) rfl ?_
        obtain ⟨o231, ho231, h⟩ := tk_bnd h
        refine tk_cV1  rfl rfl (r := 295) (as := []) (rest := [.int o230.1]) rfl ly295 rfl rfl (ok_fM_image sc o230.2 ho231) ?_
        by_cases hc232 : o230.1 = o231.1
        · replace h := tk_ifT hc232 h
          refine tk_bT  rfl rfl rfl (c := o230.1 = o231.1) hc232 (pc' := 1595) (ls' := [(0, .ref 1006), (1, .ref 0), (2, .ref 295), (3, .int v3)]) (st' := []) ?_
          refine tk_Ps  2 (pc' := 18) (ls' := [(3, .int (v3 + (6 : Int32))), (0, .ref 1006), (1, .ref 0), (2, .ref 295)]) (st' := []) rfl ?_
          refine tk_Kp  (ls' := [(0, .ref 1006), (1, .ref 0), (2, .ref 295), (3, .int (v3 + (6 : Int32)))]) rfl rfl ?_
          exact ih (v3 + (6 : Int32)) o231.2 _ h
        · replace h := tk_ifF hc232 h
          refine tk_bF  rfl rfl rfl (c := o230.1 = o231.1) hc232 (pc' := 1511) (ls' := [(0, .ref 1006), (1, .ref 0), (2, .ref 295), (3, .int v3)]) (st' := []) ?_
          refine tk_Ps  1 (pc' := 1512) (ls' := [(0, .ref 1006), (1, .ref 0), (2, .ref 295), (3, .int v3)]) (st' := [.int (0 : Int32)]) rfl ?_
          replace h := Option.some.inj h
          subst h
          exact tk_RB (b := false)  rfl rfl rfl
      replace h := tk_ifF hs229 h
      by_cases hs233 : ((sc.2 (tk_n v3)) &&& (63 : Int32)) = 38
      · replace h := tk_ifT hs233 h
        refine tk_sw  rfl rfl hs233 rfl (pc' := 1513) (ls' := [(0, .ref 1006), (1, .ref 0), (2, .ref 295), (3, .int v3)]) (st' := []) ?_
        refine tk_Ps  1 (pc' := 1514) (ls' := [(0, .ref 1006), (1, .ref 0), (2, .ref 295), (3, .int v3)]) (st' := [.ref 0]) rfl ?_
        obtain ⟨o234, ho234, h⟩ := tk_bnd h
        refine tk_cV1  rfl rfl (r := 0) (as := []) (rest := []) rfl ly0 rfl rfl (ok_fX_back sc m ho234) ?_
        refine tk_Ps  1 (pc' := 1518) (ls' := [(0, .ref 1006), (1, .ref 0), (2, .ref 295), (3, .int v3)]) (st' := [.ref 295, .int o234.1]) rfl ?_
        obtain ⟨o235, ho235, h⟩ := tk_bnd h
        refine tk_cV1  rfl rfl (r := 295) (as := []) (rest := [.int o234.1]) rfl ly295 rfl rfl (ok_fM_back sc o234.2 ho235) ?_
        by_cases hc236 : o234.1 = o235.1
        · replace h := tk_ifT hc236 h
          refine tk_bT  rfl rfl rfl (c := o234.1 = o235.1) hc236 (pc' := 1595) (ls' := [(0, .ref 1006), (1, .ref 0), (2, .ref 295), (3, .int v3)]) (st' := []) ?_
          refine tk_Ps  2 (pc' := 18) (ls' := [(3, .int (v3 + (6 : Int32))), (0, .ref 1006), (1, .ref 0), (2, .ref 295)]) (st' := []) rfl ?_
          refine tk_Kp  (ls' := [(0, .ref 1006), (1, .ref 0), (2, .ref 295), (3, .int (v3 + (6 : Int32)))]) rfl rfl ?_
          exact ih (v3 + (6 : Int32)) o235.2 _ h
        · replace h := tk_ifF hc236 h
          refine tk_bF  rfl rfl rfl (c := o234.1 = o235.1) hc236 (pc' := 1524) (ls' := [(0, .ref 1006), (1, .ref 0), (2, .ref 295), (3, .int v3)]) (st' := []) ?_
          refine tk_Ps  1 (pc' := 1525) (ls' := [(0, .ref 1006), (1, .ref 0), (2, .ref 295), (3, .int v3)]) (st' := [.int (0 : Int32)]) rfl ?_
          replace h := Option.some.inj h
          subst h
          exact tk_RB (b := false)  rfl rfl rfl
      replace h := tk_ifF hs233 h
      by_cases hs237 : ((sc.2 (tk_n v3)) &&& (63 : Int32)) = 39
      · replace h := tk_ifT hs237 h
        refine tk_sw  rfl rfl hs237 rfl (pc' := 1526) (ls' := [(0, .ref 1006), (1, .ref 0), (2, .ref 295), (3, .int v3)]) (st' := []) ?_
        refine tk_Ps  5 (pc' := 1531) (ls' := [(0, .ref 1006), (1, .ref 0), (2, .ref 295), (3, .int v3)]) (st' := [.int (v3 + (1 : Int32)), .ref 1006, .ref 0]) rfl ?_
        obtain ⟨hg238, h⟩ := tk_grd h
        refine tk_Hx6  rfl rfl hg238 ?_
        obtain ⟨o239, ho239, h⟩ := tk_lete h
        refine tk_cV1  rfl rfl (r := 0) (as := [.int (sc.2 (tk_n (v3 + (1 : Int32))))]) (rest := []) rfl ly0 rfl rfl (ok_fX_seed sc (sc.2 (tk_n (v3 + (1 : Int32)))) m ho239) ?_
        refine tk_Ps  5 (pc' := 1540) (ls' := [(0, .ref 1006), (1, .ref 0), (2, .ref 295), (3, .int v3)]) (st' := [.int (v3 + (1 : Int32)), .ref 1006, .ref 295, .int o239.1]) rfl ?_
        refine tk_Hx6  rfl rfl hg238 ?_
        obtain ⟨o240, ho240, h⟩ := tk_lete h
        refine tk_cV1  rfl rfl (r := 295) (as := [.int (sc.2 (tk_n (v3 + (1 : Int32))))]) (rest := [.int o239.1]) rfl ly295 rfl rfl (ok_fM_seed sc (sc.2 (tk_n (v3 + (1 : Int32)))) o239.2 ho240) ?_
        by_cases hc241 : o239.1 = o240.1
        · replace h := tk_ifT hc241 h
          refine tk_bT  rfl rfl rfl (c := o239.1 = o240.1) hc241 (pc' := 1595) (ls' := [(0, .ref 1006), (1, .ref 0), (2, .ref 295), (3, .int v3)]) (st' := []) ?_
          refine tk_Ps  2 (pc' := 18) (ls' := [(3, .int (v3 + (6 : Int32))), (0, .ref 1006), (1, .ref 0), (2, .ref 295)]) (st' := []) rfl ?_
          refine tk_Kp  (ls' := [(0, .ref 1006), (1, .ref 0), (2, .ref 295), (3, .int (v3 + (6 : Int32)))]) rfl rfl ?_
          exact ih (v3 + (6 : Int32)) o240.2 _ h
        · replace h := tk_ifF hc241 h
          refine tk_bF  rfl rfl rfl (c := o239.1 = o240.1) hc241 (pc' := 1547) (ls' := [(0, .ref 1006), (1, .ref 0), (2, .ref 295), (3, .int v3)]) (st' := []) ?_
          refine tk_Ps  1 (pc' := 1548) (ls' := [(0, .ref 1006), (1, .ref 0), (2, .ref 295), (3, .int v3)]) (st' := [.int (0 : Int32)]) rfl ?_
          replace h := Option.some.inj h
          subst h
          exact tk_RB (b := false)  rfl rfl rfl
      replace h := tk_ifF hs237 h
      by_cases hs242 : ((sc.2 (tk_n v3)) &&& (63 : Int32)) = 40
      · replace h := tk_ifT hs242 h
        refine tk_sw  rfl rfl hs242 rfl (pc' := 1549) (ls' := [(0, .ref 1006), (1, .ref 0), (2, .ref 295), (3, .int v3)]) (st' := []) ?_
        refine tk_Ps  5 (pc' := 1554) (ls' := [(0, .ref 1006), (1, .ref 0), (2, .ref 295), (3, .int v3)]) (st' := [.int (v3 + (1 : Int32)), .ref 1006, .ref 0]) rfl ?_
        obtain ⟨hg243, h⟩ := tk_grd h
        refine tk_Hx6  rfl rfl hg243 ?_
        obtain ⟨o244, ho244, h⟩ := tk_bnd h
        refine tk_cV1  rfl rfl (r := 0) (as := [.int (sc.2 (tk_n (v3 + (1 : Int32))))]) (rest := []) rfl ly0 rfl rfl (ok_fX_count sc (sc.2 (tk_n (v3 + (1 : Int32)))) m ho244) ?_
        refine tk_Ps  5 (pc' := 1563) (ls' := [(0, .ref 1006), (1, .ref 0), (2, .ref 295), (3, .int v3)]) (st' := [.int (v3 + (1 : Int32)), .ref 1006, .ref 295, .int o244.1]) rfl ?_
        refine tk_Hx6  rfl rfl hg243 ?_
        obtain ⟨o245, ho245, h⟩ := tk_bnd h
        refine tk_cV1  rfl rfl (r := 295) (as := [.int (sc.2 (tk_n (v3 + (1 : Int32))))]) (rest := [.int o244.1]) rfl ly295 rfl rfl (ok_fM_count sc (sc.2 (tk_n (v3 + (1 : Int32)))) o244.2 ho245) ?_
        by_cases hc246 : o244.1 = o245.1
        · replace h := tk_ifT hc246 h
          refine tk_bT  rfl rfl rfl (c := o244.1 = o245.1) hc246 (pc' := 1595) (ls' := [(0, .ref 1006), (1, .ref 0), (2, .ref 295), (3, .int v3)]) (st' := []) ?_
          refine tk_Ps  2 (pc' := 18) (ls' := [(3, .int (v3 + (6 : Int32))), (0, .ref 1006), (1, .ref 0), (2, .ref 295)]) (st' := []) rfl ?_
          refine tk_Kp  (ls' := [(0, .ref 1006), (1, .ref 0), (2, .ref 295), (3, .int (v3 + (6 : Int32)))]) rfl rfl ?_
          exact ih (v3 + (6 : Int32)) o245.2 _ h
        · replace h := tk_ifF hc246 h
          refine tk_bF  rfl rfl rfl (c := o244.1 = o245.1) hc246 (pc' := 1570) (ls' := [(0, .ref 1006), (1, .ref 0), (2, .ref 295), (3, .int v3)]) (st' := []) ?_
          refine tk_Ps  1 (pc' := 1571) (ls' := [(0, .ref 1006), (1, .ref 0), (2, .ref 295), (3, .int v3)]) (st' := [.int (0 : Int32)]) rfl ?_
          replace h := Option.some.inj h
          subst h
          exact tk_RB (b := false)  rfl rfl rfl
      replace h := tk_ifF hs242 h
      by_cases hs247 : ((sc.2 (tk_n v3)) &&& (63 : Int32)) = 41
      · replace h := tk_ifT hs247 h
        refine tk_sw  rfl rfl hs247 rfl (pc' := 1572) (ls' := [(0, .ref 1006), (1, .ref 0), (2, .ref 295), (3, .int v3)]) (st' := []) ?_
        refine tk_Ps  5 (pc' := 1577) (ls' := [(0, .ref 1006), (1, .ref 0), (2, .ref 295), (3, .int v3)]) (st' := [.int (v3 + (1 : Int32)), .ref 1006, .ref 0]) rfl ?_
        obtain ⟨hg248, h⟩ := tk_grd h
        refine tk_Hx6  rfl rfl hg248 ?_
        obtain ⟨o249, ho249, h⟩ := tk_bnd h
        refine tk_cV1  rfl rfl (r := 0) (as := [.int (sc.2 (tk_n (v3 + (1 : Int32))))]) (rest := []) rfl ly0 rfl rfl (ok_fX_status sc (sc.2 (tk_n (v3 + (1 : Int32)))) m ho249) ?_
        refine tk_Ps  5 (pc' := 1586) (ls' := [(0, .ref 1006), (1, .ref 0), (2, .ref 295), (3, .int v3)]) (st' := [.int (v3 + (1 : Int32)), .ref 1006, .ref 295, .int o249.1]) rfl ?_
        refine tk_Hx6  rfl rfl hg248 ?_
        obtain ⟨o250, ho250, h⟩ := tk_bnd h
        refine tk_cV1  rfl rfl (r := 295) (as := [.int (sc.2 (tk_n (v3 + (1 : Int32))))]) (rest := [.int o249.1]) rfl ly295 rfl rfl (ok_fM_status sc (sc.2 (tk_n (v3 + (1 : Int32)))) o249.2 ho250) ?_
        by_cases hc251 : o249.1 = o250.1
        · replace h := tk_ifT hc251 h
          refine tk_bT  rfl rfl rfl (c := o249.1 = o250.1) hc251 (pc' := 1595) (ls' := [(0, .ref 1006), (1, .ref 0), (2, .ref 295), (3, .int v3)]) (st' := []) ?_
          refine tk_Ps  2 (pc' := 18) (ls' := [(3, .int (v3 + (6 : Int32))), (0, .ref 1006), (1, .ref 0), (2, .ref 295)]) (st' := []) rfl ?_
          refine tk_Kp  (ls' := [(0, .ref 1006), (1, .ref 0), (2, .ref 295), (3, .int (v3 + (6 : Int32)))]) rfl rfl ?_
          exact ih (v3 + (6 : Int32)) o250.2 _ h
        · replace h := tk_ifF hc251 h
          refine tk_bF  rfl rfl rfl (c := o249.1 = o250.1) hc251 (pc' := 1593) (ls' := [(0, .ref 1006), (1, .ref 0), (2, .ref 295), (3, .int v3)]) (st' := []) ?_
          refine tk_Ps  1 (pc' := 1594) (ls' := [(0, .ref 1006), (1, .ref 0), (2, .ref 295), (3, .int v3)]) (st' := [.int (0 : Int32)]) rfl ?_
          replace h := Option.some.inj h
          subst h
          exact tk_RB (b := false)  rfl rfl rfl
      replace h := tk_ifF hs247 h
      refine tk_swD  rfl rfl (tk_swo_0_41 hs3 hs10 hs16 hs22 hs29 hs35 hs39 hs44 hs50 hs54 hs60 hs67 hs74 hs80 hs87 hs92 hs96 hs101 hs106 hs113 hs118 hs123 hs129 hs135 hs143 hs148 hs155 hs162 hs168 hs176 hs182 hs188 hs194 hs199 hs206 hs214 hs220 hs229 hs233 hs237 hs242 hs247) rfl rfl (pc' := 1595) (ls' := [(0, .ref 1006), (1, .ref 0), (2, .ref 295), (3, .int v3)]) (st' := []) ?_
      refine tk_Ps  2 (pc' := 18) (ls' := [(3, .int (v3 + (6 : Int32))), (0, .ref 1006), (1, .ref 0), (2, .ref 295)]) (st' := []) rfl ?_
      refine tk_Kp  (ls' := [(0, .ref 1006), (1, .ref 0), (2, .ref 295), (3, .int (v3 + (6 : Int32)))]) rfl rfl ?_
      exact ih (v3 + (6 : Int32)) m _ h

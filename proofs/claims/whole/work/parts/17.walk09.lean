theorem ok_fM_stays_2 (sc : tk_X) : ∀ (n : Nat) (v1 : Int32) (m : tk_m) (out : Int32), fM_stays_2 n v1 m = some out → tk_Ex sc 2 tk_r214 tk_k214 2 [(0, .ref 295), (1, .int v1)] [] (tk_full m) (some (.int out), tk_full m) := by
  intro n
  induction n with
  | zero =>
    intro v1 m out h
    cases h
  | succ n ih =>
    intro v1 m out h
    unfold fM_stays_2 at h
    refine tk_Ps  2 (pc' := 4) (ls' := [(0, .ref 295), (1, .int v1)]) (st' := [.int (3 : Int32), .int v1]) rfl ?_
    by_cases hc1 : (3 : Int32) ≤ v1
    · replace h := tk_ifT hc1 h
      refine tk_bT  rfl rfl rfl (c := (3 : Int32) ≤ v1) hc1 (pc' := 27) (ls' := [(0, .ref 295), (1, .int v1)]) (st' := []) ?_
      refine tk_Ps  1 (pc' := 28) (ls' := [(0, .ref 295), (1, .int v1)]) (st' := [.int (-1 : Int32)]) rfl ?_
      replace h := Option.some.inj h
      subst h
      exact tk_RI  rfl rfl rfl
    · replace h := tk_ifF hc1 h
      refine tk_bF  rfl rfl rfl (c := (3 : Int32) ≤ v1) hc1 (pc' := 7) (ls' := [(0, .ref 295), (1, .int v1)]) (st' := []) ?_
      refine tk_Ps  3 (pc' := 10) (ls' := [(0, .ref 295), (1, .int v1)]) (st' := [.int v1, .ref 295, .ref 295]) rfl ?_
      obtain ⟨o2, ho2, h⟩ := tk_bnd h
      refine tk_cV1  rfl rfl (r := 295) (as := [.int v1]) (rest := [.ref 295]) rfl ly295 rfl rfl (ok_fM_three_I sc v1 m ho2) ?_
      obtain ⟨o3, ho3, h⟩ := tk_bnd h
      refine tk_cV1  rfl rfl (r := 295) (as := [.int o2]) (rest := []) rfl ly295 rfl rfl (ok_fM_isRound sc o2 m ho3) ?_
      by_cases hc4 : o3 = true
      · replace h := tk_ifT hc4 h
        refine tk_bT  rfl rfl tk_eB_eq (c := o3 = true) hc4 (pc' := 19) (ls' := [(0, .ref 295), (1, .int v1)]) (st' := []) ?_
        refine tk_Ps  1 (pc' := 20) (ls' := [(0, .ref 295), (1, .int v1)]) (st' := [.int v1]) rfl ?_
        replace h := Option.some.inj h
        subst h
        exact tk_RI  rfl rfl rfl
      · replace h := tk_ifF hc4 h
        refine tk_bF  rfl rfl tk_eB_eq (c := o3 = true) hc4 (pc' := 21) (ls' := [(0, .ref 295), (1, .int v1)]) (st' := []) ?_
        refine tk_Ps  2 (pc' := 2) (ls' := [(1, .int (v1 + (1 : Int32))), (0, .ref 295)]) (st' := []) rfl ?_
        refine tk_Kp  (ls' := [(0, .ref 295), (1, .int (v1 + (1 : Int32)))]) rfl rfl ?_
        exact ih (v1 + (1 : Int32)) m _ h
theorem ok_fM_stays (sc : tk_X) (m : tk_m) {out : Int32} (h : fM_stays m = some out) : tk_Ru sc 3 214 [.ref 295] (tk_full m) (some (.int out), tk_full m) := by
  unfold fM_stays at h
  refine tk_Ru0 me214 (ls := [(0, .ref 295)]) rfl rfl ?_
  refine tk_Ps  2 (pc' := 2) (ls' := [(1, .int (0 : Int32)), (0, .ref 295)]) (st' := []) rfl ?_
  refine tk_Kp  (ls' := [(0, .ref 295), (1, .int (0 : Int32))]) rfl rfl ?_
  exact ok_fM_stays_2 sc tk_F (0 : Int32) m _ h
theorem ok_fM_bit (sc : tk_X) (a1 : Int32) (a2 : Int32) (m : tk_m) : tk_Ru sc 1 217 [.ref 295, .int a1, .int a2] (tk_full m) (some (.int (fM_bit a1 a2)), tk_full m) := by
  obtain ⟨out, h⟩ : ∃ out, fM_bit a1 a2 = out := ⟨_, rfl⟩
  rw [h]
  unfold fM_bit at h
  refine tk_Ru0 me217 (ls := [(0, .ref 295), (1, .int a1), (2, .int a2)]) rfl rfl ?_
  refine tk_Ps  5 (pc' := 5) (ls' := [(0, .ref 295), (1, .int a1), (2, .int a2)]) (st' := [.int ((tk_ishr a1 a2) &&& (1 : Int32))]) rfl ?_
  by_cases hc1 : ((tk_ishr a1 a2) &&& (1 : Int32)) = 0
  · replace h := tk_ifT hc1 h
    refine tk_bT  rfl rfl rfl (c := ((tk_ishr a1 a2) &&& (1 : Int32)) = 0) hc1 (pc' := 8) (ls' := [(0, .ref 295), (1, .int a1), (2, .int a2)]) (st' := []) ?_
    refine tk_Ps  2 (pc' := 13) (ls' := [(0, .ref 295), (1, .int a1), (2, .int a2)]) (st' := [.int (1 : Int32)]) rfl ?_
    subst h
    exact tk_RI  rfl rfl rfl
  · replace h := tk_ifF hc1 h
    refine tk_bF  rfl rfl rfl (c := ((tk_ishr a1 a2) &&& (1 : Int32)) = 0) hc1 (pc' := 12) (ls' := [(0, .ref 295), (1, .int a1), (2, .int a2)]) (st' := []) ?_
    refine tk_Ps  1 (pc' := 13) (ls' := [(0, .ref 295), (1, .int a1), (2, .int a2)]) (st' := [.int (-1 : Int32)]) rfl ?_
    subst h
    exact tk_RI  rfl rfl rfl
theorem ok_fM_doCount_2 (sc : tk_X) : ∀ (n : Nat) (v1 : Int32) (v2 : Int32) (m : tk_m) (out : Bool), fM_doCount_2 n v1 v2 m = some out → tk_Ex sc 3 tk_r216 tk_k216 2 [(0, .ref 295), (1, .int v1), (2, .int v2)] [] (tk_full m) (some (.int (tk_b out)), tk_full m) := by
  intro n
  induction n with
  | zero =>
    intro v1 v2 m out h
    cases h
  | succ n ih =>
    intro v1 v2 m out h
    unfold fM_doCount_2 at h
    refine tk_Ps  2 (pc' := 4) (ls' := [(0, .ref 295), (1, .int v1), (2, .int v2)]) (st' := [.int (3 : Int32), .int v2]) rfl ?_
    by_cases hc1 : (3 : Int32) ≤ v2
    · replace h := tk_ifT hc1 h
      refine tk_bT  rfl rfl rfl (c := (3 : Int32) ≤ v2) hc1 (pc' := 37) (ls' := [(0, .ref 295), (1, .int v1), (2, .int v2)]) (st' := []) ?_
      refine tk_Ps  1 (pc' := 38) (ls' := [(0, .ref 295), (1, .int v1), (2, .int v2)]) (st' := [.int (1 : Int32)]) rfl ?_
      replace h := Option.some.inj h
      subst h
      exact tk_RB (b := true)  rfl rfl rfl
    · replace h := tk_ifF hc1 h
      refine tk_bF  rfl rfl rfl (c := (3 : Int32) ≤ v2) hc1 (pc' := 7) (ls' := [(0, .ref 295), (1, .int v1), (2, .int v2)]) (st' := []) ?_
      refine tk_Ps  3 (pc' := 10) (ls' := [(0, .ref 295), (1, .int v1), (2, .int v2)]) (st' := [.int v2, .int v1, .ref 295]) rfl ?_
      refine tk_cV1  rfl rfl (r := 295) (as := [.int v1, .int v2]) (rest := []) rfl ly295 rfl rfl (ok_fM_bit sc v1 v2 m) ?_
      by_cases hc2 : 0 ≤ (fM_bit v1 v2)
      · replace h := tk_ifT hc2 h
        refine tk_bT  rfl rfl rfl (c := 0 ≤ (fM_bit v1 v2)) hc2 (pc' := 31) (ls' := [(0, .ref 295), (1, .int v1), (2, .int v2)]) (st' := []) ?_
        refine tk_Ps  2 (pc' := 2) (ls' := [(2, .int (v2 + (1 : Int32))), (0, .ref 295), (1, .int v1)]) (st' := []) rfl ?_
        refine tk_Kp  (ls' := [(0, .ref 295), (1, .int v1), (2, .int (v2 + (1 : Int32)))]) rfl rfl ?_
        exact ih v1 (v2 + (1 : Int32)) m _ h
      · replace h := tk_ifF hc2 h
        refine tk_bF  rfl rfl rfl (c := 0 ≤ (fM_bit v1 v2)) hc2 (pc' := 16) (ls' := [(0, .ref 295), (1, .int v1), (2, .int v2)]) (st' := []) ?_
        refine tk_Ps  3 (pc' := 19) (ls' := [(0, .ref 295), (1, .int v1), (2, .int v2)]) (st' := [.int v2, .ref 295, .ref 295]) rfl ?_
        obtain ⟨o3, ho3, h⟩ := tk_bnd h
        refine tk_cV1  rfl rfl (r := 295) (as := [.int v2]) (rest := [.ref 295]) rfl ly295 rfl rfl (ok_fM_three_I sc v2 m ho3) ?_
        obtain ⟨o4, ho4, h⟩ := tk_bnd h
        refine tk_cV1  rfl rfl (r := 295) (as := [.int o3]) (rest := []) rfl ly295 rfl rfl (ok_fM_kindOf sc o3 m ho4) ?_
        refine tk_Ps  1 (pc' := 26) (ls' := [(0, .ref 295), (1, .int v1), (2, .int v2)]) (st' := [.int (3 : Int32), .int o4]) rfl ?_
        by_cases hc5 : o4 = (3 : Int32)
        · replace h := tk_ifT hc5 h
          refine tk_bT  rfl rfl rfl (c := o4 = (3 : Int32)) hc5 (pc' := 29) (ls' := [(0, .ref 295), (1, .int v1), (2, .int v2)]) (st' := []) ?_
          refine tk_Ps  1 (pc' := 30) (ls' := [(0, .ref 295), (1, .int v1), (2, .int v2)]) (st' := [.int (0 : Int32)]) rfl ?_
          replace h := Option.some.inj h
          subst h
          exact tk_RB (b := false)  rfl rfl rfl
        · replace h := tk_ifF hc5 h
          refine tk_bF  rfl rfl rfl (c := o4 = (3 : Int32)) hc5 (pc' := 31) (ls' := [(0, .ref 295), (1, .int v1), (2, .int v2)]) (st' := []) ?_
          refine tk_Ps  2 (pc' := 2) (ls' := [(2, .int (v2 + (1 : Int32))), (0, .ref 295), (1, .int v1)]) (st' := []) rfl ?_
          refine tk_Kp  (ls' := [(0, .ref 295), (1, .int v1), (2, .int (v2 + (1 : Int32)))]) rfl rfl ?_
          exact ih v1 (v2 + (1 : Int32)) m _ h
theorem ok_fM_doCount (sc : tk_X) (a1 : Int32) (m : tk_m) {out : Bool} (h : fM_doCount a1 m = some out) : tk_Ru sc 4 216 [.ref 295, .int a1] (tk_full m) (some (.int (tk_b out)), tk_full m) := by
  unfold fM_doCount at h
  refine tk_Ru0 me216 (ls := [(0, .ref 295), (1, .int a1)]) rfl rfl ?_
  refine tk_Ps  2 (pc' := 2) (ls' := [(2, .int (0 : Int32)), (0, .ref 295), (1, .int a1)]) (st' := []) rfl ?_
  refine tk_Kp  (ls' := [(0, .ref 295), (1, .int a1), (2, .int (0 : Int32))]) rfl rfl ?_
  exact ok_fM_doCount_2 sc tk_F a1 (0 : Int32) m _ h
theorem ok_fM_takesStraight (sc : tk_X) (a1 : Int32) (a2 : Int32) (m : tk_m) {out : tk_m} (h : fM_takesStraight a1 a2 m = some out) : tk_Ru sc 3 218 [.ref 295, .int a1, .int a2] (tk_full m) (none, tk_full out) := by
  unfold fM_takesStraight at h
  refine tk_Ru0 me218 (ls := [(0, .ref 295), (1, .int a1), (2, .int a2)]) rfl rfl ?_
  refine tk_Ps  2 (pc' := 2) (ls' := [(0, .ref 295), (1, .int a1), (2, .int a2)]) (st' := [.int a2, .ref 295]) rfl ?_
  obtain ⟨o1, ho1, h⟩ := tk_bnd h
  refine tk_cV1  rfl rfl (r := 295) (as := [.int a2]) (rest := []) rfl ly295 rfl rfl (ok_fM_three_I sc a2 m ho1) ?_
  refine tk_Ps  2 (pc' := 7) (ls' := [(3, .int o1), (0, .ref 295), (1, .int a1), (2, .int a2)]) (st' := [.ref 295]) rfl ?_
  refine tk_HR  rfl rfl ly295 rt295_15 ?_
  refine tk_Ps  1 (pc' := 11) (ls' := [(3, .int o1), (0, .ref 295), (1, .int a1), (2, .int a2)]) (st' := [.ref 295, .ref 432]) rfl ?_
  refine tk_HI  rfl rfl ly295 ?_
  obtain ⟨hg2, h⟩ := tk_grd h
  refine tk_HQ  rfl rfl ly432 hg2 (la432 _ (hg2).2).1 ?_
  refine tk_Ps  4 (pc' := 21) (ls' := [(4, .ref (433 + (tk_n (m.1 295 16)))), (3, .int o1), (0, .ref 295), (1, .int a1), (2, .int a2)]) (st' := [.ref 295, .int (0 : Int32), .ref (433 + (tk_n (m.1 295 16)))]) rfl ?_
  refine tk_Hst  rfl rfl ?_
  refine tk_Ps  1 (pc' := 25) (ls' := [(4, .ref (433 + (tk_n (m.1 295 16)))), (3, .int o1), (0, .ref 295), (1, .int a1), (2, .int a2)]) (st' := [.int o1, .ref 1003, .ref 295, .int (0 : Int32), .ref (433 + (tk_n (m.1 295 16)))]) rfl ?_
  obtain ⟨o3, ho3, h⟩ := tk_bnd h
  refine tk_cV1  rfl rfl (r := 295) (as := [.ref 1003, .int o1]) (rest := [.int (0 : Int32), .ref (433 + (tk_n (m.1 295 16)))]) rfl ly295 rfl rfl (ok_fM_slant sc 1003 o1 m (by decide) ho3) ?_
  refine tk_Ps  1 (pc' := 29) (ls' := [(4, .ref (433 + (tk_n (m.1 295 16)))), (3, .int o1), (0, .ref 295), (1, .int a1), (2, .int a2)]) (st' := [.long (Int32.toInt64 o3), .int (0 : Int32), .ref (433 + (tk_n (m.1 295 16)))]) rfl ?_
  refine tk_SJa  rfl rfl ((la432 _ (hg2).2).2) (by decide) ?_
  refine tk_Ps  3 (pc' := 34) (ls' := [(4, .ref (433 + (tk_n (m.1 295 16)))), (3, .int o1), (0, .ref 295), (1, .int a1), (2, .int a2)]) (st' := [.ref 295, .int (1 : Int32), .ref (433 + (tk_n (m.1 295 16)))]) rfl ?_
  refine tk_Hst  rfl rfl ?_
  refine tk_Ps  1 (pc' := 38) (ls' := [(4, .ref (433 + (tk_n (m.1 295 16)))), (3, .int o1), (0, .ref 295), (1, .int a1), (2, .int a2)]) (st' := [.int o1, .ref 1004, .ref 295, .int (1 : Int32), .ref (433 + (tk_n (m.1 295 16)))]) rfl ?_
  obtain ⟨o4, ho4, h⟩ := tk_bnd h
  refine tk_cV1  rfl rfl (r := 295) (as := [.ref 1004, .int o1]) (rest := [.int (1 : Int32), .ref (433 + (tk_n (m.1 295 16)))]) rfl ly295 rfl rfl (ok_fM_slant sc 1004 o1 (m.1, tk_u2 m.2.1 (433 + (tk_n (m.1 295 16))) 0 (Int32.toInt64 o3), m.2.2.1, m.2.2.2) (by decide) ho4) ?_
  refine tk_Ps  1 (pc' := 42) (ls' := [(4, .ref (433 + (tk_n (m.1 295 16)))), (3, .int o1), (0, .ref 295), (1, .int a1), (2, .int a2)]) (st' := [.long (Int32.toInt64 o4), .int (1 : Int32), .ref (433 + (tk_n (m.1 295 16)))]) rfl ?_
  refine tk_SJa  rfl rfl ((la432 _ (hg2).2).2) (by decide) ?_
  refine tk_Ps  5 (pc' := 49) (ls' := [(4, .ref (433 + (tk_n (m.1 295 16)))), (3, .int o1), (0, .ref 295), (1, .int a1), (2, .int a2)]) (st' := [.int a2, .int a1, .ref 295, .int (2 : Int32), .ref (433 + (tk_n (m.1 295 16)))]) rfl ?_
  refine tk_cV1  rfl rfl (r := 295) (as := [.int a1, .int a2]) (rest := [.int (2 : Int32), .ref (433 + (tk_n (m.1 295 16)))]) rfl ly295 rfl rfl (ok_fM_bit sc a1 a2 (m.1, tk_u2 (tk_u2 m.2.1 (433 + (tk_n (m.1 295 16))) 0 (Int32.toInt64 o3)) (433 + (tk_n (m.1 295 16))) 1 (Int32.toInt64 o4), m.2.2.1, m.2.2.2)) ?_
  refine tk_Ps  2 (pc' := 54) (ls' := [(4, .ref (433 + (tk_n (m.1 295 16)))), (3, .int o1), (0, .ref 295), (1, .int a1), (2, .int a2)]) (st' := [.ref 295, .int (-(fM_bit a1 a2)), .int (2 : Int32), .ref (433 + (tk_n (m.1 295 16)))]) rfl ?_
  refine tk_Hst  rfl rfl ?_
  refine tk_Ps  1 (pc' := 58) (ls' := [(4, .ref (433 + (tk_n (m.1 295 16)))), (3, .int o1), (0, .ref 295), (1, .int a1), (2, .int a2)]) (st' := [.int o1, .ref 1005, .ref 295, .int (-(fM_bit a1 a2)), .int (2 : Int32), .ref (433 + (tk_n (m.1 295 16)))]) rfl ?_
  obtain ⟨o5, ho5, h⟩ := tk_bnd h
  refine tk_cV1  rfl rfl (r := 295) (as := [.ref 1005, .int o1]) (rest := [.int (-(fM_bit a1 a2)), .int (2 : Int32), .ref (433 + (tk_n (m.1 295 16)))]) rfl ly295 rfl rfl (ok_fM_slant sc 1005 o1 (m.1, tk_u2 (tk_u2 m.2.1 (433 + (tk_n (m.1 295 16))) 0 (Int32.toInt64 o3)) (433 + (tk_n (m.1 295 16))) 1 (Int32.toInt64 o4), m.2.2.1, m.2.2.2) (by decide) ho5) ?_
  refine tk_Ps  2 (pc' := 63) (ls' := [(4, .ref (433 + (tk_n (m.1 295 16)))), (3, .int o1), (0, .ref 295), (1, .int a1), (2, .int a2)]) (st' := [.long (Int32.toInt64 ((-(fM_bit a1 a2)) * o5)), .int (2 : Int32), .ref (433 + (tk_n (m.1 295 16)))]) rfl ?_
  refine tk_SJa  rfl rfl ((la432 _ (hg2).2).2) (by decide) ?_
  refine tk_Ps  6 (pc' := 71) (ls' := [(4, .ref (433 + (tk_n (m.1 295 16)))), (3, .int o1), (0, .ref 295), (1, .int a1), (2, .int a2)]) (st' := [.int (2 : Int32), .int o1, .ref 295, .int (2 : Int32), .int (3 : Int32), .ref (433 + (tk_n (m.1 295 16)))]) rfl ?_
  obtain ⟨o6, ho6, h⟩ := tk_bnd h
  refine tk_cV1  rfl rfl (r := 295) (as := [.int o1, .int (2 : Int32)]) (rest := [.int (2 : Int32), .int (3 : Int32), .ref (433 + (tk_n (m.1 295 16)))]) rfl ly295 rfl rfl (ok_fM_of0 sc o1 (2 : Int32) (m.1, tk_u2 (tk_u2 (tk_u2 m.2.1 (433 + (tk_n (m.1 295 16))) 0 (Int32.toInt64 o3)) (433 + (tk_n (m.1 295 16))) 1 (Int32.toInt64 o4)) (433 + (tk_n (m.1 295 16))) 2 (Int32.toInt64 ((-(fM_bit a1 a2)) * o5)), m.2.2.1, m.2.2.2) ho6) ?_
  refine tk_Ps  2 (pc' := 76) (ls' := [(4, .ref (433 + (tk_n (m.1 295 16)))), (3, .int o1), (0, .ref 295), (1, .int a1), (2, .int a2)]) (st' := [.long (Int32.toInt64 ((2 : Int32) * o6)), .int (3 : Int32), .ref (433 + (tk_n (m.1 295 16)))]) rfl ?_
  refine tk_SJa  rfl rfl ((la432 _ (hg2).2).2) (by decide) ?_
  refine tk_Ps  2 (pc' := 79) (ls' := [(4, .ref (433 + (tk_n (m.1 295 16)))), (3, .int o1), (0, .ref 295), (1, .int a1), (2, .int a2)]) (st' := [.ref 295, .ref 295]) rfl ?_
  refine tk_HI  rfl rfl ly295 ?_
  refine tk_Ps  2 (pc' := 84) (ls' := [(4, .ref (433 + (tk_n (m.1 295 16)))), (3, .int o1), (0, .ref 295), (1, .int a1), (2, .int a2)]) (st' := [.int ((m.1 295 16) + (1 : Int32)), .ref 295]) rfl ?_
  refine tk_SI  rfl rfl ly295 ?_
  replace h := Option.some.inj h
  subst h
  exact tk_RV  rfl rfl rfl
theorem ok_fM_takesRound (sc : tk_X) (a1 : Int32) (a2 : Int32) (a3 : Int32) (m : tk_m) {out : tk_m} (h : fM_takesRound a1 a2 a3 m = some out) : tk_Ru sc 4 219 [.ref 295, .int a1, .int a2, .int a3] (tk_full m) (none, tk_full out) := by
  unfold fM_takesRound at h
  refine tk_Ru0 me219 (ls := [(0, .ref 295), (1, .int a1), (2, .int a2), (3, .int a3)]) rfl rfl ?_
  refine tk_Ps  2 (pc' := 2) (ls' := [(0, .ref 295), (1, .int a1), (2, .int a2), (3, .int a3)]) (st' := [.int a2, .ref 295]) rfl ?_
  obtain ⟨o1, ho1, h⟩ := tk_bnd h
  refine tk_cV1  rfl rfl (r := 295) (as := [.int a2]) (rest := []) rfl ly295 rfl rfl (ok_fM_three_I sc a2 m ho1) ?_
  refine tk_Ps  3 (pc' := 9) (ls' := [(4, .int o1), (0, .ref 295), (1, .int a1), (2, .int a2), (3, .int a3)]) (st' := [.int a3, .ref 295]) rfl ?_
  obtain ⟨o2, ho2, h⟩ := tk_bnd h
  refine tk_cV1  rfl rfl (r := 295) (as := [.int a3]) (rest := []) rfl ly295 rfl rfl (ok_fM_three_I sc a3 m ho2) ?_
  refine tk_Ps  2 (pc' := 15) (ls' := [(5, .int o2), (4, .int o1), (0, .ref 295), (1, .int a1), (2, .int a2), (3, .int a3)]) (st' := [.ref 295]) rfl ?_
  refine tk_HR  rfl rfl ly295 rt295_15 ?_
  refine tk_Ps  1 (pc' := 19) (ls' := [(5, .int o2), (4, .int o1), (0, .ref 295), (1, .int a1), (2, .int a2), (3, .int a3)]) (st' := [.ref 295, .ref 432]) rfl ?_
  refine tk_HI  rfl rfl ly295 ?_
  obtain ⟨hg3, h⟩ := tk_grd h
  refine tk_HQ  rfl rfl ly432 hg3 (la432 _ (hg3).2).1 ?_
  refine tk_Ps  6 (pc' := 32) (ls' := [(6, .ref (433 + (tk_n (m.1 295 16)))), (5, .int o2), (4, .int o1), (0, .ref 295), (1, .int a1), (2, .int a2), (3, .int a3)]) (st' := [.int (1 : Int32), .int o1, .ref 295, .int (0 : Int32), .ref (433 + (tk_n (m.1 295 16)))]) rfl ?_
  obtain ⟨o4, ho4, h⟩ := tk_bnd h
  refine tk_cV1  rfl rfl (r := 295) (as := [.int o1, .int (1 : Int32)]) (rest := [.int (0 : Int32), .ref (433 + (tk_n (m.1 295 16)))]) rfl ly295 rfl rfl (ok_fM_of0 sc o1 (1 : Int32) m ho4) ?_
  refine tk_Ps  3 (pc' := 39) (ls' := [(6, .ref (433 + (tk_n (m.1 295 16)))), (5, .int o2), (4, .int o1), (0, .ref 295), (1, .int a1), (2, .int a2), (3, .int a3)]) (st' := [.int (1 : Int32), .int o2, .ref 295, .int o4, .int (0 : Int32), .ref (433 + (tk_n (m.1 295 16)))]) rfl ?_
  obtain ⟨o5, ho5, h⟩ := tk_bnd h
  refine tk_cV1  rfl rfl (r := 295) (as := [.int o2, .int (1 : Int32)]) (rest := [.int o4, .int (0 : Int32), .ref (433 + (tk_n (m.1 295 16)))]) rfl ly295 rfl rfl (ok_fM_of0 sc o2 (1 : Int32) m ho5) ?_
  refine tk_Ps  2 (pc' := 44) (ls' := [(6, .ref (433 + (tk_n (m.1 295 16)))), (5, .int o2), (4, .int o1), (0, .ref 295), (1, .int a1), (2, .int a2), (3, .int a3)]) (st' := [.long (Int32.toInt64 (o4 - o5)), .int (0 : Int32), .ref (433 + (tk_n (m.1 295 16)))]) rfl ?_
  refine tk_SJa  rfl rfl ((la432 _ (hg3).2).2) (by decide) ?_
  refine tk_Ps  5 (pc' := 52) (ls' := [(6, .ref (433 + (tk_n (m.1 295 16)))), (5, .int o2), (4, .int o1), (0, .ref 295), (1, .int a1), (2, .int a2), (3, .int a3)]) (st' := [.int (2 : Int32), .int o1, .ref 295, .int (1 : Int32), .ref (433 + (tk_n (m.1 295 16)))]) rfl ?_
  obtain ⟨o6, ho6, h⟩ := tk_bnd h
  refine tk_cV1  rfl rfl (r := 295) (as := [.int o1, .int (2 : Int32)]) (rest := [.int (1 : Int32), .ref (433 + (tk_n (m.1 295 16)))]) rfl ly295 rfl rfl (ok_fM_of0 sc o1 (2 : Int32) (m.1, tk_u2 m.2.1 (433 + (tk_n (m.1 295 16))) 0 (Int32.toInt64 (o4 - o5)), m.2.2.1, m.2.2.2) ho6) ?_
  refine tk_Ps  3 (pc' := 59) (ls' := [(6, .ref (433 + (tk_n (m.1 295 16)))), (5, .int o2), (4, .int o1), (0, .ref 295), (1, .int a1), (2, .int a2), (3, .int a3)]) (st' := [.int (2 : Int32), .int o2, .ref 295, .int o6, .int (1 : Int32), .ref (433 + (tk_n (m.1 295 16)))]) rfl ?_
  obtain ⟨o7, ho7, h⟩ := tk_bnd h
  refine tk_cV1  rfl rfl (r := 295) (as := [.int o2, .int (2 : Int32)]) (rest := [.int o6, .int (1 : Int32), .ref (433 + (tk_n (m.1 295 16)))]) rfl ly295 rfl rfl (ok_fM_of0 sc o2 (2 : Int32) (m.1, tk_u2 m.2.1 (433 + (tk_n (m.1 295 16))) 0 (Int32.toInt64 (o4 - o5)), m.2.2.1, m.2.2.2) ho7) ?_
  refine tk_Ps  2 (pc' := 64) (ls' := [(6, .ref (433 + (tk_n (m.1 295 16)))), (5, .int o2), (4, .int o1), (0, .ref 295), (1, .int a1), (2, .int a2), (3, .int a3)]) (st' := [.long (Int32.toInt64 (o6 - o7)), .int (1 : Int32), .ref (433 + (tk_n (m.1 295 16)))]) rfl ?_
  refine tk_SJa  rfl rfl ((la432 _ (hg3).2).2) (by decide) ?_
  refine tk_Ps  5 (pc' := 71) (ls' := [(6, .ref (433 + (tk_n (m.1 295 16)))), (5, .int o2), (4, .int o1), (0, .ref 295), (1, .int a1), (2, .int a2), (3, .int a3)]) (st' := [.int a3, .int a1, .ref 295, .int (2 : Int32), .ref (433 + (tk_n (m.1 295 16)))]) rfl ?_
  refine tk_cV1  rfl rfl (r := 295) (as := [.int a1, .int a3]) (rest := [.int (2 : Int32), .ref (433 + (tk_n (m.1 295 16)))]) rfl ly295 rfl rfl (ok_fM_bit sc a1 a3 (m.1, tk_u2 (tk_u2 m.2.1 (433 + (tk_n (m.1 295 16))) 0 (Int32.toInt64 (o4 - o5))) (433 + (tk_n (m.1 295 16))) 1 (Int32.toInt64 (o6 - o7)), m.2.2.1, m.2.2.2)) ?_
  refine tk_Ps  3 (pc' := 78) (ls' := [(6, .ref (433 + (tk_n (m.1 295 16)))), (5, .int o2), (4, .int o1), (0, .ref 295), (1, .int a1), (2, .int a2), (3, .int a3)]) (st' := [.int (3 : Int32), .int o2, .ref 295, .int (fM_bit a1 a3), .int (2 : Int32), .ref (433 + (tk_n (m.1 295 16)))]) rfl ?_
  obtain ⟨o8, ho8, h⟩ := tk_bnd h
  refine tk_cV1  rfl rfl (r := 295) (as := [.int o2, .int (3 : Int32)]) (rest := [.int (fM_bit a1 a3), .int (2 : Int32), .ref (433 + (tk_n (m.1 295 16)))]) rfl ly295 rfl rfl (ok_fM_of0 sc o2 (3 : Int32) (m.1, tk_u2 (tk_u2 m.2.1 (433 + (tk_n (m.1 295 16))) 0 (Int32.toInt64 (o4 - o5))) (433 + (tk_n (m.1 295 16))) 1 (Int32.toInt64 (o6 - o7)), m.2.2.1, m.2.2.2) ho8) ?_
  refine tk_Ps  4 (pc' := 85) (ls' := [(6, .ref (433 + (tk_n (m.1 295 16)))), (5, .int o2), (4, .int o1), (0, .ref 295), (1, .int a1), (2, .int a2), (3, .int a3)]) (st' := [.int a2, .int a1, .ref 295, .int ((fM_bit a1 a3) * o8), .int (2 : Int32), .ref (433 + (tk_n (m.1 295 16)))]) rfl ?_
  refine tk_cV1  rfl rfl (r := 295) (as := [.int a1, .int a2]) (rest := [.int ((fM_bit a1 a3) * o8), .int (2 : Int32), .ref (433 + (tk_n (m.1 295 16)))]) rfl ly295 rfl rfl (ok_fM_bit sc a1 a2 (m.1, tk_u2 (tk_u2 m.2.1 (433 + (tk_n (m.1 295 16))) 0 (Int32.toInt64 (o4 - o5))) (433 + (tk_n (m.1 295 16))) 1 (Int32.toInt64 (o6 - o7)), m.2.2.1, m.2.2.2)) ?_
  refine tk_Ps  3 (pc' := 92) (ls' := [(6, .ref (433 + (tk_n (m.1 295 16)))), (5, .int o2), (4, .int o1), (0, .ref 295), (1, .int a1), (2, .int a2), (3, .int a3)]) (st' := [.int (3 : Int32), .int o1, .ref 295, .int (fM_bit a1 a2), .int ((fM_bit a1 a3) * o8), .int (2 : Int32), .ref (433 + (tk_n (m.1 295 16)))]) rfl ?_
  obtain ⟨o9, ho9, h⟩ := tk_bnd h
  refine tk_cV1  rfl rfl (r := 295) (as := [.int o1, .int (3 : Int32)]) (rest := [.int (fM_bit a1 a2), .int ((fM_bit a1 a3) * o8), .int (2 : Int32), .ref (433 + (tk_n (m.1 295 16)))]) rfl ly295 rfl rfl (ok_fM_of0 sc o1 (3 : Int32) (m.1, tk_u2 (tk_u2 m.2.1 (433 + (tk_n (m.1 295 16))) 0 (Int32.toInt64 (o4 - o5))) (433 + (tk_n (m.1 295 16))) 1 (Int32.toInt64 (o6 - o7)), m.2.2.1, m.2.2.2) ho9) ?_
  refine tk_Ps  3 (pc' := 98) (ls' := [(6, .ref (433 + (tk_n (m.1 295 16)))), (5, .int o2), (4, .int o1), (0, .ref 295), (1, .int a1), (2, .int a2), (3, .int a3)]) (st' := [.long (Int32.toInt64 (((fM_bit a1 a3) * o8) - ((fM_bit a1 a2) * o9))), .int (2 : Int32), .ref (433 + (tk_n (m.1 295 16)))]) rfl ?_
  refine tk_SJa  rfl rfl ((la432 _ (hg3).2).2) (by decide) ?_
  refine tk_Ps  5 (pc' := 106) (ls' := [(6, .ref (433 + (tk_n (m.1 295 16)))), (5, .int o2), (4, .int o1), (0, .ref 295), (1, .int a1), (2, .int a2), (3, .int a3)]) (st' := [.int (3 : Int32), .int o1, .ref 295, .int (3 : Int32), .ref (433 + (tk_n (m.1 295 16)))]) rfl ?_
  obtain ⟨o10, ho10, h⟩ := tk_bnd h
  refine tk_cV1  rfl rfl (r := 295) (as := [.int o1, .int (3 : Int32)]) (rest := [.int (3 : Int32), .ref (433 + (tk_n (m.1 295 16)))]) rfl ly295 rfl rfl (ok_fM_form sc o1 (3 : Int32) (m.1, tk_u2 (tk_u2 (tk_u2 m.2.1 (433 + (tk_n (m.1 295 16))) 0 (Int32.toInt64 (o4 - o5))) (433 + (tk_n (m.1 295 16))) 1 (Int32.toInt64 (o6 - o7))) (433 + (tk_n (m.1 295 16))) 2 (Int32.toInt64 (((fM_bit a1 a3) * o8) - ((fM_bit a1 a2) * o9))), m.2.2.1, m.2.2.2) ho10) ?_
  refine tk_Ps  3 (pc' := 113) (ls' := [(6, .ref (433 + (tk_n (m.1 295 16)))), (5, .int o2), (4, .int o1), (0, .ref 295), (1, .int a1), (2, .int a2), (3, .int a3)]) (st' := [.int (3 : Int32), .int o2, .ref 295, .int o10, .int (3 : Int32), .ref (433 + (tk_n (m.1 295 16)))]) rfl ?_
  obtain ⟨o11, ho11, h⟩ := tk_bnd h
  refine tk_cV1  rfl rfl (r := 295) (as := [.int o2, .int (3 : Int32)]) (rest := [.int o10, .int (3 : Int32), .ref (433 + (tk_n (m.1 295 16)))]) rfl ly295 rfl rfl (ok_fM_form sc o2 (3 : Int32) (m.1, tk_u2 (tk_u2 (tk_u2 m.2.1 (433 + (tk_n (m.1 295 16))) 0 (Int32.toInt64 (o4 - o5))) (433 + (tk_n (m.1 295 16))) 1 (Int32.toInt64 (o6 - o7))) (433 + (tk_n (m.1 295 16))) 2 (Int32.toInt64 (((fM_bit a1 a3) * o8) - ((fM_bit a1 a2) * o9))), m.2.2.1, m.2.2.2) ho11) ?_
  refine tk_Ps  2 (pc' := 118) (ls' := [(6, .ref (433 + (tk_n (m.1 295 16)))), (5, .int o2), (4, .int o1), (0, .ref 295), (1, .int a1), (2, .int a2), (3, .int a3)]) (st' := [.long (Int32.toInt64 (o10 - o11)), .int (3 : Int32), .ref (433 + (tk_n (m.1 295 16)))]) rfl ?_
  refine tk_SJa  rfl rfl ((la432 _ (hg3).2).2) (by decide) ?_
  refine tk_Ps  2 (pc' := 121) (ls' := [(6, .ref (433 + (tk_n (m.1 295 16)))), (5, .int o2), (4, .int o1), (0, .ref 295), (1, .int a1), (2, .int a2), (3, .int a3)]) (st' := [.ref 295, .ref 295]) rfl ?_
  refine tk_HI  rfl rfl ly295 ?_
  refine tk_Ps  2 (pc' := 126) (ls' := [(6, .ref (433 + (tk_n (m.1 295 16)))), (5, .int o2), (4, .int o1), (0, .ref 295), (1, .int a1), (2, .int a2), (3, .int a3)]) (st' := [.int ((m.1 295 16) + (1 : Int32)), .ref 295]) rfl ?_
  refine tk_SI  rfl rfl ly295 ?_
  replace h := Option.some.inj h
  subst h
  exact tk_RV  rfl rfl rfl
theorem ok_fM_crosses_2 (sc : tk_X) : ∀ (n : Nat) (v0 : Nat) (v1 : Nat) (v2 : Nat) (v3 : Int32) (m : tk_m) (hv0 : tk_lay[v0]? = some (.inr (1, tk_al v0))) (hv1 : tk_lay[v1]? = some (.inr (1, tk_al v1))) (hv2 : tk_lay[v2]? = some (.inr (1, tk_al v2))) (out : tk_m), fM_crosses_2 n v0 v1 v2 v3 m = some out → tk_Ex sc 0 tk_r221 tk_k221 2 [(0, .ref v0), (1, .ref v1), (2, .ref v2), (3, .int v3)] [] (tk_full m) (none, tk_full out) := by
  intro n
  induction n with
  | zero =>
    intro v0 v1 v2 v3 m hv0 hv1 hv2 out h
    cases h
  | succ n ih =>
    intro v0 v1 v2 v3 m hv0 hv1 hv2 out h
    unfold fM_crosses_2 at h
    refine tk_Ps  2 (pc' := 4) (ls' := [(0, .ref v0), (1, .ref v1), (2, .ref v2), (3, .int v3)]) (st' := [.int (3 : Int32), .int v3]) rfl ?_
    by_cases hc1 : (3 : Int32) ≤ v3
    · replace h := tk_ifT hc1 h
      refine tk_bT  rfl rfl rfl (c := (3 : Int32) ≤ v3) hc1 (pc' := 47) (ls' := [(0, .ref v0), (1, .ref v1), (2, .ref v2), (3, .int v3)]) (st' := []) ?_
      replace h := Option.some.inj h
      subst h
      exact tk_RV  rfl rfl rfl
    · replace h := tk_ifF hc1 h
      refine tk_bF  rfl rfl rfl (c := (3 : Int32) ≤ v3) hc1 (pc' := 7) (ls' := [(0, .ref v0), (1, .ref v1), (2, .ref v2), (3, .int v3)]) (st' := []) ?_
      refine tk_Ps  8 (pc' := 15) (ls' := [(0, .ref v0), (1, .ref v1), (2, .ref v2), (3, .int v3)]) (st' := [.int (tk_irem (v3 + (1 : Int32)) (3 : Int32)), .ref v0, .int v3, .ref v2]) rfl ?_
      obtain ⟨hg2, h⟩ := tk_grd h
      refine tk_HJa  rfl rfl hv0 hg2 ?_
      refine tk_Ps  6 (pc' := 22) (ls' := [(0, .ref v0), (1, .ref v1), (2, .ref v2), (3, .int v3)]) (st' := [.int (tk_irem (v3 + (2 : Int32)) (3 : Int32)), .ref v1, .long (m.2.1 v0 (tk_n (tk_irem (v3 + (1 : Int32)) (3 : Int32)))), .int v3, .ref v2]) rfl ?_
      obtain ⟨hg3, h⟩ := tk_grd h
      refine tk_HJa  rfl rfl hv1 hg3 ?_
      refine tk_Ps  7 (pc' := 30) (ls' := [(0, .ref v0), (1, .ref v1), (2, .ref v2), (3, .int v3)]) (st' := [.int (tk_irem (v3 + (2 : Int32)) (3 : Int32)), .ref v0, .long ((m.2.1 v0 (tk_n (tk_irem (v3 + (1 : Int32)) (3 : Int32)))) * (m.2.1 v1 (tk_n (tk_irem (v3 + (2 : Int32)) (3 : Int32))))), .int v3, .ref v2]) rfl ?_
      obtain ⟨hg4, h⟩ := tk_grd h
      refine tk_HJa  rfl rfl hv0 hg4 ?_
      refine tk_Ps  6 (pc' := 37) (ls' := [(0, .ref v0), (1, .ref v1), (2, .ref v2), (3, .int v3)]) (st' := [.int (tk_irem (v3 + (1 : Int32)) (3 : Int32)), .ref v1, .long (m.2.1 v0 (tk_n (tk_irem (v3 + (2 : Int32)) (3 : Int32)))), .long ((m.2.1 v0 (tk_n (tk_irem (v3 + (1 : Int32)) (3 : Int32)))) * (m.2.1 v1 (tk_n (tk_irem (v3 + (2 : Int32)) (3 : Int32))))), .int v3, .ref v2]) rfl ?_
      obtain ⟨hg5, h⟩ := tk_grd h
      refine tk_HJa  rfl rfl hv1 hg5 ?_
      refine tk_Ps  2 (pc' := 40) (ls' := [(0, .ref v0), (1, .ref v1), (2, .ref v2), (3, .int v3)]) (st' := [.long (((m.2.1 v0 (tk_n (tk_irem (v3 + (1 : Int32)) (3 : Int32)))) * (m.2.1 v1 (tk_n (tk_irem (v3 + (2 : Int32)) (3 : Int32))))) - ((m.2.1 v0 (tk_n (tk_irem (v3 + (2 : Int32)) (3 : Int32)))) * (m.2.1 v1 (tk_n (tk_irem (v3 + (1 : Int32)) (3 : Int32)))))), .int v3, .ref v2]) rfl ?_
      obtain ⟨hg6, h⟩ := tk_grd h
      refine tk_SJa  rfl rfl hv2 hg6 ?_
      refine tk_Ps  2 (pc' := 2) (ls' := [(3, .int (v3 + (1 : Int32))), (0, .ref v0), (1, .ref v1), (2, .ref v2)]) (st' := []) rfl ?_
      refine tk_Kp  (ls' := [(0, .ref v0), (1, .ref v1), (2, .ref v2), (3, .int (v3 + (1 : Int32)))]) rfl rfl ?_
      exact ih v0 v1 v2 (v3 + (1 : Int32)) (m.1, tk_u2 m.2.1 v2 (tk_n v3) (((m.2.1 v0 (tk_n (tk_irem (v3 + (1 : Int32)) (3 : Int32)))) * (m.2.1 v1 (tk_n (tk_irem (v3 + (2 : Int32)) (3 : Int32))))) - ((m.2.1 v0 (tk_n (tk_irem (v3 + (2 : Int32)) (3 : Int32)))) * (m.2.1 v1 (tk_n (tk_irem (v3 + (1 : Int32)) (3 : Int32)))))), m.2.2.1, m.2.2.2) (tk_al_of hv0) (tk_al_of hv1) (tk_al_of hv2) _ h
theorem ok_fM_crosses (sc : tk_X) (a1 : Nat) (a2 : Nat) (a3 : Nat) (m : tk_m) (ha1 : tk_lay[a1]? = some (.inr (1, tk_al a1))) (ha2 : tk_lay[a2]? = some (.inr (1, tk_al a2))) (ha3 : tk_lay[a3]? = some (.inr (1, tk_al a3))) {out : tk_m} (h : fM_crosses a1 a2 a3 m = some out) : tk_Ru sc 1 221 [.ref a1, .ref a2, .ref a3] (tk_full m) (none, tk_full out) := by
  unfold fM_crosses at h
  refine tk_Ru0 me221 (ls := [(0, .ref a1), (1, .ref a2), (2, .ref a3)]) rfl rfl ?_
  refine tk_Ps  2 (pc' := 2) (ls' := [(3, .int (0 : Int32)), (0, .ref a1), (1, .ref a2), (2, .ref a3)]) (st' := []) rfl ?_
  refine tk_Kp  (ls' := [(0, .ref a1), (1, .ref a2), (2, .ref a3), (3, .int (0 : Int32))]) rfl rfl ?_
  exact ok_fM_crosses_2 sc tk_F a1 a2 a3 (0 : Int32) m (tk_al_of ha1) (tk_al_of ha2) (tk_al_of ha3) _ h
theorem ok_fM_below_28 (sc : tk_X) : ∀ (n : Nat) (v4 : Int64) (v6 : Int64) (m : tk_m) (out : Int64), fM_below_28 n v4 v6 = some out → tk_Ex sc 0 tk_r223 tk_k223 28 [(4, .long v4), (6, .long v6)] [] (tk_full m) (some (.long out), tk_full m) := by
  intro n
  induction n with
  | zero =>
    intro v4 v6 m out h
    cases h
  | succ n ih =>
    intro v4 v6 m out h
    unfold fM_below_28 at h
    refine tk_Ps  3 (pc' := 32) (ls' := [(4, .long v4), (6, .long v6)]) (st' := [.int (lg_cmp v6 (0 : Int64))]) rfl ?_
    by_cases hc1 : v6 = (0 : Int64)
    · replace h := tk_ifT hc1 h
      refine tk_bT  rfl rfl tk_eL_eq (c := v6 = (0 : Int64)) hc1 (pc' := 53) (ls' := [(4, .long v4), (6, .long v6)]) (st' := []) ?_
      refine tk_Ps  1 (pc' := 55) (ls' := [(4, .long v4), (6, .long v6)]) (st' := [.long v4]) rfl ?_
      replace h := Option.some.inj h
      subst h
      exact tk_RJ  rfl rfl rfl
    · replace h := tk_ifF hc1 h
      refine tk_bF  rfl rfl tk_eL_eq (c := v6 = (0 : Int64)) hc1 (pc' := 35) (ls' := [(4, .long v4), (6, .long v6)]) (st' := []) ?_
      refine tk_Ps  2 (pc' := 39) (ls' := [(4, .long v4), (6, .long v6)]) (st' := [.long v6, .long v4]) rfl ?_
      obtain ⟨hz2, h⟩ := tk_grn h
      refine tk_lremR  rfl rfl hz2 ?_
      refine tk_Ps  6 (pc' := 28) (ls' := [(6, .long (tk_lrem v4 v6)), (4, .long v6), (8, .long (tk_lrem v4 v6))]) (st' := []) rfl ?_
      refine tk_Kp  (ls' := [(4, .long v6), (6, .long (tk_lrem v4 v6))]) rfl rfl ?_
      exact ih v6 (tk_lrem v4 v6) m _ h
theorem ok_fM_below (sc : tk_X) (a1 : Int64) (a2 : Int64) (m : tk_m) {out : Int64} (h : fM_below a1 a2 = some out) : tk_Ru sc 1 223 [.long a1, .long a2] (tk_full m) (some (.long out), tk_full m) := by
  unfold fM_below at h
  refine tk_Ru0 me223 (ls := [(0, .long a1), (2, .long a2)]) rfl rfl ?_
  refine tk_Ps  3 (pc' := 3) (ls' := [(0, .long a1), (2, .long a2)]) (st' := [.int (lg_cmp a1 (0 : Int64))]) rfl ?_
  by_cases hc1 : (0 : Int64) ≤ a1
  · replace h := tk_ifT hc1 h
    refine tk_bT  rfl rfl tk_eL_ge (c := (0 : Int64) ≤ a1) hc1 (pc' := 10) (ls' := [(0, .long a1), (2, .long a2)]) (st' := []) ?_
    refine tk_Ps  6 (pc' := 17) (ls' := [(4, .long (-a1)), (0, .long a1), (2, .long a2)]) (st' := [.int (lg_cmp a2 (0 : Int64))]) rfl ?_
    by_cases hc2 : (0 : Int64) ≤ a2
    · replace h := tk_ifT hc2 h
      refine tk_bT  rfl rfl tk_eL_ge (c := (0 : Int64) ≤ a2) hc2 (pc' := 24) (ls' := [(4, .long (-a1)), (0, .long a1), (2, .long a2)]) (st' := []) ?_
      refine tk_Ps  3 (pc' := 28) (ls' := [(6, .long (-a2)), (4, .long (-a1)), (0, .long a1), (2, .long a2)]) (st' := []) rfl ?_
      refine tk_Kp  (ls' := [(4, .long (-a1)), (6, .long (-a2))]) rfl rfl ?_
      exact ok_fM_below_28 sc tk_F (-a1) (-a2) m _ h
    · replace h := tk_ifF hc2 h
      refine tk_bF  rfl rfl tk_eL_ge (c := (0 : Int64) ≤ a2) hc2 (pc' := 20) (ls' := [(4, .long (-a1)), (0, .long a1), (2, .long a2)]) (st' := []) ?_
      refine tk_Ps  3 (pc' := 28) (ls' := [(6, .long a2), (4, .long (-a1)), (0, .long a1), (2, .long a2)]) (st' := []) rfl ?_
      refine tk_Kp  (ls' := [(4, .long (-a1)), (6, .long a2)]) rfl rfl ?_
      exact ok_fM_below_28 sc tk_F (-a1) a2 m _ h
  · replace h := tk_ifF hc1 h
    refine tk_bF  rfl rfl tk_eL_ge (c := (0 : Int64) ≤ a1) hc1 (pc' := 6) (ls' := [(0, .long a1), (2, .long a2)]) (st' := []) ?_
    refine tk_Ps  6 (pc' := 17) (ls' := [(4, .long a1), (0, .long a1), (2, .long a2)]) (st' := [.int (lg_cmp a2 (0 : Int64))]) rfl ?_
    by_cases hc3 : (0 : Int64) ≤ a2
    · replace h := tk_ifT hc3 h
      refine tk_bT  rfl rfl tk_eL_ge (c := (0 : Int64) ≤ a2) hc3 (pc' := 24) (ls' := [(4, .long a1), (0, .long a1), (2, .long a2)]) (st' := []) ?_
      refine tk_Ps  3 (pc' := 28) (ls' := [(6, .long (-a2)), (4, .long a1), (0, .long a1), (2, .long a2)]) (st' := []) rfl ?_
      refine tk_Kp  (ls' := [(4, .long a1), (6, .long (-a2))]) rfl rfl ?_
      exact ok_fM_below_28 sc tk_F a1 (-a2) m _ h
    · replace h := tk_ifF hc3 h
      refine tk_bF  rfl rfl tk_eL_ge (c := (0 : Int64) ≤ a2) hc3 (pc' := 20) (ls' := [(4, .long a1), (0, .long a1), (2, .long a2)]) (st' := []) ?_
      refine tk_Ps  3 (pc' := 28) (ls' := [(6, .long a2), (4, .long a1), (0, .long a1), (2, .long a2)]) (st' := []) rfl ?_
      refine tk_Kp  (ls' := [(4, .long a1), (6, .long a2)]) rfl rfl ?_
      exact ok_fM_below_28 sc tk_F a1 a2 m _ h
theorem ok_fM_by (sc : tk_X) (a1 : Int64) (a2 : Int64) (m : tk_m) {out : Int64 × tk_m} (h : fM_by a1 a2 m = some out) : tk_Ru sc 1 225 [.ref 295, .long a1, .long a2] (tk_full m) (some (.long out.1), tk_full out.2) := by
  unfold fM_by at h
  refine tk_Ru0 me225 (ls := [(0, .ref 295), (1, .long a1), (3, .long a2)]) rfl rfl ?_
  refine tk_Ps  2 (pc' := 2) (ls' := [(0, .ref 295), (1, .long a1), (3, .long a2)]) (st' := [.ref 295, .ref 295]) rfl ?_
  refine tk_HB  rfl rfl ly295 ?_
  refine tk_Ps  3 (pc' := 10) (ls' := [(0, .ref 295), (1, .long a1), (3, .long a2)]) (st' := [.int (lg_cmp a1 (-9223372036854775808 : Int64)), .int (tk_b (m.2.2.1 295 4)), .ref 295]) rfl ?_
  by_cases hc1 : a1 = (-9223372036854775808 : Int64)
  · replace h := tk_ifT hc1 h
    refine tk_bT  rfl rfl tk_eL_ne (c := a1 = (-9223372036854775808 : Int64)) hc1 (pc' := 13) (ls' := [(0, .ref 295), (1, .long a1), (3, .long a2)]) (st' := [.int (tk_b (m.2.2.1 295 4)), .ref 295]) ?_
    refine tk_Ps  3 (pc' := 18) (ls' := [(0, .ref 295), (1, .long a1), (3, .long a2)]) (st' := [.int (lg_cmp a2 (-1 : Int64)), .int (tk_b (m.2.2.1 295 4)), .ref 295]) rfl ?_
    by_cases hc2 : a2 = (-1 : Int64)
    · replace h := tk_ifT hc2 h
      refine tk_bT  rfl rfl tk_eL_ne (c := a2 = (-1 : Int64)) hc2 (pc' := 21) (ls' := [(0, .ref 295), (1, .long a1), (3, .long a2)]) (st' := [.int (tk_b (m.2.2.1 295 4)), .ref 295]) ?_
      refine tk_Ps  2 (pc' := 26) (ls' := [(0, .ref 295), (1, .long a1), (3, .long a2)]) (st' := [.int (1 : Int32), .int (tk_b (m.2.2.1 295 4)), .ref 295]) rfl ?_
      refine tk_iorB  rfl rfl (b := (m.2.2.1 295 4)) (b2 := true) ?_
      refine tk_SB (b := (m.2.2.1 295 4) || true)  rfl rfl ly295 ?_
      refine tk_Ps  2 (pc' := 32) (ls' := [(0, .ref 295), (1, .long a1), (3, .long a2)]) (st' := [.long a2, .long a1]) rfl ?_
      obtain ⟨hz3, h⟩ := tk_grn h
      refine tk_ldiv  rfl rfl hz3 ?_
      replace h := Option.some.inj h
      subst h
      exact tk_RJ  rfl rfl rfl
    · replace h := tk_ifF hc2 h
      refine tk_bF  rfl rfl tk_eL_ne (c := a2 = (-1 : Int64)) hc2 (pc' := 25) (ls' := [(0, .ref 295), (1, .long a1), (3, .long a2)]) (st' := [.int (tk_b (m.2.2.1 295 4)), .ref 295]) ?_
      refine tk_Ps  1 (pc' := 26) (ls' := [(0, .ref 295), (1, .long a1), (3, .long a2)]) (st' := [.int (0 : Int32), .int (tk_b (m.2.2.1 295 4)), .ref 295]) rfl ?_
      refine tk_iorB  rfl rfl (b := (m.2.2.1 295 4)) (b2 := false) ?_
      refine tk_SB (b := (m.2.2.1 295 4) || false)  rfl rfl ly295 ?_
      refine tk_Ps  2 (pc' := 32) (ls' := [(0, .ref 295), (1, .long a1), (3, .long a2)]) (st' := [.long a2, .long a1]) rfl ?_
      obtain ⟨hz4, h⟩ := tk_grn h
      refine tk_ldiv  rfl rfl hz4 ?_
      replace h := Option.some.inj h
      subst h
      exact tk_RJ  rfl rfl rfl
  · replace h := tk_ifF hc1 h
    refine tk_bF  rfl rfl tk_eL_ne (c := a1 = (-9223372036854775808 : Int64)) hc1 (pc' := 25) (ls' := [(0, .ref 295), (1, .long a1), (3, .long a2)]) (st' := [.int (tk_b (m.2.2.1 295 4)), .ref 295]) ?_
    refine tk_Ps  1 (pc' := 26) (ls' := [(0, .ref 295), (1, .long a1), (3, .long a2)]) (st' := [.int (0 : Int32), .int (tk_b (m.2.2.1 295 4)), .ref 295]) rfl ?_
    refine tk_iorB  rfl rfl (b := (m.2.2.1 295 4)) (b2 := false) ?_
    refine tk_SB (b := (m.2.2.1 295 4) || false)  rfl rfl ly295 ?_
    refine tk_Ps  2 (pc' := 32) (ls' := [(0, .ref 295), (1, .long a1), (3, .long a2)]) (st' := [.long a2, .long a1]) rfl ?_
    obtain ⟨hz5, h⟩ := tk_grn h
    refine tk_ldiv  rfl rfl hz5 ?_
    replace h := Option.some.inj h
    subst h
    exact tk_RJ  rfl rfl rfl
theorem ok_fM_lowest_24 (sc : tk_X) (v1 : Int64) (v3 : Int64) (v5 : Int64) (v7 : Int64) (v9 : Nat) (v10 : Int64) (m : tk_m) (hv9 : tk_lay[v9]? = some (.inr (1, tk_al v9))) (out : tk_m) (h : fM_lowest_24 v1 v3 v5 v7 v9 v10 m = some out) : tk_Ex sc 1 tk_r224 tk_k224 24 [(0, .ref 295), (1, .long v1), (3, .long v3), (5, .long v5), (7, .long v7), (9, .ref v9), (10, .long v10)] [] (tk_full m) (none, tk_full out) := by
  unfold fM_lowest_24 at h
  refine tk_Ps  5 (pc' := 31) (ls' := [(0, .ref 295), (1, .long v1), (3, .long v3), (5, .long v5), (7, .long v7), (9, .ref v9), (10, .long v10)]) (st' := [.long v10, .long v1, .ref 295, .int (0 : Int32), .ref v9]) rfl ?_
  obtain ⟨o1, ho1, h⟩ := tk_bnd h
  refine tk_cV1  rfl rfl (r := 295) (as := [.long v1, .long v10]) (rest := [.int (0 : Int32), .ref v9]) rfl ly295 rfl rfl (ok_fM_by sc v1 v10 m ho1) ?_
  obtain ⟨hg2, h⟩ := tk_grd h
  refine tk_SJa  rfl rfl hv9 hg2 ?_
  refine tk_Ps  5 (pc' := 42) (ls' := [(0, .ref 295), (1, .long v1), (3, .long v3), (5, .long v5), (7, .long v7), (9, .ref v9), (10, .long v10)]) (st' := [.long v10, .long v3, .ref 295, .int (1 : Int32), .ref v9]) rfl ?_
  obtain ⟨o3, ho3, h⟩ := tk_bnd h
  refine tk_cV1  rfl rfl (r := 295) (as := [.long v3, .long v10]) (rest := [.int (1 : Int32), .ref v9]) rfl ly295 rfl rfl (ok_fM_by sc v3 v10 (o1.2.1, tk_u2 o1.2.2.1 v9 (tk_n (0 : Int32)) o1.1, o1.2.2.2.1, o1.2.2.2.2) ho3) ?_
  obtain ⟨hg4, h⟩ := tk_grd h
  refine tk_SJa  rfl rfl hv9 hg4 ?_
  refine tk_Ps  5 (pc' := 52) (ls' := [(0, .ref 295), (1, .long v1), (3, .long v3), (5, .long v5), (7, .long v7), (9, .ref v9), (10, .long v10)]) (st' := [.int (lg_cmp v3 (0 : Int64)), .int (2 : Int32), .ref v9]) rfl ?_
  by_cases hc5 : v3 = (0 : Int64)
  · replace h := tk_ifT hc5 h
    refine tk_bT  rfl rfl tk_eL_ne (c := v3 = (0 : Int64)) hc5 (pc' := 55) (ls' := [(0, .ref 295), (1, .long v1), (3, .long v3), (5, .long v5), (7, .long v7), (9, .ref v9), (10, .long v10)]) (st' := [.int (2 : Int32), .ref v9]) ?_
    refine tk_Ps  2 (pc' := 61) (ls' := [(0, .ref 295), (1, .long v1), (3, .long v3), (5, .long v5), (7, .long v7), (9, .ref v9), (10, .long v10)]) (st' := [.long (0 : Int64), .int (2 : Int32), .ref v9]) rfl ?_
    obtain ⟨hg6, h⟩ := tk_grd h
    refine tk_SJa  rfl rfl hv9 hg6 ?_
    refine tk_Ps  5 (pc' := 70) (ls' := [(0, .ref 295), (1, .long v1), (3, .long v3), (5, .long v5), (7, .long v7), (9, .ref v9), (10, .long v10)]) (st' := [.long v10, .long v7, .ref 295, .int (3 : Int32), .ref v9]) rfl ?_
    obtain ⟨o7, ho7, h⟩ := tk_bnd h
    refine tk_cV1  rfl rfl (r := 295) (as := [.long v7, .long v10]) (rest := [.int (3 : Int32), .ref v9]) rfl ly295 rfl rfl (ok_fM_by sc v7 v10 (o3.2.1, tk_u2 (tk_u2 o3.2.2.1 v9 (tk_n (1 : Int32)) o3.1) v9 (tk_n (2 : Int32)) (0 : Int64), o3.2.2.2.1, o3.2.2.2.2) ho7) ?_
    obtain ⟨hg8, h⟩ := tk_grd h
    refine tk_SJa  rfl rfl hv9 hg8 ?_
    replace h := Option.some.inj h
    subst h
    exact tk_RV  rfl rfl rfl
  · replace h := tk_ifF hc5 h
    refine tk_bF  rfl rfl tk_eL_ne (c := v3 = (0 : Int64)) hc5 (pc' := 59) (ls' := [(0, .ref 295), (1, .long v1), (3, .long v3), (5, .long v5), (7, .long v7), (9, .ref v9), (10, .long v10)]) (st' := [.int (2 : Int32), .ref v9]) ?_
    refine tk_Ps  1 (pc' := 61) (ls' := [(0, .ref 295), (1, .long v1), (3, .long v3), (5, .long v5), (7, .long v7), (9, .ref v9), (10, .long v10)]) (st' := [.long v5, .int (2 : Int32), .ref v9]) rfl ?_
    obtain ⟨hg9, h⟩ := tk_grd h
    refine tk_SJa  rfl rfl hv9 hg9 ?_
    refine tk_Ps  5 (pc' := 70) (ls' := [(0, .ref 295), (1, .long v1), (3, .long v3), (5, .long v5), (7, .long v7), (9, .ref v9), (10, .long v10)]) (st' := [.long v10, .long v7, .ref 295, .int (3 : Int32), .ref v9]) rfl ?_
    obtain ⟨o10, ho10, h⟩ := tk_bnd h
    refine tk_cV1  rfl rfl (r := 295) (as := [.long v7, .long v10]) (rest := [.int (3 : Int32), .ref v9]) rfl ly295 rfl rfl (ok_fM_by sc v7 v10 (o3.2.1, tk_u2 (tk_u2 o3.2.2.1 v9 (tk_n (1 : Int32)) o3.1) v9 (tk_n (2 : Int32)) v5, o3.2.2.2.1, o3.2.2.2.2) ho10) ?_
    obtain ⟨hg11, h⟩ := tk_grd h
    refine tk_SJa  rfl rfl hv9 hg11 ?_
    replace h := Option.some.inj h
    subst h
    exact tk_RV  rfl rfl rfl
theorem ok_fM_lowest (sc : tk_X) (a1 : Int64) (a2 : Int64) (a3 : Int64) (a4 : Int64) (a5 : Nat) (m : tk_m) (ha5 : tk_lay[a5]? = some (.inr (1, tk_al a5))) {out : tk_m} (h : fM_lowest a1 a2 a3 a4 a5 m = some out) : tk_Ru sc 2 224 [.ref 295, .long a1, .long a2, .long a3, .long a4, .ref a5] (tk_full m) (none, tk_full out) := by
  unfold fM_lowest at h
  refine tk_Ru0 me224 (ls := [(0, .ref 295), (1, .long a1), (3, .long a2), (5, .long a3), (7, .long a4), (9, .ref a5)]) rfl rfl ?_
  refine tk_Ps  2 (pc' := 2) (ls' := [(0, .ref 295), (1, .long a1), (3, .long a2), (5, .long a3), (7, .long a4), (9, .ref a5)]) (st' := [.long a2, .long a1]) rfl ?_
  obtain ⟨o1, ho1, h⟩ := tk_bnd h
  refine tk_cS1  rfl rfl (as := [.long a1, .long a2]) (rest := []) rfl rfl rfl (ok_fM_below sc a1 a2 m ho1) ?_
  refine tk_Ps  1 (pc' := 7) (ls' := [(0, .ref 295), (1, .long a1), (3, .long a2), (5, .long a3), (7, .long a4), (9, .ref a5)]) (st' := [.long a4, .long o1]) rfl ?_
  obtain ⟨o2, ho2, h⟩ := tk_bnd h
  refine tk_cS1  rfl rfl (as := [.long o1, .long a4]) (rest := []) rfl rfl rfl (ok_fM_below sc o1 a4 m ho2) ?_
  refine tk_Ps  4 (pc' := 16) (ls' := [(10, .long o2), (0, .ref 295), (1, .long a1), (3, .long a2), (5, .long a3), (7, .long a4), (9, .ref a5)]) (st' := [.int (lg_cmp a4 (0 : Int64))]) rfl ?_
  by_cases hc3 : a4 ≤ (0 : Int64)
  · replace h := tk_ifT hc3 h
    refine tk_bT  rfl rfl tk_eL_le (c := a4 ≤ (0 : Int64)) hc3 (pc' := 24) (ls' := [(10, .long o2), (0, .ref 295), (1, .long a1), (3, .long a2), (5, .long a3), (7, .long a4), (9, .ref a5)]) (st' := []) ?_
    refine tk_Kp  (ls' := [(0, .ref 295), (1, .long a1), (3, .long a2), (5, .long a3), (7, .long a4), (9, .ref a5), (10, .long o2)]) rfl rfl ?_
    exact ok_fM_lowest_24 sc a1 a2 a3 a4 a5 o2 m (tk_al_of ha5) _ h
  · replace h := tk_ifF hc3 h
    refine tk_bF  rfl rfl tk_eL_le (c := a4 ≤ (0 : Int64)) hc3 (pc' := 19) (ls' := [(10, .long o2), (0, .ref 295), (1, .long a1), (3, .long a2), (5, .long a3), (7, .long a4), (9, .ref a5)]) (st' := []) ?_
    refine tk_Ps  3 (pc' := 24) (ls' := [(10, .long (-o2)), (0, .ref 295), (1, .long a1), (3, .long a2), (5, .long a3), (7, .long a4), (9, .ref a5)]) (st' := []) rfl ?_
    refine tk_Kp  (ls' := [(0, .ref 295), (1, .long a1), (3, .long a2), (5, .long a3), (7, .long a4), (9, .ref a5), (10, .long (-o2))]) rfl rfl ?_
    exact ok_fM_lowest_24 sc a1 a2 a3 a4 a5 (-o2) m (tk_al_of ha5) _ h
theorem ok_fZ_signum_J (sc : tk_X) (a1 : Int64) (m : tk_m) : tk_Ru sc 1 227 [.long a1] (tk_full m) (some (.int (fZ_signum_J a1)), tk_full m) := by
  obtain ⟨out, h⟩ : ∃ out, fZ_signum_J a1 = out := ⟨_, rfl⟩
  rw [h]
  unfold fZ_signum_J at h
  refine tk_Ru0 me227 (ls := [(0, .long a1)]) rfl rfl ?_
  refine tk_Ps  9 (pc' := 11) (ls' := [(0, .long a1)]) (st' := [.int (Int64.toInt32 ((tk_lshr a1 (63 : Int32)) ||| (tk_lushr (-a1) (63 : Int32))))]) rfl ?_
  subst h
  exact tk_RI  rfl rfl rfl
theorem ok_fM_widens_31 (sc : tk_X) : ∀ (n : Nat) (v3 : Int32) (v4 : Int64) (v6 : Int32) (m : tk_m) (out : Int32 × tk_m), fM_widens_31 n v3 v4 v6 m = some out → tk_Ex sc 1 tk_r226 tk_k226 31 [(0, .ref 295), (3, .int v3), (4, .long v4), (6, .int v6)] [] (tk_full m) (some (.int out.1), tk_full out.2) := by
  intro n
  induction n with
  | zero =>
    intro v3 v4 v6 m out h
    cases h
  | succ n ih =>
    intro v3 v4 v6 m out h
    unfold fM_widens_31 at h
    refine tk_Ps  2 (pc' := 35) (ls' := [(0, .ref 295), (3, .int v3), (4, .long v4), (6, .int v6)]) (st' := [.int (60 : Int32), .int v6]) rfl ?_
    by_cases hc1 : (60 : Int32) ≤ v6
    · replace h := tk_ifT hc1 h
      refine tk_bT  rfl rfl rfl (c := (60 : Int32) ≤ v6) hc1 (pc' := 71) (ls' := [(0, .ref 295), (3, .int v3), (4, .long v4), (6, .int v6)]) (st' := []) ?_
      refine tk_Ps  1 (pc' := 72) (ls' := [(0, .ref 295), (3, .int v3), (4, .long v4), (6, .int v6)]) (st' := [.int v3]) rfl ?_
      replace h := Option.some.inj h
      subst h
      exact tk_RI  rfl rfl rfl
    · replace h := tk_ifF hc1 h
      refine tk_bF  rfl rfl rfl (c := (60 : Int32) ≤ v6) hc1 (pc' := 38) (ls' := [(0, .ref 295), (3, .int v3), (4, .long v4), (6, .int v6)]) (st' := []) ?_
      refine tk_Ps  1 (pc' := 39) (ls' := [(0, .ref 295), (3, .int v3), (4, .long v4), (6, .int v6)]) (st' := [.ref 295]) rfl ?_
      refine tk_HR  rfl rfl ly295 rt295_7 ?_
      refine tk_Ps  1 (pc' := 43) (ls' := [(0, .ref 295), (3, .int v3), (4, .long v4), (6, .int v6)]) (st' := [.int v3, .ref 307]) rfl ?_
      obtain ⟨hg2, h⟩ := tk_grd h
      refine tk_HQ  rfl rfl ly307 hg2 (la307 _ (hg2).2).1 ?_
      refine tk_Ps  4 (pc' := 52) (ls' := [(0, .ref 295), (3, .int v3), (4, .long v4), (6, .int v6)]) (st' := [.long (tk_lrem v4 (10000 : Int64)), .int v6, .ref (308 + (tk_n v3))]) rfl ?_
      refine tk_cS1  rfl rfl (as := [.long (tk_lrem v4 (10000 : Int64))]) (rest := [.int v6, .ref (308 + (tk_n v3))]) rfl rfl rfl (ok_fZ_abs_J sc (tk_lrem v4 (10000 : Int64)) m) ?_
      refine tk_Ps  1 (pc' := 56) (ls' := [(0, .ref 295), (3, .int v3), (4, .long v4), (6, .int v6)]) (st' := [.int (Int64.toInt32 (fZ_abs_J (tk_lrem v4 (10000 : Int64)))), .int v6, .ref (308 + (tk_n v3))]) rfl ?_
      obtain ⟨hg3, h⟩ := tk_grd h
      refine tk_SIa  rfl rfl ((la307 _ (hg2).2).2) hg3 ?_
      refine tk_Ps  6 (pc' := 31) (ls' := [(6, .int (v6 + (1 : Int32))), (4, .long (v4 / (10000 : Int64))), (0, .ref 295), (3, .int v3)]) (st' := []) rfl ?_
      refine tk_Kp  (ls' := [(0, .ref 295), (3, .int v3), (4, .long (v4 / (10000 : Int64))), (6, .int (v6 + (1 : Int32)))]) rfl rfl ?_
      exact ih v3 (v4 / (10000 : Int64)) (v6 + (1 : Int32)) (tk_u2 m.1 (308 + (tk_n v3)) (tk_n v6) (Int64.toInt32 (fZ_abs_J (tk_lrem v4 (10000 : Int64)))), m.2.1, m.2.2.1, m.2.2.2) _ h
theorem ok_fM_widens (sc : tk_X) (a1 : Int64) (m : tk_m) {out : Int32 × tk_m} (h : fM_widens a1 m = some out) : tk_Ru sc 2 226 [.ref 295, .long a1] (tk_full m) (some (.int out.1), tk_full out.2) := by
  unfold fM_widens at h
  refine tk_Ru0 me226 (ls := [(0, .ref 295), (1, .long a1)]) rfl rfl ?_
  refine tk_Ps  1 (pc' := 1) (ls' := [(0, .ref 295), (1, .long a1)]) (st' := [.ref 295]) rfl ?_
  refine tk_HI  rfl rfl ly295 ?_
  refine tk_Ps  3 (pc' := 7) (ls' := [(3, .int (m.1 295 9)), (0, .ref 295), (1, .long a1)]) (st' := [.ref 295, .ref 295]) rfl ?_
  refine tk_HI  rfl rfl ly295 ?_
  refine tk_Ps  2 (pc' := 12) (ls' := [(3, .int (m.1 295 9)), (0, .ref 295), (1, .long a1)]) (st' := [.int ((m.1 295 9) + (1 : Int32)), .ref 295]) rfl ?_
  refine tk_SI  rfl rfl ly295 ?_
  refine tk_Ps  1 (pc' := 16) (ls' := [(3, .int (m.1 295 9)), (0, .ref 295), (1, .long a1)]) (st' := [.ref 295]) rfl ?_
  refine tk_HR  rfl rfl ly295 rt295_8 ?_
  refine tk_Ps  2 (pc' := 21) (ls' := [(3, .int (m.1 295 9)), (0, .ref 295), (1, .long a1)]) (st' := [.long a1, .int (m.1 295 9), .ref 348]) rfl ?_
  refine tk_cS1  rfl rfl (as := [.long a1]) (rest := [.int (m.1 295 9), .ref 348]) rfl rfl rfl (ok_fZ_signum_J sc a1 (tk_u2 m.1 295 9 ((m.1 295 9) + (1 : Int32)), m.2.1, m.2.2.1, m.2.2.2)) ?_
  obtain ⟨hg1, h⟩ := tk_grd h
  refine tk_SIa  rfl rfl ly348 hg1 ?_
  refine tk_Ps  4 (pc' := 31) (ls' := [(6, .int (0 : Int32)), (4, .long a1), (3, .int (m.1 295 9)), (0, .ref 295), (1, .long a1)]) (st' := []) rfl ?_
  refine tk_Kp  (ls' := [(0, .ref 295), (3, .int (m.1 295 9)), (4, .long a1), (6, .int (0 : Int32))]) rfl rfl ?_
  exact ok_fM_widens_31 sc tk_F (m.1 295 9) a1 (0 : Int32) (tk_u2 (tk_u2 m.1 295 9 ((m.1 295 9) + (1 : Int32))) 348 (tk_n (m.1 295 9)) (fZ_signum_J a1), m.2.1, m.2.2.1, m.2.2.2) _ h
theorem ok_fM_timesWide_II_92 (sc : tk_X) (r40 : Int32 → Int32 → Int32 → Int64 → Int32 → tk_m → Option (Int32 × tk_m)) (H40 : ∀ (v1 : Int32) (v2 : Int32) (v3 : Int32) (v4 : Int64) (v6 : Int32) (m : tk_m) (out : (Int32 × tk_m)), r40 v1 v2 v3 v4 v6 m = some out → tk_Ex sc 0 tk_r229 tk_k229 40 [(0, .ref 295), (1, .int v1), (2, .int v2), (3, .int v3), (4, .long v4), (6, .int v6)] [] (tk_full m) (some (.int out.1), tk_full out.2)) (v1 : Int32) (v2 : Int32) (v3 : Int32) (v4 : Int64) (v6 : Int32) (m : tk_m) (out : Int32 × tk_m) (h : fM_timesWide_II_92 r40 v1 v2 v3 v4 v6 m = some out) : tk_Ex sc 0 tk_r229 tk_k229 92 [(0, .ref 295), (1, .int v1), (2, .int v2), (3, .int v3), (4, .long v4), (6, .int v6)] [] (tk_full m) (some (.int out.1), tk_full out.2) := by
  unfold fM_timesWide_II_92 at h
  refine tk_Ps  1 (pc' := 93) (ls' := [(0, .ref 295), (1, .int v1), (2, .int v2), (3, .int v3), (4, .long v4), (6, .int v6)]) (st' := [.ref 295]) rfl ?_
  refine tk_HR  rfl rfl ly295 rt295_7 ?_
  refine tk_Ps  1 (pc' := 97) (ls' := [(0, .ref 295), (1, .int v1), (2, .int v2), (3, .int v3), (4, .long v4), (6, .int v6)]) (st' := [.int v3, .ref 307]) rfl ?_
  obtain ⟨hg1, h⟩ := tk_grd h
  refine tk_HQ  rfl rfl ly307 hg1 (la307 _ (hg1).2).1 ?_
  refine tk_Ps  5 (pc' := 107) (ls' := [(0, .ref 295), (1, .int v1), (2, .int v2), (3, .int v3), (4, .long v4), (6, .int v6)]) (st' := [.int (Int64.toInt32 (tk_lrem v4 (10000 : Int64))), .int v6, .ref (308 + (tk_n v3))]) rfl ?_
  obtain ⟨hg2, h⟩ := tk_grd h
  refine tk_SIa  rfl rfl ((la307 _ (hg1).2).2) hg2 ?_
  refine tk_Ps  6 (pc' := 40) (ls' := [(6, .int (v6 + (1 : Int32))), (4, .long (v4 / (10000 : Int64))), (0, .ref 295), (1, .int v1), (2, .int v2), (3, .int v3)]) (st' := []) rfl ?_
  refine tk_Kp  (ls' := [(0, .ref 295), (1, .int v1), (2, .int v2), (3, .int v3), (4, .long (v4 / (10000 : Int64))), (6, .int (v6 + (1 : Int32)))]) rfl rfl ?_
  exact H40 v1 v2 v3 (v4 / (10000 : Int64)) (v6 + (1 : Int32)) (tk_u2 m.1 (308 + (tk_n v3)) (tk_n v6) (Int64.toInt32 (tk_lrem v4 (10000 : Int64))), m.2.1, m.2.2.1, m.2.2.2) _ h
theorem ok_fM_timesWide_II_50 (sc : tk_X) (r40 : Int32 → Int32 → Int32 → Int64 → Int32 → tk_m → Option (Int32 × tk_m)) (H40 : ∀ (v1 : Int32) (v2 : Int32) (v3 : Int32) (v4 : Int64) (v6 : Int32) (m : tk_m) (out : (Int32 × tk_m)), r40 v1 v2 v3 v4 v6 m = some out → tk_Ex sc 0 tk_r229 tk_k229 40 [(0, .ref 295), (1, .int v1), (2, .int v2), (3, .int v3), (4, .long v4), (6, .int v6)] [] (tk_full m) (some (.int out.1), tk_full out.2)) : ∀ (n : Nat) (v1 : Int32) (v2 : Int32) (v3 : Int32) (v4 : Int64) (v6 : Int32) (v7 : Int32) (m : tk_m) (out : Int32 × tk_m), fM_timesWide_II_50 r40 n v1 v2 v3 v4 v6 v7 m = some out → tk_Ex sc 0 tk_r229 tk_k229 50 [(0, .ref 295), (1, .int v1), (2, .int v2), (3, .int v3), (4, .long v4), (6, .int v6), (7, .int v7)] [] (tk_full m) (some (.int out.1), tk_full out.2) := by
  intro n
  induction n with
  | zero =>
    intro v1 v2 v3 v4 v6 v7 m out h
    cases h
  | succ n ih =>
    intro v1 v2 v3 v4 v6 v7 m out h
    unfold fM_timesWide_II_50 at h
    refine tk_Ps  2 (pc' := 54) (ls' := [(0, .ref 295), (1, .int v1), (2, .int v2), (3, .int v3), (4, .long v4), (6, .int v6), (7, .int v7)]) (st' := [.int v6, .int v7]) rfl ?_
    by_cases hc1 : v6 < v7
    · replace h := tk_ifT hc1 h
      refine tk_bT  rfl rfl rfl (c := v6 < v7) hc1 (pc' := 92) (ls' := [(0, .ref 295), (1, .int v1), (2, .int v2), (3, .int v3), (4, .long v4), (6, .int v6), (7, .int v7)]) (st' := []) ?_
      refine tk_Kp  (ls' := [(0, .ref 295), (1, .int v1), (2, .int v2), (3, .int v3), (4, .long v4), (6, .int v6)]) rfl rfl ?_
      exact ok_fM_timesWide_II_92 sc r40 H40 v1 v2 v3 v4 v6 m _ h
    · replace h := tk_ifF hc1 h
      refine tk_bF  rfl rfl rfl (c := v6 < v7) hc1 (pc' := 57) (ls' := [(0, .ref 295), (1, .int v1), (2, .int v2), (3, .int v3), (4, .long v4), (6, .int v6), (7, .int v7)]) (st' := []) ?_
      refine tk_Ps  2 (pc' := 60) (ls' := [(0, .ref 295), (1, .int v1), (2, .int v2), (3, .int v3), (4, .long v4), (6, .int v6), (7, .int v7)]) (st' := [.ref 295, .long v4]) rfl ?_
      refine tk_HR  rfl rfl ly295 rt295_7 ?_
      refine tk_Ps  1 (pc' := 64) (ls' := [(0, .ref 295), (1, .int v1), (2, .int v2), (3, .int v3), (4, .long v4), (6, .int v6), (7, .int v7)]) (st' := [.int v1, .ref 307, .long v4]) rfl ?_
      obtain ⟨hg2, h⟩ := tk_grd h
      refine tk_HQ  rfl rfl ly307 hg2 (la307 _ (hg2).2).1 ?_
      refine tk_Ps  1 (pc' := 67) (ls' := [(0, .ref 295), (1, .int v1), (2, .int v2), (3, .int v3), (4, .long v4), (6, .int v6), (7, .int v7)]) (st' := [.int v7, .ref (308 + (tk_n v1)), .long v4]) rfl ?_
      obtain ⟨hg3, h⟩ := tk_grd h
      refine tk_HIa  rfl rfl ((la307 _ (hg2).2).2) hg3 ?_
      refine tk_Ps  2 (pc' := 70) (ls' := [(0, .ref 295), (1, .int v1), (2, .int v2), (3, .int v3), (4, .long v4), (6, .int v6), (7, .int v7)]) (st' := [.ref 295, .long (Int32.toInt64 (m.1 (308 + (tk_n v1)) (tk_n v7))), .long v4]) rfl ?_
      refine tk_HR  rfl rfl ly295 rt295_7 ?_
      refine tk_Ps  1 (pc' := 74) (ls' := [(0, .ref 295), (1, .int v1), (2, .int v2), (3, .int v3), (4, .long v4), (6, .int v6), (7, .int v7)]) (st' := [.int v2, .ref 307, .long (Int32.toInt64 (m.1 (308 + (tk_n v1)) (tk_n v7))), .long v4]) rfl ?_
      obtain ⟨hg4, h⟩ := tk_grd h
      refine tk_HQ  rfl rfl ly307 hg4 (la307 _ (hg4).2).1 ?_
      refine tk_Ps  3 (pc' := 80) (ls' := [(0, .ref 295), (1, .int v1), (2, .int v2), (3, .int v3), (4, .long v4), (6, .int v6), (7, .int v7)]) (st' := [.int (v6 - v7), .ref (308 + (tk_n v2)), .long (Int32.toInt64 (m.1 (308 + (tk_n v1)) (tk_n v7))), .long v4]) rfl ?_
      obtain ⟨hg5, h⟩ := tk_grd h
      refine tk_HIa  rfl rfl ((la307 _ (hg4).2).2) hg5 ?_
      refine tk_Ps  6 (pc' := 50) (ls' := [(7, .int (v7 + (1 : Int32))), (4, .long (v4 + ((Int32.toInt64 (m.1 (308 + (tk_n v1)) (tk_n v7))) * (Int32.toInt64 (m.1 (308 + (tk_n v2)) (tk_n (v6 - v7))))))), (0, .ref 295), (1, .int v1), (2, .int v2), (3, .int v3), (6, .int v6)]) (st' := []) rfl ?_
      refine tk_Kp  (ls' := [(0, .ref 295), (1, .int v1), (2, .int v2), (3, .int v3), (4, .long (v4 + ((Int32.toInt64 (m.1 (308 + (tk_n v1)) (tk_n v7))) * (Int32.toInt64 (m.1 (308 + (tk_n v2)) (tk_n (v6 - v7))))))), (6, .int v6), (7, .int (v7 + (1 : Int32)))]) rfl rfl ?_
      exact ih v1 v2 v3 (v4 + ((Int32.toInt64 (m.1 (308 + (tk_n v1)) (tk_n v7))) * (Int32.toInt64 (m.1 (308 + (tk_n v2)) (tk_n (v6 - v7)))))) v6 (v7 + (1 : Int32)) m _ h
theorem ok_fM_timesWide_II_40 (sc : tk_X) : ∀ (n : Nat) (v1 : Int32) (v2 : Int32) (v3 : Int32) (v4 : Int64) (v6 : Int32) (m : tk_m) (out : Int32 × tk_m), fM_timesWide_II_40 n v1 v2 v3 v4 v6 m = some out → tk_Ex sc 0 tk_r229 tk_k229 40 [(0, .ref 295), (1, .int v1), (2, .int v2), (3, .int v3), (4, .long v4), (6, .int v6)] [] (tk_full m) (some (.int out.1), tk_full out.2) := by
  intro n
  induction n with
  | zero =>
    intro v1 v2 v3 v4 v6 m out h
    cases h
  | succ n ih =>
    intro v1 v2 v3 v4 v6 m out h
    unfold fM_timesWide_II_40 at h
    refine tk_Ps  2 (pc' := 44) (ls' := [(0, .ref 295), (1, .int v1), (2, .int v2), (3, .int v3), (4, .long v4), (6, .int v6)]) (st' := [.int (60 : Int32), .int v6]) rfl ?_
    by_cases hc1 : (60 : Int32) ≤ v6
    · replace h := tk_ifT hc1 h
      refine tk_bT  rfl rfl rfl (c := (60 : Int32) ≤ v6) hc1 (pc' := 122) (ls' := [(0, .ref 295), (1, .int v1), (2, .int v2), (3, .int v3), (4, .long v4), (6, .int v6)]) (st' := []) ?_
      refine tk_Ps  1 (pc' := 123) (ls' := [(0, .ref 295), (1, .int v1), (2, .int v2), (3, .int v3), (4, .long v4), (6, .int v6)]) (st' := [.int v3]) rfl ?_
      replace h := Option.some.inj h
      subst h
      exact tk_RI  rfl rfl rfl
    · replace h := tk_ifF hc1 h
      refine tk_bF  rfl rfl rfl (c := (60 : Int32) ≤ v6) hc1 (pc' := 47) (ls' := [(0, .ref 295), (1, .int v1), (2, .int v2), (3, .int v3), (4, .long v4), (6, .int v6)]) (st' := []) ?_
      refine tk_Ps  2 (pc' := 50) (ls' := [(7, .int (0 : Int32)), (0, .ref 295), (1, .int v1), (2, .int v2), (3, .int v3), (4, .long v4), (6, .int v6)]) (st' := []) rfl ?_
      refine tk_Kp  (ls' := [(0, .ref 295), (1, .int v1), (2, .int v2), (3, .int v3), (4, .long v4), (6, .int v6), (7, .int (0 : Int32))]) rfl rfl ?_
      exact ok_fM_timesWide_II_50 sc (fM_timesWide_II_40 n) ih tk_F v1 v2 v3 v4 v6 (0 : Int32) m _ h
theorem ok_fM_timesWide_II (sc : tk_X) (a1 : Int32) (a2 : Int32) (m : tk_m) {out : Int32 × tk_m} (h : fM_timesWide_II a1 a2 m = some out) : tk_Ru sc 1 229 [.ref 295, .int a1, .int a2] (tk_full m) (some (.int out.1), tk_full out.2) := by
  unfold fM_timesWide_II at h
  refine tk_Ru0 me229 (ls := [(0, .ref 295), (1, .int a1), (2, .int a2)]) rfl rfl ?_
  refine tk_Ps  1 (pc' := 1) (ls' := [(0, .ref 295), (1, .int a1), (2, .int a2)]) (st' := [.ref 295]) rfl ?_
  refine tk_HI  rfl rfl ly295 ?_
  refine tk_Ps  3 (pc' := 7) (ls' := [(3, .int (m.1 295 9)), (0, .ref 295), (1, .int a1), (2, .int a2)]) (st' := [.ref 295, .ref 295]) rfl ?_
  refine tk_HI  rfl rfl ly295 ?_
  refine tk_Ps  2 (pc' := 12) (ls' := [(3, .int (m.1 295 9)), (0, .ref 295), (1, .int a1), (2, .int a2)]) (st' := [.int ((m.1 295 9) + (1 : Int32)), .ref 295]) rfl ?_
  refine tk_SI  rfl rfl ly295 ?_
  refine tk_Ps  1 (pc' := 16) (ls' := [(3, .int (m.1 295 9)), (0, .ref 295), (1, .int a1), (2, .int a2)]) (st' := [.ref 295]) rfl ?_
  refine tk_HR  rfl rfl ly295 rt295_8 ?_
  refine tk_Ps  2 (pc' := 21) (ls' := [(3, .int (m.1 295 9)), (0, .ref 295), (1, .int a1), (2, .int a2)]) (st' := [.ref 295, .int (m.1 295 9), .ref 348]) rfl ?_
  refine tk_HR  rfl rfl ly295 rt295_8 ?_
  refine tk_Ps  1 (pc' := 25) (ls' := [(3, .int (m.1 295 9)), (0, .ref 295), (1, .int a1), (2, .int a2)]) (st' := [.int a1, .ref 348, .int (m.1 295 9), .ref 348]) rfl ?_
  obtain ⟨hg1, h⟩ := tk_grd h
  refine tk_HIa  rfl rfl ly348 hg1 ?_
  refine tk_Ps  1 (pc' := 27) (ls' := [(3, .int (m.1 295 9)), (0, .ref 295), (1, .int a1), (2, .int a2)]) (st' := [.ref 295, .int (tk_u2 m.1 295 9 ((m.1 295 9) + (1 : Int32)) 348 (tk_n a1)), .int (m.1 295 9), .ref 348]) rfl ?_
  refine tk_HR  rfl rfl ly295 rt295_8 ?_
  refine tk_Ps  1 (pc' := 31) (ls' := [(3, .int (m.1 295 9)), (0, .ref 295), (1, .int a1), (2, .int a2)]) (st' := [.int a2, .ref 348, .int (tk_u2 m.1 295 9 ((m.1 295 9) + (1 : Int32)) 348 (tk_n a1)), .int (m.1 295 9), .ref 348]) rfl ?_
  obtain ⟨hg2, h⟩ := tk_grd h
  refine tk_HIa  rfl rfl ly348 hg2 ?_
  refine tk_Ps  1 (pc' := 33) (ls' := [(3, .int (m.1 295 9)), (0, .ref 295), (1, .int a1), (2, .int a2)]) (st' := [.int ((tk_u2 m.1 295 9 ((m.1 295 9) + (1 : Int32)) 348 (tk_n a1)) * (tk_u2 m.1 295 9 ((m.1 295 9) + (1 : Int32)) 348 (tk_n a2))), .int (m.1 295 9), .ref 348]) rfl ?_
  obtain ⟨hg3, h⟩ := tk_grd h
  refine tk_SIa  rfl rfl ly348 hg3 ?_
  refine tk_Ps  4 (pc' := 40) (ls' := [(6, .int (0 : Int32)), (4, .long (0 : Int64)), (3, .int (m.1 295 9)), (0, .ref 295), (1, .int a1), (2, .int a2)]) (st' := []) rfl ?_
  refine tk_Kp  (ls' := [(0, .ref 295), (1, .int a1), (2, .int a2), (3, .int (m.1 295 9)), (4, .long (0 : Int64)), (6, .int (0 : Int32))]) rfl rfl ?_
  exact ok_fM_timesWide_II_40 sc tk_F a1 a2 (m.1 295 9) (0 : Int64) (0 : Int32) (tk_u2 (tk_u2 m.1 295 9 ((m.1 295 9) + (1 : Int32))) 348 (tk_n (m.1 295 9)) ((tk_u2 m.1 295 9 ((m.1 295 9) + (1 : Int32)) 348 (tk_n a1)) * (tk_u2 m.1 295 9 ((m.1 295 9) + (1 : Int32)) 348 (tk_n a2))), m.2.1, m.2.2.1, m.2.2.2) _ h
theorem ok_fM_compareSizes_26 (sc : tk_X) (v1 : Int32) (v2 : Int32) (v3 : Int32) (m : tk_m) (out : Int32) (h : fM_compareSizes_26 v1 v2 v3 m = some out) : tk_Ex sc 0 tk_r230 tk_k230 26 [(0, .ref 295), (1, .int v1), (2, .int v2), (3, .int v3)] [] (tk_full m) (some (.int out), tk_full m) := by
  unfold fM_compareSizes_26 at h
  refine tk_Ps  1 (pc' := 27) (ls' := [(0, .ref 295), (1, .int v1), (2, .int v2), (3, .int v3)]) (st' := [.ref 295]) rfl ?_
  refine tk_HR  rfl rfl ly295 rt295_7 ?_
  refine tk_Ps  1 (pc' := 31) (ls' := [(0, .ref 295), (1, .int v1), (2, .int v2), (3, .int v3)]) (st' := [.int v1, .ref 307]) rfl ?_
  obtain ⟨hg1, h⟩ := tk_grd h
  refine tk_HQ  rfl rfl ly307 hg1 (la307 _ (hg1).2).1 ?_
  refine tk_Ps  1 (pc' := 33) (ls' := [(0, .ref 295), (1, .int v1), (2, .int v2), (3, .int v3)]) (st' := [.int v3, .ref (308 + (tk_n v1))]) rfl ?_
  obtain ⟨hg2, h⟩ := tk_grd h
  refine tk_HIa  rfl rfl ((la307 _ (hg1).2).2) hg2 ?_
  refine tk_Ps  1 (pc' := 35) (ls' := [(0, .ref 295), (1, .int v1), (2, .int v2), (3, .int v3)]) (st' := [.ref 295, .int (m.1 (308 + (tk_n v1)) (tk_n v3))]) rfl ?_
  refine tk_HR  rfl rfl ly295 rt295_7 ?_
  refine tk_Ps  1 (pc' := 39) (ls' := [(0, .ref 295), (1, .int v1), (2, .int v2), (3, .int v3)]) (st' := [.int v2, .ref 307, .int (m.1 (308 + (tk_n v1)) (tk_n v3))]) rfl ?_
  obtain ⟨hg3, h⟩ := tk_grd h
  refine tk_HQ  rfl rfl ly307 hg3 (la307 _ (hg3).2).1 ?_
  refine tk_Ps  1 (pc' := 41) (ls' := [(0, .ref 295), (1, .int v1), (2, .int v2), (3, .int v3)]) (st' := [.int v3, .ref (308 + (tk_n v2)), .int (m.1 (308 + (tk_n v1)) (tk_n v3))]) rfl ?_
  refine tk_HIa  rfl rfl ((la307 _ (hg3).2).2) hg2 ?_
  by_cases hc4 : (m.1 (308 + (tk_n v2)) (tk_n v3)) ≤ (m.1 (308 + (tk_n v1)) (tk_n v3))
  · replace h := tk_ifT hc4 h
    refine tk_bT  rfl rfl rfl (c := (m.1 (308 + (tk_n v2)) (tk_n v3)) ≤ (m.1 (308 + (tk_n v1)) (tk_n v3))) hc4 (pc' := 49) (ls' := [(0, .ref 295), (1, .int v1), (2, .int v2), (3, .int v3)]) (st' := []) ?_
    refine tk_Ps  1 (pc' := 50) (ls' := [(0, .ref 295), (1, .int v1), (2, .int v2), (3, .int v3)]) (st' := [.int (1 : Int32)]) rfl ?_
    replace h := Option.some.inj h
    subst h
    exact tk_RI  rfl rfl rfl
  · replace h := tk_ifF hc4 h
    refine tk_bF  rfl rfl rfl (c := (m.1 (308 + (tk_n v2)) (tk_n v3)) ≤ (m.1 (308 + (tk_n v1)) (tk_n v3))) hc4 (pc' := 45) (ls' := [(0, .ref 295), (1, .int v1), (2, .int v2), (3, .int v3)]) (st' := []) ?_
    refine tk_Ps  2 (pc' := 50) (ls' := [(0, .ref 295), (1, .int v1), (2, .int v2), (3, .int v3)]) (st' := [.int (-1 : Int32)]) rfl ?_
    replace h := Option.some.inj h
    subst h
    exact tk_RI  rfl rfl rfl
theorem ok_fM_compareSizes_3 (sc : tk_X) : ∀ (n : Nat) (v1 : Int32) (v2 : Int32) (v3 : Int32) (m : tk_m) (out : Int32), fM_compareSizes_3 n v1 v2 v3 m = some out → tk_Ex sc 0 tk_r230 tk_k230 3 [(0, .ref 295), (1, .int v1), (2, .int v2), (3, .int v3)] [] (tk_full m) (some (.int out), tk_full m) := by
  intro n
  induction n with
  | zero =>
    intro v1 v2 v3 m out h
    cases h
  | succ n ih =>
    intro v1 v2 v3 m out h
    unfold fM_compareSizes_3 at h
    refine tk_Ps  1 (pc' := 4) (ls' := [(0, .ref 295), (1, .int v1), (2, .int v2), (3, .int v3)]) (st' := [.int v3]) rfl ?_
    by_cases hc1 : v3 < 0
    · replace h := tk_ifT hc1 h
      refine tk_bT  rfl rfl rfl (c := v3 < 0) hc1 (pc' := 57) (ls' := [(0, .ref 295), (1, .int v1), (2, .int v2), (3, .int v3)]) (st' := []) ?_
      refine tk_Ps  1 (pc' := 58) (ls' := [(0, .ref 295), (1, .int v1), (2, .int v2), (3, .int v3)]) (st' := [.int (0 : Int32)]) rfl ?_
      replace h := Option.some.inj h
      subst h
      exact tk_RI  rfl rfl rfl
    · replace h := tk_ifF hc1 h
      refine tk_bF  rfl rfl rfl (c := v3 < 0) hc1 (pc' := 7) (ls' := [(0, .ref 295), (1, .int v1), (2, .int v2), (3, .int v3)]) (st' := []) ?_
      refine tk_Ps  1 (pc' := 8) (ls' := [(0, .ref 295), (1, .int v1), (2, .int v2), (3, .int v3)]) (st' := [.ref 295]) rfl ?_
      refine tk_HR  rfl rfl ly295 rt295_7 ?_
      refine tk_Ps  1 (pc' := 12) (ls' := [(0, .ref 295), (1, .int v1), (2, .int v2), (3, .int v3)]) (st' := [.int v1, .ref 307]) rfl ?_
      obtain ⟨hg2, h⟩ := tk_grd h
      refine tk_HQ  rfl rfl ly307 hg2 (la307 _ (hg2).2).1 ?_
      refine tk_Ps  1 (pc' := 14) (ls' := [(0, .ref 295), (1, .int v1), (2, .int v2), (3, .int v3)]) (st' := [.int v3, .ref (308 + (tk_n v1))]) rfl ?_
      obtain ⟨hg3, h⟩ := tk_grd h
      refine tk_HIa  rfl rfl ((la307 _ (hg2).2).2) hg3 ?_
      refine tk_Ps  1 (pc' := 16) (ls' := [(0, .ref 295), (1, .int v1), (2, .int v2), (3, .int v3)]) (st' := [.ref 295, .int (m.1 (308 + (tk_n v1)) (tk_n v3))]) rfl ?_
      refine tk_HR  rfl rfl ly295 rt295_7 ?_
      refine tk_Ps  1 (pc' := 20) (ls' := [(0, .ref 295), (1, .int v1), (2, .int v2), (3, .int v3)]) (st' := [.int v2, .ref 307, .int (m.1 (308 + (tk_n v1)) (tk_n v3))]) rfl ?_
      obtain ⟨hg4, h⟩ := tk_grd h
      refine tk_HQ  rfl rfl ly307 hg4 (la307 _ (hg4).2).1 ?_
      refine tk_Ps  1 (pc' := 22) (ls' := [(0, .ref 295), (1, .int v1), (2, .int v2), (3, .int v3)]) (st' := [.int v3, .ref (308 + (tk_n v2)), .int (m.1 (308 + (tk_n v1)) (tk_n v3))]) rfl ?_
      refine tk_HIa  rfl rfl ((la307 _ (hg4).2).2) hg3 ?_
      by_cases hc5 : (m.1 (308 + (tk_n v1)) (tk_n v3)) = (m.1 (308 + (tk_n v2)) (tk_n v3))
      · replace h := tk_ifT hc5 h
        refine tk_bT  rfl rfl rfl (c := (m.1 (308 + (tk_n v1)) (tk_n v3)) = (m.1 (308 + (tk_n v2)) (tk_n v3))) hc5 (pc' := 51) (ls' := [(0, .ref 295), (1, .int v1), (2, .int v2), (3, .int v3)]) (st' := []) ?_
        refine tk_Ps  2 (pc' := 3) (ls' := [(3, .int (v3 + (-1 : Int32))), (0, .ref 295), (1, .int v1), (2, .int v2)]) (st' := []) rfl ?_
        refine tk_Kp  (ls' := [(0, .ref 295), (1, .int v1), (2, .int v2), (3, .int (v3 + (-1 : Int32)))]) rfl rfl ?_
        exact ih v1 v2 (v3 + (-1 : Int32)) m _ h
      · replace h := tk_ifF hc5 h
        refine tk_bF  rfl rfl rfl (c := (m.1 (308 + (tk_n v1)) (tk_n v3)) = (m.1 (308 + (tk_n v2)) (tk_n v3))) hc5 (pc' := 26) (ls' := [(0, .ref 295), (1, .int v1), (2, .int v2), (3, .int v3)]) (st' := []) ?_
        refine tk_Kp  (ls' := [(0, .ref 295), (1, .int v1), (2, .int v2), (3, .int v3)]) rfl rfl ?_
        exact ok_fM_compareSizes_26 sc v1 v2 v3 m _ h
theorem ok_fM_compareSizes (sc : tk_X) (a1 : Int32) (a2 : Int32) (m : tk_m) {out : Int32} (h : fM_compareSizes a1 a2 m = some out) : tk_Ru sc 1 230 [.ref 295, .int a1, .int a2] (tk_full m) (some (.int out), tk_full m) := by
  unfold fM_compareSizes at h
  refine tk_Ru0 me230 (ls := [(0, .ref 295), (1, .int a1), (2, .int a2)]) rfl rfl ?_
  refine tk_Ps  2 (pc' := 3) (ls' := [(3, .int (59 : Int32)), (0, .ref 295), (1, .int a1), (2, .int a2)]) (st' := []) rfl ?_
  refine tk_Kp  (ls' := [(0, .ref 295), (1, .int a1), (2, .int a2), (3, .int (59 : Int32))]) rfl rfl ?_
  exact ok_fM_compareSizes_3 sc tk_F a1 a2 (59 : Int32) m _ h
theorem ok_fM_signOf (sc : tk_X) (a1 : Int32) (a2 : Int32) (a3 : Int64) (m : tk_m) {out : Int32 × tk_m} (h : fM_signOf a1 a2 a3 m = some out) : tk_Ru sc 3 228 [.ref 295, .int a1, .int a2, .long a3] (tk_full m) (some (.int out.1), tk_full out.2) := by
  unfold fM_signOf at h
  refine tk_Ru0 me228 (ls := [(0, .ref 295), (1, .int a1), (2, .int a2), (3, .long a3)]) rfl rfl ?_
  refine tk_Ps  1 (pc' := 1) (ls' := [(0, .ref 295), (1, .int a1), (2, .int a2), (3, .long a3)]) (st' := [.ref 295]) rfl ?_
  refine tk_HR  rfl rfl ly295 rt295_8 ?_
  refine tk_Ps  1 (pc' := 5) (ls' := [(0, .ref 295), (1, .int a1), (2, .int a2), (3, .long a3)]) (st' := [.int a2, .ref 348]) rfl ?_
  obtain ⟨hg1, h⟩ := tk_grd h
  refine tk_HIa  rfl rfl ly348 hg1 ?_
  by_cases hc2 : (m.1 348 (tk_n a2)) = 0
  · replace h := tk_ifT hc2 h
    refine tk_bT  rfl rfl rfl (c := (m.1 348 (tk_n a2)) = 0) hc2 (pc' := 24) (ls' := [(0, .ref 295), (1, .int a1), (2, .int a2), (3, .long a3)]) (st' := []) ?_
    refine tk_Ps  1 (pc' := 25) (ls' := [(0, .ref 295), (1, .int a1), (2, .int a2), (3, .long a3)]) (st' := [.ref 295]) rfl ?_
    refine tk_HR  rfl rfl ly295 rt295_8 ?_
    refine tk_Ps  1 (pc' := 29) (ls' := [(0, .ref 295), (1, .int a1), (2, .int a2), (3, .long a3)]) (st' := [.int a1, .ref 348]) rfl ?_
    obtain ⟨hg3, h⟩ := tk_grd h
    refine tk_HIa  rfl rfl ly348 hg3 ?_
    replace h := Option.some.inj h
    subst h
    exact tk_RI  rfl rfl rfl
  · replace h := tk_ifF hc2 h
    refine tk_bF  rfl rfl rfl (c := (m.1 348 (tk_n a2)) = 0) hc2 (pc' := 9) (ls' := [(0, .ref 295), (1, .int a1), (2, .int a2), (3, .long a3)]) (st' := []) ?_
    refine tk_Ps  1 (pc' := 10) (ls' := [(0, .ref 295), (1, .int a1), (2, .int a2), (3, .long a3)]) (st' := [.ref 295]) rfl ?_
    refine tk_HR  rfl rfl ly295 rt295_8 ?_
    refine tk_Ps  1 (pc' := 14) (ls' := [(0, .ref 295), (1, .int a1), (2, .int a2), (3, .long a3)]) (st' := [.int a1, .ref 348]) rfl ?_
    obtain ⟨hg4, h⟩ := tk_grd h
    refine tk_HIa  rfl rfl ly348 hg4 ?_
    refine tk_Ps  1 (pc' := 16) (ls' := [(0, .ref 295), (1, .int a1), (2, .int a2), (3, .long a3)]) (st' := [.ref 295, .int (m.1 348 (tk_n a1))]) rfl ?_
    refine tk_HR  rfl rfl ly295 rt295_8 ?_
    refine tk_Ps  1 (pc' := 20) (ls' := [(0, .ref 295), (1, .int a1), (2, .int a2), (3, .long a3)]) (st' := [.int a2, .ref 348, .int (m.1 348 (tk_n a1))]) rfl ?_
    refine tk_HIa  rfl rfl ly348 hg1 ?_
    by_cases hc5 : (m.1 348 (tk_n a1)) = (m.1 348 (tk_n a2))
    · replace h := tk_ifT hc5 h
      refine tk_bT  rfl rfl rfl (c := (m.1 348 (tk_n a1)) = (m.1 348 (tk_n a2))) hc5 (pc' := 24) (ls' := [(0, .ref 295), (1, .int a1), (2, .int a2), (3, .long a3)]) (st' := []) ?_
      refine tk_Ps  1 (pc' := 25) (ls' := [(0, .ref 295), (1, .int a1), (2, .int a2), (3, .long a3)]) (st' := [.ref 295]) rfl ?_
      refine tk_HR  rfl rfl ly295 rt295_8 ?_
      refine tk_Ps  1 (pc' := 29) (ls' := [(0, .ref 295), (1, .int a1), (2, .int a2), (3, .long a3)]) (st' := [.int a1, .ref 348]) rfl ?_
      refine tk_HIa  rfl rfl ly348 hg4 ?_
      replace h := Option.some.inj h
      subst h
      exact tk_RI  rfl rfl rfl
    · replace h := tk_ifF hc5 h
      refine tk_bF  rfl rfl rfl (c := (m.1 348 (tk_n a1)) = (m.1 348 (tk_n a2))) hc5 (pc' := 31) (ls' := [(0, .ref 295), (1, .int a1), (2, .int a2), (3, .long a3)]) (st' := []) ?_
      refine tk_Ps  1 (pc' := 32) (ls' := [(0, .ref 295), (1, .int a1), (2, .int a2), (3, .long a3)]) (st' := [.ref 295]) rfl ?_
      refine tk_HR  rfl rfl ly295 rt295_8 ?_
      refine tk_Ps  1 (pc' := 36) (ls' := [(0, .ref 295), (1, .int a1), (2, .int a2), (3, .long a3)]) (st' := [.int a1, .ref 348]) rfl ?_
      refine tk_HIa  rfl rfl ly348 hg4 ?_
      by_cases hc6 : (m.1 348 (tk_n a1)) = 0
      · replace h := tk_ifT hc6 h
        refine tk_bT  rfl rfl rfl (c := (m.1 348 (tk_n a1)) = 0) hc6 (pc' := 40) (ls' := [(0, .ref 295), (1, .int a1), (2, .int a2), (3, .long a3)]) (st' := []) ?_
        refine tk_Ps  1 (pc' := 41) (ls' := [(0, .ref 295), (1, .int a1), (2, .int a2), (3, .long a3)]) (st' := [.ref 295]) rfl ?_
        refine tk_HR  rfl rfl ly295 rt295_8 ?_
        refine tk_Ps  1 (pc' := 45) (ls' := [(0, .ref 295), (1, .int a1), (2, .int a2), (3, .long a3)]) (st' := [.int a2, .ref 348]) rfl ?_
        refine tk_HIa  rfl rfl ly348 hg1 ?_
        replace h := Option.some.inj h
        subst h
        exact tk_RI  rfl rfl rfl
      · replace h := tk_ifF hc6 h
        refine tk_bF  rfl rfl rfl (c := (m.1 348 (tk_n a1)) = 0) hc6 (pc' := 47) (ls' := [(0, .ref 295), (1, .int a1), (2, .int a2), (3, .long a3)]) (st' := []) ?_
        refine tk_Ps  4 (pc' := 51) (ls' := [(0, .ref 295), (1, .int a1), (2, .int a2), (3, .long a3)]) (st' := [.int a1, .int a1, .ref 295, .ref 295]) rfl ?_
        obtain ⟨o7, ho7, h⟩ := tk_bnd h
        refine tk_cV1  rfl rfl (r := 295) (as := [.int a1, .int a1]) (rest := [.ref 295]) rfl ly295 rfl rfl (ok_fM_timesWide_II sc a1 a1 m ho7) ?_
        refine tk_Ps  4 (pc' := 58) (ls' := [(0, .ref 295), (1, .int a1), (2, .int a2), (3, .long a3)]) (st' := [.int a2, .int a2, .ref 295, .ref 295, .int o7.1, .ref 295]) rfl ?_
        obtain ⟨o8, ho8, h⟩ := tk_bnd h
        refine tk_cV1  rfl rfl (r := 295) (as := [.int a2, .int a2]) (rest := [.ref 295, .int o7.1, .ref 295]) rfl ly295 rfl rfl (ok_fM_timesWide_II sc a2 a2 o7.2 ho8) ?_
        refine tk_Ps  2 (pc' := 63) (ls' := [(0, .ref 295), (1, .int a1), (2, .int a2), (3, .long a3)]) (st' := [.long a3, .ref 295, .int o8.1, .ref 295, .int o7.1, .ref 295]) rfl ?_
        obtain ⟨o9, ho9, h⟩ := tk_bnd h
        refine tk_cV1  rfl rfl (r := 295) (as := [.long a3]) (rest := [.int o8.1, .ref 295, .int o7.1, .ref 295]) rfl ly295 rfl rfl (ok_fM_widens sc a3 o8.2 ho9) ?_
        obtain ⟨o10, ho10, h⟩ := tk_bnd h
        refine tk_cV1  rfl rfl (r := 295) (as := [.int o8.1, .int o9.1]) (rest := [.int o7.1, .ref 295]) rfl ly295 rfl rfl (ok_fM_timesWide_II sc o8.1 o9.1 o9.2 ho10) ?_
        obtain ⟨o11, ho11, h⟩ := tk_bnd h
        refine tk_cV1  rfl rfl (r := 295) (as := [.int o7.1, .int o10.1]) (rest := []) rfl ly295 rfl rfl (ok_fM_compareSizes sc o7.1 o10.1 o10.2 ho11) ?_
        refine tk_Ps  2 (pc' := 76) (ls' := [(5, .int o11), (0, .ref 295), (1, .int a1), (2, .int a2), (3, .long a3)]) (st' := [.int o11]) rfl ?_
        by_cases hc12 : o11 = 0
        · replace h := tk_ifT hc12 h
          refine tk_bT  rfl rfl rfl (c := o11 = 0) hc12 (pc' := 79) (ls' := [(5, .int o11), (0, .ref 295), (1, .int a1), (2, .int a2), (3, .long a3)]) (st' := []) ?_
          refine tk_Ps  2 (pc' := 103) (ls' := [(5, .int o11), (0, .ref 295), (1, .int a1), (2, .int a2), (3, .long a3)]) (st' := [.int (0 : Int32)]) rfl ?_
          replace h := Option.some.inj h
          subst h
          exact tk_RI  rfl rfl rfl
        · replace h := tk_ifF hc12 h
          refine tk_bF  rfl rfl rfl (c := o11 = 0) hc12 (pc' := 83) (ls' := [(5, .int o11), (0, .ref 295), (1, .int a1), (2, .int a2), (3, .long a3)]) (st' := []) ?_
          refine tk_Ps  1 (pc' := 85) (ls' := [(5, .int o11), (0, .ref 295), (1, .int a1), (2, .int a2), (3, .long a3)]) (st' := [.int o11]) rfl ?_
          by_cases hc13 : o11 ≤ 0
          · replace h := tk_ifT hc13 h
            refine tk_bT  rfl rfl rfl (c := o11 ≤ 0) hc13 (pc' := 97) (ls' := [(5, .int o11), (0, .ref 295), (1, .int a1), (2, .int a2), (3, .long a3)]) (st' := []) ?_
            refine tk_Ps  1 (pc' := 98) (ls' := [(5, .int o11), (0, .ref 295), (1, .int a1), (2, .int a2), (3, .long a3)]) (st' := [.ref 295]) rfl ?_
            refine tk_HR  rfl rfl ly295 rt295_8 ?_
            refine tk_Ps  1 (pc' := 102) (ls' := [(5, .int o11), (0, .ref 295), (1, .int a1), (2, .int a2), (3, .long a3)]) (st' := [.int a2, .ref 348]) rfl ?_
            refine tk_HIa  rfl rfl ly348 hg1 ?_
            replace h := Option.some.inj h
            subst h
            exact tk_RI  rfl rfl rfl
          · replace h := tk_ifF hc13 h
            refine tk_bF  rfl rfl rfl (c := o11 ≤ 0) hc13 (pc' := 88) (ls' := [(5, .int o11), (0, .ref 295), (1, .int a1), (2, .int a2), (3, .long a3)]) (st' := []) ?_
            refine tk_Ps  1 (pc' := 89) (ls' := [(5, .int o11), (0, .ref 295), (1, .int a1), (2, .int a2), (3, .long a3)]) (st' := [.ref 295]) rfl ?_
            refine tk_HR  rfl rfl ly295 rt295_8 ?_
            refine tk_Ps  1 (pc' := 93) (ls' := [(5, .int o11), (0, .ref 295), (1, .int a1), (2, .int a2), (3, .long a3)]) (st' := [.int a1, .ref 348]) rfl ?_
            refine tk_HIa  rfl rfl ly348 hg4 ?_
            refine tk_Ps  1 (pc' := 103) (ls' := [(5, .int o11), (0, .ref 295), (1, .int a1), (2, .int a2), (3, .long a3)]) (st' := [.int (o10.2.1 348 (tk_n a1))]) rfl ?_
            replace h := Option.some.inj h
            subst h
            exact tk_RI  rfl rfl rfl
theorem ok_fM_takes_150 (sc : tk_X) (v1 : Int32) (v2 : Int64) (v4 : Int64) (v6 : Nat) (v7 : Int64) (m : tk_m) (hv6 : tk_lay[v6]? = some (.inr (1, 8))) (out : tk_m) (h : fM_takes_150 v1 v2 v4 v6 v7 m = some out) : tk_Ex sc 3 tk_r222 tk_k222 150 [(0, .ref 295), (1, .int v1), (2, .long v2), (4, .long v4), (6, .ref v6), (7, .long v7)] [] (tk_full m) (none, tk_full out) := by
  unfold fM_takes_150 at h
  refine tk_Ps  3 (pc' := 155) (ls' := [(0, .ref 295), (1, .int v1), (2, .long v2), (4, .long v4), (6, .ref v6), (7, .long v7)]) (st' := [.long v2, .int (6 : Int32), .ref v6]) rfl ?_
  refine tk_SJa  rfl rfl hv6 (by decide) ?_
  refine tk_Ps  4 (pc' := 164) (ls' := [(0, .ref 295), (1, .int v1), (2, .long v2), (4, .long v4), (6, .ref v6), (7, .long v7)]) (st' := [.long v7, .long v4, .int (7 : Int32), .ref v6]) rfl ?_
  obtain ⟨hz1, h⟩ := tk_grn h
  refine tk_ldiv  rfl rfl hz1 ?_
  refine tk_SJa  rfl rfl hv6 (by decide) ?_
  refine tk_Ps  2 (pc' := 168) (ls' := [(0, .ref 295), (1, .int v1), (2, .long v2), (4, .long v4), (6, .ref v6), (7, .long v7)]) (st' := [.int (0 : Int32), .ref 295]) rfl ?_
  refine tk_SI  rfl rfl ly295 ?_
  refine tk_Ps  4 (pc' := 176) (ls' := [(0, .ref 295), (1, .int v1), (2, .long v2), (4, .long v4), (6, .ref v6), (7, .long v7)]) (st' := [.int (2 : Int32), .ref v6, .ref 295, .ref 295]) rfl ?_
  refine tk_HJa  rfl rfl hv6 (by decide) ?_
  obtain ⟨o2, ho2, h⟩ := tk_bnd h
  refine tk_cV1  rfl rfl (r := 295) (as := [.long (tk_u2 (tk_u2 m.2.1 v6 6 v2) v6 7 (v4 / v7) v6 2)]) (rest := [.ref 295]) rfl ly295 rfl rfl (ok_fM_widens sc (tk_u2 (tk_u2 m.2.1 v6 6 v2) v6 7 (v4 / v7) v6 2) (tk_u2 m.1 295 9 (0 : Int32), tk_u2 (tk_u2 m.2.1 v6 6 v2) v6 7 (v4 / v7), m.2.2.1, m.2.2.2) ho2) ?_
  refine tk_Ps  3 (pc' := 184) (ls' := [(0, .ref 295), (1, .int v1), (2, .long v2), (4, .long v4), (6, .ref v6), (7, .long v7)]) (st' := [.int (5 : Int32), .ref v6, .ref 295, .int o2.1, .ref 295]) rfl ?_
  refine tk_HJa  rfl rfl hv6 (by decide) ?_
  obtain ⟨o3, ho3, h⟩ := tk_bnd h
  refine tk_cV1  rfl rfl (r := 295) (as := [.long (o2.2.2.1 v6 5)]) (rest := [.int o2.1, .ref 295]) rfl ly295 rfl rfl (ok_fM_widens sc (o2.2.2.1 v6 5) o2.2 ho3) ?_
  refine tk_Ps  1 (pc' := 189) (ls' := [(0, .ref 295), (1, .int v1), (2, .long v2), (4, .long v4), (6, .ref v6), (7, .long v7)]) (st' := [.long v2, .int o3.1, .int o2.1, .ref 295]) rfl ?_
  obtain ⟨o4, ho4, h⟩ := tk_bnd h
  refine tk_cV1  rfl rfl (r := 295) (as := [.int o2.1, .int o3.1, .long v2]) (rest := []) rfl ly295 rfl rfl (ok_fM_signOf sc o2.1 o3.1 v2 o3.2 ho4) ?_
  by_cases hc5 : 0 < o4.1
  · replace h := tk_ifT hc5 h
    refine tk_bT  rfl rfl rfl (c := 0 < o4.1) hc5 (pc' := 196) (ls' := [(0, .ref 295), (1, .int v1), (2, .long v2), (4, .long v4), (6, .ref v6), (7, .long v7)]) (st' := []) ?_
    refine tk_Ps  1 (pc' := 197) (ls' := [(0, .ref 295), (1, .int v1), (2, .long v2), (4, .long v4), (6, .ref v6), (7, .long v7)]) (st' := [.ref 295]) rfl ?_
    refine tk_HR  rfl rfl ly295 rt295_12 ?_
    refine tk_Ps  1 (pc' := 201) (ls' := [(0, .ref 295), (1, .int v1), (2, .long v2), (4, .long v4), (6, .ref v6), (7, .long v7)]) (st' := [.ref 295, .ref 349]) rfl ?_
    refine tk_HI  rfl rfl ly295 ?_
    refine tk_Ps  1 (pc' := 205) (ls' := [(0, .ref 295), (1, .int v1), (2, .long v2), (4, .long v4), (6, .ref v6), (7, .long v7)]) (st' := [.int v1, .int (o4.2.1 295 10), .ref 349]) rfl ?_
    obtain ⟨hg6, h⟩ := tk_grd h
    refine tk_SIa  rfl rfl ly349 hg6 ?_
    refine tk_Ps  2 (pc' := 208) (ls' := [(0, .ref 295), (1, .int v1), (2, .long v2), (4, .long v4), (6, .ref v6), (7, .long v7)]) (st' := [.ref 295, .ref 295]) rfl ?_
    refine tk_HI  rfl rfl ly295 ?_
    refine tk_Ps  2 (pc' := 213) (ls' := [(0, .ref 295), (1, .int v1), (2, .long v2), (4, .long v4), (6, .ref v6), (7, .long v7)]) (st' := [.int ((tk_u2 o4.2.1 349 (tk_n (o4.2.1 295 10)) v1 295 10) + (1 : Int32)), .ref 295]) rfl ?_
    refine tk_SI  rfl rfl ly295 ?_
    replace h := Option.some.inj h
    subst h
    exact tk_RV  rfl rfl rfl
  · replace h := tk_ifF hc5 h
    refine tk_bF  rfl rfl rfl (c := 0 < o4.1) hc5 (pc' := 195) (ls' := [(0, .ref 295), (1, .int v1), (2, .long v2), (4, .long v4), (6, .ref v6), (7, .long v7)]) (st' := []) ?_
    replace h := Option.some.inj h
    subst h
    exact tk_RV  rfl rfl rfl
theorem ok_fM_takes_73 (sc : tk_X) : ∀ (n : Nat) (v1 : Int32) (v2 : Int64) (v4 : Int64) (v6 : Nat) (v7 : Int64) (v9 : Int32) (m : tk_m) (hv6 : tk_lay[v6]? = some (.inr (1, 8))) (out : tk_m), fM_takes_73 n v1 v2 v4 v6 v7 v9 m = some out → tk_Ex sc 3 tk_r222 tk_k222 73 [(0, .ref 295), (1, .int v1), (2, .long v2), (4, .long v4), (6, .ref v6), (7, .long v7), (9, .int v9)] [] (tk_full m) (none, tk_full out) := by
  intro n
  induction n with
  | zero =>
    intro v1 v2 v4 v6 v7 v9 m hv6 out h
    cases h
  | succ n ih =>
    intro v1 v2 v4 v6 v7 v9 m hv6 out h
    unfold fM_takes_73 at h
    refine tk_Ps  2 (pc' := 76) (ls' := [(0, .ref 295), (1, .int v1), (2, .long v2), (4, .long v4), (6, .ref v6), (7, .long v7), (9, .int v9)]) (st' := [.int (3 : Int32), .int v9]) rfl ?_
    by_cases hc1 : (3 : Int32) ≤ v9
    · replace h := tk_ifT hc1 h
      refine tk_bT  rfl rfl rfl (c := (3 : Int32) ≤ v9) hc1 (pc' := 150) (ls' := [(0, .ref 295), (1, .int v1), (2, .long v2), (4, .long v4), (6, .ref v6), (7, .long v7), (9, .int v9)]) (st' := []) ?_
      refine tk_Kp  (ls' := [(0, .ref 295), (1, .int v1), (2, .long v2), (4, .long v4), (6, .ref v6), (7, .long v7)]) rfl rfl ?_
      exact ok_fM_takes_150 sc v1 v2 v4 v6 v7 m hv6 _ h
    · replace h := tk_ifF hc1 h
      refine tk_bF  rfl rfl rfl (c := (3 : Int32) ≤ v9) hc1 (pc' := 79) (ls' := [(0, .ref 295), (1, .int v1), (2, .long v2), (4, .long v4), (6, .ref v6), (7, .long v7), (9, .int v9)]) (st' := []) ?_
      refine tk_Ps  3 (pc' := 84) (ls' := [(0, .ref 295), (1, .int v1), (2, .long v2), (4, .long v4), (6, .ref v6), (7, .long v7), (9, .int v9)]) (st' := [.ref 295, .int v9, .ref v6]) rfl ?_
      refine tk_HR  rfl rfl ly295 rt295_21 ?_
      refine tk_Ps  1 (pc' := 89) (ls' := [(0, .ref 295), (1, .int v1), (2, .long v2), (4, .long v4), (6, .ref v6), (7, .long v7), (9, .int v9)]) (st' := [.int v9, .ref 440, .int v9, .ref v6]) rfl ?_
      obtain ⟨hg2, h⟩ := tk_grd h
      refine tk_HJa  rfl rfl ly440 hg2 ?_
      refine tk_Ps  1 (pc' := 92) (ls' := [(0, .ref 295), (1, .int v1), (2, .long v2), (4, .long v4), (6, .ref v6), (7, .long v7), (9, .int v9)]) (st' := [.long v7, .long (m.2.1 440 (tk_n v9)), .int v9, .ref v6]) rfl ?_
      obtain ⟨hz3, h⟩ := tk_grn h
      refine tk_ldiv  rfl rfl hz3 ?_
      obtain ⟨hg4, h⟩ := tk_grd h
      refine tk_SJa  rfl rfl hv6 hg4 ?_
      refine tk_Ps  5 (pc' := 101) (ls' := [(0, .ref 295), (1, .int v1), (2, .long v2), (4, .long v4), (6, .ref v6), (7, .long v7), (9, .int v9)]) (st' := [.ref 295, .int ((3 : Int32) + v9), .ref v6]) rfl ?_
      refine tk_HR  rfl rfl ly295 rt295_22 ?_
      refine tk_Ps  1 (pc' := 106) (ls' := [(0, .ref 295), (1, .int v1), (2, .long v2), (4, .long v4), (6, .ref v6), (7, .long v7), (9, .int v9)]) (st' := [.int v9, .ref 441, .int ((3 : Int32) + v9), .ref v6]) rfl ?_
      refine tk_HJa  rfl rfl ly441 hg2 ?_
      refine tk_Ps  1 (pc' := 109) (ls' := [(0, .ref 295), (1, .int v1), (2, .long v2), (4, .long v4), (6, .ref v6), (7, .long v7), (9, .int v9)]) (st' := [.long v7, .long (tk_u2 m.2.1 v6 (tk_n v9) ((m.2.1 440 (tk_n v9)) / v7) 441 (tk_n v9)), .int ((3 : Int32) + v9), .ref v6]) rfl ?_
      obtain ⟨hz5, h⟩ := tk_grn h
      refine tk_ldiv  rfl rfl hz5 ?_
      obtain ⟨hg6, h⟩ := tk_grd h
      refine tk_SJa  rfl rfl hv6 hg6 ?_
      refine tk_Ps  2 (pc' := 113) (ls' := [(0, .ref 295), (1, .int v1), (2, .long v2), (4, .long v4), (6, .ref v6), (7, .long v7), (9, .int v9)]) (st' := [.ref 295, .ref 295]) rfl ?_
      refine tk_HR  rfl rfl ly295 rt295_21 ?_
      refine tk_Ps  1 (pc' := 118) (ls' := [(0, .ref 295), (1, .int v1), (2, .long v2), (4, .long v4), (6, .ref v6), (7, .long v7), (9, .int v9)]) (st' := [.int v9, .ref 440, .ref 295]) rfl ?_
      refine tk_HJa  rfl rfl ly440 hg2 ?_
      refine tk_Ps  1 (pc' := 120) (ls' := [(0, .ref 295), (1, .int v1), (2, .long v2), (4, .long v4), (6, .ref v6), (7, .long v7), (9, .int v9)]) (st' := [.ref 295, .long (tk_u2 (tk_u2 m.2.1 v6 (tk_n v9) ((m.2.1 440 (tk_n v9)) / v7)) v6 (tk_n ((3 : Int32) + v9)) ((tk_u2 m.2.1 v6 (tk_n v9) ((m.2.1 440 (tk_n v9)) / v7) 441 (tk_n v9)) / v7) 440 (tk_n v9)), .ref 295]) rfl ?_
      refine tk_HR  rfl rfl ly295 rt295_22 ?_
      refine tk_Ps  1 (pc' := 125) (ls' := [(0, .ref 295), (1, .int v1), (2, .long v2), (4, .long v4), (6, .ref v6), (7, .long v7), (9, .int v9)]) (st' := [.int v9, .ref 441, .long (tk_u2 (tk_u2 m.2.1 v6 (tk_n v9) ((m.2.1 440 (tk_n v9)) / v7)) v6 (tk_n ((3 : Int32) + v9)) ((tk_u2 m.2.1 v6 (tk_n v9) ((m.2.1 440 (tk_n v9)) / v7) 441 (tk_n v9)) / v7) 440 (tk_n v9)), .ref 295]) rfl ?_
      refine tk_HJa  rfl rfl ly441 hg2 ?_
      refine tk_Ps  3 (pc' := 130) (ls' := [(0, .ref 295), (1, .int v1), (2, .long v2), (4, .long v4), (6, .ref v6), (7, .long v7), (9, .int v9)]) (st' := [.ref 295, .long v4, .long v2, .long (tk_u2 (tk_u2 m.2.1 v6 (tk_n v9) ((m.2.1 440 (tk_n v9)) / v7)) v6 (tk_n ((3 : Int32) + v9)) ((tk_u2 m.2.1 v6 (tk_n v9) ((m.2.1 440 (tk_n v9)) / v7) 441 (tk_n v9)) / v7) 441 (tk_n v9)), .long (tk_u2 (tk_u2 m.2.1 v6 (tk_n v9) ((m.2.1 440 (tk_n v9)) / v7)) v6 (tk_n ((3 : Int32) + v9)) ((tk_u2 m.2.1 v6 (tk_n v9) ((m.2.1 440 (tk_n v9)) / v7) 441 (tk_n v9)) / v7) 440 (tk_n v9)), .ref 295]) rfl ?_
      refine tk_HR  rfl rfl ly295 rt295_13 ?_
      refine tk_Ps  1 (pc' := 134) (ls' := [(0, .ref 295), (1, .int v1), (2, .long v2), (4, .long v4), (6, .ref v6), (7, .long v7), (9, .int v9)]) (st' := [.ref 295, .ref 350, .long v4, .long v2, .long (tk_u2 (tk_u2 m.2.1 v6 (tk_n v9) ((m.2.1 440 (tk_n v9)) / v7)) v6 (tk_n ((3 : Int32) + v9)) ((tk_u2 m.2.1 v6 (tk_n v9) ((m.2.1 440 (tk_n v9)) / v7) 441 (tk_n v9)) / v7) 441 (tk_n v9)), .long (tk_u2 (tk_u2 m.2.1 v6 (tk_n v9) ((m.2.1 440 (tk_n v9)) / v7)) v6 (tk_n ((3 : Int32) + v9)) ((tk_u2 m.2.1 v6 (tk_n v9) ((m.2.1 440 (tk_n v9)) / v7) 441 (tk_n v9)) / v7) 440 (tk_n v9)), .ref 295]) rfl ?_
      refine tk_HI  rfl rfl ly295 ?_
      obtain ⟨hg7, h⟩ := tk_grd h
      refine tk_HQ  rfl rfl ly350 hg7 (la350 _ (hg7).2).1 ?_
      refine tk_Ps  1 (pc' := 140) (ls' := [(0, .ref 295), (1, .int v1), (2, .long v2), (4, .long v4), (6, .ref v6), (7, .long v7), (9, .int v9)]) (st' := [.int v9, .ref (351 + 4 * (tk_n (m.1 295 10))), .long v4, .long v2, .long (tk_u2 (tk_u2 m.2.1 v6 (tk_n v9) ((m.2.1 440 (tk_n v9)) / v7)) v6 (tk_n ((3 : Int32) + v9)) ((tk_u2 m.2.1 v6 (tk_n v9) ((m.2.1 440 (tk_n v9)) / v7) 441 (tk_n v9)) / v7) 441 (tk_n v9)), .long (tk_u2 (tk_u2 m.2.1 v6 (tk_n v9) ((m.2.1 440 (tk_n v9)) / v7)) v6 (tk_n ((3 : Int32) + v9)) ((tk_u2 m.2.1 v6 (tk_n v9) ((m.2.1 440 (tk_n v9)) / v7) 441 (tk_n v9)) / v7) 440 (tk_n v9)), .ref 295]) rfl ?_
      refine tk_HQ  rfl rfl ((la350 _ (hg7).2).2) hg2 (lbR _ ((hg7).2) _ (hg2).2).1 ?_
      obtain ⟨o8, ho8, h⟩ := tk_bnd h
      refine tk_cV0  rfl rfl (r := 295) (as := [.long (tk_u2 (tk_u2 m.2.1 v6 (tk_n v9) ((m.2.1 440 (tk_n v9)) / v7)) v6 (tk_n ((3 : Int32) + v9)) ((tk_u2 m.2.1 v6 (tk_n v9) ((m.2.1 440 (tk_n v9)) / v7) 441 (tk_n v9)) / v7) 440 (tk_n v9)), .long (tk_u2 (tk_u2 m.2.1 v6 (tk_n v9) ((m.2.1 440 (tk_n v9)) / v7)) v6 (tk_n ((3 : Int32) + v9)) ((tk_u2 m.2.1 v6 (tk_n v9) ((m.2.1 440 (tk_n v9)) / v7) 441 (tk_n v9)) / v7) 441 (tk_n v9)), .long v2, .long v4, .ref ((351 + 4 * (tk_n (m.1 295 10))) + 1 + (tk_n v9))]) (rest := []) rfl ly295 rfl rfl (ok_fM_lowest sc (tk_u2 (tk_u2 m.2.1 v6 (tk_n v9) ((m.2.1 440 (tk_n v9)) / v7)) v6 (tk_n ((3 : Int32) + v9)) ((tk_u2 m.2.1 v6 (tk_n v9) ((m.2.1 440 (tk_n v9)) / v7) 441 (tk_n v9)) / v7) 440 (tk_n v9)) (tk_u2 (tk_u2 m.2.1 v6 (tk_n v9) ((m.2.1 440 (tk_n v9)) / v7)) v6 (tk_n ((3 : Int32) + v9)) ((tk_u2 m.2.1 v6 (tk_n v9) ((m.2.1 440 (tk_n v9)) / v7) 441 (tk_n v9)) / v7) 441 (tk_n v9)) v2 v4 ((351 + 4 * (tk_n (m.1 295 10))) + 1 + (tk_n v9)) (m.1, tk_u2 (tk_u2 m.2.1 v6 (tk_n v9) ((m.2.1 440 (tk_n v9)) / v7)) v6 (tk_n ((3 : Int32) + v9)) ((tk_u2 m.2.1 v6 (tk_n v9) ((m.2.1 440 (tk_n v9)) / v7) 441 (tk_n v9)) / v7), m.2.2.1, m.2.2.2) (tk_al_of ((lbR _ ((hg7).2) _ (hg2).2).2)) ho8) ?_
      refine tk_Ps  2 (pc' := 73) (ls' := [(9, .int (v9 + (1 : Int32))), (0, .ref 295), (1, .int v1), (2, .long v2), (4, .long v4), (6, .ref v6), (7, .long v7)]) (st' := []) rfl ?_
      refine tk_Kp  (ls' := [(0, .ref 295), (1, .int v1), (2, .long v2), (4, .long v4), (6, .ref v6), (7, .long v7), (9, .int (v9 + (1 : Int32)))]) rfl rfl ?_
      exact ih v1 v2 v4 v6 v7 (v9 + (1 : Int32)) o8 hv6 _ h
theorem ok_fM_takes_58 (sc : tk_X) (v1 : Int32) (v2 : Int64) (v4 : Int64) (v6 : Nat) (v7 : Int64) (m : tk_m) (hv6 : tk_lay[v6]? = some (.inr (1, 8))) (out : tk_m) (h : fM_takes_58 v1 v2 v4 v6 v7 m = some out) : tk_Ex sc 3 tk_r222 tk_k222 58 [(0, .ref 295), (1, .int v1), (2, .long v2), (4, .long v4), (6, .ref v6), (7, .long v7)] [] (tk_full m) (none, tk_full out) := by
  unfold fM_takes_58 at h
  refine tk_Ps  3 (pc' := 62) (ls' := [(0, .ref 295), (1, .int v1), (2, .long v2), (4, .long v4), (6, .ref v6), (7, .long v7)]) (st' := [.int (lg_cmp v4 (0 : Int64))]) rfl ?_
  by_cases hc1 : v4 ≤ (0 : Int64)
  · replace h := tk_ifT hc1 h
    refine tk_bT  rfl rfl tk_eL_le (c := v4 ≤ (0 : Int64)) hc1 (pc' := 70) (ls' := [(0, .ref 295), (1, .int v1), (2, .long v2), (4, .long v4), (6, .ref v6), (7, .long v7)]) (st' := []) ?_
    refine tk_Ps  2 (pc' := 73) (ls' := [(9, .int (0 : Int32)), (0, .ref 295), (1, .int v1), (2, .long v2), (4, .long v4), (6, .ref v6), (7, .long v7)]) (st' := []) rfl ?_
    refine tk_Kp  (ls' := [(0, .ref 295), (1, .int v1), (2, .long v2), (4, .long v4), (6, .ref v6), (7, .long v7), (9, .int (0 : Int32))]) rfl rfl ?_
    exact ok_fM_takes_73 sc tk_F v1 v2 v4 v6 v7 (0 : Int32) m hv6 _ h
  · replace h := tk_ifF hc1 h
    refine tk_bF  rfl rfl tk_eL_le (c := v4 ≤ (0 : Int64)) hc1 (pc' := 65) (ls' := [(0, .ref 295), (1, .int v1), (2, .long v2), (4, .long v4), (6, .ref v6), (7, .long v7)]) (st' := []) ?_
    refine tk_Ps  5 (pc' := 73) (ls' := [(9, .int (0 : Int32)), (7, .long (-v7)), (0, .ref 295), (1, .int v1), (2, .long v2), (4, .long v4), (6, .ref v6)]) (st' := []) rfl ?_
    refine tk_Kp  (ls' := [(0, .ref 295), (1, .int v1), (2, .long v2), (4, .long v4), (6, .ref v6), (7, .long (-v7)), (9, .int (0 : Int32))]) rfl rfl ?_
    exact ok_fM_takes_73 sc tk_F v1 v2 v4 v6 (-v7) (0 : Int32) m hv6 _ h
theorem ok_fM_takes_22 (sc : tk_X) : ∀ (n : Nat) (v1 : Int32) (v2 : Int64) (v4 : Int64) (v6 : Nat) (v7 : Int64) (v9 : Int32) (m : tk_m) (hv6 : tk_lay[v6]? = some (.inr (1, 8))) (out : tk_m), fM_takes_22 n v1 v2 v4 v6 v7 v9 m = some out → tk_Ex sc 3 tk_r222 tk_k222 22 [(0, .ref 295), (1, .int v1), (2, .long v2), (4, .long v4), (6, .ref v6), (7, .long v7), (9, .int v9)] [] (tk_full m) (none, tk_full out) := by
  intro n
  induction n with
  | zero =>
    intro v1 v2 v4 v6 v7 v9 m hv6 out h
    cases h
  | succ n ih =>
    intro v1 v2 v4 v6 v7 v9 m hv6 out h
    unfold fM_takes_22 at h
    refine tk_Ps  2 (pc' := 25) (ls' := [(0, .ref 295), (1, .int v1), (2, .long v2), (4, .long v4), (6, .ref v6), (7, .long v7), (9, .int v9)]) (st' := [.int (3 : Int32), .int v9]) rfl ?_
    by_cases hc1 : (3 : Int32) ≤ v9
    · replace h := tk_ifT hc1 h
      refine tk_bT  rfl rfl rfl (c := (3 : Int32) ≤ v9) hc1 (pc' := 58) (ls' := [(0, .ref 295), (1, .int v1), (2, .long v2), (4, .long v4), (6, .ref v6), (7, .long v7), (9, .int v9)]) (st' := []) ?_
      refine tk_Kp  (ls' := [(0, .ref 295), (1, .int v1), (2, .long v2), (4, .long v4), (6, .ref v6), (7, .long v7)]) rfl rfl ?_
      exact ok_fM_takes_58 sc v1 v2 v4 v6 v7 m hv6 _ h
    · replace h := tk_ifF hc1 h
      refine tk_bF  rfl rfl rfl (c := (3 : Int32) ≤ v9) hc1 (pc' := 28) (ls' := [(0, .ref 295), (1, .int v1), (2, .long v2), (4, .long v4), (6, .ref v6), (7, .long v7), (9, .int v9)]) (st' := []) ?_
      refine tk_Ps  2 (pc' := 31) (ls' := [(0, .ref 295), (1, .int v1), (2, .long v2), (4, .long v4), (6, .ref v6), (7, .long v7), (9, .int v9)]) (st' := [.ref 295, .long v7]) rfl ?_
      refine tk_HR  rfl rfl ly295 rt295_21 ?_
      refine tk_Ps  1 (pc' := 36) (ls' := [(0, .ref 295), (1, .int v1), (2, .long v2), (4, .long v4), (6, .ref v6), (7, .long v7), (9, .int v9)]) (st' := [.int v9, .ref 440, .long v7]) rfl ?_
      obtain ⟨hg2, h⟩ := tk_grd h
      refine tk_HJa  rfl rfl ly440 hg2 ?_
      obtain ⟨o3, ho3, h⟩ := tk_bnd h
      refine tk_cS1  rfl rfl (as := [.long v7, .long (m.2.1 440 (tk_n v9))]) (rest := []) rfl rfl rfl (ok_fM_below sc v7 (m.2.1 440 (tk_n v9)) m ho3) ?_
      refine tk_Ps  1 (pc' := 41) (ls' := [(0, .ref 295), (1, .int v1), (2, .long v2), (4, .long v4), (6, .ref v6), (7, .long v7), (9, .int v9)]) (st' := [.ref 295, .long o3]) rfl ?_
      refine tk_HR  rfl rfl ly295 rt295_22 ?_
      refine tk_Ps  1 (pc' := 46) (ls' := [(0, .ref 295), (1, .int v1), (2, .long v2), (4, .long v4), (6, .ref v6), (7, .long v7), (9, .int v9)]) (st' := [.int v9, .ref 441, .long o3]) rfl ?_
      refine tk_HJa  rfl rfl ly441 hg2 ?_
      obtain ⟨o4, ho4, h⟩ := tk_bnd h
      refine tk_cS1  rfl rfl (as := [.long o3, .long (m.2.1 441 (tk_n v9))]) (rest := []) rfl rfl rfl (ok_fM_below sc o3 (m.2.1 441 (tk_n v9)) m ho4) ?_
      refine tk_Ps  3 (pc' := 22) (ls' := [(9, .int (v9 + (1 : Int32))), (7, .long o4), (0, .ref 295), (1, .int v1), (2, .long v2), (4, .long v4), (6, .ref v6)]) (st' := []) rfl ?_
      refine tk_Kp  (ls' := [(0, .ref 295), (1, .int v1), (2, .long v2), (4, .long v4), (6, .ref v6), (7, .long o4), (9, .int (v9 + (1 : Int32)))]) rfl rfl ?_
      exact ih v1 v2 v4 v6 o4 (v9 + (1 : Int32)) m hv6 _ h
theorem ok_fM_takes (sc : tk_X) (a1 : Int32) (a2 : Int64) (a3 : Int64) (m : tk_m) {out : tk_m} (h : fM_takes a1 a2 a3 m = some out) : tk_Ru sc 4 222 [.ref 295, .int a1, .long a2, .long a3] (tk_full m) (none, tk_full out) := by
  unfold fM_takes at h
  refine tk_Ru0 me222 (ls := [(0, .ref 295), (1, .int a1), (2, .long a2), (4, .long a3)]) rfl rfl ?_
  refine tk_Ps  1 (pc' := 1) (ls' := [(0, .ref 295), (1, .int a1), (2, .long a2), (4, .long a3)]) (st' := [.ref 295]) rfl ?_
  refine tk_HR  rfl rfl ly295 rt295_14 ?_
  refine tk_Ps  1 (pc' := 5) (ls' := [(0, .ref 295), (1, .int a1), (2, .long a2), (4, .long a3)]) (st' := [.ref 295, .ref 415]) rfl ?_
  refine tk_HI  rfl rfl ly295 ?_
  obtain ⟨hg1, h⟩ := tk_grd h
  refine tk_HQ  rfl rfl ly415 hg1 (la415 _ (hg1).2).1 ?_
  refine tk_Ps  3 (pc' := 14) (ls' := [(6, .ref (416 + (tk_n (m.1 295 10)))), (0, .ref 295), (1, .int a1), (2, .long a2), (4, .long a3)]) (st' := [.long (0 : Int64), .long a3]) rfl ?_
  obtain ⟨o2, ho2, h⟩ := tk_bnd h
  refine tk_cS1  rfl rfl (as := [.long a3, .long (0 : Int64)]) (rest := []) rfl rfl rfl (ok_fM_below sc a3 (0 : Int64) m ho2) ?_
  refine tk_Ps  3 (pc' := 22) (ls' := [(9, .int (0 : Int32)), (7, .long o2), (6, .ref (416 + (tk_n (m.1 295 10)))), (0, .ref 295), (1, .int a1), (2, .long a2), (4, .long a3)]) (st' := []) rfl ?_
  refine tk_Kp  (ls' := [(0, .ref 295), (1, .int a1), (2, .long a2), (4, .long a3), (6, .ref (416 + (tk_n (m.1 295 10)))), (7, .long o2), (9, .int (0 : Int32))]) rfl rfl ?_
  exact ok_fM_takes_22 sc tk_F a1 a2 a3 (416 + (tk_n (m.1 295 10))) o2 (0 : Int32) m ((la415 _ (hg1).2).2) _ h
theorem ok_fM_byFirst_203 (sc : tk_X) (v1 : Int32) (v2 : Int64) (m : tk_m) (out : tk_m) (h : fM_byFirst_203 v1 v2 m = some out) : tk_Ex sc 4 tk_r220 tk_k220 203 [(0, .ref 295), (1, .int v1), (2, .long v2)] [] (tk_full m) (none, tk_full out) := by
  unfold fM_byFirst_203 at h
  refine tk_Ps  6 (pc' := 211) (ls' := [(0, .ref 295), (1, .int v1), (2, .long v2)]) (st' := [.long ((2 : Int64) * v2), .long (0 : Int64), .int v1, .ref 295]) rfl ?_
  obtain ⟨o1, ho1, h⟩ := tk_bnd h
  refine tk_cV0  rfl rfl (r := 295) (as := [.int v1, .long (0 : Int64), .long ((2 : Int64) * v2)]) (rest := []) rfl ly295 rfl rfl (ok_fM_takes sc v1 (0 : Int64) ((2 : Int64) * v2) m ho1) ?_
  replace h := Option.some.inj h
  subst h
  exact tk_RV  rfl rfl rfl
theorem ok_fM_byFirst_158 (sc : tk_X) (r120 : Int32 → Int64 → Int32 → tk_m → Option tk_m) (H120 : ∀ (v1 : Int32) (v2 : Int64) (v4 : Int32) (m : tk_m) (out : tk_m), r120 v1 v2 v4 m = some out → tk_Ex sc 4 tk_r220 tk_k220 120 [(0, .ref 295), (1, .int v1), (2, .long v2), (4, .int v4)] [] (tk_full m) (none, tk_full out)) : ∀ (n : Nat) (v1 : Int32) (v2 : Int64) (v4 : Int32) (v5 : Int32) (m : tk_m) (out : tk_m), fM_byFirst_158 r120 n v1 v2 v4 v5 m = some out → tk_Ex sc 4 tk_r220 tk_k220 158 [(0, .ref 295), (1, .int v1), (2, .long v2), (4, .int v4), (5, .int v5)] [] (tk_full m) (none, tk_full out) := by
  intro n
  induction n with
  | zero =>
    intro v1 v2 v4 v5 m out h
    cases h
  | succ n ih =>
    intro v1 v2 v4 v5 m out h
    unfold fM_byFirst_158 at h
    refine tk_Ps  2 (pc' := 161) (ls' := [(0, .ref 295), (1, .int v1), (2, .long v2), (4, .int v4), (5, .int v5)]) (st' := [.int (3 : Int32), .int v5]) rfl ?_
    by_cases hc1 : (3 : Int32) ≤ v5
    · replace h := tk_ifT hc1 h
      refine tk_bT  rfl rfl rfl (c := (3 : Int32) ≤ v5) hc1 (pc' := 197) (ls' := [(0, .ref 295), (1, .int v1), (2, .long v2), (4, .int v4), (5, .int v5)]) (st' := []) ?_
      refine tk_Ps  2 (pc' := 120) (ls' := [(4, .int (v4 + (1 : Int32))), (0, .ref 295), (1, .int v1), (2, .long v2), (5, .int v5)]) (st' := []) rfl ?_
      refine tk_Kp  (ls' := [(0, .ref 295), (1, .int v1), (2, .long v2), (4, .int (v4 + (1 : Int32)))]) rfl rfl ?_
      exact H120 v1 v2 (v4 + (1 : Int32)) m _ h
    · replace h := tk_ifF hc1 h
      refine tk_bF  rfl rfl rfl (c := (3 : Int32) ≤ v5) hc1 (pc' := 164) (ls' := [(0, .ref 295), (1, .int v1), (2, .long v2), (4, .int v4), (5, .int v5)]) (st' := []) ?_
      refine tk_Ps  1 (pc' := 165) (ls' := [(0, .ref 295), (1, .int v1), (2, .long v2), (4, .int v4), (5, .int v5)]) (st' := [.ref 295]) rfl ?_
      refine tk_HR  rfl rfl ly295 rt295_21 ?_
      refine tk_Ps  2 (pc' := 171) (ls' := [(0, .ref 295), (1, .int v1), (2, .long v2), (4, .int v4), (5, .int v5)]) (st' := [.int v5, .ref 440, .int v5, .ref 440]) rfl ?_
      obtain ⟨hg2, h⟩ := tk_grd h
      refine tk_HJa  rfl rfl ly440 hg2 ?_
      refine tk_Ps  1 (pc' := 173) (ls' := [(0, .ref 295), (1, .int v1), (2, .long v2), (4, .int v4), (5, .int v5)]) (st' := [.ref 295, .long (m.2.1 440 (tk_n v5)), .int v5, .ref 440]) rfl ?_
      refine tk_HR  rfl rfl ly295 rt295_15 ?_
      refine tk_Ps  1 (pc' := 178) (ls' := [(0, .ref 295), (1, .int v1), (2, .long v2), (4, .int v4), (5, .int v5)]) (st' := [.int v4, .ref 432, .long (m.2.1 440 (tk_n v5)), .int v5, .ref 440]) rfl ?_
      obtain ⟨hg3, h⟩ := tk_grd h
      refine tk_HQ  rfl rfl ly432 hg3 (la432 _ (hg3).2).1 ?_
      refine tk_Ps  1 (pc' := 180) (ls' := [(0, .ref 295), (1, .int v1), (2, .long v2), (4, .int v4), (5, .int v5)]) (st' := [.int (3 : Int32), .ref (433 + (tk_n v4)), .long (m.2.1 440 (tk_n v5)), .int v5, .ref 440]) rfl ?_
      refine tk_HJa  rfl rfl ((la432 _ (hg3).2).2) (by decide) ?_
      refine tk_Ps  1 (pc' := 182) (ls' := [(0, .ref 295), (1, .int v1), (2, .long v2), (4, .int v4), (5, .int v5)]) (st' := [.ref 295, .long (m.2.1 (433 + (tk_n v4)) 3), .long (m.2.1 440 (tk_n v5)), .int v5, .ref 440]) rfl ?_
      refine tk_HR  rfl rfl ly295 rt295_19 ?_
      refine tk_Ps  1 (pc' := 187) (ls' := [(0, .ref 295), (1, .int v1), (2, .long v2), (4, .int v4), (5, .int v5)]) (st' := [.int v5, .ref 438, .long (m.2.1 (433 + (tk_n v4)) 3), .long (m.2.1 440 (tk_n v5)), .int v5, .ref 440]) rfl ?_
      refine tk_HJa  rfl rfl ly438 hg2 ?_
      refine tk_Ps  2 (pc' := 190) (ls' := [(0, .ref 295), (1, .int v1), (2, .long v2), (4, .int v4), (5, .int v5)]) (st' := [.long ((m.2.1 440 (tk_n v5)) + ((m.2.1 (433 + (tk_n v4)) 3) * (m.2.1 438 (tk_n v5)))), .int v5, .ref 440]) rfl ?_
      refine tk_SJa  rfl rfl ly440 hg2 ?_
      refine tk_Ps  2 (pc' := 158) (ls' := [(5, .int (v5 + (1 : Int32))), (0, .ref 295), (1, .int v1), (2, .long v2), (4, .int v4)]) (st' := []) rfl ?_
      refine tk_Kp  (ls' := [(0, .ref 295), (1, .int v1), (2, .long v2), (4, .int v4), (5, .int (v5 + (1 : Int32)))]) rfl rfl ?_
      exact ih v1 v2 v4 (v5 + (1 : Int32)) (m.1, tk_u2 m.2.1 440 (tk_n v5) ((m.2.1 440 (tk_n v5)) + ((m.2.1 (433 + (tk_n v4)) 3) * (m.2.1 438 (tk_n v5)))), m.2.2.1, m.2.2.2) _ h
theorem ok_fM_byFirst_120 (sc : tk_X) : ∀ (n : Nat) (v1 : Int32) (v2 : Int64) (v4 : Int32) (m : tk_m) (out : tk_m), fM_byFirst_120 n v1 v2 v4 m = some out → tk_Ex sc 4 tk_r220 tk_k220 120 [(0, .ref 295), (1, .int v1), (2, .long v2), (4, .int v4)] [] (tk_full m) (none, tk_full out) := by
  intro n
  induction n with
  | zero =>
    intro v1 v2 v4 m out h
    cases h
  | succ n ih =>
    intro v1 v2 v4 m out h
    unfold fM_byFirst_120 at h
    refine tk_Ps  2 (pc' := 123) (ls' := [(0, .ref 295), (1, .int v1), (2, .long v2), (4, .int v4)]) (st' := [.int (3 : Int32), .int v4]) rfl ?_
    by_cases hc1 : (3 : Int32) ≤ v4
    · replace h := tk_ifT hc1 h
      refine tk_bT  rfl rfl rfl (c := (3 : Int32) ≤ v4) hc1 (pc' := 203) (ls' := [(0, .ref 295), (1, .int v1), (2, .long v2), (4, .int v4)]) (st' := []) ?_
      refine tk_Kp  (ls' := [(0, .ref 295), (1, .int v1), (2, .long v2)]) rfl rfl ?_
      exact ok_fM_byFirst_203 sc v1 v2 m _ h
    · replace h := tk_ifF hc1 h
      refine tk_bF  rfl rfl rfl (c := (3 : Int32) ≤ v4) hc1 (pc' := 126) (ls' := [(0, .ref 295), (1, .int v1), (2, .long v2), (4, .int v4)]) (st' := []) ?_
      refine tk_Ps  1 (pc' := 127) (ls' := [(0, .ref 295), (1, .int v1), (2, .long v2), (4, .int v4)]) (st' := [.ref 295]) rfl ?_
      refine tk_HR  rfl rfl ly295 rt295_15 ?_
      refine tk_Ps  5 (pc' := 136) (ls' := [(0, .ref 295), (1, .int v1), (2, .long v2), (4, .int v4)]) (st' := [.int (tk_irem (v4 + (1 : Int32)) (3 : Int32)), .ref 432]) rfl ?_
      obtain ⟨hg2, h⟩ := tk_grd h
      refine tk_HQ  rfl rfl ly432 hg2 (la432 _ (hg2).2).1 ?_
      refine tk_Ps  1 (pc' := 138) (ls' := [(0, .ref 295), (1, .int v1), (2, .long v2), (4, .int v4)]) (st' := [.ref 295, .ref (433 + (tk_n (tk_irem (v4 + (1 : Int32)) (3 : Int32))))]) rfl ?_
      refine tk_HR  rfl rfl ly295 rt295_15 ?_
      refine tk_Ps  5 (pc' := 147) (ls' := [(0, .ref 295), (1, .int v1), (2, .long v2), (4, .int v4)]) (st' := [.int (tk_irem (v4 + (2 : Int32)) (3 : Int32)), .ref 432, .ref (433 + (tk_n (tk_irem (v4 + (1 : Int32)) (3 : Int32))))]) rfl ?_
      obtain ⟨hg3, h⟩ := tk_grd h
      refine tk_HQ  rfl rfl ly432 hg3 (la432 _ (hg3).2).1 ?_
      refine tk_Ps  1 (pc' := 149) (ls' := [(0, .ref 295), (1, .int v1), (2, .long v2), (4, .int v4)]) (st' := [.ref 295, .ref (433 + (tk_n (tk_irem (v4 + (2 : Int32)) (3 : Int32)))), .ref (433 + (tk_n (tk_irem (v4 + (1 : Int32)) (3 : Int32))))]) rfl ?_
      refine tk_HR  rfl rfl ly295 rt295_19 ?_
      obtain ⟨o4, ho4, h⟩ := tk_bnd h
      refine tk_cS0  rfl rfl (as := [.ref (433 + (tk_n (tk_irem (v4 + (1 : Int32)) (3 : Int32)))), .ref (433 + (tk_n (tk_irem (v4 + (2 : Int32)) (3 : Int32)))), .ref 438]) (rest := []) rfl rfl rfl (ok_fM_crosses sc (433 + (tk_n (tk_irem (v4 + (1 : Int32)) (3 : Int32)))) (433 + (tk_n (tk_irem (v4 + (2 : Int32)) (3 : Int32)))) 438 m (tk_al_of ((la432 _ (hg2).2).2)) (tk_al_of ((la432 _ (hg3).2).2)) (tk_al_of ly438) ho4) ?_
      refine tk_Ps  2 (pc' := 158) (ls' := [(5, .int (0 : Int32)), (0, .ref 295), (1, .int v1), (2, .long v2), (4, .int v4)]) (st' := []) rfl ?_
      refine tk_Kp  (ls' := [(0, .ref 295), (1, .int v1), (2, .long v2), (4, .int v4), (5, .int (0 : Int32))]) rfl rfl ?_
      exact ok_fM_byFirst_158 sc (fM_byFirst_120 n) ih tk_F v1 v2 v4 (0 : Int32) o4 _ h
theorem ok_fM_byFirst_89 (sc : tk_X) : ∀ (n : Nat) (v1 : Int32) (v2 : Int64) (v4 : Int32) (m : tk_m) (out : tk_m), fM_byFirst_89 n v1 v2 v4 m = some out → tk_Ex sc 4 tk_r220 tk_k220 89 [(0, .ref 295), (1, .int v1), (2, .long v2), (4, .int v4)] [] (tk_full m) (none, tk_full out) := by
  intro n
  induction n with
  | zero =>
    intro v1 v2 v4 m out h
    cases h
  | succ n ih =>
    intro v1 v2 v4 m out h
    unfold fM_byFirst_89 at h
    refine tk_Ps  2 (pc' := 92) (ls' := [(0, .ref 295), (1, .int v1), (2, .long v2), (4, .int v4)]) (st' := [.int (3 : Int32), .int v4]) rfl ?_
    by_cases hc1 : (3 : Int32) ≤ v4
    · replace h := tk_ifT hc1 h
      refine tk_bT  rfl rfl rfl (c := (3 : Int32) ≤ v4) hc1 (pc' := 117) (ls' := [(0, .ref 295), (1, .int v1), (2, .long v2), (4, .int v4)]) (st' := []) ?_
      refine tk_Ps  2 (pc' := 120) (ls' := [(4, .int (0 : Int32)), (0, .ref 295), (1, .int v1), (2, .long v2)]) (st' := []) rfl ?_
      refine tk_Kp  (ls' := [(0, .ref 295), (1, .int v1), (2, .long v2), (4, .int (0 : Int32))]) rfl rfl ?_
      exact ok_fM_byFirst_120 sc tk_F v1 v2 (0 : Int32) m _ h
    · replace h := tk_ifF hc1 h
      refine tk_bF  rfl rfl rfl (c := (3 : Int32) ≤ v4) hc1 (pc' := 95) (ls' := [(0, .ref 295), (1, .int v1), (2, .long v2), (4, .int v4)]) (st' := []) ?_
      refine tk_Ps  1 (pc' := 96) (ls' := [(0, .ref 295), (1, .int v1), (2, .long v2), (4, .int v4)]) (st' := [.ref 295]) rfl ?_
      refine tk_HR  rfl rfl ly295 rt295_21 ?_
      refine tk_Ps  2 (pc' := 102) (ls' := [(0, .ref 295), (1, .int v1), (2, .long v2), (4, .int v4)]) (st' := [.long (0 : Int64), .int v4, .ref 440]) rfl ?_
      obtain ⟨hg2, h⟩ := tk_grd h
      refine tk_SJa  rfl rfl ly440 hg2 ?_
      refine tk_Ps  1 (pc' := 104) (ls' := [(0, .ref 295), (1, .int v1), (2, .long v2), (4, .int v4)]) (st' := [.ref 295]) rfl ?_
      refine tk_HR  rfl rfl ly295 rt295_22 ?_
      refine tk_Ps  2 (pc' := 110) (ls' := [(0, .ref 295), (1, .int v1), (2, .long v2), (4, .int v4)]) (st' := [.long (0 : Int64), .int v4, .ref 441]) rfl ?_
      refine tk_SJa  rfl rfl ly441 hg2 ?_
      refine tk_Ps  2 (pc' := 89) (ls' := [(4, .int (v4 + (1 : Int32))), (0, .ref 295), (1, .int v1), (2, .long v2)]) (st' := []) rfl ?_
      refine tk_Kp  (ls' := [(0, .ref 295), (1, .int v1), (2, .long v2), (4, .int (v4 + (1 : Int32)))]) rfl rfl ?_
      exact ih v1 v2 (v4 + (1 : Int32)) (m.1, tk_u2 (tk_u2 m.2.1 440 (tk_n v4) (0 : Int64)) 441 (tk_n v4) (0 : Int64), m.2.2.1, m.2.2.2) _ h
theorem ok_fM_byFirst (sc : tk_X) (a1 : Int32) (m : tk_m) {out : tk_m} (h : fM_byFirst a1 m = some out) : tk_Ru sc 5 220 [.ref 295, .int a1] (tk_full m) (none, tk_full out) := by
  unfold fM_byFirst at h
  refine tk_Ru0 me220 (ls := [(0, .ref 295), (1, .int a1)]) rfl rfl ?_
  refine tk_Ps  1 (pc' := 1) (ls' := [(0, .ref 295), (1, .int a1)]) (st' := [.ref 295]) rfl ?_
  refine tk_HR  rfl rfl ly295 rt295_15 ?_
  refine tk_Ps  1 (pc' := 5) (ls' := [(0, .ref 295), (1, .int a1)]) (st' := [.int (1 : Int32), .ref 432]) rfl ?_
  refine tk_HQ  rfl rfl ly432 (by decide) rt432_1 ?_
  refine tk_Ps  1 (pc' := 7) (ls' := [(0, .ref 295), (1, .int a1)]) (st' := [.ref 295, .ref 434]) rfl ?_
  refine tk_HR  rfl rfl ly295 rt295_15 ?_
  refine tk_Ps  1 (pc' := 11) (ls' := [(0, .ref 295), (1, .int a1)]) (st' := [.int (2 : Int32), .ref 432, .ref 434]) rfl ?_
  refine tk_HQ  rfl rfl ly432 (by decide) rt432_2 ?_
  refine tk_Ps  1 (pc' := 13) (ls' := [(0, .ref 295), (1, .int a1)]) (st' := [.ref 295, .ref 435, .ref 434]) rfl ?_
  refine tk_HR  rfl rfl ly295 rt295_19 ?_
  obtain ⟨o1, ho1, h⟩ := tk_bnd h
  refine tk_cS0  rfl rfl (as := [.ref 434, .ref 435, .ref 438]) (rest := []) rfl rfl rfl (ok_fM_crosses sc 434 435 438 m (tk_al_of ly434) (tk_al_of ly435) (tk_al_of ly438) ho1) ?_
  refine tk_Ps  1 (pc' := 20) (ls' := [(0, .ref 295), (1, .int a1)]) (st' := [.ref 295]) rfl ?_
  refine tk_HR  rfl rfl ly295 rt295_15 ?_
  refine tk_Ps  1 (pc' := 24) (ls' := [(0, .ref 295), (1, .int a1)]) (st' := [.int (0 : Int32), .ref 432]) rfl ?_
  refine tk_HQ  rfl rfl ly432 (by decide) rt432_0 ?_
  refine tk_Ps  1 (pc' := 26) (ls' := [(0, .ref 295), (1, .int a1)]) (st' := [.int (0 : Int32), .ref 433]) rfl ?_
  refine tk_HJa  rfl rfl ly433 (by decide) ?_
  refine tk_Ps  1 (pc' := 28) (ls' := [(0, .ref 295), (1, .int a1)]) (st' := [.ref 295, .long (o1.2.1 433 0)]) rfl ?_
  refine tk_HR  rfl rfl ly295 rt295_19 ?_
  refine tk_Ps  1 (pc' := 32) (ls' := [(0, .ref 295), (1, .int a1)]) (st' := [.int (0 : Int32), .ref 438, .long (o1.2.1 433 0)]) rfl ?_
  refine tk_HJa  rfl rfl ly438 (by decide) ?_
  refine tk_Ps  2 (pc' := 35) (ls' := [(0, .ref 295), (1, .int a1)]) (st' := [.ref 295, .long ((o1.2.1 433 0) * (o1.2.1 438 0))]) rfl ?_
  refine tk_HR  rfl rfl ly295 rt295_15 ?_
  refine tk_Ps  1 (pc' := 39) (ls' := [(0, .ref 295), (1, .int a1)]) (st' := [.int (0 : Int32), .ref 432, .long ((o1.2.1 433 0) * (o1.2.1 438 0))]) rfl ?_
  refine tk_HQ  rfl rfl ly432 (by decide) rt432_0 ?_
  refine tk_Ps  1 (pc' := 41) (ls' := [(0, .ref 295), (1, .int a1)]) (st' := [.int (1 : Int32), .ref 433, .long ((o1.2.1 433 0) * (o1.2.1 438 0))]) rfl ?_
  refine tk_HJa  rfl rfl ly433 (by decide) ?_
  refine tk_Ps  1 (pc' := 43) (ls' := [(0, .ref 295), (1, .int a1)]) (st' := [.ref 295, .long (o1.2.1 433 1), .long ((o1.2.1 433 0) * (o1.2.1 438 0))]) rfl ?_
  refine tk_HR  rfl rfl ly295 rt295_19 ?_
  refine tk_Ps  1 (pc' := 47) (ls' := [(0, .ref 295), (1, .int a1)]) (st' := [.int (1 : Int32), .ref 438, .long (o1.2.1 433 1), .long ((o1.2.1 433 0) * (o1.2.1 438 0))]) rfl ?_
  refine tk_HJa  rfl rfl ly438 (by decide) ?_
  refine tk_Ps  3 (pc' := 51) (ls' := [(0, .ref 295), (1, .int a1)]) (st' := [.ref 295, .long (((o1.2.1 433 0) * (o1.2.1 438 0)) + ((o1.2.1 433 1) * (o1.2.1 438 1)))]) rfl ?_
  refine tk_HR  rfl rfl ly295 rt295_15 ?_
  refine tk_Ps  1 (pc' := 55) (ls' := [(0, .ref 295), (1, .int a1)]) (st' := [.int (0 : Int32), .ref 432, .long (((o1.2.1 433 0) * (o1.2.1 438 0)) + ((o1.2.1 433 1) * (o1.2.1 438 1)))]) rfl ?_
  refine tk_HQ  rfl rfl ly432 (by decide) rt432_0 ?_
  refine tk_Ps  1 (pc' := 57) (ls' := [(0, .ref 295), (1, .int a1)]) (st' := [.int (2 : Int32), .ref 433, .long (((o1.2.1 433 0) * (o1.2.1 438 0)) + ((o1.2.1 433 1) * (o1.2.1 438 1)))]) rfl ?_
  refine tk_HJa  rfl rfl ly433 (by decide) ?_
  refine tk_Ps  1 (pc' := 59) (ls' := [(0, .ref 295), (1, .int a1)]) (st' := [.ref 295, .long (o1.2.1 433 2), .long (((o1.2.1 433 0) * (o1.2.1 438 0)) + ((o1.2.1 433 1) * (o1.2.1 438 1)))]) rfl ?_
  refine tk_HR  rfl rfl ly295 rt295_19 ?_
  refine tk_Ps  1 (pc' := 63) (ls' := [(0, .ref 295), (1, .int a1)]) (st' := [.int (2 : Int32), .ref 438, .long (o1.2.1 433 2), .long (((o1.2.1 433 0) * (o1.2.1 438 0)) + ((o1.2.1 433 1) * (o1.2.1 438 1)))]) rfl ?_
  refine tk_HJa  rfl rfl ly438 (by decide) ?_
  refine tk_Ps  6 (pc' := 70) (ls' := [(2, .long ((((o1.2.1 433 0) * (o1.2.1 438 0)) + ((o1.2.1 433 1) * (o1.2.1 438 1))) + ((o1.2.1 433 2) * (o1.2.1 438 2)))), (0, .ref 295), (1, .int a1)]) (st' := [.int (lg_cmp ((((o1.2.1 433 0) * (o1.2.1 438 0)) + ((o1.2.1 433 1) * (o1.2.1 438 1))) + ((o1.2.1 433 2) * (o1.2.1 438 2))) (0 : Int64))]) rfl ?_
  by_cases hc2 : ((((o1.2.1 433 0) * (o1.2.1 438 0)) + ((o1.2.1 433 1) * (o1.2.1 438 1))) + ((o1.2.1 433 2) * (o1.2.1 438 2))) = (0 : Int64)
  · replace h := tk_ifT hc2 h
    refine tk_bT  rfl rfl tk_eL_ne (c := ((((o1.2.1 433 0) * (o1.2.1 438 0)) + ((o1.2.1 433 1) * (o1.2.1 438 1))) + ((o1.2.1 433 2) * (o1.2.1 438 2))) = (0 : Int64)) hc2 (pc' := 73) (ls' := [(2, .long ((((o1.2.1 433 0) * (o1.2.1 438 0)) + ((o1.2.1 433 1) * (o1.2.1 438 1))) + ((o1.2.1 433 2) * (o1.2.1 438 2)))), (0, .ref 295), (1, .int a1)]) (st' := []) ?_
    refine tk_Ps  2 (pc' := 75) (ls' := [(2, .long ((((o1.2.1 433 0) * (o1.2.1 438 0)) + ((o1.2.1 433 1) * (o1.2.1 438 1))) + ((o1.2.1 433 2) * (o1.2.1 438 2)))), (0, .ref 295), (1, .int a1)]) (st' := [.ref 295, .ref 295]) rfl ?_
    refine tk_HI  rfl rfl ly295 ?_
    refine tk_Ps  4 (pc' := 82) (ls' := [(2, .long ((((o1.2.1 433 0) * (o1.2.1 438 0)) + ((o1.2.1 433 1) * (o1.2.1 438 1))) + ((o1.2.1 433 2) * (o1.2.1 438 2)))), (0, .ref 295), (1, .int a1)]) (st' := [.int ((o1.1 295 11) ||| (tk_ishl (1 : Int32) a1)), .ref 295]) rfl ?_
    refine tk_SI  rfl rfl ly295 ?_
    replace h := Option.some.inj h
    subst h
    exact tk_RV  rfl rfl rfl
  · replace h := tk_ifF hc2 h
    refine tk_bF  rfl rfl tk_eL_ne (c := ((((o1.2.1 433 0) * (o1.2.1 438 0)) + ((o1.2.1 433 1) * (o1.2.1 438 1))) + ((o1.2.1 433 2) * (o1.2.1 438 2))) = (0 : Int64)) hc2 (pc' := 86) (ls' := [(2, .long ((((o1.2.1 433 0) * (o1.2.1 438 0)) + ((o1.2.1 433 1) * (o1.2.1 438 1))) + ((o1.2.1 433 2) * (o1.2.1 438 2)))), (0, .ref 295), (1, .int a1)]) (st' := []) ?_
    refine tk_Ps  2 (pc' := 89) (ls' := [(4, .int (0 : Int32)), (2, .long ((((o1.2.1 433 0) * (o1.2.1 438 0)) + ((o1.2.1 433 1) * (o1.2.1 438 1))) + ((o1.2.1 433 2) * (o1.2.1 438 2)))), (0, .ref 295), (1, .int a1)]) (st' := []) rfl ?_
    refine tk_Kp  (ls' := [(0, .ref 295), (1, .int a1), (2, .long ((((o1.2.1 433 0) * (o1.2.1 438 0)) + ((o1.2.1 433 1) * (o1.2.1 438 1))) + ((o1.2.1 433 2) * (o1.2.1 438 2)))), (4, .int (0 : Int32))]) rfl rfl ?_
    exact ok_fM_byFirst_89 sc tk_F a1 ((((o1.2.1 433 0) * (o1.2.1 438 0)) + ((o1.2.1 433 1) * (o1.2.1 438 1))) + ((o1.2.1 433 2) * (o1.2.1 438 2))) (0 : Int32) o1 _ h

theorem ok_fM_plus (sc : tk_X) (a1 : Int64) (a2 : Int64) (m : tk_m) {out : Int64 × tk_m} (h : fM_plus a1 a2 m = out) : tk_Ru sc 1 258 [.ref 295, .long a1, .long a2] (tk_full m) (some (.long out.1), tk_full out.2) := by
  unfold fM_plus at h
  refine tk_Ru0 me258 (ls := [(0, .ref 295), (1, .long a1), (3, .long a2)]) rfl rfl ?_
  refine tk_Ps  6 (pc' := 7) (ls' := [(5, .long (a1 + a2)), (0, .ref 295), (1, .long a1), (3, .long a2)]) (st' := [.ref 295, .ref 295]) rfl ?_
  refine tk_HB  rfl rfl ly295 ?_
  refine tk_Ps  9 (pc' := 21) (ls' := [(5, .long (a1 + a2)), (0, .ref 295), (1, .long a1), (3, .long a2)]) (st' := [.int (lg_cmp ((a1 ^^^ (a1 + a2)) &&& (a2 ^^^ (a1 + a2))) (0 : Int64)), .int (tk_b (m.2.2.1 295 4)), .ref 295]) rfl ?_
  by_cases hc1 : (0 : Int64) ≤ ((a1 ^^^ (a1 + a2)) &&& (a2 ^^^ (a1 + a2)))
  · replace h := tk_ifT hc1 h
    refine tk_bT  rfl rfl tk_eL_ge (c := (0 : Int64) ≤ ((a1 ^^^ (a1 + a2)) &&& (a2 ^^^ (a1 + a2)))) hc1 (pc' := 28) (ls' := [(5, .long (a1 + a2)), (0, .ref 295), (1, .long a1), (3, .long a2)]) (st' := [.int (tk_b (m.2.2.1 295 4)), .ref 295]) ?_
    refine tk_Ps  1 (pc' := 29) (ls' := [(5, .long (a1 + a2)), (0, .ref 295), (1, .long a1), (3, .long a2)]) (st' := [.int (0 : Int32), .int (tk_b (m.2.2.1 295 4)), .ref 295]) rfl ?_
    refine tk_iorB  rfl rfl (b := (m.2.2.1 295 4)) (b2 := false) ?_
    refine tk_SB (b := (m.2.2.1 295 4) || false)  rfl rfl ly295 ?_
    refine tk_Ps  1 (pc' := 35) (ls' := [(5, .long (a1 + a2)), (0, .ref 295), (1, .long a1), (3, .long a2)]) (st' := [.long (a1 + a2)]) rfl ?_
    subst h
    exact tk_RJ  rfl rfl rfl
  · replace h := tk_ifF hc1 h
    refine tk_bF  rfl rfl tk_eL_ge (c := (0 : Int64) ≤ ((a1 ^^^ (a1 + a2)) &&& (a2 ^^^ (a1 + a2)))) hc1 (pc' := 24) (ls' := [(5, .long (a1 + a2)), (0, .ref 295), (1, .long a1), (3, .long a2)]) (st' := [.int (tk_b (m.2.2.1 295 4)), .ref 295]) ?_
    refine tk_Ps  2 (pc' := 29) (ls' := [(5, .long (a1 + a2)), (0, .ref 295), (1, .long a1), (3, .long a2)]) (st' := [.int (1 : Int32), .int (tk_b (m.2.2.1 295 4)), .ref 295]) rfl ?_
    refine tk_iorB  rfl rfl (b := (m.2.2.1 295 4)) (b2 := true) ?_
    refine tk_SB (b := (m.2.2.1 295 4) || true)  rfl rfl ly295 ?_
    refine tk_Ps  1 (pc' := 35) (ls' := [(5, .long (a1 + a2)), (0, .ref 295), (1, .long a1), (3, .long a2)]) (st' := [.long (a1 + a2)]) rfl ?_
    subst h
    exact tk_RJ  rfl rfl rfl
theorem ok_fM_minus (sc : tk_X) (a1 : Int64) (a2 : Int64) (m : tk_m) {out : Int64 × tk_m} (h : fM_minus a1 a2 m = out) : tk_Ru sc 1 259 [.ref 295, .long a1, .long a2] (tk_full m) (some (.long out.1), tk_full out.2) := by
  unfold fM_minus at h
  refine tk_Ru0 me259 (ls := [(0, .ref 295), (1, .long a1), (3, .long a2)]) rfl rfl ?_
  refine tk_Ps  6 (pc' := 7) (ls' := [(5, .long (a1 - a2)), (0, .ref 295), (1, .long a1), (3, .long a2)]) (st' := [.ref 295, .ref 295]) rfl ?_
  refine tk_HB  rfl rfl ly295 ?_
  refine tk_Ps  9 (pc' := 20) (ls' := [(5, .long (a1 - a2)), (0, .ref 295), (1, .long a1), (3, .long a2)]) (st' := [.int (lg_cmp ((a1 ^^^ a2) &&& (a1 ^^^ (a1 - a2))) (0 : Int64)), .int (tk_b (m.2.2.1 295 4)), .ref 295]) rfl ?_
  by_cases hc1 : (0 : Int64) ≤ ((a1 ^^^ a2) &&& (a1 ^^^ (a1 - a2)))
  · replace h := tk_ifT hc1 h
    refine tk_bT  rfl rfl tk_eL_ge (c := (0 : Int64) ≤ ((a1 ^^^ a2) &&& (a1 ^^^ (a1 - a2)))) hc1 (pc' := 27) (ls' := [(5, .long (a1 - a2)), (0, .ref 295), (1, .long a1), (3, .long a2)]) (st' := [.int (tk_b (m.2.2.1 295 4)), .ref 295]) ?_
    refine tk_Ps  1 (pc' := 28) (ls' := [(5, .long (a1 - a2)), (0, .ref 295), (1, .long a1), (3, .long a2)]) (st' := [.int (0 : Int32), .int (tk_b (m.2.2.1 295 4)), .ref 295]) rfl ?_
    refine tk_iorB  rfl rfl (b := (m.2.2.1 295 4)) (b2 := false) ?_
    refine tk_SB (b := (m.2.2.1 295 4) || false)  rfl rfl ly295 ?_
    refine tk_Ps  1 (pc' := 34) (ls' := [(5, .long (a1 - a2)), (0, .ref 295), (1, .long a1), (3, .long a2)]) (st' := [.long (a1 - a2)]) rfl ?_
    subst h
    exact tk_RJ  rfl rfl rfl
  · replace h := tk_ifF hc1 h
    refine tk_bF  rfl rfl tk_eL_ge (c := (0 : Int64) ≤ ((a1 ^^^ a2) &&& (a1 ^^^ (a1 - a2)))) hc1 (pc' := 23) (ls' := [(5, .long (a1 - a2)), (0, .ref 295), (1, .long a1), (3, .long a2)]) (st' := [.int (tk_b (m.2.2.1 295 4)), .ref 295]) ?_
    refine tk_Ps  2 (pc' := 28) (ls' := [(5, .long (a1 - a2)), (0, .ref 295), (1, .long a1), (3, .long a2)]) (st' := [.int (1 : Int32), .int (tk_b (m.2.2.1 295 4)), .ref 295]) rfl ?_
    refine tk_iorB  rfl rfl (b := (m.2.2.1 295 4)) (b2 := true) ?_
    refine tk_SB (b := (m.2.2.1 295 4) || true)  rfl rfl ly295 ?_
    refine tk_Ps  1 (pc' := 34) (ls' := [(5, .long (a1 - a2)), (0, .ref 295), (1, .long a1), (3, .long a2)]) (st' := [.long (a1 - a2)]) rfl ?_
    subst h
    exact tk_RJ  rfl rfl rfl
theorem ok_fM_inverts (sc : tk_X) (a1 : Nat) (a2 : Int64) (a3 : Int64) (a4 : Int64) (m : tk_m) (ha1 : tk_lay[a1]? = some (.inr (1, tk_al a1))) {out : tk_m} (h : fM_inverts a1 a2 a3 a4 m = some out) : tk_Ru sc 2 256 [.ref 295, .ref a1, .long a2, .long a3, .long a4] (tk_full m) (none, tk_full out) := by
  unfold fM_inverts at h
  refine tk_Ru0 me256 (ls := [(0, .ref 295), (1, .ref a1), (2, .long a2), (4, .long a3), (6, .long a4)]) rfl rfl ?_
  refine tk_Ps  2 (pc' := 2) (ls' := [(0, .ref 295), (1, .ref a1), (2, .long a2), (4, .long a3), (6, .long a4)]) (st' := [.int (0 : Int32), .ref a1]) rfl ?_
  obtain ⟨hg1, h⟩ := tk_grd h
  refine tk_HJa  rfl rfl ha1 hg1 ?_
  refine tk_Ps  4 (pc' := 8) (ls' := [(8, .long (m.2.1 a1 (tk_n (0 : Int32)))), (0, .ref 295), (1, .ref a1), (2, .long a2), (4, .long a3), (6, .long a4)]) (st' := [.int (1 : Int32), .ref a1, .ref 295]) rfl ?_
  obtain ⟨hg2, h⟩ := tk_grd h
  refine tk_HJa  rfl rfl ha1 hg2 ?_
  refine tk_Ps  4 (pc' := 16) (ls' := [(8, .long (m.2.1 a1 (tk_n (0 : Int32)))), (0, .ref 295), (1, .ref a1), (2, .long a2), (4, .long a3), (6, .long a4)]) (st' := [.long (m.2.1 a1 (tk_n (0 : Int32))), .long (2 : Int64), .ref 295, .ref 295, .long (m.2.1 a1 (tk_n (1 : Int32))), .ref 295]) rfl ?_
  obtain ⟨o3, ho3, h⟩ := tk_bnd h
  refine tk_cV1  rfl rfl (r := 295) (as := [.long (2 : Int64), .long (m.2.1 a1 (tk_n (0 : Int32)))]) (rest := [.ref 295, .long (m.2.1 a1 (tk_n (1 : Int32))), .ref 295]) rfl ly295 rfl rfl (ok_fM_times sc (2 : Int64) (m.2.1 a1 (tk_n (0 : Int32))) m ho3) ?_
  refine tk_Ps  1 (pc' := 20) (ls' := [(8, .long (m.2.1 a1 (tk_n (0 : Int32)))), (0, .ref 295), (1, .ref a1), (2, .long a2), (4, .long a3), (6, .long a4)]) (st' := [.long a2, .long o3.1, .ref 295, .long (m.2.1 a1 (tk_n (1 : Int32))), .ref 295]) rfl ?_
  obtain ⟨o4, ho4, h⟩ := tk_bnd h
  refine tk_cV1  rfl rfl (r := 295) (as := [.long o3.1, .long a2]) (rest := [.long (m.2.1 a1 (tk_n (1 : Int32))), .ref 295]) rfl ly295 rfl rfl (ok_fM_times sc o3.1 a2 o3.2 ho4) ?_
  obtain ⟨o5, ho5, h⟩ := tk_lete h
  refine tk_cV1  rfl rfl (r := 295) (as := [.long (m.2.1 a1 (tk_n (1 : Int32))), .long o4.1]) (rest := []) rfl ly295 rfl rfl (ok_fM_plus sc (m.2.1 a1 (tk_n (1 : Int32))) o4.1 o4.2 ho5) ?_
  refine tk_Ps  4 (pc' := 31) (ls' := [(10, .long o5.1), (8, .long (m.2.1 a1 (tk_n (0 : Int32)))), (0, .ref 295), (1, .ref a1), (2, .long a2), (4, .long a3), (6, .long a4)]) (st' := [.int (2 : Int32), .ref a1, .ref 295]) rfl ?_
  obtain ⟨hg6, h⟩ := tk_grd h
  refine tk_HJa  rfl rfl ha1 hg6 ?_
  refine tk_Ps  4 (pc' := 39) (ls' := [(10, .long o5.1), (8, .long (m.2.1 a1 (tk_n (0 : Int32)))), (0, .ref 295), (1, .ref a1), (2, .long a2), (4, .long a3), (6, .long a4)]) (st' := [.long (m.2.1 a1 (tk_n (0 : Int32))), .long (2 : Int64), .ref 295, .ref 295, .long (o5.2.2.1 a1 (tk_n (2 : Int32))), .ref 295]) rfl ?_
  obtain ⟨o7, ho7, h⟩ := tk_bnd h
  refine tk_cV1  rfl rfl (r := 295) (as := [.long (2 : Int64), .long (m.2.1 a1 (tk_n (0 : Int32)))]) (rest := [.ref 295, .long (o5.2.2.1 a1 (tk_n (2 : Int32))), .ref 295]) rfl ly295 rfl rfl (ok_fM_times sc (2 : Int64) (m.2.1 a1 (tk_n (0 : Int32))) o5.2 ho7) ?_
  refine tk_Ps  1 (pc' := 44) (ls' := [(10, .long o5.1), (8, .long (m.2.1 a1 (tk_n (0 : Int32)))), (0, .ref 295), (1, .ref a1), (2, .long a2), (4, .long a3), (6, .long a4)]) (st' := [.long a3, .long o7.1, .ref 295, .long (o5.2.2.1 a1 (tk_n (2 : Int32))), .ref 295]) rfl ?_
  obtain ⟨o8, ho8, h⟩ := tk_bnd h
  refine tk_cV1  rfl rfl (r := 295) (as := [.long o7.1, .long a3]) (rest := [.long (o5.2.2.1 a1 (tk_n (2 : Int32))), .ref 295]) rfl ly295 rfl rfl (ok_fM_times sc o7.1 a3 o7.2 ho8) ?_
  obtain ⟨o9, ho9, h⟩ := tk_lete h
  refine tk_cV1  rfl rfl (r := 295) (as := [.long (o5.2.2.1 a1 (tk_n (2 : Int32))), .long o8.1]) (rest := []) rfl ly295 rfl rfl (ok_fM_plus sc (o5.2.2.1 a1 (tk_n (2 : Int32))) o8.1 o8.2 ho9) ?_
  refine tk_Ps  13 (pc' := 67) (ls' := [(12, .long o9.1), (10, .long o5.1), (8, .long (m.2.1 a1 (tk_n (0 : Int32)))), (0, .ref 295), (1, .ref a1), (2, .long a2), (4, .long a3), (6, .long a4)]) (st' := [.long ((a2 * a2) + (a3 * a3)), .long (m.2.1 a1 (tk_n (0 : Int32))), .ref 295, .ref 295, .ref 295, .ref 295]) rfl ?_
  obtain ⟨o10, ho10, h⟩ := tk_bnd h
  refine tk_cV1  rfl rfl (r := 295) (as := [.long (m.2.1 a1 (tk_n (0 : Int32))), .long ((a2 * a2) + (a3 * a3))]) (rest := [.ref 295, .ref 295, .ref 295]) rfl ly295 rfl rfl (ok_fM_times sc (m.2.1 a1 (tk_n (0 : Int32))) ((a2 * a2) + (a3 * a3)) o9.2 ho10) ?_
  refine tk_Ps  3 (pc' := 73) (ls' := [(12, .long o9.1), (10, .long o5.1), (8, .long (m.2.1 a1 (tk_n (0 : Int32)))), (0, .ref 295), (1, .ref a1), (2, .long a2), (4, .long a3), (6, .long a4)]) (st' := [.int (1 : Int32), .ref a1, .ref 295, .long o10.1, .ref 295, .ref 295, .ref 295]) rfl ?_
  refine tk_HJa  rfl rfl ha1 hg2 ?_
  refine tk_Ps  1 (pc' := 75) (ls' := [(12, .long o9.1), (10, .long o5.1), (8, .long (m.2.1 a1 (tk_n (0 : Int32)))), (0, .ref 295), (1, .ref a1), (2, .long a2), (4, .long a3), (6, .long a4)]) (st' := [.long a2, .long (o10.2.2.1 a1 (tk_n (1 : Int32))), .ref 295, .long o10.1, .ref 295, .ref 295, .ref 295]) rfl ?_
  obtain ⟨o11, ho11, h⟩ := tk_bnd h
  refine tk_cV1  rfl rfl (r := 295) (as := [.long (o10.2.2.1 a1 (tk_n (1 : Int32))), .long a2]) (rest := [.long o10.1, .ref 295, .ref 295, .ref 295]) rfl ly295 rfl rfl (ok_fM_times sc (o10.2.2.1 a1 (tk_n (1 : Int32))) a2 o10.2 ho11) ?_
  obtain ⟨o12, ho12, h⟩ := tk_lete h
  refine tk_cV1  rfl rfl (r := 295) (as := [.long o10.1, .long o11.1]) (rest := [.ref 295, .ref 295]) rfl ly295 rfl rfl (ok_fM_plus sc o10.1 o11.1 o11.2 ho12) ?_
  refine tk_Ps  3 (pc' := 84) (ls' := [(12, .long o9.1), (10, .long o5.1), (8, .long (m.2.1 a1 (tk_n (0 : Int32)))), (0, .ref 295), (1, .ref a1), (2, .long a2), (4, .long a3), (6, .long a4)]) (st' := [.int (2 : Int32), .ref a1, .ref 295, .long o12.1, .ref 295, .ref 295]) rfl ?_
  refine tk_HJa  rfl rfl ha1 hg6 ?_
  refine tk_Ps  1 (pc' := 87) (ls' := [(12, .long o9.1), (10, .long o5.1), (8, .long (m.2.1 a1 (tk_n (0 : Int32)))), (0, .ref 295), (1, .ref a1), (2, .long a2), (4, .long a3), (6, .long a4)]) (st' := [.long a3, .long (o12.2.2.1 a1 (tk_n (2 : Int32))), .ref 295, .long o12.1, .ref 295, .ref 295]) rfl ?_
  obtain ⟨o13, ho13, h⟩ := tk_bnd h
  refine tk_cV1  rfl rfl (r := 295) (as := [.long (o12.2.2.1 a1 (tk_n (2 : Int32))), .long a3]) (rest := [.long o12.1, .ref 295, .ref 295]) rfl ly295 rfl rfl (ok_fM_times sc (o12.2.2.1 a1 (tk_n (2 : Int32))) a3 o12.2 ho13) ?_
  obtain ⟨o14, ho14, h⟩ := tk_lete h
  refine tk_cV1  rfl rfl (r := 295) (as := [.long o12.1, .long o13.1]) (rest := [.ref 295]) rfl ly295 rfl rfl (ok_fM_plus sc o12.1 o13.1 o13.2 ho14) ?_
  refine tk_Ps  2 (pc' := 95) (ls' := [(12, .long o9.1), (10, .long o5.1), (8, .long (m.2.1 a1 (tk_n (0 : Int32)))), (0, .ref 295), (1, .ref a1), (2, .long a2), (4, .long a3), (6, .long a4)]) (st' := [.int (3 : Int32), .ref a1, .long o14.1, .ref 295]) rfl ?_
  obtain ⟨hg15, h⟩ := tk_grd h
  refine tk_HJa  rfl rfl ha1 hg15 ?_
  obtain ⟨o16, ho16, h⟩ := tk_lete h
  refine tk_cV1  rfl rfl (r := 295) (as := [.long o14.1, .long (o14.2.2.1 a1 (tk_n (3 : Int32)))]) (rest := []) rfl ly295 rfl rfl (ok_fM_plus sc o14.1 (o14.2.2.1 a1 (tk_n (3 : Int32))) o14.2 ho16) ?_
  refine tk_Ps  2 (pc' := 102) (ls' := [(14, .long o16.1), (12, .long o9.1), (10, .long o5.1), (8, .long (m.2.1 a1 (tk_n (0 : Int32)))), (0, .ref 295), (1, .ref a1), (2, .long a2), (4, .long a3), (6, .long a4)]) (st' := [.ref 295]) rfl ?_
  refine tk_HR  rfl rfl ly295 rt295_26 ?_
  refine tk_Ps  2 (pc' := 108) (ls' := [(14, .long o16.1), (12, .long o9.1), (10, .long o5.1), (8, .long (m.2.1 a1 (tk_n (0 : Int32)))), (0, .ref 295), (1, .ref a1), (2, .long a2), (4, .long a3), (6, .long a4)]) (st' := [.long o16.1, .int (0 : Int32), .ref 449]) rfl ?_
  refine tk_SJa  rfl rfl ly449 (by decide) ?_
  refine tk_Ps  1 (pc' := 110) (ls' := [(14, .long o16.1), (12, .long o9.1), (10, .long o5.1), (8, .long (m.2.1 a1 (tk_n (0 : Int32)))), (0, .ref 295), (1, .ref a1), (2, .long a2), (4, .long a3), (6, .long a4)]) (st' := [.ref 295]) rfl ?_
  refine tk_HR  rfl rfl ly295 rt295_26 ?_
  refine tk_Ps  5 (pc' := 120) (ls' := [(14, .long o16.1), (12, .long o9.1), (10, .long o5.1), (8, .long (m.2.1 a1 (tk_n (0 : Int32)))), (0, .ref 295), (1, .ref a1), (2, .long a2), (4, .long a3), (6, .long a4)]) (st' := [.long o5.1, .long a4, .ref 295, .ref 295, .int (1 : Int32), .ref 449]) rfl ?_
  obtain ⟨o17, ho17, h⟩ := tk_bnd h
  refine tk_cV1  rfl rfl (r := 295) (as := [.long a4, .long o5.1]) (rest := [.ref 295, .int (1 : Int32), .ref 449]) rfl ly295 rfl rfl (ok_fM_times sc a4 o5.1 (o16.2.1, tk_u2 o16.2.2.1 449 0 o16.1, o16.2.2.2.1, o16.2.2.2.2) ho17) ?_
  refine tk_Ps  4 (pc' := 130) (ls' := [(14, .long o16.1), (12, .long o9.1), (10, .long o5.1), (8, .long (m.2.1 a1 (tk_n (0 : Int32)))), (0, .ref 295), (1, .ref a1), (2, .long a2), (4, .long a3), (6, .long a4)]) (st' := [.long o16.1, .long (2 : Int64), .ref 295, .ref 295, .long o17.1, .ref 295, .int (1 : Int32), .ref 449]) rfl ?_
  obtain ⟨o18, ho18, h⟩ := tk_bnd h
  refine tk_cV1  rfl rfl (r := 295) (as := [.long (2 : Int64), .long o16.1]) (rest := [.ref 295, .long o17.1, .ref 295, .int (1 : Int32), .ref 449]) rfl ly295 rfl rfl (ok_fM_times sc (2 : Int64) o16.1 o17.2 ho18) ?_
  refine tk_Ps  1 (pc' := 134) (ls' := [(14, .long o16.1), (12, .long o9.1), (10, .long o5.1), (8, .long (m.2.1 a1 (tk_n (0 : Int32)))), (0, .ref 295), (1, .ref a1), (2, .long a2), (4, .long a3), (6, .long a4)]) (st' := [.long a2, .long o18.1, .ref 295, .long o17.1, .ref 295, .int (1 : Int32), .ref 449]) rfl ?_
  obtain ⟨o19, ho19, h⟩ := tk_bnd h
  refine tk_cV1  rfl rfl (r := 295) (as := [.long o18.1, .long a2]) (rest := [.long o17.1, .ref 295, .int (1 : Int32), .ref 449]) rfl ly295 rfl rfl (ok_fM_times sc o18.1 a2 o18.2 ho19) ?_
  obtain ⟨o20, ho20, h⟩ := tk_lete h
  refine tk_cV1  rfl rfl (r := 295) (as := [.long o17.1, .long o19.1]) (rest := [.int (1 : Int32), .ref 449]) rfl ly295 rfl rfl (ok_fM_minus sc o17.1 o19.1 o19.2 ho20) ?_
  refine tk_SJa  rfl rfl ly449 (by decide) ?_
  refine tk_Ps  1 (pc' := 142) (ls' := [(14, .long o16.1), (12, .long o9.1), (10, .long o5.1), (8, .long (m.2.1 a1 (tk_n (0 : Int32)))), (0, .ref 295), (1, .ref a1), (2, .long a2), (4, .long a3), (6, .long a4)]) (st' := [.ref 295]) rfl ?_
  refine tk_HR  rfl rfl ly295 rt295_26 ?_
  refine tk_Ps  5 (pc' := 152) (ls' := [(14, .long o16.1), (12, .long o9.1), (10, .long o5.1), (8, .long (m.2.1 a1 (tk_n (0 : Int32)))), (0, .ref 295), (1, .ref a1), (2, .long a2), (4, .long a3), (6, .long a4)]) (st' := [.long o9.1, .long a4, .ref 295, .ref 295, .int (2 : Int32), .ref 449]) rfl ?_
  obtain ⟨o21, ho21, h⟩ := tk_bnd h
  refine tk_cV1  rfl rfl (r := 295) (as := [.long a4, .long o9.1]) (rest := [.ref 295, .int (2 : Int32), .ref 449]) rfl ly295 rfl rfl (ok_fM_times sc a4 o9.1 (o20.2.1, tk_u2 o20.2.2.1 449 1 o20.1, o20.2.2.2.1, o20.2.2.2.2) ho21) ?_
  refine tk_Ps  4 (pc' := 162) (ls' := [(14, .long o16.1), (12, .long o9.1), (10, .long o5.1), (8, .long (m.2.1 a1 (tk_n (0 : Int32)))), (0, .ref 295), (1, .ref a1), (2, .long a2), (4, .long a3), (6, .long a4)]) (st' := [.long o16.1, .long (2 : Int64), .ref 295, .ref 295, .long o21.1, .ref 295, .int (2 : Int32), .ref 449]) rfl ?_
  obtain ⟨o22, ho22, h⟩ := tk_bnd h
  refine tk_cV1  rfl rfl (r := 295) (as := [.long (2 : Int64), .long o16.1]) (rest := [.ref 295, .long o21.1, .ref 295, .int (2 : Int32), .ref 449]) rfl ly295 rfl rfl (ok_fM_times sc (2 : Int64) o16.1 o21.2 ho22) ?_
  refine tk_Ps  1 (pc' := 167) (ls' := [(14, .long o16.1), (12, .long o9.1), (10, .long o5.1), (8, .long (m.2.1 a1 (tk_n (0 : Int32)))), (0, .ref 295), (1, .ref a1), (2, .long a2), (4, .long a3), (6, .long a4)]) (st' := [.long a3, .long o22.1, .ref 295, .long o21.1, .ref 295, .int (2 : Int32), .ref 449]) rfl ?_
  obtain ⟨o23, ho23, h⟩ := tk_bnd h
  refine tk_cV1  rfl rfl (r := 295) (as := [.long o22.1, .long a3]) (rest := [.long o21.1, .ref 295, .int (2 : Int32), .ref 449]) rfl ly295 rfl rfl (ok_fM_times sc o22.1 a3 o22.2 ho23) ?_
  obtain ⟨o24, ho24, h⟩ := tk_lete h
  refine tk_cV1  rfl rfl (r := 295) (as := [.long o21.1, .long o23.1]) (rest := [.int (2 : Int32), .ref 449]) rfl ly295 rfl rfl (ok_fM_minus sc o21.1 o23.1 o23.2 ho24) ?_
  refine tk_SJa  rfl rfl ly449 (by decide) ?_
  refine tk_Ps  11 (pc' := 188) (ls' := [(14, .long o16.1), (12, .long o9.1), (10, .long o5.1), (8, .long (m.2.1 a1 (tk_n (0 : Int32)))), (0, .ref 295), (1, .ref a1), (2, .long a2), (4, .long a3), (6, .long a4)]) (st' := [.long ((a2 * a2) + (a3 * a3)), .long o16.1, .ref 295, .ref 295, .ref 295]) rfl ?_
  obtain ⟨o25, ho25, h⟩ := tk_bnd h
  refine tk_cV1  rfl rfl (r := 295) (as := [.long o16.1, .long ((a2 * a2) + (a3 * a3))]) (rest := [.ref 295, .ref 295]) rfl ly295 rfl rfl (ok_fM_times sc o16.1 ((a2 * a2) + (a3 * a3)) (o24.2.1, tk_u2 o24.2.2.1 449 2 o24.1, o24.2.2.2.1, o24.2.2.2.2) ho25) ?_
  refine tk_Ps  4 (pc' := 197) (ls' := [(14, .long o16.1), (12, .long o9.1), (10, .long o5.1), (8, .long (m.2.1 a1 (tk_n (0 : Int32)))), (0, .ref 295), (1, .ref a1), (2, .long a2), (4, .long a3), (6, .long a4)]) (st' := [.long o5.1, .long a4, .ref 295, .ref 295, .long o25.1, .ref 295, .ref 295]) rfl ?_
  obtain ⟨o26, ho26, h⟩ := tk_bnd h
  refine tk_cV1  rfl rfl (r := 295) (as := [.long a4, .long o5.1]) (rest := [.ref 295, .long o25.1, .ref 295, .ref 295]) rfl ly295 rfl rfl (ok_fM_times sc a4 o5.1 o25.2 ho26) ?_
  refine tk_Ps  1 (pc' := 201) (ls' := [(14, .long o16.1), (12, .long o9.1), (10, .long o5.1), (8, .long (m.2.1 a1 (tk_n (0 : Int32)))), (0, .ref 295), (1, .ref a1), (2, .long a2), (4, .long a3), (6, .long a4)]) (st' := [.long a2, .long o26.1, .ref 295, .long o25.1, .ref 295, .ref 295]) rfl ?_
  obtain ⟨o27, ho27, h⟩ := tk_bnd h
  refine tk_cV1  rfl rfl (r := 295) (as := [.long o26.1, .long a2]) (rest := [.long o25.1, .ref 295, .ref 295]) rfl ly295 rfl rfl (ok_fM_times sc o26.1 a2 o26.2 ho27) ?_
  obtain ⟨o28, ho28, h⟩ := tk_lete h
  refine tk_cV1  rfl rfl (r := 295) (as := [.long o25.1, .long o27.1]) (rest := [.ref 295]) rfl ly295 rfl rfl (ok_fM_minus sc o25.1 o27.1 o27.2 ho28) ?_
  refine tk_Ps  4 (pc' := 213) (ls' := [(14, .long o16.1), (12, .long o9.1), (10, .long o5.1), (8, .long (m.2.1 a1 (tk_n (0 : Int32)))), (0, .ref 295), (1, .ref a1), (2, .long a2), (4, .long a3), (6, .long a4)]) (st' := [.long o9.1, .long a4, .ref 295, .ref 295, .long o28.1, .ref 295]) rfl ?_
  obtain ⟨o29, ho29, h⟩ := tk_bnd h
  refine tk_cV1  rfl rfl (r := 295) (as := [.long a4, .long o9.1]) (rest := [.ref 295, .long o28.1, .ref 295]) rfl ly295 rfl rfl (ok_fM_times sc a4 o9.1 o28.2 ho29) ?_
  refine tk_Ps  1 (pc' := 218) (ls' := [(14, .long o16.1), (12, .long o9.1), (10, .long o5.1), (8, .long (m.2.1 a1 (tk_n (0 : Int32)))), (0, .ref 295), (1, .ref a1), (2, .long a2), (4, .long a3), (6, .long a4)]) (st' := [.long a3, .long o29.1, .ref 295, .long o28.1, .ref 295]) rfl ?_
  obtain ⟨o30, ho30, h⟩ := tk_bnd h
  refine tk_cV1  rfl rfl (r := 295) (as := [.long o29.1, .long a3]) (rest := [.long o28.1, .ref 295]) rfl ly295 rfl rfl (ok_fM_times sc o29.1 a3 o29.2 ho30) ?_
  obtain ⟨o31, ho31, h⟩ := tk_lete h
  refine tk_cV1  rfl rfl (r := 295) (as := [.long o28.1, .long o30.1]) (rest := []) rfl ly295 rfl rfl (ok_fM_minus sc o28.1 o30.1 o30.2 ho31) ?_
  refine tk_Ps  2 (pc' := 227) (ls' := [(16, .long o31.1), (14, .long o16.1), (12, .long o9.1), (10, .long o5.1), (8, .long (m.2.1 a1 (tk_n (0 : Int32)))), (0, .ref 295), (1, .ref a1), (2, .long a2), (4, .long a3), (6, .long a4)]) (st' := [.ref 295]) rfl ?_
  refine tk_HR  rfl rfl ly295 rt295_26 ?_
  refine tk_Ps  8 (pc' := 242) (ls' := [(16, .long o31.1), (14, .long o16.1), (12, .long o9.1), (10, .long o5.1), (8, .long (m.2.1 a1 (tk_n (0 : Int32)))), (0, .ref 295), (1, .ref a1), (2, .long a2), (4, .long a3), (6, .long a4)]) (st' := [.long (m.2.1 a1 (tk_n (0 : Int32))), .long (a4 * a4), .ref 295, .long o31.1, .ref 295, .int (3 : Int32), .ref 449]) rfl ?_
  obtain ⟨o32, ho32, h⟩ := tk_bnd h
  refine tk_cV1  rfl rfl (r := 295) (as := [.long (a4 * a4), .long (m.2.1 a1 (tk_n (0 : Int32)))]) (rest := [.long o31.1, .ref 295, .int (3 : Int32), .ref 449]) rfl ly295 rfl rfl (ok_fM_times sc (a4 * a4) (m.2.1 a1 (tk_n (0 : Int32))) o31.2 ho32) ?_
  obtain ⟨o33, ho33, h⟩ := tk_lete h
  refine tk_cV1  rfl rfl (r := 295) (as := [.long o31.1, .long o32.1]) (rest := [.int (3 : Int32), .ref 449]) rfl ly295 rfl rfl (ok_fM_plus sc o31.1 o32.1 o32.2 ho33) ?_
  refine tk_SJa  rfl rfl ly449 (by decide) ?_
  replace h := Option.some.inj h
  subst h
  exact tk_RV  rfl rfl rfl
theorem ok_fM_laysLowest_71 (sc : tk_X) : ∀ (n : Nat) (v1 : Int64) (v4 : Int32) (m : tk_m) (out : tk_m), fM_laysLowest_71 n v1 v4 m = some out → tk_Ex sc 1 tk_r260 tk_k260 71 [(0, .ref 295), (1, .long v1), (4, .int v4)] [] (tk_full m) (none, tk_full out) := by
  intro n
  induction n with
  | zero =>
    intro v1 v4 m out h
    cases h
  | succ n ih =>
    intro v1 v4 m out h
    unfold fM_laysLowest_71 at h
    refine tk_Ps  2 (pc' := 74) (ls' := [(0, .ref 295), (1, .long v1), (4, .int v4)]) (st' := [.int (4 : Int32), .int v4]) rfl ?_
    by_cases hc1 : (4 : Int32) ≤ v4
    · replace h := tk_ifT hc1 h
      refine tk_bT  rfl rfl rfl (c := (4 : Int32) ≤ v4) hc1 (pc' := 102) (ls' := [(0, .ref 295), (1, .long v1), (4, .int v4)]) (st' := []) ?_
      replace h := Option.some.inj h
      subst h
      exact tk_RV  rfl rfl rfl
    · replace h := tk_ifF hc1 h
      refine tk_bF  rfl rfl rfl (c := (4 : Int32) ≤ v4) hc1 (pc' := 77) (ls' := [(0, .ref 295), (1, .long v1), (4, .int v4)]) (st' := []) ?_
      refine tk_Ps  1 (pc' := 78) (ls' := [(0, .ref 295), (1, .long v1), (4, .int v4)]) (st' := [.ref 295]) rfl ?_
      refine tk_HR  rfl rfl ly295 rt295_26 ?_
      refine tk_Ps  3 (pc' := 85) (ls' := [(0, .ref 295), (1, .long v1), (4, .int v4)]) (st' := [.ref 295, .ref 295, .int v4, .ref 449]) rfl ?_
      refine tk_HR  rfl rfl ly295 rt295_26 ?_
      refine tk_Ps  1 (pc' := 90) (ls' := [(0, .ref 295), (1, .long v1), (4, .int v4)]) (st' := [.int v4, .ref 449, .ref 295, .int v4, .ref 449]) rfl ?_
      obtain ⟨hg2, h⟩ := tk_grd h
      refine tk_HJa  rfl rfl ly449 hg2 ?_
      refine tk_Ps  1 (pc' := 92) (ls' := [(0, .ref 295), (1, .long v1), (4, .int v4)]) (st' := [.long v1, .long (m.2.1 449 (tk_n v4)), .ref 295, .int v4, .ref 449]) rfl ?_
      obtain ⟨o3, ho3, h⟩ := tk_bnd h
      refine tk_cV1  rfl rfl (r := 295) (as := [.long (m.2.1 449 (tk_n v4)), .long v1]) (rest := [.int v4, .ref 449]) rfl ly295 rfl rfl (ok_fM_by sc (m.2.1 449 (tk_n v4)) v1 m ho3) ?_
      refine tk_SJa  rfl rfl ly449 hg2 ?_
      refine tk_Ps  2 (pc' := 71) (ls' := [(4, .int (v4 + (1 : Int32))), (0, .ref 295), (1, .long v1)]) (st' := []) rfl ?_
      refine tk_Kp  (ls' := [(0, .ref 295), (1, .long v1), (4, .int (v4 + (1 : Int32)))]) rfl rfl ?_
      exact ih v1 (v4 + (1 : Int32)) (o3.2.1, tk_u2 o3.2.2.1 449 (tk_n v4) o3.1, o3.2.2.2.1, o3.2.2.2.2) _ h
theorem ok_fM_laysLowest_49 (sc : tk_X) (v1 : Int64) (v3 : Int32) (m : tk_m) (out : tk_m) (h : fM_laysLowest_49 v1 v3 m = some out) : tk_Ex sc 1 tk_r260 tk_k260 49 [(0, .ref 295), (1, .long v1), (3, .int v3)] [] (tk_full m) (none, tk_full out) := by
  unfold fM_laysLowest_49 at h
  refine tk_Ps  1 (pc' := 50) (ls' := [(0, .ref 295), (1, .long v1), (3, .int v3)]) (st' := [.int v3]) rfl ?_
  by_cases hc1 : 0 ≤ v3
  · replace h := tk_ifT hc1 h
    refine tk_bT  rfl rfl rfl (c := 0 ≤ v3) hc1 (pc' := 54) (ls' := [(0, .ref 295), (1, .long v1), (3, .int v3)]) (st' := []) ?_
    refine tk_Ps  1 (pc' := 55) (ls' := [(0, .ref 295), (1, .long v1), (3, .int v3)]) (st' := [.ref 295]) rfl ?_
    refine tk_HR  rfl rfl ly295 rt295_26 ?_
    refine tk_Ps  1 (pc' := 59) (ls' := [(0, .ref 295), (1, .long v1), (3, .int v3)]) (st' := [.int v3, .ref 449]) rfl ?_
    obtain ⟨hg2, h⟩ := tk_grd h
    refine tk_HJa  rfl rfl ly449 hg2 ?_
    refine tk_Ps  2 (pc' := 62) (ls' := [(0, .ref 295), (1, .long v1), (3, .int v3)]) (st' := [.int (lg_cmp (m.2.1 449 (tk_n v3)) (0 : Int64))]) rfl ?_
    by_cases hc3 : (m.2.1 449 (tk_n v3)) ≤ (0 : Int64)
    · replace h := tk_ifT hc3 h
      refine tk_bT  rfl rfl tk_eL_le (c := (m.2.1 449 (tk_n v3)) ≤ (0 : Int64)) hc3 (pc' := 68) (ls' := [(0, .ref 295), (1, .long v1), (3, .int v3)]) (st' := []) ?_
      refine tk_Ps  2 (pc' := 71) (ls' := [(4, .int (0 : Int32)), (0, .ref 295), (1, .long v1), (3, .int v3)]) (st' := []) rfl ?_
      refine tk_Kp  (ls' := [(0, .ref 295), (1, .long v1), (4, .int (0 : Int32))]) rfl rfl ?_
      exact ok_fM_laysLowest_71 sc tk_F v1 (0 : Int32) m _ h
    · replace h := tk_ifF hc3 h
      refine tk_bF  rfl rfl tk_eL_le (c := (m.2.1 449 (tk_n v3)) ≤ (0 : Int64)) hc3 (pc' := 65) (ls' := [(0, .ref 295), (1, .long v1), (3, .int v3)]) (st' := []) ?_
      refine tk_Ps  5 (pc' := 71) (ls' := [(4, .int (0 : Int32)), (1, .long (-v1)), (0, .ref 295), (3, .int v3)]) (st' := []) rfl ?_
      refine tk_Kp  (ls' := [(0, .ref 295), (1, .long (-v1)), (4, .int (0 : Int32))]) rfl rfl ?_
      exact ok_fM_laysLowest_71 sc tk_F (-v1) (0 : Int32) m _ h
  · replace h := tk_ifF hc1 h
    refine tk_bF  rfl rfl rfl (c := 0 ≤ v3) hc1 (pc' := 53) (ls' := [(0, .ref 295), (1, .long v1), (3, .int v3)]) (st' := []) ?_
    replace h := Option.some.inj h
    subst h
    exact tk_RV  rfl rfl rfl
theorem ok_fM_laysLowest_7 (sc : tk_X) : ∀ (n : Nat) (v1 : Int64) (v3 : Int32) (v4 : Int32) (m : tk_m) (out : tk_m), fM_laysLowest_7 n v1 v3 v4 m = some out → tk_Ex sc 1 tk_r260 tk_k260 7 [(0, .ref 295), (1, .long v1), (3, .int v3), (4, .int v4)] [] (tk_full m) (none, tk_full out) := by
  intro n
  induction n with
  | zero =>
    intro v1 v3 v4 m out h
    cases h
  | succ n ih =>
    intro v1 v3 v4 m out h
    unfold fM_laysLowest_7 at h
    refine tk_Ps  1 (pc' := 9) (ls' := [(0, .ref 295), (1, .long v1), (3, .int v3), (4, .int v4)]) (st' := [.int v4]) rfl ?_
    by_cases hc1 : v4 < 0
    · replace h := tk_ifT hc1 h
      refine tk_bT  rfl rfl rfl (c := v4 < 0) hc1 (pc' := 49) (ls' := [(0, .ref 295), (1, .long v1), (3, .int v3), (4, .int v4)]) (st' := []) ?_
      refine tk_Kp  (ls' := [(0, .ref 295), (1, .long v1), (3, .int v3)]) rfl rfl ?_
      exact ok_fM_laysLowest_49 sc v1 v3 m _ h
    · replace h := tk_ifF hc1 h
      refine tk_bF  rfl rfl rfl (c := v4 < 0) hc1 (pc' := 12) (ls' := [(0, .ref 295), (1, .long v1), (3, .int v3), (4, .int v4)]) (st' := []) ?_
      refine tk_Ps  2 (pc' := 14) (ls' := [(0, .ref 295), (1, .long v1), (3, .int v3), (4, .int v4)]) (st' := [.ref 295, .long v1]) rfl ?_
      refine tk_HR  rfl rfl ly295 rt295_26 ?_
      refine tk_Ps  1 (pc' := 19) (ls' := [(0, .ref 295), (1, .long v1), (3, .int v3), (4, .int v4)]) (st' := [.int v4, .ref 449, .long v1]) rfl ?_
      obtain ⟨hg2, h⟩ := tk_grd h
      refine tk_HJa  rfl rfl ly449 hg2 ?_
      obtain ⟨o3, ho3, h⟩ := tk_bnd h
      refine tk_cS1  rfl rfl (as := [.long v1, .long (m.2.1 449 (tk_n v4))]) (rest := []) rfl rfl rfl (ok_fM_below sc v1 (m.2.1 449 (tk_n v4)) m ho3) ?_
      refine tk_Ps  2 (pc' := 25) (ls' := [(1, .long o3), (0, .ref 295), (3, .int v3), (4, .int v4)]) (st' := [.ref 295]) rfl ?_
      refine tk_HR  rfl rfl ly295 rt295_26 ?_
      refine tk_Ps  1 (pc' := 30) (ls' := [(1, .long o3), (0, .ref 295), (3, .int v3), (4, .int v4)]) (st' := [.int v4, .ref 449]) rfl ?_
      refine tk_HJa  rfl rfl ly449 hg2 ?_
      refine tk_Ps  2 (pc' := 33) (ls' := [(1, .long o3), (0, .ref 295), (3, .int v3), (4, .int v4)]) (st' := [.int (lg_cmp (m.2.1 449 (tk_n v4)) (0 : Int64))]) rfl ?_
      by_cases hc4 : (m.2.1 449 (tk_n v4)) = (0 : Int64)
      · replace h := tk_ifT hc4 h
        refine tk_bT  rfl rfl tk_eL_eq (c := (m.2.1 449 (tk_n v4)) = (0 : Int64)) hc4 (pc' := 41) (ls' := [(1, .long o3), (0, .ref 295), (3, .int v3), (4, .int v4)]) (st' := []) ?_
        refine tk_Ps  4 (pc' := 7) (ls' := [(4, .int (v4 + (-1 : Int32))), (3, .int v3), (1, .long o3), (0, .ref 295)]) (st' := []) rfl ?_
        refine tk_Kp  (ls' := [(0, .ref 295), (1, .long o3), (3, .int v3), (4, .int (v4 + (-1 : Int32)))]) rfl rfl ?_
        exact ih o3 v3 (v4 + (-1 : Int32)) m _ h
      · replace h := tk_ifF hc4 h
        refine tk_bF  rfl rfl tk_eL_eq (c := (m.2.1 449 (tk_n v4)) = (0 : Int64)) hc4 (pc' := 36) (ls' := [(1, .long o3), (0, .ref 295), (3, .int v3), (4, .int v4)]) (st' := []) ?_
        refine tk_Ps  5 (pc' := 7) (ls' := [(4, .int (v4 + (-1 : Int32))), (3, .int v4), (1, .long o3), (0, .ref 295)]) (st' := []) rfl ?_
        refine tk_Kp  (ls' := [(0, .ref 295), (1, .long o3), (3, .int v4), (4, .int (v4 + (-1 : Int32)))]) rfl rfl ?_
        exact ih o3 v4 (v4 + (-1 : Int32)) m _ h
theorem ok_fM_laysLowest (sc : tk_X) (m : tk_m) {out : tk_m} (h : fM_laysLowest m = some out) : tk_Ru sc 2 260 [.ref 295] (tk_full m) (none, tk_full out) := by
  unfold fM_laysLowest at h
  refine tk_Ru0 me260 (ls := [(0, .ref 295)]) rfl rfl ?_
  refine tk_Ps  6 (pc' := 7) (ls' := [(4, .int (3 : Int32)), (3, .int (-1 : Int32)), (1, .long (0 : Int64)), (0, .ref 295)]) (st' := []) rfl ?_
  refine tk_Kp  (ls' := [(0, .ref 295), (1, .long (0 : Int64)), (3, .int (-1 : Int32)), (4, .int (3 : Int32))]) rfl rfl ?_
  exact ok_fM_laysLowest_7 sc tk_F (0 : Int64) (-1 : Int32) (3 : Int32) m _ h
theorem ok_fM_invert_252 (sc : tk_X) : ∀ (n : Nat) (v1 : Int32) (v6 : Int32) (m : tk_m) (out : Int32 × tk_m), fM_invert_252 n v1 v6 m = some out → tk_Ex sc 2 tk_r255 tk_k255 252 [(0, .ref 295), (1, .int v1), (6, .int v6)] [] (tk_full m) (some (.int out.1), tk_full out.2) := by
  intro n
  induction n with
  | zero =>
    intro v1 v6 m out h
    cases h
  | succ n ih =>
    intro v1 v6 m out h
    unfold fM_invert_252 at h
    refine tk_Ps  2 (pc' := 255) (ls' := [(0, .ref 295), (1, .int v1), (6, .int v6)]) (st' := [.int (4 : Int32), .int v6]) rfl ?_
    by_cases hc1 : (4 : Int32) ≤ v6
    · replace h := tk_ifT hc1 h
      refine tk_bT  rfl rfl rfl (c := (4 : Int32) ≤ v6) hc1 (pc' := 280) (ls' := [(0, .ref 295), (1, .int v1), (6, .int v6)]) (st' := []) ?_
      refine tk_Ps  1 (pc' := 281) (ls' := [(0, .ref 295), (1, .int v1), (6, .int v6)]) (st' := [.int (1 : Int32)]) rfl ?_
      replace h := Option.some.inj h
      subst h
      exact tk_RI  rfl rfl rfl
    · replace h := tk_ifF hc1 h
      refine tk_bF  rfl rfl rfl (c := (4 : Int32) ≤ v6) hc1 (pc' := 258) (ls' := [(0, .ref 295), (1, .int v1), (6, .int v6)]) (st' := []) ?_
      refine tk_Ps  1 (pc' := 259) (ls' := [(0, .ref 295), (1, .int v1), (6, .int v6)]) (st' := [.ref 295]) rfl ?_
      refine tk_HR  rfl rfl ly295 rt295_25 ?_
      refine tk_Ps  1 (pc' := 263) (ls' := [(0, .ref 295), (1, .int v1), (6, .int v6)]) (st' := [.int v1, .ref 444]) rfl ?_
      obtain ⟨hg2, h⟩ := tk_grd h
      refine tk_HQ  rfl rfl ly444 hg2 (la444 _ (hg2).2).1 ?_
      refine tk_Ps  2 (pc' := 267) (ls' := [(0, .ref 295), (1, .int v1), (6, .int v6)]) (st' := [.ref 295, .int v6, .ref (445 + (tk_n v1))]) rfl ?_
      refine tk_HR  rfl rfl ly295 rt295_26 ?_
      refine tk_Ps  1 (pc' := 272) (ls' := [(0, .ref 295), (1, .int v1), (6, .int v6)]) (st' := [.int v6, .ref 449, .int v6, .ref (445 + (tk_n v1))]) rfl ?_
      obtain ⟨hg3, h⟩ := tk_grd h
      refine tk_HJa  rfl rfl ly449 hg3 ?_
      obtain ⟨hg4, h⟩ := tk_grd h
      refine tk_SJa  rfl rfl ((la444 _ (hg2).2).2) hg4 ?_
      refine tk_Ps  2 (pc' := 252) (ls' := [(6, .int (v6 + (1 : Int32))), (0, .ref 295), (1, .int v1)]) (st' := []) rfl ?_
      refine tk_Kp  (ls' := [(0, .ref 295), (1, .int v1), (6, .int (v6 + (1 : Int32)))]) rfl rfl ?_
      exact ih v1 (v6 + (1 : Int32)) (m.1, tk_u2 m.2.1 (445 + (tk_n v1)) (tk_n v6) (m.2.1 449 (tk_n v6)), m.2.2.1, m.2.2.2) _ h
theorem ok_fM_invert_235 (sc : tk_X) (v1 : Int32) (m : tk_m) (out : Int32 × tk_m) (h : fM_invert_235 v1 m = some out) : tk_Ex sc 2 tk_r255 tk_k255 235 [(0, .ref 295), (1, .int v1)] [] (tk_full m) (some (.int out.1), tk_full out.2) := by
  unfold fM_invert_235 at h
  refine tk_Ps  1 (pc' := 236) (ls' := [(0, .ref 295), (1, .int v1)]) (st' := [.ref 295]) rfl ?_
  refine tk_HB  rfl rfl ly295 ?_
  by_cases hc1 : (m.2.2.1 295 4) = true
  · replace h := tk_ifT hc1 h
    refine tk_bT  rfl rfl tk_eB_eq (c := (m.2.2.1 295 4) = true) hc1 (pc' := 242) (ls' := [(0, .ref 295), (1, .int v1)]) (st' := []) ?_
    refine tk_Ps  2 (pc' := 245) (ls' := [(0, .ref 295), (1, .int v1)]) (st' := [.int (7 : Int32), .ref 295]) rfl ?_
    obtain ⟨o2, ho2, h⟩ := tk_bnd h
    refine tk_cV1  rfl rfl (r := 295) (as := [.int (7 : Int32)]) (rest := []) rfl ly295 rfl rfl (ok_fM_finds sc (7 : Int32) m ho2) ?_
    replace h := Option.some.inj h
    subst h
    exact tk_RI  rfl rfl rfl
  · replace h := tk_ifF hc1 h
    refine tk_bF  rfl rfl tk_eB_eq (c := (m.2.2.1 295 4) = true) hc1 (pc' := 249) (ls' := [(0, .ref 295), (1, .int v1)]) (st' := []) ?_
    refine tk_Ps  2 (pc' := 252) (ls' := [(6, .int (0 : Int32)), (0, .ref 295), (1, .int v1)]) (st' := []) rfl ?_
    refine tk_Kp  (ls' := [(0, .ref 295), (1, .int v1), (6, .int (0 : Int32))]) rfl rfl ?_
    exact ok_fM_invert_252 sc tk_F v1 (0 : Int32) m _ h
theorem ok_fM_invert_182 (sc : tk_X) : ∀ (n : Nat) (v1 : Int32) (v6 : Int32) (m : tk_m) (out : Int32 × tk_m), fM_invert_182 n v1 v6 m = some out → tk_Ex sc 2 tk_r255 tk_k255 182 [(0, .ref 295), (1, .int v1), (6, .int v6)] [] (tk_full m) (some (.int out.1), tk_full out.2) := by
  intro n
  induction n with
  | zero =>
    intro v1 v6 m out h
    cases h
  | succ n ih =>
    intro v1 v6 m out h
    unfold fM_invert_182 at h
    refine tk_Ps  2 (pc' := 185) (ls' := [(0, .ref 295), (1, .int v1), (6, .int v6)]) (st' := [.int (4 : Int32), .int v6]) rfl ?_
    by_cases hc1 : (4 : Int32) ≤ v6
    · replace h := tk_ifT hc1 h
      refine tk_bT  rfl rfl rfl (c := (4 : Int32) ≤ v6) hc1 (pc' := 235) (ls' := [(0, .ref 295), (1, .int v1), (6, .int v6)]) (st' := []) ?_
      refine tk_Kp  (ls' := [(0, .ref 295), (1, .int v1)]) rfl rfl ?_
      exact ok_fM_invert_235 sc v1 m _ h
    · replace h := tk_ifF hc1 h
      refine tk_bF  rfl rfl rfl (c := (4 : Int32) ≤ v6) hc1 (pc' := 188) (ls' := [(0, .ref 295), (1, .int v1), (6, .int v6)]) (st' := []) ?_
      refine tk_Ps  2 (pc' := 190) (ls' := [(0, .ref 295), (1, .int v1), (6, .int v6)]) (st' := [.ref 295, .ref 295]) rfl ?_
      refine tk_HB  rfl rfl ly295 ?_
      refine tk_Ps  1 (pc' := 194) (ls' := [(0, .ref 295), (1, .int v1), (6, .int v6)]) (st' := [.ref 295, .int (tk_b (m.2.2.1 295 4)), .ref 295]) rfl ?_
      refine tk_HR  rfl rfl ly295 rt295_23 ?_
      refine tk_Ps  1 (pc' := 198) (ls' := [(0, .ref 295), (1, .int v1), (6, .int v6)]) (st' := [.int v1, .ref 442, .int (tk_b (m.2.2.1 295 4)), .ref 295]) rfl ?_
      obtain ⟨hg2, h⟩ := tk_grd h
      refine tk_HIa  rfl rfl ly442 hg2 ?_
      refine tk_Ps  1 (pc' := 200) (ls' := [(0, .ref 295), (1, .int v1), (6, .int v6)]) (st' := [.ref 295, .int (m.1 442 (tk_n v1)), .int (tk_b (m.2.2.1 295 4)), .ref 295]) rfl ?_
      refine tk_HR  rfl rfl ly295 rt295_26 ?_
      refine tk_Ps  1 (pc' := 205) (ls' := [(0, .ref 295), (1, .int v1), (6, .int v6)]) (st' := [.int v6, .ref 449, .int (m.1 442 (tk_n v1)), .int (tk_b (m.2.2.1 295 4)), .ref 295]) rfl ?_
      obtain ⟨hg3, h⟩ := tk_grd h
      refine tk_HJa  rfl rfl ly449 hg3 ?_
      refine tk_cS1  rfl rfl (as := [.int (m.1 442 (tk_n v1)), .long (m.2.1 449 (tk_n v6))]) (rest := [.int (tk_b (m.2.2.1 295 4)), .ref 295]) rfl rfl rfl (ok_fM_cut sc (m.1 442 (tk_n v1)) (m.2.1 449 (tk_n v6)) m) ?_
      refine tk_Ps  1 (pc' := 210) (ls' := [(0, .ref 295), (1, .int v1), (6, .int v6)]) (st' := [.ref 295, .long (fM_cut (m.1 442 (tk_n v1)) (m.2.1 449 (tk_n v6))), .int (tk_b (m.2.2.1 295 4)), .ref 295]) rfl ?_
      refine tk_HR  rfl rfl ly295 rt295_26 ?_
      refine tk_Ps  1 (pc' := 215) (ls' := [(0, .ref 295), (1, .int v1), (6, .int v6)]) (st' := [.int v6, .ref 449, .long (fM_cut (m.1 442 (tk_n v1)) (m.2.1 449 (tk_n v6))), .int (tk_b (m.2.2.1 295 4)), .ref 295]) rfl ?_
      refine tk_HJa  rfl rfl ly449 hg3 ?_
      refine tk_Ps  1 (pc' := 217) (ls' := [(0, .ref 295), (1, .int v1), (6, .int v6)]) (st' := [.int (lg_cmp (fM_cut (m.1 442 (tk_n v1)) (m.2.1 449 (tk_n v6))) (m.2.1 449 (tk_n v6))), .int (tk_b (m.2.2.1 295 4)), .ref 295]) rfl ?_
      by_cases hc4 : (fM_cut (m.1 442 (tk_n v1)) (m.2.1 449 (tk_n v6))) = (m.2.1 449 (tk_n v6))
      · replace h := tk_ifT hc4 h
        refine tk_bT  rfl rfl tk_eL_eq (c := (fM_cut (m.1 442 (tk_n v1)) (m.2.1 449 (tk_n v6))) = (m.2.1 449 (tk_n v6))) hc4 (pc' := 224) (ls' := [(0, .ref 295), (1, .int v1), (6, .int v6)]) (st' := [.int (tk_b (m.2.2.1 295 4)), .ref 295]) ?_
        refine tk_Ps  1 (pc' := 225) (ls' := [(0, .ref 295), (1, .int v1), (6, .int v6)]) (st' := [.int (0 : Int32), .int (tk_b (m.2.2.1 295 4)), .ref 295]) rfl ?_
        refine tk_iorB  rfl rfl (b := (m.2.2.1 295 4)) (b2 := false) ?_
        refine tk_SB (b := (m.2.2.1 295 4) || false)  rfl rfl ly295 ?_
        refine tk_Ps  2 (pc' := 182) (ls' := [(6, .int (v6 + (1 : Int32))), (0, .ref 295), (1, .int v1)]) (st' := []) rfl ?_
        refine tk_Kp  (ls' := [(0, .ref 295), (1, .int v1), (6, .int (v6 + (1 : Int32)))]) rfl rfl ?_
        exact ih v1 (v6 + (1 : Int32)) (m.1, m.2.1, tk_u2 m.2.2.1 295 4 ((m.2.2.1 295 4) || false), m.2.2.2) _ h
      · replace h := tk_ifF hc4 h
        refine tk_bF  rfl rfl tk_eL_eq (c := (fM_cut (m.1 442 (tk_n v1)) (m.2.1 449 (tk_n v6))) = (m.2.1 449 (tk_n v6))) hc4 (pc' := 220) (ls' := [(0, .ref 295), (1, .int v1), (6, .int v6)]) (st' := [.int (tk_b (m.2.2.1 295 4)), .ref 295]) ?_
        refine tk_Ps  2 (pc' := 225) (ls' := [(0, .ref 295), (1, .int v1), (6, .int v6)]) (st' := [.int (1 : Int32), .int (tk_b (m.2.2.1 295 4)), .ref 295]) rfl ?_
        refine tk_iorB  rfl rfl (b := (m.2.2.1 295 4)) (b2 := true) ?_
        refine tk_SB (b := (m.2.2.1 295 4) || true)  rfl rfl ly295 ?_
        refine tk_Ps  2 (pc' := 182) (ls' := [(6, .int (v6 + (1 : Int32))), (0, .ref 295), (1, .int v1)]) (st' := []) rfl ?_
        refine tk_Kp  (ls' := [(0, .ref 295), (1, .int v1), (6, .int (v6 + (1 : Int32)))]) rfl rfl ?_
        exact ih v1 (v6 + (1 : Int32)) (m.1, m.2.1, tk_u2 m.2.2.1 295 4 ((m.2.2.1 295 4) || true), m.2.2.2) _ h
theorem ok_fM_invert_128 (sc : tk_X) (v1 : Int32) (v2 : Int32) (v3 : Int32) (v4 : Int32) (v5 : Int32) (m : tk_m) (out : Int32 × tk_m) (h : fM_invert_128 v1 v2 v3 v4 v5 m = some out) : tk_Ex sc 2 tk_r255 tk_k255 128 [(0, .ref 295), (1, .int v1), (2, .int v2), (3, .int v3), (4, .int v4), (5, .int v5)] [] (tk_full m) (some (.int out.1), tk_full out.2) := by
  unfold fM_invert_128 at h
  refine tk_Ps  1 (pc' := 130) (ls' := [(0, .ref 295), (1, .int v1), (2, .int v2), (3, .int v3), (4, .int v4), (5, .int v5)]) (st' := [.int v5]) rfl ?_
  by_cases hc1 : v5 = 0
  · replace h := tk_ifT hc1 h
    refine tk_bT  rfl rfl rfl (c := v5 = 0) hc1 (pc' := 139) (ls' := [(0, .ref 295), (1, .int v1), (2, .int v2), (3, .int v3), (4, .int v4), (5, .int v5)]) (st' := []) ?_
    refine tk_Ps  2 (pc' := 141) (ls' := [(0, .ref 295), (1, .int v1), (2, .int v2), (3, .int v3), (4, .int v4), (5, .int v5)]) (st' := [.int (0 : Int32), .ref 295]) rfl ?_
    refine tk_SB (b := false)  rfl rfl ly295 ?_
    refine tk_Ps  2 (pc' := 146) (ls' := [(0, .ref 295), (1, .int v1), (2, .int v2), (3, .int v3), (4, .int v4), (5, .int v5)]) (st' := [.ref 295, .ref 295]) rfl ?_
    refine tk_HR  rfl rfl ly295 rt295_25 ?_
    refine tk_Ps  1 (pc' := 150) (ls' := [(0, .ref 295), (1, .int v1), (2, .int v2), (3, .int v3), (4, .int v4), (5, .int v5)]) (st' := [.int v1, .ref 444, .ref 295]) rfl ?_
    obtain ⟨hg2, h⟩ := tk_grd h
    refine tk_HQ  rfl rfl ly444 hg2 (la444 _ (hg2).2).1 ?_
    refine tk_Ps  6 (pc' := 158) (ls' := [(0, .ref 295), (1, .int v1), (2, .int v2), (3, .int v3), (4, .int v4), (5, .int v5)]) (st' := [.long (Int32.toInt64 v4), .long (Int32.toInt64 v3), .long (Int32.toInt64 v2), .ref (445 + (tk_n v1)), .ref 295]) rfl ?_
    obtain ⟨o3, ho3, h⟩ := tk_bnd h
    refine tk_cV0  rfl rfl (r := 295) (as := [.ref (445 + (tk_n v1)), .long (Int32.toInt64 v2), .long (Int32.toInt64 v3), .long (Int32.toInt64 v4)]) (rest := []) rfl ly295 rfl rfl (ok_fM_inverts sc (445 + (tk_n v1)) (Int32.toInt64 v2) (Int32.toInt64 v3) (Int32.toInt64 v4) (m.1, m.2.1, tk_u2 m.2.2.1 295 4 false, m.2.2.2) (tk_al_of ((la444 _ (hg2).2).2)) ho3) ?_
    refine tk_Ps  1 (pc' := 162) (ls' := [(0, .ref 295), (1, .int v1), (2, .int v2), (3, .int v3), (4, .int v4), (5, .int v5)]) (st' := [.ref 295]) rfl ?_
    refine tk_HB  rfl rfl ly295 ?_
    by_cases hc4 : (o3.2.2.1 295 4) = true
    · replace h := tk_ifT hc4 h
      refine tk_bT  rfl rfl tk_eB_eq (c := (o3.2.2.1 295 4) = true) hc4 (pc' := 168) (ls' := [(0, .ref 295), (1, .int v1), (2, .int v2), (3, .int v3), (4, .int v4), (5, .int v5)]) (st' := []) ?_
      refine tk_Ps  2 (pc' := 171) (ls' := [(0, .ref 295), (1, .int v1), (2, .int v2), (3, .int v3), (4, .int v4), (5, .int v5)]) (st' := [.int (7 : Int32), .ref 295]) rfl ?_
      obtain ⟨o5, ho5, h⟩ := tk_bnd h
      refine tk_cV1  rfl rfl (r := 295) (as := [.int (7 : Int32)]) (rest := []) rfl ly295 rfl rfl (ok_fM_finds sc (7 : Int32) o3 ho5) ?_
      replace h := Option.some.inj h
      subst h
      exact tk_RI  rfl rfl rfl
    · replace h := tk_ifF hc4 h
      refine tk_bF  rfl rfl tk_eB_eq (c := (o3.2.2.1 295 4) = true) hc4 (pc' := 175) (ls' := [(0, .ref 295), (1, .int v1), (2, .int v2), (3, .int v3), (4, .int v4), (5, .int v5)]) (st' := []) ?_
      refine tk_Ps  1 (pc' := 176) (ls' := [(0, .ref 295), (1, .int v1), (2, .int v2), (3, .int v3), (4, .int v4), (5, .int v5)]) (st' := [.ref 295]) rfl ?_
      obtain ⟨o6, ho6, h⟩ := tk_bnd h
      refine tk_cV0  rfl rfl (r := 295) (as := []) (rest := []) rfl ly295 rfl rfl (ok_fM_laysLowest sc o3 ho6) ?_
      refine tk_Ps  2 (pc' := 182) (ls' := [(6, .int (0 : Int32)), (0, .ref 295), (1, .int v1), (2, .int v2), (3, .int v3), (4, .int v4), (5, .int v5)]) (st' := []) rfl ?_
      refine tk_Kp  (ls' := [(0, .ref 295), (1, .int v1), (6, .int (0 : Int32))]) rfl rfl ?_
      exact ok_fM_invert_182 sc tk_F v1 (0 : Int32) o6 _ h
  · replace h := tk_ifF hc1 h
    refine tk_bF  rfl rfl rfl (c := v5 = 0) hc1 (pc' := 133) (ls' := [(0, .ref 295), (1, .int v1), (2, .int v2), (3, .int v3), (4, .int v4), (5, .int v5)]) (st' := []) ?_
    refine tk_Ps  2 (pc' := 135) (ls' := [(0, .ref 295), (1, .int v1), (2, .int v2), (3, .int v3), (4, .int v4), (5, .int v5)]) (st' := [.int (4 : Int32), .ref 295]) rfl ?_
    obtain ⟨o7, ho7, h⟩ := tk_bnd h
    refine tk_cV1  rfl rfl (r := 295) (as := [.int (4 : Int32)]) (rest := []) rfl ly295 rfl rfl (ok_fM_finds sc (4 : Int32) m ho7) ?_
    replace h := Option.some.inj h
    subst h
    exact tk_RI  rfl rfl rfl
theorem ok_fM_invert_92 (sc : tk_X) : ∀ (n : Nat) (v1 : Int32) (v2 : Int32) (v3 : Int32) (v4 : Int32) (v5 : Int32) (v6 : Int32) (m : tk_m) (out : Int32 × tk_m), fM_invert_92 n v1 v2 v3 v4 v5 v6 m = some out → tk_Ex sc 2 tk_r255 tk_k255 92 [(0, .ref 295), (1, .int v1), (2, .int v2), (3, .int v3), (4, .int v4), (5, .int v5), (6, .int v6)] [] (tk_full m) (some (.int out.1), tk_full out.2) := by
  intro n
  induction n with
  | zero =>
    intro v1 v2 v3 v4 v5 v6 m out h
    cases h
  | succ n ih =>
    intro v1 v2 v3 v4 v5 v6 m out h
    unfold fM_invert_92 at h
    refine tk_Ps  2 (pc' := 95) (ls' := [(0, .ref 295), (1, .int v1), (2, .int v2), (3, .int v3), (4, .int v4), (5, .int v5), (6, .int v6)]) (st' := [.int (4 : Int32), .int v6]) rfl ?_
    by_cases hc1 : (4 : Int32) ≤ v6
    · replace h := tk_ifT hc1 h
      refine tk_bT  rfl rfl rfl (c := (4 : Int32) ≤ v6) hc1 (pc' := 128) (ls' := [(0, .ref 295), (1, .int v1), (2, .int v2), (3, .int v3), (4, .int v4), (5, .int v5), (6, .int v6)]) (st' := []) ?_
      refine tk_Kp  (ls' := [(0, .ref 295), (1, .int v1), (2, .int v2), (3, .int v3), (4, .int v4), (5, .int v5)]) rfl rfl ?_
      exact ok_fM_invert_128 sc v1 v2 v3 v4 v5 m _ h
    · replace h := tk_ifF hc1 h
      refine tk_bF  rfl rfl rfl (c := (4 : Int32) ≤ v6) hc1 (pc' := 98) (ls' := [(0, .ref 295), (1, .int v1), (2, .int v2), (3, .int v3), (4, .int v4), (5, .int v5), (6, .int v6)]) (st' := []) ?_
      refine tk_Ps  2 (pc' := 101) (ls' := [(0, .ref 295), (1, .int v1), (2, .int v2), (3, .int v3), (4, .int v4), (5, .int v5), (6, .int v6)]) (st' := [.ref 295, .int v5]) rfl ?_
      refine tk_HR  rfl rfl ly295 rt295_25 ?_
      refine tk_Ps  1 (pc' := 105) (ls' := [(0, .ref 295), (1, .int v1), (2, .int v2), (3, .int v3), (4, .int v4), (5, .int v5), (6, .int v6)]) (st' := [.int v1, .ref 444, .int v5]) rfl ?_
      obtain ⟨hg2, h⟩ := tk_grd h
      refine tk_HQ  rfl rfl ly444 hg2 (la444 _ (hg2).2).1 ?_
      refine tk_Ps  1 (pc' := 108) (ls' := [(0, .ref 295), (1, .int v1), (2, .int v2), (3, .int v3), (4, .int v4), (5, .int v5), (6, .int v6)]) (st' := [.int v6, .ref (445 + (tk_n v1)), .int v5]) rfl ?_
      obtain ⟨hg3, h⟩ := tk_grd h
      refine tk_HJa  rfl rfl ((la444 _ (hg2).2).2) hg3 ?_
      refine tk_Ps  2 (pc' := 111) (ls' := [(0, .ref 295), (1, .int v1), (2, .int v2), (3, .int v3), (4, .int v4), (5, .int v5), (6, .int v6)]) (st' := [.int (lg_cmp (m.2.1 (445 + (tk_n v1)) (tk_n v6)) (0 : Int64)), .int v5]) rfl ?_
      by_cases hc4 : (m.2.1 (445 + (tk_n v1)) (tk_n v6)) = (0 : Int64)
      · replace h := tk_ifT hc4 h
        refine tk_bT  rfl rfl tk_eL_ne (c := (m.2.1 (445 + (tk_n v1)) (tk_n v6)) = (0 : Int64)) hc4 (pc' := 114) (ls' := [(0, .ref 295), (1, .int v1), (2, .int v2), (3, .int v3), (4, .int v4), (5, .int v5), (6, .int v6)]) (st' := [.int v5]) ?_
        refine tk_Ps  6 (pc' := 92) (ls' := [(6, .int (v6 + (1 : Int32))), (5, .int (v5 &&& (1 : Int32))), (0, .ref 295), (1, .int v1), (2, .int v2), (3, .int v3), (4, .int v4)]) (st' := []) rfl ?_
        refine tk_Kp  (ls' := [(0, .ref 295), (1, .int v1), (2, .int v2), (3, .int v3), (4, .int v4), (5, .int (v5 &&& (1 : Int32))), (6, .int (v6 + (1 : Int32)))]) rfl rfl ?_
        exact ih v1 v2 v3 v4 (v5 &&& (1 : Int32)) (v6 + (1 : Int32)) m _ h
      · replace h := tk_ifF hc4 h
        refine tk_bF  rfl rfl tk_eL_ne (c := (m.2.1 (445 + (tk_n v1)) (tk_n v6)) = (0 : Int64)) hc4 (pc' := 118) (ls' := [(0, .ref 295), (1, .int v1), (2, .int v2), (3, .int v3), (4, .int v4), (5, .int v5), (6, .int v6)]) (st' := [.int v5]) ?_
        refine tk_Ps  5 (pc' := 92) (ls' := [(6, .int (v6 + (1 : Int32))), (5, .int (v5 &&& (0 : Int32))), (0, .ref 295), (1, .int v1), (2, .int v2), (3, .int v3), (4, .int v4)]) (st' := []) rfl ?_
        refine tk_Kp  (ls' := [(0, .ref 295), (1, .int v1), (2, .int v2), (3, .int v3), (4, .int v4), (5, .int (v5 &&& (0 : Int32))), (6, .int (v6 + (1 : Int32)))]) rfl rfl ?_
        exact ih v1 v2 v3 v4 (v5 &&& (0 : Int32)) (v6 + (1 : Int32)) m _ h
theorem ok_fM_invert (sc : tk_X) (a1 : Int32) (a2 : Int32) (a3 : Int32) (a4 : Int32) (m : tk_m) {out : Int32 × tk_m} (h : fM_invert a1 a2 a3 a4 m = some out) : tk_Ru sc 3 255 [.ref 295, .int a1, .int a2, .int a3, .int a4] (tk_full m) (some (.int out.1), tk_full out.2) := by
  unfold fM_invert at h
  refine tk_Ru0 me255 (ls := [(0, .ref 295), (1, .int a1), (2, .int a2), (3, .int a3), (4, .int a4)]) rfl rfl ?_
  refine tk_Ps  1 (pc' := 1) (ls' := [(0, .ref 295), (1, .int a1), (2, .int a2), (3, .int a3), (4, .int a4)]) (st' := [.int a1]) rfl ?_
  refine tk_cS1  rfl rfl (as := [.int a1]) (rest := []) rfl rfl rfl (ok_fM_isSheet sc a1 m) ?_
  by_cases hc1 : (fM_isSheet a1) = true
  · replace h := tk_ifT hc1 h
    refine tk_bT  rfl rfl tk_eB_eq (c := (fM_isSheet a1) = true) hc1 (pc' := 7) (ls' := [(0, .ref 295), (1, .int a1), (2, .int a2), (3, .int a3), (4, .int a4)]) (st' := []) ?_
    refine tk_Ps  4 (pc' := 15) (ls' := [(0, .ref 295), (1, .int a1), (2, .int a2), (3, .int a3), (4, .int a4)]) (st' := [.long (9 : Int64), .long (-9 : Int64), .long (Int32.toInt64 a2)]) rfl ?_
    refine tk_cS1  rfl rfl (as := [.long (Int32.toInt64 a2), .long (-9 : Int64), .long (9 : Int64)]) (rest := []) rfl rfl rfl (ok_fM_in sc (Int32.toInt64 a2) (-9 : Int64) (9 : Int64) m) ?_
    by_cases hc2 : (fM_in (Int32.toInt64 a2) (-9 : Int64) (9 : Int64)) = true
    · replace h := tk_ifT hc2 h
      refine tk_bT  rfl rfl tk_eB_eq (c := (fM_in (Int32.toInt64 a2) (-9 : Int64) (9 : Int64)) = true) hc2 (pc' := 21) (ls' := [(0, .ref 295), (1, .int a1), (2, .int a2), (3, .int a3), (4, .int a4)]) (st' := []) ?_
      refine tk_Ps  4 (pc' := 29) (ls' := [(0, .ref 295), (1, .int a1), (2, .int a2), (3, .int a3), (4, .int a4)]) (st' := [.long (9 : Int64), .long (-9 : Int64), .long (Int32.toInt64 a3)]) rfl ?_
      refine tk_cS1  rfl rfl (as := [.long (Int32.toInt64 a3), .long (-9 : Int64), .long (9 : Int64)]) (rest := []) rfl rfl rfl (ok_fM_in sc (Int32.toInt64 a3) (-9 : Int64) (9 : Int64) m) ?_
      by_cases hc3 : (fM_in (Int32.toInt64 a3) (-9 : Int64) (9 : Int64)) = true
      · replace h := tk_ifT hc3 h
        refine tk_bT  rfl rfl tk_eB_eq (c := (fM_in (Int32.toInt64 a3) (-9 : Int64) (9 : Int64)) = true) hc3 (pc' := 35) (ls' := [(0, .ref 295), (1, .int a1), (2, .int a2), (3, .int a3), (4, .int a4)]) (st' := []) ?_
        refine tk_Ps  4 (pc' := 42) (ls' := [(0, .ref 295), (1, .int a1), (2, .int a2), (3, .int a3), (4, .int a4)]) (st' := [.long (99 : Int64), .long (1 : Int64), .long (Int32.toInt64 a4)]) rfl ?_
        refine tk_cS1  rfl rfl (as := [.long (Int32.toInt64 a4), .long (1 : Int64), .long (99 : Int64)]) (rest := []) rfl rfl rfl (ok_fM_in sc (Int32.toInt64 a4) (1 : Int64) (99 : Int64) m) ?_
        by_cases hc4 : (fM_in (Int32.toInt64 a4) (1 : Int64) (99 : Int64)) = true
        · replace h := tk_ifT hc4 h
          refine tk_bT  rfl rfl tk_eB_ne (c := (fM_in (Int32.toInt64 a4) (1 : Int64) (99 : Int64)) = true) hc4 (pc' := 54) (ls' := [(0, .ref 295), (1, .int a1), (2, .int a2), (3, .int a3), (4, .int a4)]) (st' := []) ?_
          refine tk_Ps  1 (pc' := 55) (ls' := [(0, .ref 295), (1, .int a1), (2, .int a2), (3, .int a3), (4, .int a4)]) (st' := [.ref 295]) rfl ?_
          refine tk_HR  rfl rfl ly295 rt295_23 ?_
          refine tk_Ps  1 (pc' := 59) (ls' := [(0, .ref 295), (1, .int a1), (2, .int a2), (3, .int a3), (4, .int a4)]) (st' := [.int a1, .ref 442]) rfl ?_
          obtain ⟨hg5, h⟩ := tk_grd h
          refine tk_HIa  rfl rfl ly442 hg5 ?_
          by_cases hc6 : 0 ≤ (m.1 442 (tk_n a1))
          · replace h := tk_ifT hc6 h
            refine tk_bT  rfl rfl rfl (c := 0 ≤ (m.1 442 (tk_n a1))) hc6 (pc' := 69) (ls' := [(0, .ref 295), (1, .int a1), (2, .int a2), (3, .int a3), (4, .int a4)]) (st' := []) ?_
            refine tk_Ps  1 (pc' := 70) (ls' := [(0, .ref 295), (1, .int a1), (2, .int a2), (3, .int a3), (4, .int a4)]) (st' := [.ref 295]) rfl ?_
            refine tk_HR  rfl rfl ly295 rt295_24 ?_
            refine tk_Ps  1 (pc' := 74) (ls' := [(0, .ref 295), (1, .int a1), (2, .int a2), (3, .int a3), (4, .int a4)]) (st' := [.int a1, .ref 443]) rfl ?_
            refine tk_HIa  rfl rfl ly443 hg5 ?_
            refine tk_Ps  1 (pc' := 76) (ls' := [(0, .ref 295), (1, .int a1), (2, .int a2), (3, .int a3), (4, .int a4)]) (st' := [.int (4 : Int32), .int (m.1 443 (tk_n a1))]) rfl ?_
            by_cases hc7 : (4 : Int32) ≤ (m.1 443 (tk_n a1))
            · replace h := tk_ifT hc7 h
              refine tk_bT  rfl rfl rfl (c := (4 : Int32) ≤ (m.1 443 (tk_n a1))) hc7 (pc' := 86) (ls' := [(0, .ref 295), (1, .int a1), (2, .int a2), (3, .int a3), (4, .int a4)]) (st' := []) ?_
              refine tk_Ps  4 (pc' := 92) (ls' := [(6, .int (0 : Int32)), (5, .int (1 : Int32)), (0, .ref 295), (1, .int a1), (2, .int a2), (3, .int a3), (4, .int a4)]) (st' := []) rfl ?_
              refine tk_Kp  (ls' := [(0, .ref 295), (1, .int a1), (2, .int a2), (3, .int a3), (4, .int a4), (5, .int (1 : Int32)), (6, .int (0 : Int32))]) rfl rfl ?_
              exact ok_fM_invert_92 sc tk_F a1 a2 a3 a4 (1 : Int32) (0 : Int32) m _ h
            · replace h := tk_ifF hc7 h
              refine tk_bF  rfl rfl rfl (c := (4 : Int32) ≤ (m.1 443 (tk_n a1))) hc7 (pc' := 79) (ls' := [(0, .ref 295), (1, .int a1), (2, .int a2), (3, .int a3), (4, .int a4)]) (st' := []) ?_
              refine tk_Ps  2 (pc' := 82) (ls' := [(0, .ref 295), (1, .int a1), (2, .int a2), (3, .int a3), (4, .int a4)]) (st' := [.int (6 : Int32), .ref 295]) rfl ?_
              obtain ⟨o8, ho8, h⟩ := tk_bnd h
              refine tk_cV1  rfl rfl (r := 295) (as := [.int (6 : Int32)]) (rest := []) rfl ly295 rfl rfl (ok_fM_finds sc (6 : Int32) m ho8) ?_
              replace h := Option.some.inj h
              subst h
              exact tk_RI  rfl rfl rfl
          · replace h := tk_ifF hc6 h
            refine tk_bF  rfl rfl rfl (c := 0 ≤ (m.1 442 (tk_n a1))) hc6 (pc' := 63) (ls' := [(0, .ref 295), (1, .int a1), (2, .int a2), (3, .int a3), (4, .int a4)]) (st' := []) ?_
            refine tk_Ps  2 (pc' := 65) (ls' := [(0, .ref 295), (1, .int a1), (2, .int a2), (3, .int a3), (4, .int a4)]) (st' := [.int (5 : Int32), .ref 295]) rfl ?_
            obtain ⟨o9, ho9, h⟩ := tk_bnd h
            refine tk_cV1  rfl rfl (r := 295) (as := [.int (5 : Int32)]) (rest := []) rfl ly295 rfl rfl (ok_fM_finds sc (5 : Int32) m ho9) ?_
            replace h := Option.some.inj h
            subst h
            exact tk_RI  rfl rfl rfl
        · replace h := tk_ifF hc4 h
          refine tk_bF  rfl rfl tk_eB_ne (c := (fM_in (Int32.toInt64 a4) (1 : Int64) (99 : Int64)) = true) hc4 (pc' := 48) (ls' := [(0, .ref 295), (1, .int a1), (2, .int a2), (3, .int a3), (4, .int a4)]) (st' := []) ?_
          refine tk_Ps  2 (pc' := 50) (ls' := [(0, .ref 295), (1, .int a1), (2, .int a2), (3, .int a3), (4, .int a4)]) (st' := [.int (0 : Int32), .ref 295]) rfl ?_
          obtain ⟨o10, ho10, h⟩ := tk_bnd h
          refine tk_cV1  rfl rfl (r := 295) (as := [.int (0 : Int32)]) (rest := []) rfl ly295 rfl rfl (ok_fM_finds sc (0 : Int32) m ho10) ?_
          replace h := Option.some.inj h
          subst h
          exact tk_RI  rfl rfl rfl
      · replace h := tk_ifF hc3 h
        refine tk_bF  rfl rfl tk_eB_eq (c := (fM_in (Int32.toInt64 a3) (-9 : Int64) (9 : Int64)) = true) hc3 (pc' := 48) (ls' := [(0, .ref 295), (1, .int a1), (2, .int a2), (3, .int a3), (4, .int a4)]) (st' := []) ?_
        refine tk_Ps  2 (pc' := 50) (ls' := [(0, .ref 295), (1, .int a1), (2, .int a2), (3, .int a3), (4, .int a4)]) (st' := [.int (0 : Int32), .ref 295]) rfl ?_
        obtain ⟨o11, ho11, h⟩ := tk_bnd h
        refine tk_cV1  rfl rfl (r := 295) (as := [.int (0 : Int32)]) (rest := []) rfl ly295 rfl rfl (ok_fM_finds sc (0 : Int32) m ho11) ?_
        replace h := Option.some.inj h
        subst h
        exact tk_RI  rfl rfl rfl
    · replace h := tk_ifF hc2 h
      refine tk_bF  rfl rfl tk_eB_eq (c := (fM_in (Int32.toInt64 a2) (-9 : Int64) (9 : Int64)) = true) hc2 (pc' := 48) (ls' := [(0, .ref 295), (1, .int a1), (2, .int a2), (3, .int a3), (4, .int a4)]) (st' := []) ?_
      refine tk_Ps  2 (pc' := 50) (ls' := [(0, .ref 295), (1, .int a1), (2, .int a2), (3, .int a3), (4, .int a4)]) (st' := [.int (0 : Int32), .ref 295]) rfl ?_
      obtain ⟨o12, ho12, h⟩ := tk_bnd h
      refine tk_cV1  rfl rfl (r := 295) (as := [.int (0 : Int32)]) (rest := []) rfl ly295 rfl rfl (ok_fM_finds sc (0 : Int32) m ho12) ?_
      replace h := Option.some.inj h
      subst h
      exact tk_RI  rfl rfl rfl
  · replace h := tk_ifF hc1 h
    refine tk_bF  rfl rfl tk_eB_eq (c := (fM_isSheet a1) = true) hc1 (pc' := 48) (ls' := [(0, .ref 295), (1, .int a1), (2, .int a2), (3, .int a3), (4, .int a4)]) (st' := []) ?_
    refine tk_Ps  2 (pc' := 50) (ls' := [(0, .ref 295), (1, .int a1), (2, .int a2), (3, .int a3), (4, .int a4)]) (st' := [.int (0 : Int32), .ref 295]) rfl ?_
    obtain ⟨o13, ho13, h⟩ := tk_bnd h
    refine tk_cV1  rfl rfl (r := 295) (as := [.int (0 : Int32)]) (rest := []) rfl ly295 rfl rfl (ok_fM_finds sc (0 : Int32) m ho13) ?_
    replace h := Option.some.inj h
    subst h
    exact tk_RI  rfl rfl rfl
theorem ok_fM_tell (sc : tk_X) (a1 : Int32) (m : tk_m) {out : Int32 × tk_m} (h : fM_tell a1 m = some out) : tk_Ru sc 4 261 [.ref 295, .int a1] (tk_full m) (some (.int out.1), tk_full out.2) := by
  unfold fM_tell at h
  refine tk_Ru0 me261 (ls := [(0, .ref 295), (1, .int a1)]) rfl rfl ?_
  refine tk_Ps  1 (pc' := 1) (ls' := [(0, .ref 295), (1, .int a1)]) (st' := [.int a1]) rfl ?_
  refine tk_cS1  rfl rfl (as := [.int a1]) (rest := []) rfl rfl rfl (ok_fM_isSheet sc a1 m) ?_
  by_cases hc1 : (fM_isSheet a1) = true
  · replace h := tk_ifT hc1 h
    refine tk_bT  rfl rfl tk_eB_ne (c := (fM_isSheet a1) = true) hc1 (pc' := 13) (ls' := [(0, .ref 295), (1, .int a1)]) (st' := []) ?_
    refine tk_Ps  1 (pc' := 14) (ls' := [(0, .ref 295), (1, .int a1)]) (st' := [.ref 295]) rfl ?_
    refine tk_HR  rfl rfl ly295 rt295_23 ?_
    refine tk_Ps  1 (pc' := 18) (ls' := [(0, .ref 295), (1, .int a1)]) (st' := [.int a1, .ref 442]) rfl ?_
    obtain ⟨hg2, h⟩ := tk_grd h
    refine tk_HIa  rfl rfl ly442 hg2 ?_
    by_cases hc3 : 0 ≤ (m.1 442 (tk_n a1))
    · replace h := tk_ifT hc3 h
      refine tk_bT  rfl rfl rfl (c := 0 ≤ (m.1 442 (tk_n a1))) hc3 (pc' := 28) (ls' := [(0, .ref 295), (1, .int a1)]) (st' := []) ?_
      refine tk_Ps  1 (pc' := 29) (ls' := [(0, .ref 295), (1, .int a1)]) (st' := [.ref 295]) rfl ?_
      refine tk_HR  rfl rfl ly295 rt295_24 ?_
      refine tk_Ps  1 (pc' := 33) (ls' := [(0, .ref 295), (1, .int a1)]) (st' := [.int a1, .ref 443]) rfl ?_
      refine tk_HIa  rfl rfl ly443 hg2 ?_
      refine tk_Ps  1 (pc' := 35) (ls' := [(0, .ref 295), (1, .int a1)]) (st' := [.int (4 : Int32), .int (m.1 443 (tk_n a1))]) rfl ?_
      by_cases hc4 : (4 : Int32) ≤ (m.1 443 (tk_n a1))
      · replace h := tk_ifT hc4 h
        refine tk_bT  rfl rfl rfl (c := (4 : Int32) ≤ (m.1 443 (tk_n a1))) hc4 (pc' := 45) (ls' := [(0, .ref 295), (1, .int a1)]) (st' := []) ?_
        refine tk_Ps  1 (pc' := 46) (ls' := [(0, .ref 295), (1, .int a1)]) (st' := [.ref 295]) rfl ?_
        refine tk_HR  rfl rfl ly295 rt295_25 ?_
        refine tk_Ps  1 (pc' := 50) (ls' := [(0, .ref 295), (1, .int a1)]) (st' := [.int a1, .ref 444]) rfl ?_
        refine tk_HQ  rfl rfl ly444 hg2 (la444 _ (hg2).2).1 ?_
        refine tk_Ps  3 (pc' := 54) (ls' := [(2, .ref (445 + (tk_n a1))), (0, .ref 295), (1, .int a1)]) (st' := [.int (0 : Int32), .ref (445 + (tk_n a1))]) rfl ?_
        refine tk_HJa  rfl rfl ((la444 _ (hg2).2).2) (by decide) ?_
        refine tk_Ps  2 (pc' := 57) (ls' := [(2, .ref (445 + (tk_n a1))), (0, .ref 295), (1, .int a1)]) (st' := [.int (lg_cmp (m.2.1 (445 + (tk_n a1)) 0) (0 : Int64))]) rfl ?_
        by_cases hc5 : (m.2.1 (445 + (tk_n a1)) 0) = (0 : Int64)
        · replace h := tk_ifT hc5 h
          refine tk_bT  rfl rfl tk_eL_ne (c := (m.2.1 (445 + (tk_n a1)) 0) = (0 : Int64)) hc5 (pc' := 60) (ls' := [(2, .ref (445 + (tk_n a1))), (0, .ref 295), (1, .int a1)]) (st' := []) ?_
          refine tk_Ps  2 (pc' := 62) (ls' := [(2, .ref (445 + (tk_n a1))), (0, .ref 295), (1, .int a1)]) (st' := [.int (1 : Int32), .ref (445 + (tk_n a1))]) rfl ?_
          refine tk_HJa  rfl rfl ((la444 _ (hg2).2).2) (by decide) ?_
          refine tk_Ps  2 (pc' := 65) (ls' := [(2, .ref (445 + (tk_n a1))), (0, .ref 295), (1, .int a1)]) (st' := [.int (lg_cmp (m.2.1 (445 + (tk_n a1)) 1) (0 : Int64))]) rfl ?_
          by_cases hc6 : (m.2.1 (445 + (tk_n a1)) 1) = (0 : Int64)
          · replace h := tk_ifT hc6 h
            refine tk_bT  rfl rfl tk_eL_ne (c := (m.2.1 (445 + (tk_n a1)) 1) = (0 : Int64)) hc6 (pc' := 68) (ls' := [(2, .ref (445 + (tk_n a1))), (0, .ref 295), (1, .int a1)]) (st' := []) ?_
            refine tk_Ps  2 (pc' := 70) (ls' := [(2, .ref (445 + (tk_n a1))), (0, .ref 295), (1, .int a1)]) (st' := [.int (2 : Int32), .ref (445 + (tk_n a1))]) rfl ?_
            refine tk_HJa  rfl rfl ((la444 _ (hg2).2).2) (by decide) ?_
            refine tk_Ps  2 (pc' := 73) (ls' := [(2, .ref (445 + (tk_n a1))), (0, .ref 295), (1, .int a1)]) (st' := [.int (lg_cmp (m.2.1 (445 + (tk_n a1)) 2) (0 : Int64))]) rfl ?_
            by_cases hc7 : (m.2.1 (445 + (tk_n a1)) 2) = (0 : Int64)
            · replace h := tk_ifT hc7 h
              refine tk_bT  rfl rfl tk_eL_eq (c := (m.2.1 (445 + (tk_n a1)) 2) = (0 : Int64)) hc7 (pc' := 80) (ls' := [(2, .ref (445 + (tk_n a1))), (0, .ref 295), (1, .int a1)]) (st' := []) ?_
              refine tk_Ps  1 (pc' := 81) (ls' := [(2, .ref (445 + (tk_n a1))), (0, .ref 295), (1, .int a1)]) (st' := [.int (0 : Int32)]) rfl ?_
              replace h := Option.some.inj h
              subst h
              exact tk_RI  rfl rfl rfl
            · replace h := tk_ifF hc7 h
              refine tk_bF  rfl rfl tk_eL_eq (c := (m.2.1 (445 + (tk_n a1)) 2) = (0 : Int64)) hc7 (pc' := 76) (ls' := [(2, .ref (445 + (tk_n a1))), (0, .ref 295), (1, .int a1)]) (st' := []) ?_
              refine tk_Ps  2 (pc' := 81) (ls' := [(2, .ref (445 + (tk_n a1))), (0, .ref 295), (1, .int a1)]) (st' := [.int (2 : Int32)]) rfl ?_
              replace h := Option.some.inj h
              subst h
              exact tk_RI  rfl rfl rfl
          · replace h := tk_ifF hc6 h
            refine tk_bF  rfl rfl tk_eL_ne (c := (m.2.1 (445 + (tk_n a1)) 1) = (0 : Int64)) hc6 (pc' := 76) (ls' := [(2, .ref (445 + (tk_n a1))), (0, .ref 295), (1, .int a1)]) (st' := []) ?_
            refine tk_Ps  2 (pc' := 81) (ls' := [(2, .ref (445 + (tk_n a1))), (0, .ref 295), (1, .int a1)]) (st' := [.int (2 : Int32)]) rfl ?_
            replace h := Option.some.inj h
            subst h
            exact tk_RI  rfl rfl rfl
        · replace h := tk_ifF hc5 h
          refine tk_bF  rfl rfl tk_eL_ne (c := (m.2.1 (445 + (tk_n a1)) 0) = (0 : Int64)) hc5 (pc' := 82) (ls' := [(2, .ref (445 + (tk_n a1))), (0, .ref 295), (1, .int a1)]) (st' := []) ?_
          refine tk_Ps  2 (pc' := 84) (ls' := [(2, .ref (445 + (tk_n a1))), (0, .ref 295), (1, .int a1)]) (st' := [.int (0 : Int32), .ref 295]) rfl ?_
          refine tk_SI  rfl rfl ly295 ?_
          refine tk_Ps  3 (pc' := 92) (ls' := [(2, .ref (445 + (tk_n a1))), (0, .ref 295), (1, .int a1)]) (st' := [.long (4 : Int64), .ref 295, .ref 295]) rfl ?_
          obtain ⟨o8, ho8, h⟩ := tk_bnd h
          refine tk_cV1  rfl rfl (r := 295) (as := [.long (4 : Int64)]) (rest := [.ref 295]) rfl ly295 rfl rfl (ok_fM_widens sc (4 : Int64) (tk_u2 m.1 295 9 (0 : Int32), m.2.1, m.2.2.1, m.2.2.2) ho8) ?_
          refine tk_Ps  3 (pc' := 98) (ls' := [(2, .ref (445 + (tk_n a1))), (0, .ref 295), (1, .int a1)]) (st' := [.int (0 : Int32), .ref (445 + (tk_n a1)), .ref 295, .int o8.1, .ref 295]) rfl ?_
          refine tk_HJa  rfl rfl ((la444 _ (hg2).2).2) (by decide) ?_
          refine tk_Ps  2 (pc' := 101) (ls' := [(2, .ref (445 + (tk_n a1))), (0, .ref 295), (1, .int a1)]) (st' := [.int (3 : Int32), .ref (445 + (tk_n a1)), .long (o8.2.2.1 (445 + (tk_n a1)) 0), .ref 295, .int o8.1, .ref 295]) rfl ?_
          refine tk_HJa  rfl rfl ((la444 _ (hg2).2).2) (by decide) ?_
          obtain ⟨o9, ho9, h⟩ := tk_bnd h
          refine tk_cV1  rfl rfl (r := 295) (as := [.long (o8.2.2.1 (445 + (tk_n a1)) 0), .long (o8.2.2.1 (445 + (tk_n a1)) 3)]) (rest := [.int o8.1, .ref 295]) rfl ly295 rfl rfl (ok_fM_timesWide_JJ sc (o8.2.2.1 (445 + (tk_n a1)) 0) (o8.2.2.1 (445 + (tk_n a1)) 3) o8.2 ho9) ?_
          obtain ⟨o10, ho10, h⟩ := tk_bnd h
          refine tk_cV1  rfl rfl (r := 295) (as := [.int o8.1, .int o9.1]) (rest := []) rfl ly295 rfl rfl (ok_fM_timesWide_II sc o8.1 o9.1 o9.2 ho10) ?_
          refine tk_Ps  6 (pc' := 114) (ls' := [(3, .int o10.1), (2, .ref (445 + (tk_n a1))), (0, .ref 295), (1, .int a1)]) (st' := [.int (1 : Int32), .ref (445 + (tk_n a1)), .ref 295, .ref 295, .ref 295]) rfl ?_
          refine tk_HJa  rfl rfl ((la444 _ (hg2).2).2) (by decide) ?_
          refine tk_Ps  2 (pc' := 117) (ls' := [(3, .int o10.1), (2, .ref (445 + (tk_n a1))), (0, .ref 295), (1, .int a1)]) (st' := [.int (1 : Int32), .ref (445 + (tk_n a1)), .long (o10.2.2.1 (445 + (tk_n a1)) 1), .ref 295, .ref 295, .ref 295]) rfl ?_
          refine tk_HJa  rfl rfl ((la444 _ (hg2).2).2) (by decide) ?_
          obtain ⟨o11, ho11, h⟩ := tk_bnd h
          refine tk_cV1  rfl rfl (r := 295) (as := [.long (o10.2.2.1 (445 + (tk_n a1)) 1), .long (o10.2.2.1 (445 + (tk_n a1)) 1)]) (rest := [.ref 295, .ref 295]) rfl ly295 rfl rfl (ok_fM_timesWide_JJ sc (o10.2.2.1 (445 + (tk_n a1)) 1) (o10.2.2.1 (445 + (tk_n a1)) 1) o10.2 ho11) ?_
          refine tk_Ps  3 (pc' := 124) (ls' := [(3, .int o10.1), (2, .ref (445 + (tk_n a1))), (0, .ref 295), (1, .int a1)]) (st' := [.int (2 : Int32), .ref (445 + (tk_n a1)), .ref 295, .int o11.1, .ref 295, .ref 295]) rfl ?_
          refine tk_HJa  rfl rfl ((la444 _ (hg2).2).2) (by decide) ?_
          refine tk_Ps  2 (pc' := 127) (ls' := [(3, .int o10.1), (2, .ref (445 + (tk_n a1))), (0, .ref 295), (1, .int a1)]) (st' := [.int (2 : Int32), .ref (445 + (tk_n a1)), .long (o11.2.2.1 (445 + (tk_n a1)) 2), .ref 295, .int o11.1, .ref 295, .ref 295]) rfl ?_
          refine tk_HJa  rfl rfl ((la444 _ (hg2).2).2) (by decide) ?_
          obtain ⟨o12, ho12, h⟩ := tk_bnd h
          refine tk_cV1  rfl rfl (r := 295) (as := [.long (o11.2.2.1 (445 + (tk_n a1)) 2), .long (o11.2.2.1 (445 + (tk_n a1)) 2)]) (rest := [.int o11.1, .ref 295, .ref 295]) rfl ly295 rfl rfl (ok_fM_timesWide_JJ sc (o11.2.2.1 (445 + (tk_n a1)) 2) (o11.2.2.1 (445 + (tk_n a1)) 2) o11.2 ho12) ?_
          obtain ⟨o13, ho13, h⟩ := tk_bnd h
          refine tk_cV1  rfl rfl (r := 295) (as := [.int o11.1, .int o12.1]) (rest := [.ref 295]) rfl ly295 rfl rfl (ok_fM_plusWide sc o11.1 o12.1 o12.2 ho13) ?_
          refine tk_Ps  2 (pc' := 136) (ls' := [(3, .int o10.1), (2, .ref (445 + (tk_n a1))), (0, .ref 295), (1, .int a1)]) (st' := [.int o10.1, .ref 295, .int o13.1, .ref 295]) rfl ?_
          obtain ⟨o14, ho14, h⟩ := tk_bnd h
          refine tk_cV1  rfl rfl (r := 295) (as := [.int o10.1]) (rest := [.int o13.1, .ref 295]) rfl ly295 rfl rfl (ok_fM_turned sc o10.1 o13.2 ho14) ?_
          obtain ⟨o15, ho15, h⟩ := tk_bnd h
          refine tk_cV1  rfl rfl (r := 295) (as := [.int o13.1, .int o14.1]) (rest := []) rfl ly295 rfl rfl (ok_fM_plusWide sc o13.1 o14.1 o14.2 ho15) ?_
          refine tk_Ps  2 (pc' := 145) (ls' := [(4, .int o15.1), (3, .int o10.1), (2, .ref (445 + (tk_n a1))), (0, .ref 295), (1, .int a1)]) (st' := [.ref 295]) rfl ?_
          refine tk_HR  rfl rfl ly295 rt295_8 ?_
          refine tk_Ps  1 (pc' := 150) (ls' := [(4, .int o15.1), (3, .int o10.1), (2, .ref (445 + (tk_n a1))), (0, .ref 295), (1, .int a1)]) (st' := [.int o15.1, .ref 348]) rfl ?_
          obtain ⟨hg16, h⟩ := tk_grd h
          refine tk_HIa  rfl rfl ly348 hg16 ?_
          by_cases hc17 : (o15.2.1 348 (tk_n o15.1)) ≤ 0
          · replace h := tk_ifT hc17 h
            refine tk_bT  rfl rfl rfl (c := (o15.2.1 348 (tk_n o15.1)) ≤ 0) hc17 (pc' := 158) (ls' := [(4, .int o15.1), (3, .int o10.1), (2, .ref (445 + (tk_n a1))), (0, .ref 295), (1, .int a1)]) (st' := []) ?_
            refine tk_Ps  1 (pc' := 159) (ls' := [(4, .int o15.1), (3, .int o10.1), (2, .ref (445 + (tk_n a1))), (0, .ref 295), (1, .int a1)]) (st' := [.ref 295]) rfl ?_
            refine tk_HR  rfl rfl ly295 rt295_8 ?_
            refine tk_Ps  1 (pc' := 164) (ls' := [(4, .int o15.1), (3, .int o10.1), (2, .ref (445 + (tk_n a1))), (0, .ref 295), (1, .int a1)]) (st' := [.int o15.1, .ref 348]) rfl ?_
            refine tk_HIa  rfl rfl ly348 hg16 ?_
            by_cases hc18 : (o15.2.1 348 (tk_n o15.1)) = 0
            · replace h := tk_ifT hc18 h
              refine tk_bT  rfl rfl rfl (c := (o15.2.1 348 (tk_n o15.1)) = 0) hc18 (pc' := 168) (ls' := [(4, .int o15.1), (3, .int o10.1), (2, .ref (445 + (tk_n a1))), (0, .ref 295), (1, .int a1)]) (st' := []) ?_
              refine tk_Ps  2 (pc' := 173) (ls' := [(4, .int o15.1), (3, .int o10.1), (2, .ref (445 + (tk_n a1))), (0, .ref 295), (1, .int a1)]) (st' := [.int (3 : Int32)]) rfl ?_
              replace h := Option.some.inj h
              subst h
              exact tk_RI  rfl rfl rfl
            · replace h := tk_ifF hc18 h
              refine tk_bF  rfl rfl rfl (c := (o15.2.1 348 (tk_n o15.1)) = 0) hc18 (pc' := 172) (ls' := [(4, .int o15.1), (3, .int o10.1), (2, .ref (445 + (tk_n a1))), (0, .ref 295), (1, .int a1)]) (st' := []) ?_
              refine tk_Ps  1 (pc' := 173) (ls' := [(4, .int o15.1), (3, .int o10.1), (2, .ref (445 + (tk_n a1))), (0, .ref 295), (1, .int a1)]) (st' := [.int (0 : Int32)]) rfl ?_
              replace h := Option.some.inj h
              subst h
              exact tk_RI  rfl rfl rfl
          · replace h := tk_ifF hc17 h
            refine tk_bF  rfl rfl rfl (c := (o15.2.1 348 (tk_n o15.1)) ≤ 0) hc17 (pc' := 154) (ls' := [(4, .int o15.1), (3, .int o10.1), (2, .ref (445 + (tk_n a1))), (0, .ref 295), (1, .int a1)]) (st' := []) ?_
            refine tk_Ps  2 (pc' := 173) (ls' := [(4, .int o15.1), (3, .int o10.1), (2, .ref (445 + (tk_n a1))), (0, .ref 295), (1, .int a1)]) (st' := [.int (1 : Int32)]) rfl ?_
            replace h := Option.some.inj h
            subst h
            exact tk_RI  rfl rfl rfl
      · replace h := tk_ifF hc4 h
        refine tk_bF  rfl rfl rfl (c := (4 : Int32) ≤ (m.1 443 (tk_n a1))) hc4 (pc' := 38) (ls' := [(0, .ref 295), (1, .int a1)]) (st' := []) ?_
        refine tk_Ps  2 (pc' := 41) (ls' := [(0, .ref 295), (1, .int a1)]) (st' := [.int (6 : Int32), .ref 295]) rfl ?_
        obtain ⟨o19, ho19, h⟩ := tk_bnd h
        refine tk_cV1  rfl rfl (r := 295) (as := [.int (6 : Int32)]) (rest := []) rfl ly295 rfl rfl (ok_fM_finds sc (6 : Int32) m ho19) ?_
        replace h := Option.some.inj h
        subst h
        exact tk_RI  rfl rfl rfl
    · replace h := tk_ifF hc3 h
      refine tk_bF  rfl rfl rfl (c := 0 ≤ (m.1 442 (tk_n a1))) hc3 (pc' := 22) (ls' := [(0, .ref 295), (1, .int a1)]) (st' := []) ?_
      refine tk_Ps  2 (pc' := 24) (ls' := [(0, .ref 295), (1, .int a1)]) (st' := [.int (5 : Int32), .ref 295]) rfl ?_
      obtain ⟨o20, ho20, h⟩ := tk_bnd h
      refine tk_cV1  rfl rfl (r := 295) (as := [.int (5 : Int32)]) (rest := []) rfl ly295 rfl rfl (ok_fM_finds sc (5 : Int32) m ho20) ?_
      replace h := Option.some.inj h
      subst h
      exact tk_RI  rfl rfl rfl
  · replace h := tk_ifF hc1 h
    refine tk_bF  rfl rfl tk_eB_ne (c := (fM_isSheet a1) = true) hc1 (pc' := 7) (ls' := [(0, .ref 295), (1, .int a1)]) (st' := []) ?_
    refine tk_Ps  2 (pc' := 9) (ls' := [(0, .ref 295), (1, .int a1)]) (st' := [.int (0 : Int32), .ref 295]) rfl ?_
    obtain ⟨o21, ho21, h⟩ := tk_bnd h
    refine tk_cV1  rfl rfl (r := 295) (as := [.int (0 : Int32)]) (rest := []) rfl ly295 rfl rfl (ok_fM_finds sc (0 : Int32) m ho21) ?_
    replace h := Option.some.inj h
    subst h
    exact tk_RI  rfl rfl rfl
theorem ok_fM_isSpot (sc : tk_X) (a1 : Int32) (m : tk_m) : tk_Ru sc 2 263 [.int a1] (tk_full m) (some (.int (tk_b (fM_isSpot a1))), tk_full m) := by
  obtain ⟨out, h⟩ : ∃ out, fM_isSpot a1 = out := ⟨_, rfl⟩
  rw [h]
  unfold fM_isSpot at h
  refine tk_Ru0 me263 (ls := [(0, .int a1)]) rfl rfl ?_
  refine tk_Ps  4 (pc' := 6) (ls' := [(0, .int a1)]) (st' := [.long (5 : Int64), .long (0 : Int64), .long (Int32.toInt64 a1)]) rfl ?_
  refine tk_cS1  rfl rfl (as := [.long (Int32.toInt64 a1), .long (0 : Int64), .long (5 : Int64)]) (rest := []) rfl rfl rfl (ok_fM_in sc (Int32.toInt64 a1) (0 : Int64) (5 : Int64) m) ?_
  subst h
  exact tk_RB (b := fM_in (Int32.toInt64 a1) (0 : Int64) (5 : Int64))  rfl rfl rfl
theorem ok_fM_keeps_9 (sc : tk_X) : ∀ (n : Nat) (v1 : Int32) (v2 : Nat) (v3 : Int32) (m : tk_m) (hv2 : tk_lay[v2]? = some (.inr (1, tk_al v2))) (out : tk_m), fM_keeps_9 n v1 v2 v3 m = some out → tk_Ex sc 0 tk_r264 tk_k264 9 [(0, .ref 295), (1, .int v1), (2, .ref v2), (3, .int v3)] [] (tk_full m) (none, tk_full out) := by
  intro n
  induction n with
  | zero =>
    intro v1 v2 v3 m hv2 out h
    cases h
  | succ n ih =>
    intro v1 v2 v3 m hv2 out h
    unfold fM_keeps_9 at h
    refine tk_Ps  2 (pc' := 11) (ls' := [(0, .ref 295), (1, .int v1), (2, .ref v2), (3, .int v3)]) (st' := [.int (4 : Int32), .int v3]) rfl ?_
    by_cases hc1 : (4 : Int32) ≤ v3
    · replace h := tk_ifT hc1 h
      refine tk_bT  rfl rfl rfl (c := (4 : Int32) ≤ v3) hc1 (pc' := 31) (ls' := [(0, .ref 295), (1, .int v1), (2, .ref v2), (3, .int v3)]) (st' := []) ?_
      replace h := Option.some.inj h
      subst h
      exact tk_RV  rfl rfl rfl
    · replace h := tk_ifF hc1 h
      refine tk_bF  rfl rfl rfl (c := (4 : Int32) ≤ v3) hc1 (pc' := 14) (ls' := [(0, .ref 295), (1, .int v1), (2, .ref v2), (3, .int v3)]) (st' := []) ?_
      refine tk_Ps  1 (pc' := 15) (ls' := [(0, .ref 295), (1, .int v1), (2, .ref v2), (3, .int v3)]) (st' := [.ref 295]) rfl ?_
      refine tk_HR  rfl rfl ly295 rt295_28 ?_
      refine tk_Ps  1 (pc' := 19) (ls' := [(0, .ref 295), (1, .int v1), (2, .ref v2), (3, .int v3)]) (st' := [.int v1, .ref 451]) rfl ?_
      obtain ⟨hg2, h⟩ := tk_grd h
      refine tk_HQ  rfl rfl ly451 hg2 (la451 _ (hg2).2).1 ?_
      refine tk_Ps  3 (pc' := 23) (ls' := [(0, .ref 295), (1, .int v1), (2, .ref v2), (3, .int v3)]) (st' := [.int v3, .ref v2, .int v3, .ref (452 + (tk_n v1))]) rfl ?_
      obtain ⟨hg3, h⟩ := tk_grd h
      refine tk_HJa  rfl rfl hv2 hg3 ?_
      obtain ⟨hg4, h⟩ := tk_grd h
      refine tk_SJa  rfl rfl ((la451 _ (hg2).2).2) hg4 ?_
      refine tk_Ps  2 (pc' := 9) (ls' := [(3, .int (v3 + (1 : Int32))), (0, .ref 295), (1, .int v1), (2, .ref v2)]) (st' := []) rfl ?_
      refine tk_Kp  (ls' := [(0, .ref 295), (1, .int v1), (2, .ref v2), (3, .int (v3 + (1 : Int32)))]) rfl rfl ?_
      exact ih v1 v2 (v3 + (1 : Int32)) (m.1, tk_u2 m.2.1 (452 + (tk_n v1)) (tk_n v3) (m.2.1 v2 (tk_n v3)), m.2.2.1, m.2.2.2) (tk_al_of hv2) _ h
theorem ok_fM_keeps (sc : tk_X) (a1 : Int32) (a2 : Nat) (m : tk_m) (ha2 : tk_lay[a2]? = some (.inr (1, tk_al a2))) {out : tk_m} (h : fM_keeps a1 a2 m = some out) : tk_Ru sc 1 264 [.ref 295, .int a1, .ref a2] (tk_full m) (none, tk_full out) := by
  unfold fM_keeps at h
  refine tk_Ru0 me264 (ls := [(0, .ref 295), (1, .int a1), (2, .ref a2)]) rfl rfl ?_
  refine tk_Ps  1 (pc' := 1) (ls' := [(0, .ref 295), (1, .int a1), (2, .ref a2)]) (st' := [.ref 295]) rfl ?_
  refine tk_HR  rfl rfl ly295 rt295_27 ?_
  refine tk_Ps  2 (pc' := 6) (ls' := [(0, .ref 295), (1, .int a1), (2, .ref a2)]) (st' := [.int (1 : Int32), .int a1, .ref 450]) rfl ?_
  obtain ⟨hg1, h⟩ := tk_grd h
  refine tk_SBa (b := true)  rfl rfl ly450 hg1 ?_
  refine tk_Ps  2 (pc' := 9) (ls' := [(3, .int (0 : Int32)), (0, .ref 295), (1, .int a1), (2, .ref a2)]) (st' := []) rfl ?_
  refine tk_Kp  (ls' := [(0, .ref 295), (1, .int a1), (2, .ref a2), (3, .int (0 : Int32))]) rfl rfl ?_
  exact ok_fM_keeps_9 sc tk_F a1 a2 (0 : Int32) (m.1, m.2.1, tk_u2 m.2.2.1 450 (tk_n a1) true, m.2.2.2) (tk_al_of ha2) _ h
theorem ok_fM_put (sc : tk_X) (a1 : Int32) (a2 : Int32) (a3 : Int32) (m : tk_m) {out : Int32 × tk_m} (h : fM_put a1 a2 a3 m = some out) : tk_Ru sc 10 262 [.ref 295, .int a1, .int a2, .int a3] (tk_full m) (some (.int out.1), tk_full out.2) := by
  unfold fM_put at h
  refine tk_Ru0 me262 (ls := [(0, .ref 295), (1, .int a1), (2, .int a2), (3, .int a3)]) rfl rfl ?_
  refine tk_Ps  1 (pc' := 1) (ls' := [(0, .ref 295), (1, .int a1), (2, .int a2), (3, .int a3)]) (st' := [.int a1]) rfl ?_
  refine tk_cS1  rfl rfl (as := [.int a1]) (rest := []) rfl rfl rfl (ok_fM_isSpot sc a1 m) ?_
  by_cases hc1 : (fM_isSpot a1) = true
  · replace h := tk_ifT hc1 h
    refine tk_bT  rfl rfl tk_eB_eq (c := (fM_isSpot a1) = true) hc1 (pc' := 7) (ls' := [(0, .ref 295), (1, .int a1), (2, .int a2), (3, .int a3)]) (st' := []) ?_
    refine tk_Ps  4 (pc' := 13) (ls' := [(0, .ref 295), (1, .int a1), (2, .int a2), (3, .int a3)]) (st' := [.long (2 : Int64), .long (0 : Int64), .long (Int32.toInt64 a3)]) rfl ?_
    refine tk_cS1  rfl rfl (as := [.long (Int32.toInt64 a3), .long (0 : Int64), .long (2 : Int64)]) (rest := []) rfl rfl rfl (ok_fM_in sc (Int32.toInt64 a3) (0 : Int64) (2 : Int64) m) ?_
    by_cases hc2 : (fM_in (Int32.toInt64 a3) (0 : Int64) (2 : Int64)) = true
    · replace h := tk_ifT hc2 h
      refine tk_bT  rfl rfl tk_eB_ne (c := (fM_in (Int32.toInt64 a3) (0 : Int64) (2 : Int64)) = true) hc2 (pc' := 25) (ls' := [(0, .ref 295), (1, .int a1), (2, .int a2), (3, .int a3)]) (st' := []) ?_
      refine tk_Ps  2 (pc' := 27) (ls' := [(0, .ref 295), (1, .int a1), (2, .int a2), (3, .int a3)]) (st' := [.int a2, .ref 295]) rfl ?_
      obtain ⟨o3, ho3, h⟩ := tk_bnd h
      refine tk_cV1  rfl rfl (r := 295) (as := [.int a2]) (rest := []) rfl ly295 rfl rfl (ok_fM_whyNot sc a2 m ho3) ?_
      refine tk_Ps  2 (pc' := 34) (ls' := [(4, .int o3.1), (0, .ref 295), (1, .int a1), (2, .int a2), (3, .int a3)]) (st' := [.int o3.1]) rfl ?_
      by_cases hc4 : o3.1 < 0
      · replace h := tk_ifT hc4 h
        refine tk_bT  rfl rfl rfl (c := o3.1 < 0) hc4 (pc' := 44) (ls' := [(4, .int o3.1), (0, .ref 295), (1, .int a1), (2, .int a2), (3, .int a3)]) (st' := []) ?_
        refine tk_Ps  3 (pc' := 47) (ls' := [(4, .int o3.1), (0, .ref 295), (1, .int a1), (2, .int a2), (3, .int a3)]) (st' := [.ref 295, .int a1, .ref 295]) rfl ?_
        refine tk_HR  rfl rfl ly295 rt295_13 ?_
        refine tk_Ps  1 (pc' := 51) (ls' := [(4, .int o3.1), (0, .ref 295), (1, .int a1), (2, .int a2), (3, .int a3)]) (st' := [.int a2, .ref 350, .int a1, .ref 295]) rfl ?_
        obtain ⟨hg5, h⟩ := tk_grd h
        refine tk_HQ  rfl rfl ly350 hg5 (la350 _ (hg5).2).1 ?_
        refine tk_Ps  1 (pc' := 53) (ls' := [(4, .int o3.1), (0, .ref 295), (1, .int a1), (2, .int a2), (3, .int a3)]) (st' := [.int a3, .ref (351 + 4 * (tk_n a2)), .int a1, .ref 295]) rfl ?_
        obtain ⟨hg6, h⟩ := tk_grd h
        refine tk_HQ  rfl rfl ((la350 _ (hg5).2).2) hg6 (lbR _ ((hg5).2) _ (hg6).2).1 ?_
        obtain ⟨o7, ho7, h⟩ := tk_bnd h
        refine tk_cV0  rfl rfl (r := 295) (as := [.int a1, .ref ((351 + 4 * (tk_n a2)) + 1 + (tk_n a3))]) (rest := []) rfl ly295 rfl rfl (ok_fM_keeps sc a1 ((351 + 4 * (tk_n a2)) + 1 + (tk_n a3)) o3.2 (tk_al_of ((lbR _ ((hg5).2) _ (hg6).2).2)) ho7) ?_
        refine tk_Ps  1 (pc' := 58) (ls' := [(4, .int o3.1), (0, .ref 295), (1, .int a1), (2, .int a2), (3, .int a3)]) (st' := [.int (1 : Int32)]) rfl ?_
        replace h := Option.some.inj h
        subst h
        exact tk_RI  rfl rfl rfl
      · replace h := tk_ifF hc4 h
        refine tk_bF  rfl rfl rfl (c := o3.1 < 0) hc4 (pc' := 37) (ls' := [(4, .int o3.1), (0, .ref 295), (1, .int a1), (2, .int a2), (3, .int a3)]) (st' := []) ?_
        refine tk_Ps  2 (pc' := 40) (ls' := [(4, .int o3.1), (0, .ref 295), (1, .int a1), (2, .int a2), (3, .int a3)]) (st' := [.int o3.1, .ref 295]) rfl ?_
        obtain ⟨o8, ho8, h⟩ := tk_bnd h
        refine tk_cV1  rfl rfl (r := 295) (as := [.int o3.1]) (rest := []) rfl ly295 rfl rfl (ok_fM_finds sc o3.1 o3.2 ho8) ?_
        replace h := Option.some.inj h
        subst h
        exact tk_RI  rfl rfl rfl
    · replace h := tk_ifF hc2 h
      refine tk_bF  rfl rfl tk_eB_ne (c := (fM_in (Int32.toInt64 a3) (0 : Int64) (2 : Int64)) = true) hc2 (pc' := 19) (ls' := [(0, .ref 295), (1, .int a1), (2, .int a2), (3, .int a3)]) (st' := []) ?_
      refine tk_Ps  2 (pc' := 21) (ls' := [(0, .ref 295), (1, .int a1), (2, .int a2), (3, .int a3)]) (st' := [.int (0 : Int32), .ref 295]) rfl ?_
      obtain ⟨o9, ho9, h⟩ := tk_bnd h
      refine tk_cV1  rfl rfl (r := 295) (as := [.int (0 : Int32)]) (rest := []) rfl ly295 rfl rfl (ok_fM_finds sc (0 : Int32) m ho9) ?_
      replace h := Option.some.inj h
      subst h
      exact tk_RI  rfl rfl rfl
  · replace h := tk_ifF hc1 h
    refine tk_bF  rfl rfl tk_eB_eq (c := (fM_isSpot a1) = true) hc1 (pc' := 19) (ls' := [(0, .ref 295), (1, .int a1), (2, .int a2), (3, .int a3)]) (st' := []) ?_
    refine tk_Ps  2 (pc' := 21) (ls' := [(0, .ref 295), (1, .int a1), (2, .int a2), (3, .int a3)]) (st' := [.int (0 : Int32), .ref 295]) rfl ?_
    obtain ⟨o10, ho10, h⟩ := tk_bnd h
    refine tk_cV1  rfl rfl (r := 295) (as := [.int (0 : Int32)]) (rest := []) rfl ly295 rfl rfl (ok_fM_finds sc (0 : Int32) m ho10) ?_
    replace h := Option.some.inj h
    subst h
    exact tk_RI  rfl rfl rfl
theorem ok_fM_ratio (sc : tk_X) (a1 : Int32) (a2 : Int32) (a3 : Int32) (m : tk_m) {out : Int32 × tk_m} (h : fM_ratio a1 a2 a3 m = some out) : tk_Ru sc 3 265 [.ref 295, .int a1, .int a2, .int a3] (tk_full m) (some (.int out.1), tk_full out.2) := by
  unfold fM_ratio at h
  refine tk_Ru0 me265 (ls := [(0, .ref 295), (1, .int a1), (2, .int a2), (3, .int a3)]) rfl rfl ?_
  refine tk_Ps  1 (pc' := 1) (ls' := [(0, .ref 295), (1, .int a1), (2, .int a2), (3, .int a3)]) (st' := [.int a1]) rfl ?_
  refine tk_cS1  rfl rfl (as := [.int a1]) (rest := []) rfl rfl rfl (ok_fM_isSpot sc a1 m) ?_
  by_cases hc1 : (fM_isSpot a1) = true
  · replace h := tk_ifT hc1 h
    refine tk_bT  rfl rfl tk_eB_eq (c := (fM_isSpot a1) = true) hc1 (pc' := 7) (ls' := [(0, .ref 295), (1, .int a1), (2, .int a2), (3, .int a3)]) (st' := []) ?_
    refine tk_Ps  1 (pc' := 8) (ls' := [(0, .ref 295), (1, .int a1), (2, .int a2), (3, .int a3)]) (st' := [.int a3]) rfl ?_
    by_cases hc2 : a3 = 0
    · replace h := tk_ifT hc2 h
      refine tk_bT  rfl rfl rfl (c := a3 = 0) hc2 (pc' := 39) (ls' := [(0, .ref 295), (1, .int a1), (2, .int a2), (3, .int a3)]) (st' := []) ?_
      refine tk_Ps  2 (pc' := 41) (ls' := [(0, .ref 295), (1, .int a1), (2, .int a2), (3, .int a3)]) (st' := [.int (0 : Int32), .ref 295]) rfl ?_
      obtain ⟨o3, ho3, h⟩ := tk_bnd h
      refine tk_cV1  rfl rfl (r := 295) (as := [.int (0 : Int32)]) (rest := []) rfl ly295 rfl rfl (ok_fM_finds sc (0 : Int32) m ho3) ?_
      replace h := Option.some.inj h
      subst h
      exact tk_RI  rfl rfl rfl
    · replace h := tk_ifF hc2 h
      refine tk_bF  rfl rfl rfl (c := a3 = 0) hc2 (pc' := 11) (ls' := [(0, .ref 295), (1, .int a1), (2, .int a2), (3, .int a3)]) (st' := []) ?_
      refine tk_Ps  4 (pc' := 19) (ls' := [(0, .ref 295), (1, .int a1), (2, .int a2), (3, .int a3)]) (st' := [.long (1000000 : Int64), .long (-1000000 : Int64), .long (Int32.toInt64 a2)]) rfl ?_
      refine tk_cS1  rfl rfl (as := [.long (Int32.toInt64 a2), .long (-1000000 : Int64), .long (1000000 : Int64)]) (rest := []) rfl rfl rfl (ok_fM_in sc (Int32.toInt64 a2) (-1000000 : Int64) (1000000 : Int64) m) ?_
      by_cases hc4 : (fM_in (Int32.toInt64 a2) (-1000000 : Int64) (1000000 : Int64)) = true
      · replace h := tk_ifT hc4 h
        refine tk_bT  rfl rfl tk_eB_eq (c := (fM_in (Int32.toInt64 a2) (-1000000 : Int64) (1000000 : Int64)) = true) hc4 (pc' := 25) (ls' := [(0, .ref 295), (1, .int a1), (2, .int a2), (3, .int a3)]) (st' := []) ?_
        refine tk_Ps  4 (pc' := 33) (ls' := [(0, .ref 295), (1, .int a1), (2, .int a2), (3, .int a3)]) (st' := [.long (1000000 : Int64), .long (-1000000 : Int64), .long (Int32.toInt64 a3)]) rfl ?_
        refine tk_cS1  rfl rfl (as := [.long (Int32.toInt64 a3), .long (-1000000 : Int64), .long (1000000 : Int64)]) (rest := []) rfl rfl rfl (ok_fM_in sc (Int32.toInt64 a3) (-1000000 : Int64) (1000000 : Int64) m) ?_
        by_cases hc5 : (fM_in (Int32.toInt64 a3) (-1000000 : Int64) (1000000 : Int64)) = true
        · replace h := tk_ifT hc5 h
          refine tk_bT  rfl rfl tk_eB_ne (c := (fM_in (Int32.toInt64 a3) (-1000000 : Int64) (1000000 : Int64)) = true) hc5 (pc' := 45) (ls' := [(0, .ref 295), (1, .int a1), (2, .int a2), (3, .int a3)]) (st' := []) ?_
          refine tk_Ps  8 (pc' := 53) (ls' := [(0, .ref 295), (1, .int a1), (2, .int a2), (3, .int a3)]) (st' := [.ref 295, .long (Int32.toInt64 a3), .long (0 : Int64), .long (0 : Int64), .long (Int32.toInt64 a2), .ref 295]) rfl ?_
          refine tk_HR  rfl rfl ly295 rt295_29 ?_
          obtain ⟨o6, ho6, h⟩ := tk_bnd h
          refine tk_cV0  rfl rfl (r := 295) (as := [.long (Int32.toInt64 a2), .long (0 : Int64), .long (0 : Int64), .long (Int32.toInt64 a3), .ref 458]) (rest := []) rfl ly295 rfl rfl (ok_fM_lowest sc (Int32.toInt64 a2) (0 : Int64) (0 : Int64) (Int32.toInt64 a3) 458 m (tk_al_of ly458) ho6) ?_
          refine tk_Ps  3 (pc' := 62) (ls' := [(0, .ref 295), (1, .int a1), (2, .int a2), (3, .int a3)]) (st' := [.ref 295, .int a1, .ref 295]) rfl ?_
          refine tk_HR  rfl rfl ly295 rt295_29 ?_
          obtain ⟨o7, ho7, h⟩ := tk_bnd h
          refine tk_cV0  rfl rfl (r := 295) (as := [.int a1, .ref 458]) (rest := []) rfl ly295 rfl rfl (ok_fM_keeps sc a1 458 o6 (tk_al_of ly458) ho7) ?_
          refine tk_Ps  1 (pc' := 69) (ls' := [(0, .ref 295), (1, .int a1), (2, .int a2), (3, .int a3)]) (st' := [.int (1 : Int32)]) rfl ?_
          replace h := Option.some.inj h
          subst h
          exact tk_RI  rfl rfl rfl
        · replace h := tk_ifF hc5 h
          refine tk_bF  rfl rfl tk_eB_ne (c := (fM_in (Int32.toInt64 a3) (-1000000 : Int64) (1000000 : Int64)) = true) hc5 (pc' := 39) (ls' := [(0, .ref 295), (1, .int a1), (2, .int a2), (3, .int a3)]) (st' := []) ?_
          refine tk_Ps  2 (pc' := 41) (ls' := [(0, .ref 295), (1, .int a1), (2, .int a2), (3, .int a3)]) (st' := [.int (0 : Int32), .ref 295]) rfl ?_
          obtain ⟨o8, ho8, h⟩ := tk_bnd h
          refine tk_cV1  rfl rfl (r := 295) (as := [.int (0 : Int32)]) (rest := []) rfl ly295 rfl rfl (ok_fM_finds sc (0 : Int32) m ho8) ?_
          replace h := Option.some.inj h
          subst h
          exact tk_RI  rfl rfl rfl
      · replace h := tk_ifF hc4 h
        refine tk_bF  rfl rfl tk_eB_eq (c := (fM_in (Int32.toInt64 a2) (-1000000 : Int64) (1000000 : Int64)) = true) hc4 (pc' := 39) (ls' := [(0, .ref 295), (1, .int a1), (2, .int a2), (3, .int a3)]) (st' := []) ?_
        refine tk_Ps  2 (pc' := 41) (ls' := [(0, .ref 295), (1, .int a1), (2, .int a2), (3, .int a3)]) (st' := [.int (0 : Int32), .ref 295]) rfl ?_
        obtain ⟨o9, ho9, h⟩ := tk_bnd h
        refine tk_cV1  rfl rfl (r := 295) (as := [.int (0 : Int32)]) (rest := []) rfl ly295 rfl rfl (ok_fM_finds sc (0 : Int32) m ho9) ?_
        replace h := Option.some.inj h
        subst h
        exact tk_RI  rfl rfl rfl
  · replace h := tk_ifF hc1 h
    refine tk_bF  rfl rfl tk_eB_eq (c := (fM_isSpot a1) = true) hc1 (pc' := 39) (ls' := [(0, .ref 295), (1, .int a1), (2, .int a2), (3, .int a3)]) (st' := []) ?_
    refine tk_Ps  2 (pc' := 41) (ls' := [(0, .ref 295), (1, .int a1), (2, .int a2), (3, .int a3)]) (st' := [.int (0 : Int32), .ref 295]) rfl ?_
    obtain ⟨o10, ho10, h⟩ := tk_bnd h
    refine tk_cV1  rfl rfl (r := 295) (as := [.int (0 : Int32)]) (rest := []) rfl ly295 rfl rfl (ok_fM_finds sc (0 : Int32) m ho10) ?_
    replace h := Option.some.inj h
    subst h
    exact tk_RI  rfl rfl rfl
theorem ok_fM_root_87 (sc : tk_X) (v1 : Int32) (v3 : Int32) (s0 : Int64) (s1 : Int64) (m : tk_m) (out : Int32 × tk_m) (h : fM_root_87 v1 v3 s0 s1 m = some out) : tk_Ex sc 2 tk_r266 tk_k266 87 [(0, .ref 295), (1, .int v1), (3, .int v3)] [.long s0, .long s1, .ref 295] (tk_full m) (some (.int out.1), tk_full out.2) := by
  unfold fM_root_87 at h
  refine tk_Ps  1 (pc' := 88) (ls' := [(0, .ref 295), (1, .int v1), (3, .int v3)]) (st' := [.int v3, .long s0, .long s1, .ref 295]) rfl ?_
  by_cases hc1 : v3 = 0
  · replace h := tk_ifT hc1 h
    refine tk_bT  rfl rfl rfl (c := v3 = 0) hc1 (pc' := 95) (ls' := [(0, .ref 295), (1, .int v1), (3, .int v3)]) (st' := [.long s0, .long s1, .ref 295]) ?_
    refine tk_Ps  1 (pc' := 96) (ls' := [(0, .ref 295), (1, .int v1), (3, .int v3)]) (st' := [.ref 295, .long s0, .long s1, .ref 295]) rfl ?_
    refine tk_HJ  rfl rfl ly295 ?_
    refine tk_Ps  2 (pc' := 101) (ls' := [(0, .ref 295), (1, .int v1), (3, .int v3)]) (st' := [.ref 295, .long (1 : Int64), .long (m.2.1 295 6), .long s0, .long s1, .ref 295]) rfl ?_
    refine tk_HR  rfl rfl ly295 rt295_29 ?_
    obtain ⟨o2, ho2, h⟩ := tk_bnd h
    refine tk_cV0  rfl rfl (r := 295) (as := [.long s1, .long s0, .long (m.2.1 295 6), .long (1 : Int64), .ref 458]) (rest := []) rfl ly295 rfl rfl (ok_fM_lowest sc s1 s0 (m.2.1 295 6) (1 : Int64) 458 m (tk_al_of ly458) ho2) ?_
    refine tk_Ps  3 (pc' := 110) (ls' := [(0, .ref 295), (1, .int v1), (3, .int v3)]) (st' := [.ref 295, .int v1, .ref 295]) rfl ?_
    refine tk_HR  rfl rfl ly295 rt295_29 ?_
    obtain ⟨o3, ho3, h⟩ := tk_bnd h
    refine tk_cV0  rfl rfl (r := 295) (as := [.int v1, .ref 458]) (rest := []) rfl ly295 rfl rfl (ok_fM_keeps sc v1 458 o2 (tk_al_of ly458) ho3) ?_
    refine tk_Ps  1 (pc' := 117) (ls' := [(0, .ref 295), (1, .int v1), (3, .int v3)]) (st' := [.int (1 : Int32)]) rfl ?_
    replace h := Option.some.inj h
    subst h
    exact tk_RI  rfl rfl rfl
  · replace h := tk_ifF hc1 h
    refine tk_bF  rfl rfl rfl (c := v3 = 0) hc1 (pc' := 91) (ls' := [(0, .ref 295), (1, .int v1), (3, .int v3)]) (st' := [.long s0, .long s1, .ref 295]) ?_
    refine tk_Ps  4 (pc' := 101) (ls' := [(0, .ref 295), (1, .int v1), (3, .int v3)]) (st' := [.ref 295, .long (1 : Int64), .long (0 : Int64), .long s0, .long s1, .ref 295]) rfl ?_
    refine tk_HR  rfl rfl ly295 rt295_29 ?_
    obtain ⟨o4, ho4, h⟩ := tk_bnd h
    refine tk_cV0  rfl rfl (r := 295) (as := [.long s1, .long s0, .long (0 : Int64), .long (1 : Int64), .ref 458]) (rest := []) rfl ly295 rfl rfl (ok_fM_lowest sc s1 s0 (0 : Int64) (1 : Int64) 458 m (tk_al_of ly458) ho4) ?_
    refine tk_Ps  3 (pc' := 110) (ls' := [(0, .ref 295), (1, .int v1), (3, .int v3)]) (st' := [.ref 295, .int v1, .ref 295]) rfl ?_
    refine tk_HR  rfl rfl ly295 rt295_29 ?_
    obtain ⟨o5, ho5, h⟩ := tk_bnd h
    refine tk_cV0  rfl rfl (r := 295) (as := [.int v1, .ref 458]) (rest := []) rfl ly295 rfl rfl (ok_fM_keeps sc v1 458 o4 (tk_al_of ly458) ho5) ?_
    refine tk_Ps  1 (pc' := 117) (ls' := [(0, .ref 295), (1, .int v1), (3, .int v3)]) (st' := [.int (1 : Int32)]) rfl ?_
    replace h := Option.some.inj h
    subst h
    exact tk_RI  rfl rfl rfl
theorem ok_fM_root_53 (sc : tk_X) (v1 : Int32) (v2 : Int32) (s0 : Int32) (m : tk_m) (out : Int32 × tk_m) (h : fM_root_53 v1 v2 s0 m = some out) : tk_Ex sc 2 tk_r266 tk_k266 53 [(0, .ref 295), (1, .int v1), (2, .int v2)] [.int s0] (tk_full m) (some (.int out.1), tk_full out.2) := by
  unfold fM_root_53 at h
  refine tk_Ps  3 (pc' := 56) (ls' := [(3, .int s0), (0, .ref 295), (1, .int v1), (2, .int v2)]) (st' := [.int v2, .ref 295]) rfl ?_
  by_cases hc1 : v2 = 0
  · replace h := tk_ifT hc1 h
    refine tk_bT  rfl rfl rfl (c := v2 = 0) hc1 (pc' := 59) (ls' := [(3, .int s0), (0, .ref 295), (1, .int v1), (2, .int v2)]) (st' := [.ref 295]) ?_
    refine tk_Ps  3 (pc' := 76) (ls' := [(3, .int s0), (0, .ref 295), (1, .int v1), (2, .int v2)]) (st' := [.int s0, .long (0 : Int64), .ref 295]) rfl ?_
    by_cases hc2 : s0 = 0
    · replace h := tk_ifT hc2 h
      refine tk_bT  rfl rfl rfl (c := s0 = 0) hc2 (pc' := 83) (ls' := [(3, .int s0), (0, .ref 295), (1, .int v1), (2, .int v2)]) (st' := [.long (0 : Int64), .ref 295]) ?_
      refine tk_Ps  1 (pc' := 84) (ls' := [(3, .int s0), (0, .ref 295), (1, .int v1), (2, .int v2)]) (st' := [.ref 295, .long (0 : Int64), .ref 295]) rfl ?_
      refine tk_HJ  rfl rfl ly295 ?_
      refine tk_Kp  (ls' := [(0, .ref 295), (1, .int v1), (3, .int s0)]) rfl rfl ?_
      exact ok_fM_root_87 sc v1 s0 (m.2.1 295 5) (0 : Int64) m _ h
    · replace h := tk_ifF hc2 h
      refine tk_bF  rfl rfl rfl (c := s0 = 0) hc2 (pc' := 79) (ls' := [(3, .int s0), (0, .ref 295), (1, .int v1), (2, .int v2)]) (st' := [.long (0 : Int64), .ref 295]) ?_
      refine tk_Ps  2 (pc' := 87) (ls' := [(3, .int s0), (0, .ref 295), (1, .int v1), (2, .int v2)]) (st' := [.long (0 : Int64), .long (0 : Int64), .ref 295]) rfl ?_
      refine tk_Kp  (ls' := [(0, .ref 295), (1, .int v1), (3, .int s0)]) rfl rfl ?_
      exact ok_fM_root_87 sc v1 s0 (0 : Int64) (0 : Int64) m _ h
  · replace h := tk_ifF hc1 h
    refine tk_bF  rfl rfl rfl (c := v2 = 0) hc1 (pc' := 63) (ls' := [(3, .int s0), (0, .ref 295), (1, .int v1), (2, .int v2)]) (st' := [.ref 295]) ?_
    refine tk_Ps  1 (pc' := 64) (ls' := [(3, .int s0), (0, .ref 295), (1, .int v1), (2, .int v2)]) (st' := [.int s0, .ref 295]) rfl ?_
    by_cases hc3 : s0 = 0
    · replace h := tk_ifT hc3 h
      refine tk_bT  rfl rfl rfl (c := s0 = 0) hc3 (pc' := 74) (ls' := [(3, .int s0), (0, .ref 295), (1, .int v1), (2, .int v2)]) (st' := [.ref 295]) ?_
      refine tk_Ps  2 (pc' := 76) (ls' := [(3, .int s0), (0, .ref 295), (1, .int v1), (2, .int v2)]) (st' := [.int s0, .long (0 : Int64), .ref 295]) rfl ?_
      refine tk_bT  rfl rfl rfl (c := s0 = 0) hc3 (pc' := 83) (ls' := [(3, .int s0), (0, .ref 295), (1, .int v1), (2, .int v2)]) (st' := [.long (0 : Int64), .ref 295]) ?_
      refine tk_Ps  1 (pc' := 84) (ls' := [(3, .int s0), (0, .ref 295), (1, .int v1), (2, .int v2)]) (st' := [.ref 295, .long (0 : Int64), .ref 295]) rfl ?_
      refine tk_HJ  rfl rfl ly295 ?_
      refine tk_Kp  (ls' := [(0, .ref 295), (1, .int v1), (3, .int s0)]) rfl rfl ?_
      exact ok_fM_root_87 sc v1 s0 (m.2.1 295 5) (0 : Int64) m _ h
    · replace h := tk_ifF hc3 h
      refine tk_bF  rfl rfl rfl (c := s0 = 0) hc3 (pc' := 67) (ls' := [(3, .int s0), (0, .ref 295), (1, .int v1), (2, .int v2)]) (st' := [.ref 295]) ?_
      refine tk_Ps  1 (pc' := 68) (ls' := [(3, .int s0), (0, .ref 295), (1, .int v1), (2, .int v2)]) (st' := [.ref 295, .ref 295]) rfl ?_
      refine tk_HJ  rfl rfl ly295 ?_
      refine tk_Ps  2 (pc' := 76) (ls' := [(3, .int s0), (0, .ref 295), (1, .int v1), (2, .int v2)]) (st' := [.int s0, .long (m.2.1 295 5), .ref 295]) rfl ?_
      refine tk_bF  rfl rfl rfl (c := s0 = 0) hc3 (pc' := 79) (ls' := [(3, .int s0), (0, .ref 295), (1, .int v1), (2, .int v2)]) (st' := [.long (m.2.1 295 5), .ref 295]) ?_
      refine tk_Ps  2 (pc' := 87) (ls' := [(3, .int s0), (0, .ref 295), (1, .int v1), (2, .int v2)]) (st' := [.long (0 : Int64), .long (m.2.1 295 5), .ref 295]) rfl ?_
      refine tk_Kp  (ls' := [(0, .ref 295), (1, .int v1), (3, .int s0)]) rfl rfl ?_
      exact ok_fM_root_87 sc v1 s0 (0 : Int64) (m.2.1 295 5) m _ h
theorem ok_fM_root_35 (sc : tk_X) (v1 : Int32) (v2 : Int32) (m : tk_m) (out : Int32 × tk_m) (h : fM_root_35 v1 v2 m = some out) : tk_Ex sc 2 tk_r266 tk_k266 35 [(0, .ref 295), (1, .int v1), (2, .int v2)] [] (tk_full m) (some (.int out.1), tk_full out.2) := by
  unfold fM_root_35 at h
  refine tk_Ps  1 (pc' := 36) (ls' := [(0, .ref 295), (1, .int v1), (2, .int v2)]) (st' := [.int v2]) rfl ?_
  by_cases hc1 : v2 = 0
  · replace h := tk_ifT hc1 h
    refine tk_bT  rfl rfl rfl (c := v2 = 0) hc1 (pc' := 48) (ls' := [(0, .ref 295), (1, .int v1), (2, .int v2)]) (st' := []) ?_
    refine tk_Ps  2 (pc' := 53) (ls' := [(0, .ref 295), (1, .int v1), (2, .int v2)]) (st' := [.int (1 : Int32)]) rfl ?_
    refine tk_Kp  (ls' := [(0, .ref 295), (1, .int v1), (2, .int v2)]) rfl rfl ?_
    exact ok_fM_root_53 sc v1 v2 (1 : Int32) m _ h
  · replace h := tk_ifF hc1 h
    refine tk_bF  rfl rfl rfl (c := v2 = 0) hc1 (pc' := 39) (ls' := [(0, .ref 295), (1, .int v1), (2, .int v2)]) (st' := []) ?_
    refine tk_Ps  1 (pc' := 40) (ls' := [(0, .ref 295), (1, .int v1), (2, .int v2)]) (st' := [.ref 295]) rfl ?_
    refine tk_HJ  rfl rfl ly295 ?_
    refine tk_Ps  2 (pc' := 45) (ls' := [(0, .ref 295), (1, .int v1), (2, .int v2)]) (st' := [.int (lg_cmp (m.2.1 295 6) (1 : Int64))]) rfl ?_
    by_cases hc2 : (m.2.1 295 6) = (1 : Int64)
    · replace h := tk_ifT hc2 h
      refine tk_bT  rfl rfl tk_eL_ne (c := (m.2.1 295 6) = (1 : Int64)) hc2 (pc' := 48) (ls' := [(0, .ref 295), (1, .int v1), (2, .int v2)]) (st' := []) ?_
      refine tk_Ps  2 (pc' := 53) (ls' := [(0, .ref 295), (1, .int v1), (2, .int v2)]) (st' := [.int (1 : Int32)]) rfl ?_
      refine tk_Kp  (ls' := [(0, .ref 295), (1, .int v1), (2, .int v2)]) rfl rfl ?_
      exact ok_fM_root_53 sc v1 v2 (1 : Int32) m _ h
    · replace h := tk_ifF hc2 h
      refine tk_bF  rfl rfl tk_eL_ne (c := (m.2.1 295 6) = (1 : Int64)) hc2 (pc' := 52) (ls' := [(0, .ref 295), (1, .int v1), (2, .int v2)]) (st' := []) ?_
      refine tk_Ps  1 (pc' := 53) (ls' := [(0, .ref 295), (1, .int v1), (2, .int v2)]) (st' := [.int (0 : Int32)]) rfl ?_
      refine tk_Kp  (ls' := [(0, .ref 295), (1, .int v1), (2, .int v2)]) rfl rfl ?_
      exact ok_fM_root_53 sc v1 v2 (0 : Int32) m _ h
theorem ok_fM_root (sc : tk_X) (a1 : Int32) (a2 : Int32) (m : tk_m) {out : Int32 × tk_m} (h : fM_root a1 a2 m = some out) : tk_Ru sc 3 266 [.ref 295, .int a1, .int a2] (tk_full m) (some (.int out.1), tk_full out.2) := by
  unfold fM_root at h
  refine tk_Ru0 me266 (ls := [(0, .ref 295), (1, .int a1), (2, .int a2)]) rfl rfl ?_
  refine tk_Ps  1 (pc' := 1) (ls' := [(0, .ref 295), (1, .int a1), (2, .int a2)]) (st' := [.int a1]) rfl ?_
  refine tk_cS1  rfl rfl (as := [.int a1]) (rest := []) rfl rfl rfl (ok_fM_isSpot sc a1 m) ?_
  by_cases hc1 : (fM_isSpot a1) = true
  · replace h := tk_ifT hc1 h
    refine tk_bT  rfl rfl tk_eB_eq (c := (fM_isSpot a1) = true) hc1 (pc' := 7) (ls' := [(0, .ref 295), (1, .int a1), (2, .int a2)]) (st' := []) ?_
    refine tk_Ps  4 (pc' := 13) (ls' := [(0, .ref 295), (1, .int a1), (2, .int a2)]) (st' := [.long (1000000 : Int64), .long (0 : Int64), .long (Int32.toInt64 a2)]) rfl ?_
    refine tk_cS1  rfl rfl (as := [.long (Int32.toInt64 a2), .long (0 : Int64), .long (1000000 : Int64)]) (rest := []) rfl rfl rfl (ok_fM_in sc (Int32.toInt64 a2) (0 : Int64) (1000000 : Int64) m) ?_
    by_cases hc2 : (fM_in (Int32.toInt64 a2) (0 : Int64) (1000000 : Int64)) = true
    · replace h := tk_ifT hc2 h
      refine tk_bT  rfl rfl tk_eB_ne (c := (fM_in (Int32.toInt64 a2) (0 : Int64) (1000000 : Int64)) = true) hc2 (pc' := 25) (ls' := [(0, .ref 295), (1, .int a1), (2, .int a2)]) (st' := []) ?_
      refine tk_Ps  1 (pc' := 26) (ls' := [(0, .ref 295), (1, .int a1), (2, .int a2)]) (st' := [.int a2]) rfl ?_
      by_cases hc3 : a2 ≤ 0
      · replace h := tk_ifT hc3 h
        refine tk_bT  rfl rfl rfl (c := a2 ≤ 0) hc3 (pc' := 35) (ls' := [(0, .ref 295), (1, .int a1), (2, .int a2)]) (st' := []) ?_
        refine tk_Kp  (ls' := [(0, .ref 295), (1, .int a1), (2, .int a2)]) rfl rfl ?_
        exact ok_fM_root_35 sc a1 a2 m _ h
      · replace h := tk_ifF hc3 h
        refine tk_bF  rfl rfl rfl (c := a2 ≤ 0) hc3 (pc' := 29) (ls' := [(0, .ref 295), (1, .int a1), (2, .int a2)]) (st' := []) ?_
        refine tk_Ps  3 (pc' := 32) (ls' := [(0, .ref 295), (1, .int a1), (2, .int a2)]) (st' := [.long (Int32.toInt64 a2), .ref 295]) rfl ?_
        obtain ⟨o4, ho4, h⟩ := tk_bnd h
        refine tk_cV0  rfl rfl (r := 295) (as := [.long (Int32.toInt64 a2)]) (rest := []) rfl ly295 rfl rfl (ok_fM_parts sc (Int32.toInt64 a2) m ho4) ?_
        refine tk_Kp  (ls' := [(0, .ref 295), (1, .int a1), (2, .int a2)]) rfl rfl ?_
        exact ok_fM_root_35 sc a1 a2 o4 _ h
    · replace h := tk_ifF hc2 h
      refine tk_bF  rfl rfl tk_eB_ne (c := (fM_in (Int32.toInt64 a2) (0 : Int64) (1000000 : Int64)) = true) hc2 (pc' := 19) (ls' := [(0, .ref 295), (1, .int a1), (2, .int a2)]) (st' := []) ?_
      refine tk_Ps  2 (pc' := 21) (ls' := [(0, .ref 295), (1, .int a1), (2, .int a2)]) (st' := [.int (0 : Int32), .ref 295]) rfl ?_
      obtain ⟨o5, ho5, h⟩ := tk_bnd h
      refine tk_cV1  rfl rfl (r := 295) (as := [.int (0 : Int32)]) (rest := []) rfl ly295 rfl rfl (ok_fM_finds sc (0 : Int32) m ho5) ?_
      replace h := Option.some.inj h
      subst h
      exact tk_RI  rfl rfl rfl
  · replace h := tk_ifF hc1 h
    refine tk_bF  rfl rfl tk_eB_eq (c := (fM_isSpot a1) = true) hc1 (pc' := 19) (ls' := [(0, .ref 295), (1, .int a1), (2, .int a2)]) (st' := []) ?_
    refine tk_Ps  2 (pc' := 21) (ls' := [(0, .ref 295), (1, .int a1), (2, .int a2)]) (st' := [.int (0 : Int32), .ref 295]) rfl ?_
    obtain ⟨o6, ho6, h⟩ := tk_bnd h
    refine tk_cV1  rfl rfl (r := 295) (as := [.int (0 : Int32)]) (rest := []) rfl ly295 rfl rfl (ok_fM_finds sc (0 : Int32) m ho6) ?_
    replace h := Option.some.inj h
    subst h
    exact tk_RI  rfl rfl rfl
set_option maxRecDepth 50000 in
theorem ok_fM_works_137 (sc : tk_X) (v1 : Nat) (v2 : Nat) (s0 : Int64) (s1 : Int32) (m : tk_m) (hv1 : tk_lay[v1]? = some (.inr (1, tk_al v1))) (hv2 : tk_lay[v2]? = some (.inr (1, tk_al v2))) (out : tk_m) (h : fM_works_137 v1 v2 s0 s1 m = some out) : tk_Ex sc 1 tk_r268 tk_k268 137 [(0, .ref 295), (1, .ref v1), (2, .ref v2)] [.long s0, .int s1, .ref 458] (tk_full m) (none, tk_full out) := by
  unfold fM_works_137 at h
  obtain ⟨hg1, h⟩ := tk_grd h
  refine tk_SJa  rfl rfl ly458 hg1 ?_
  refine tk_Ps  1 (pc' := 139) (ls' := [(0, .ref 295), (1, .ref v1), (2, .ref v2)]) (st' := [.ref 295]) rfl ?_
  refine tk_HR  rfl rfl ly295 rt295_29 ?_
  refine tk_Ps  4 (pc' := 146) (ls' := [(0, .ref 295), (1, .ref v1), (2, .ref v2)]) (st' := [.int (3 : Int32), .ref v1, .ref 295, .int (3 : Int32), .ref 458]) rfl ?_
  obtain ⟨hg2, h⟩ := tk_grd h
  refine tk_HJa  rfl rfl hv1 hg2 ?_
  refine tk_Ps  2 (pc' := 149) (ls' := [(0, .ref 295), (1, .ref v1), (2, .ref v2)]) (st' := [.int (3 : Int32), .ref v2, .long (tk_u2 m.2.1 458 (tk_n s1) s0 v1 (tk_n (3 : Int32))), .ref 295, .int (3 : Int32), .ref 458]) rfl ?_
  obtain ⟨hg3, h⟩ := tk_grd h
  refine tk_HJa  rfl rfl hv2 hg3 ?_
  obtain ⟨o4, ho4, h⟩ := tk_bnd h
  refine tk_cV1  rfl rfl (r := 295) (as := [.long (tk_u2 m.2.1 458 (tk_n s1) s0 v1 (tk_n (3 : Int32))), .long (tk_u2 m.2.1 458 (tk_n s1) s0 v2 (tk_n (3 : Int32)))]) (rest := [.int (3 : Int32), .ref 458]) rfl ly295 rfl rfl (ok_fM_times sc (tk_u2 m.2.1 458 (tk_n s1) s0 v1 (tk_n (3 : Int32))) (tk_u2 m.2.1 458 (tk_n s1) s0 v2 (tk_n (3 : Int32))) (m.1, tk_u2 m.2.1 458 (tk_n s1) s0, m.2.2.1, m.2.2.2) ho4) ?_
  refine tk_SJa  rfl rfl ly458 (by decide) ?_
  refine tk_Ps  1 (pc' := 370) (ls' := [(0, .ref 295), (1, .ref v1), (2, .ref v2)]) (st' := []) rfl ?_
  replace h := Option.some.inj h
  subst h
  exact tk_RV  rfl rfl rfl
set_option maxRecDepth 50000 in
theorem ok_fM_works_108 (sc : tk_X) (v1 : Nat) (v2 : Nat) (v3 : Int32) (v10 : Int64) (v12 : Int64) (s0 : Int64) (s1 : Int32) (m : tk_m) (hv1 : tk_lay[v1]? = some (.inr (1, tk_al v1))) (hv2 : tk_lay[v2]? = some (.inr (1, tk_al v2))) (out : tk_m) (h : fM_works_108 v1 v2 v3 v10 v12 s0 s1 m = some out) : tk_Ex sc 1 tk_r268 tk_k268 108 [(0, .ref 295), (1, .ref v1), (2, .ref v2), (3, .int v3), (10, .long v10), (12, .long v12)] [.long s0, .int s1, .ref 458] (tk_full m) (none, tk_full out) := by
  unfold fM_works_108 at h
  obtain ⟨hg1, h⟩ := tk_grd h
  refine tk_SJa  rfl rfl ly458 hg1 ?_
  refine tk_Ps  1 (pc' := 110) (ls' := [(0, .ref 295), (1, .ref v1), (2, .ref v2), (3, .int v3), (10, .long v10), (12, .long v12)]) (st' := [.ref 295]) rfl ?_
  refine tk_HR  rfl rfl ly295 rt295_29 ?_
  refine tk_Ps  2 (pc' := 115) (ls' := [(0, .ref 295), (1, .ref v1), (2, .ref v2), (3, .int v3), (10, .long v10), (12, .long v12)]) (st' := [.int v3, .int (1 : Int32), .ref 458]) rfl ?_
  by_cases hc2 : v3 = 0
  · replace h := tk_ifT hc2 h
    refine tk_bT  rfl rfl rfl (c := v3 = 0) hc2 (pc' := 118) (ls' := [(0, .ref 295), (1, .ref v1), (2, .ref v2), (3, .int v3), (10, .long v10), (12, .long v12)]) (st' := [.int (1 : Int32), .ref 458]) ?_
    refine tk_Ps  3 (pc' := 123) (ls' := [(0, .ref 295), (1, .ref v1), (2, .ref v2), (3, .int v3), (10, .long v10), (12, .long v12)]) (st' := [.long v12, .long v10, .ref 295, .int (1 : Int32), .ref 458]) rfl ?_
    obtain ⟨o3, ho3, h⟩ := tk_lete h
    refine tk_cV1  rfl rfl (r := 295) (as := [.long v10, .long v12]) (rest := [.int (1 : Int32), .ref 458]) rfl ly295 rfl rfl (ok_fM_plus sc v10 v12 (m.1, tk_u2 m.2.1 458 (tk_n s1) s0, m.2.2.1, m.2.2.2) ho3) ?_
    refine tk_Ps  1 (pc' := 137) (ls' := [(0, .ref 295), (1, .ref v1), (2, .ref v2), (3, .int v3), (10, .long v10), (12, .long v12)]) (st' := [.long o3.1, .int (1 : Int32), .ref 458]) rfl ?_
    refine tk_Kp  (ls' := [(0, .ref 295), (1, .ref v1), (2, .ref v2)]) rfl rfl ?_
    exact ok_fM_works_137 sc v1 v2 o3.1 (1 : Int32) o3.2 (tk_al_of hv1) (tk_al_of hv2) _ h
  · replace h := tk_ifF hc2 h
    refine tk_bF  rfl rfl rfl (c := v3 = 0) hc2 (pc' := 129) (ls' := [(0, .ref 295), (1, .ref v1), (2, .ref v2), (3, .int v3), (10, .long v10), (12, .long v12)]) (st' := [.int (1 : Int32), .ref 458]) ?_
    refine tk_Ps  3 (pc' := 134) (ls' := [(0, .ref 295), (1, .ref v1), (2, .ref v2), (3, .int v3), (10, .long v10), (12, .long v12)]) (st' := [.long v12, .long v10, .ref 295, .int (1 : Int32), .ref 458]) rfl ?_
    obtain ⟨o4, ho4, h⟩ := tk_lete h
    refine tk_cV1  rfl rfl (r := 295) (as := [.long v10, .long v12]) (rest := [.int (1 : Int32), .ref 458]) rfl ly295 rfl rfl (ok_fM_minus sc v10 v12 (m.1, tk_u2 m.2.1 458 (tk_n s1) s0, m.2.2.1, m.2.2.2) ho4) ?_
    refine tk_Kp  (ls' := [(0, .ref 295), (1, .ref v1), (2, .ref v2)]) rfl rfl ?_
    exact ok_fM_works_137 sc v1 v2 o4.1 (1 : Int32) o4.2 (tk_al_of hv1) (tk_al_of hv2) _ h
set_option maxRecDepth 50000 in
theorem ok_fM_works_17 (sc : tk_X) (v1 : Nat) (v2 : Nat) (v3 : Int32) (s0 : Int64) (m : tk_m) (hv1 : tk_lay[v1]? = some (.inr (1, tk_al v1))) (hv2 : tk_lay[v2]? = some (.inr (1, tk_al v2))) (out : tk_m) (h : fM_works_17 v1 v2 v3 s0 m = some out) : tk_Ex sc 1 tk_r268 tk_k268 17 [(0, .ref 295), (1, .ref v1), (2, .ref v2), (3, .int v3)] [.long s0] (tk_full m) (none, tk_full out) := by
  unfold fM_works_17 at h
  refine tk_Ps  2 (pc' := 20) (ls' := [(4, .long s0), (0, .ref 295), (1, .ref v1), (2, .ref v2), (3, .int v3)]) (st' := [.ref 295]) rfl ?_
  refine tk_HR  rfl rfl ly295 rt295_29 ?_
  refine tk_Ps  2 (pc' := 26) (ls' := [(4, .long s0), (0, .ref 295), (1, .ref v1), (2, .ref v2), (3, .int v3)]) (st' := [.long s0, .int (2 : Int32), .ref 458]) rfl ?_
  refine tk_SJa  rfl rfl ly458 (by decide) ?_
  refine tk_Ps  2 (pc' := 29) (ls' := [(4, .long s0), (0, .ref 295), (1, .ref v1), (2, .ref v2), (3, .int v3)]) (st' := [.int (2 : Int32), .int v3]) rfl ?_
  by_cases hc1 : (2 : Int32) ≤ v3
  · replace h := tk_ifT hc1 h
    refine tk_bT  rfl rfl rfl (c := (2 : Int32) ≤ v3) hc1 (pc' := 157) (ls' := [(4, .long s0), (0, .ref 295), (1, .ref v1), (2, .ref v2), (3, .int v3)]) (st' := []) ?_
    refine tk_Ps  2 (pc' := 159) (ls' := [(4, .long s0), (0, .ref 295), (1, .ref v1), (2, .ref v2), (3, .int v3)]) (st' := [.int (2 : Int32), .int v3]) rfl ?_
    by_cases hc2 : v3 = (2 : Int32)
    · replace h := tk_ifT hc2 h
      refine tk_bT  rfl rfl rfl (c := v3 = (2 : Int32)) hc2 (pc' := 162) (ls' := [(4, .long s0), (0, .ref 295), (1, .ref v1), (2, .ref v2), (3, .int v3)]) (st' := []) ?_
      refine tk_Ps  1 (pc' := 163) (ls' := [(4, .long s0), (0, .ref 295), (1, .ref v1), (2, .ref v2), (3, .int v3)]) (st' := [.ref 295]) rfl ?_
      refine tk_HR  rfl rfl ly295 rt295_29 ?_
      refine tk_Ps  5 (pc' := 171) (ls' := [(4, .long s0), (0, .ref 295), (1, .ref v1), (2, .ref v2), (3, .int v3)]) (st' := [.int (0 : Int32), .ref v1, .ref 295, .ref 295, .int (0 : Int32), .ref 458]) rfl ?_
      obtain ⟨hg3, h⟩ := tk_grd h
      refine tk_HJa  rfl rfl hv1 hg3 ?_
      refine tk_Ps  2 (pc' := 174) (ls' := [(4, .long s0), (0, .ref 295), (1, .ref v1), (2, .ref v2), (3, .int v3)]) (st' := [.int (0 : Int32), .ref v2, .long (tk_u2 m.2.1 458 2 s0 v1 (tk_n (0 : Int32))), .ref 295, .ref 295, .int (0 : Int32), .ref 458]) rfl ?_
      obtain ⟨hg4, h⟩ := tk_grd h
      refine tk_HJa  rfl rfl hv2 hg4 ?_
      obtain ⟨o5, ho5, h⟩ := tk_bnd h
      refine tk_cV1  rfl rfl (r := 295) (as := [.long (tk_u2 m.2.1 458 2 s0 v1 (tk_n (0 : Int32))), .long (tk_u2 m.2.1 458 2 s0 v2 (tk_n (0 : Int32)))]) (rest := [.ref 295, .int (0 : Int32), .ref 458]) rfl ly295 rfl rfl (ok_fM_times sc (tk_u2 m.2.1 458 2 s0 v1 (tk_n (0 : Int32))) (tk_u2 m.2.1 458 2 s0 v2 (tk_n (0 : Int32))) (m.1, tk_u2 m.2.1 458 2 s0, m.2.2.1, m.2.2.2) ho5) ?_
      refine tk_Ps  4 (pc' := 182) (ls' := [(4, .long s0), (0, .ref 295), (1, .ref v1), (2, .ref v2), (3, .int v3)]) (st' := [.int (1 : Int32), .ref v1, .ref 295, .ref 295, .long o5.1, .ref 295, .int (0 : Int32), .ref 458]) rfl ?_
      obtain ⟨hg6, h⟩ := tk_grd h
      refine tk_HJa  rfl rfl hv1 hg6 ?_
      refine tk_Ps  2 (pc' := 185) (ls' := [(4, .long s0), (0, .ref 295), (1, .ref v1), (2, .ref v2), (3, .int v3)]) (st' := [.int (1 : Int32), .ref v2, .long (o5.2.2.1 v1 (tk_n (1 : Int32))), .ref 295, .ref 295, .long o5.1, .ref 295, .int (0 : Int32), .ref 458]) rfl ?_
      obtain ⟨hg7, h⟩ := tk_grd h
      refine tk_HJa  rfl rfl hv2 hg7 ?_
      obtain ⟨o8, ho8, h⟩ := tk_bnd h
      refine tk_cV1  rfl rfl (r := 295) (as := [.long (o5.2.2.1 v1 (tk_n (1 : Int32))), .long (o5.2.2.1 v2 (tk_n (1 : Int32)))]) (rest := [.ref 295, .long o5.1, .ref 295, .int (0 : Int32), .ref 458]) rfl ly295 rfl rfl (ok_fM_times sc (o5.2.2.1 v1 (tk_n (1 : Int32))) (o5.2.2.1 v2 (tk_n (1 : Int32))) o5.2 ho8) ?_
      refine tk_Ps  1 (pc' := 191) (ls' := [(4, .long s0), (0, .ref 295), (1, .ref v1), (2, .ref v2), (3, .int v3)]) (st' := [.long s0, .long o8.1, .ref 295, .long o5.1, .ref 295, .int (0 : Int32), .ref 458]) rfl ?_
      obtain ⟨o9, ho9, h⟩ := tk_bnd h
      refine tk_cV1  rfl rfl (r := 295) (as := [.long o8.1, .long s0]) (rest := [.long o5.1, .ref 295, .int (0 : Int32), .ref 458]) rfl ly295 rfl rfl (ok_fM_times sc o8.1 s0 o8.2 ho9) ?_
      obtain ⟨o10, ho10, h⟩ := tk_lete h
      refine tk_cV1  rfl rfl (r := 295) (as := [.long o5.1, .long o9.1]) (rest := [.int (0 : Int32), .ref 458]) rfl ly295 rfl rfl (ok_fM_plus sc o5.1 o9.1 o9.2 ho10) ?_
      refine tk_SJa  rfl rfl ly458 (by decide) ?_
      refine tk_Ps  1 (pc' := 199) (ls' := [(4, .long s0), (0, .ref 295), (1, .ref v1), (2, .ref v2), (3, .int v3)]) (st' := [.ref 295]) rfl ?_
      refine tk_HR  rfl rfl ly295 rt295_29 ?_
      refine tk_Ps  5 (pc' := 207) (ls' := [(4, .long s0), (0, .ref 295), (1, .ref v1), (2, .ref v2), (3, .int v3)]) (st' := [.int (0 : Int32), .ref v1, .ref 295, .ref 295, .int (1 : Int32), .ref 458]) rfl ?_
      refine tk_HJa  rfl rfl hv1 hg3 ?_
      refine tk_Ps  2 (pc' := 210) (ls' := [(4, .long s0), (0, .ref 295), (1, .ref v1), (2, .ref v2), (3, .int v3)]) (st' := [.int (1 : Int32), .ref v2, .long (tk_u2 o10.2.2.1 458 0 o10.1 v1 (tk_n (0 : Int32))), .ref 295, .ref 295, .int (1 : Int32), .ref 458]) rfl ?_
      refine tk_HJa  rfl rfl hv2 hg7 ?_
      obtain ⟨o11, ho11, h⟩ := tk_bnd h
      refine tk_cV1  rfl rfl (r := 295) (as := [.long (tk_u2 o10.2.2.1 458 0 o10.1 v1 (tk_n (0 : Int32))), .long (tk_u2 o10.2.2.1 458 0 o10.1 v2 (tk_n (1 : Int32)))]) (rest := [.ref 295, .int (1 : Int32), .ref 458]) rfl ly295 rfl rfl (ok_fM_times sc (tk_u2 o10.2.2.1 458 0 o10.1 v1 (tk_n (0 : Int32))) (tk_u2 o10.2.2.1 458 0 o10.1 v2 (tk_n (1 : Int32))) (o10.2.1, tk_u2 o10.2.2.1 458 0 o10.1, o10.2.2.2.1, o10.2.2.2.2) ho11) ?_
      refine tk_Ps  3 (pc' := 217) (ls' := [(4, .long s0), (0, .ref 295), (1, .ref v1), (2, .ref v2), (3, .int v3)]) (st' := [.int (1 : Int32), .ref v1, .ref 295, .long o11.1, .ref 295, .int (1 : Int32), .ref 458]) rfl ?_
      refine tk_HJa  rfl rfl hv1 hg6 ?_
      refine tk_Ps  2 (pc' := 220) (ls' := [(4, .long s0), (0, .ref 295), (1, .ref v1), (2, .ref v2), (3, .int v3)]) (st' := [.int (0 : Int32), .ref v2, .long (o11.2.2.1 v1 (tk_n (1 : Int32))), .ref 295, .long o11.1, .ref 295, .int (1 : Int32), .ref 458]) rfl ?_
      refine tk_HJa  rfl rfl hv2 hg4 ?_
      obtain ⟨o12, ho12, h⟩ := tk_bnd h
      refine tk_cV1  rfl rfl (r := 295) (as := [.long (o11.2.2.1 v1 (tk_n (1 : Int32))), .long (o11.2.2.1 v2 (tk_n (0 : Int32)))]) (rest := [.long o11.1, .ref 295, .int (1 : Int32), .ref 458]) rfl ly295 rfl rfl (ok_fM_times sc (o11.2.2.1 v1 (tk_n (1 : Int32))) (o11.2.2.1 v2 (tk_n (0 : Int32))) o11.2 ho12) ?_
      obtain ⟨o13, ho13, h⟩ := tk_lete h
      refine tk_cV1  rfl rfl (r := 295) (as := [.long o11.1, .long o12.1]) (rest := [.int (1 : Int32), .ref 458]) rfl ly295 rfl rfl (ok_fM_plus sc o11.1 o12.1 o12.2 ho13) ?_
      refine tk_SJa  rfl rfl ly458 (by decide) ?_
      refine tk_Ps  1 (pc' := 229) (ls' := [(4, .long s0), (0, .ref 295), (1, .ref v1), (2, .ref v2), (3, .int v3)]) (st' := [.ref 295]) rfl ?_
      refine tk_HR  rfl rfl ly295 rt295_29 ?_
      refine tk_Ps  4 (pc' := 236) (ls' := [(4, .long s0), (0, .ref 295), (1, .ref v1), (2, .ref v2), (3, .int v3)]) (st' := [.int (3 : Int32), .ref v1, .ref 295, .int (3 : Int32), .ref 458]) rfl ?_
      obtain ⟨hg14, h⟩ := tk_grd h
      refine tk_HJa  rfl rfl hv1 hg14 ?_
      refine tk_Ps  2 (pc' := 239) (ls' := [(4, .long s0), (0, .ref 295), (1, .ref v1), (2, .ref v2), (3, .int v3)]) (st' := [.int (3 : Int32), .ref v2, .long (tk_u2 o13.2.2.1 458 1 o13.1 v1 (tk_n (3 : Int32))), .ref 295, .int (3 : Int32), .ref 458]) rfl ?_
      obtain ⟨hg15, h⟩ := tk_grd h
      refine tk_HJa  rfl rfl hv2 hg15 ?_
      obtain ⟨o16, ho16, h⟩ := tk_bnd h
      refine tk_cV1  rfl rfl (r := 295) (as := [.long (tk_u2 o13.2.2.1 458 1 o13.1 v1 (tk_n (3 : Int32))), .long (tk_u2 o13.2.2.1 458 1 o13.1 v2 (tk_n (3 : Int32)))]) (rest := [.int (3 : Int32), .ref 458]) rfl ly295 rfl rfl (ok_fM_times sc (tk_u2 o13.2.2.1 458 1 o13.1 v1 (tk_n (3 : Int32))) (tk_u2 o13.2.2.1 458 1 o13.1 v2 (tk_n (3 : Int32))) (o13.2.1, tk_u2 o13.2.2.1 458 1 o13.1, o13.2.2.2.1, o13.2.2.2.2) ho16) ?_
      refine tk_SJa  rfl rfl ly458 (by decide) ?_
      refine tk_Ps  1 (pc' := 370) (ls' := [(4, .long s0), (0, .ref 295), (1, .ref v1), (2, .ref v2), (3, .int v3)]) (st' := []) rfl ?_
      replace h := Option.some.inj h
      subst h
      exact tk_RV  rfl rfl rfl
    · replace h := tk_ifF hc2 h
      refine tk_bF  rfl rfl rfl (c := v3 = (2 : Int32)) hc2 (pc' := 247) (ls' := [(4, .long s0), (0, .ref 295), (1, .ref v1), (2, .ref v2), (3, .int v3)]) (st' := []) ?_
      refine tk_Ps  1 (pc' := 248) (ls' := [(4, .long s0), (0, .ref 295), (1, .ref v1), (2, .ref v2), (3, .int v3)]) (st' := [.ref 295]) rfl ?_
      refine tk_HR  rfl rfl ly295 rt295_29 ?_
      refine tk_Ps  6 (pc' := 257) (ls' := [(4, .long s0), (0, .ref 295), (1, .ref v1), (2, .ref v2), (3, .int v3)]) (st' := [.int (0 : Int32), .ref v1, .ref 295, .ref 295, .ref 295, .int (0 : Int32), .ref 458]) rfl ?_
      obtain ⟨hg17, h⟩ := tk_grd h
      refine tk_HJa  rfl rfl hv1 hg17 ?_
      refine tk_Ps  2 (pc' := 260) (ls' := [(4, .long s0), (0, .ref 295), (1, .ref v1), (2, .ref v2), (3, .int v3)]) (st' := [.int (0 : Int32), .ref v2, .long (tk_u2 m.2.1 458 2 s0 v1 (tk_n (0 : Int32))), .ref 295, .ref 295, .ref 295, .int (0 : Int32), .ref 458]) rfl ?_
      obtain ⟨hg18, h⟩ := tk_grd h
      refine tk_HJa  rfl rfl hv2 hg18 ?_
      obtain ⟨o19, ho19, h⟩ := tk_bnd h
      refine tk_cV1  rfl rfl (r := 295) (as := [.long (tk_u2 m.2.1 458 2 s0 v1 (tk_n (0 : Int32))), .long (tk_u2 m.2.1 458 2 s0 v2 (tk_n (0 : Int32)))]) (rest := [.ref 295, .ref 295, .int (0 : Int32), .ref 458]) rfl ly295 rfl rfl (ok_fM_times sc (tk_u2 m.2.1 458 2 s0 v1 (tk_n (0 : Int32))) (tk_u2 m.2.1 458 2 s0 v2 (tk_n (0 : Int32))) (m.1, tk_u2 m.2.1 458 2 s0, m.2.2.1, m.2.2.2) ho19) ?_
      refine tk_Ps  4 (pc' := 268) (ls' := [(4, .long s0), (0, .ref 295), (1, .ref v1), (2, .ref v2), (3, .int v3)]) (st' := [.int (1 : Int32), .ref v1, .ref 295, .ref 295, .long o19.1, .ref 295, .ref 295, .int (0 : Int32), .ref 458]) rfl ?_
      obtain ⟨hg20, h⟩ := tk_grd h
      refine tk_HJa  rfl rfl hv1 hg20 ?_
      refine tk_Ps  2 (pc' := 271) (ls' := [(4, .long s0), (0, .ref 295), (1, .ref v1), (2, .ref v2), (3, .int v3)]) (st' := [.int (1 : Int32), .ref v2, .long (o19.2.2.1 v1 (tk_n (1 : Int32))), .ref 295, .ref 295, .long o19.1, .ref 295, .ref 295, .int (0 : Int32), .ref 458]) rfl ?_
      obtain ⟨hg21, h⟩ := tk_grd h
      refine tk_HJa  rfl rfl hv2 hg21 ?_
      obtain ⟨o22, ho22, h⟩ := tk_bnd h
      refine tk_cV1  rfl rfl (r := 295) (as := [.long (o19.2.2.1 v1 (tk_n (1 : Int32))), .long (o19.2.2.1 v2 (tk_n (1 : Int32)))]) (rest := [.ref 295, .long o19.1, .ref 295, .ref 295, .int (0 : Int32), .ref 458]) rfl ly295 rfl rfl (ok_fM_times sc (o19.2.2.1 v1 (tk_n (1 : Int32))) (o19.2.2.1 v2 (tk_n (1 : Int32))) o19.2 ho22) ?_
      refine tk_Ps  1 (pc' := 277) (ls' := [(4, .long s0), (0, .ref 295), (1, .ref v1), (2, .ref v2), (3, .int v3)]) (st' := [.long s0, .long o22.1, .ref 295, .long o19.1, .ref 295, .ref 295, .int (0 : Int32), .ref 458]) rfl ?_
      obtain ⟨o23, ho23, h⟩ := tk_bnd h
      refine tk_cV1  rfl rfl (r := 295) (as := [.long o22.1, .long s0]) (rest := [.long o19.1, .ref 295, .ref 295, .int (0 : Int32), .ref 458]) rfl ly295 rfl rfl (ok_fM_times sc o22.1 s0 o22.2 ho23) ?_
      obtain ⟨o24, ho24, h⟩ := tk_lete h
      refine tk_cV1  rfl rfl (r := 295) (as := [.long o19.1, .long o23.1]) (rest := [.ref 295, .int (0 : Int32), .ref 458]) rfl ly295 rfl rfl (ok_fM_minus sc o19.1 o23.1 o23.2 ho24) ?_
      refine tk_Ps  2 (pc' := 285) (ls' := [(4, .long s0), (0, .ref 295), (1, .ref v1), (2, .ref v2), (3, .int v3)]) (st' := [.int (3 : Int32), .ref v2, .long o24.1, .ref 295, .int (0 : Int32), .ref 458]) rfl ?_
      obtain ⟨hg25, h⟩ := tk_grd h
      refine tk_HJa  rfl rfl hv2 hg25 ?_
      obtain ⟨o26, ho26, h⟩ := tk_bnd h
      refine tk_cV1  rfl rfl (r := 295) (as := [.long o24.1, .long (o24.2.2.1 v2 (tk_n (3 : Int32)))]) (rest := [.int (0 : Int32), .ref 458]) rfl ly295 rfl rfl (ok_fM_times sc o24.1 (o24.2.2.1 v2 (tk_n (3 : Int32))) o24.2 ho26) ?_
      refine tk_SJa  rfl rfl ly458 (by decide) ?_
      refine tk_Ps  1 (pc' := 291) (ls' := [(4, .long s0), (0, .ref 295), (1, .ref v1), (2, .ref v2), (3, .int v3)]) (st' := [.ref 295]) rfl ?_
      refine tk_HR  rfl rfl ly295 rt295_29 ?_
      refine tk_Ps  6 (pc' := 300) (ls' := [(4, .long s0), (0, .ref 295), (1, .ref v1), (2, .ref v2), (3, .int v3)]) (st' := [.int (1 : Int32), .ref v1, .ref 295, .ref 295, .ref 295, .int (1 : Int32), .ref 458]) rfl ?_
      refine tk_HJa  rfl rfl hv1 hg20 ?_
      refine tk_Ps  2 (pc' := 303) (ls' := [(4, .long s0), (0, .ref 295), (1, .ref v1), (2, .ref v2), (3, .int v3)]) (st' := [.int (0 : Int32), .ref v2, .long (tk_u2 o26.2.2.1 458 0 o26.1 v1 (tk_n (1 : Int32))), .ref 295, .ref 295, .ref 295, .int (1 : Int32), .ref 458]) rfl ?_
      refine tk_HJa  rfl rfl hv2 hg18 ?_
      obtain ⟨o27, ho27, h⟩ := tk_bnd h
      refine tk_cV1  rfl rfl (r := 295) (as := [.long (tk_u2 o26.2.2.1 458 0 o26.1 v1 (tk_n (1 : Int32))), .long (tk_u2 o26.2.2.1 458 0 o26.1 v2 (tk_n (0 : Int32)))]) (rest := [.ref 295, .ref 295, .int (1 : Int32), .ref 458]) rfl ly295 rfl rfl (ok_fM_times sc (tk_u2 o26.2.2.1 458 0 o26.1 v1 (tk_n (1 : Int32))) (tk_u2 o26.2.2.1 458 0 o26.1 v2 (tk_n (0 : Int32))) (o26.2.1, tk_u2 o26.2.2.1 458 0 o26.1, o26.2.2.2.1, o26.2.2.2.2) ho27) ?_
      refine tk_Ps  3 (pc' := 310) (ls' := [(4, .long s0), (0, .ref 295), (1, .ref v1), (2, .ref v2), (3, .int v3)]) (st' := [.int (0 : Int32), .ref v1, .ref 295, .long o27.1, .ref 295, .ref 295, .int (1 : Int32), .ref 458]) rfl ?_
      refine tk_HJa  rfl rfl hv1 hg17 ?_
      refine tk_Ps  2 (pc' := 313) (ls' := [(4, .long s0), (0, .ref 295), (1, .ref v1), (2, .ref v2), (3, .int v3)]) (st' := [.int (1 : Int32), .ref v2, .long (o27.2.2.1 v1 (tk_n (0 : Int32))), .ref 295, .long o27.1, .ref 295, .ref 295, .int (1 : Int32), .ref 458]) rfl ?_
      refine tk_HJa  rfl rfl hv2 hg21 ?_
      obtain ⟨o28, ho28, h⟩ := tk_bnd h
      refine tk_cV1  rfl rfl (r := 295) (as := [.long (o27.2.2.1 v1 (tk_n (0 : Int32))), .long (o27.2.2.1 v2 (tk_n (1 : Int32)))]) (rest := [.long o27.1, .ref 295, .ref 295, .int (1 : Int32), .ref 458]) rfl ly295 rfl rfl (ok_fM_times sc (o27.2.2.1 v1 (tk_n (0 : Int32))) (o27.2.2.1 v2 (tk_n (1 : Int32))) o27.2 ho28) ?_
      obtain ⟨o29, ho29, h⟩ := tk_lete h
      refine tk_cV1  rfl rfl (r := 295) (as := [.long o27.1, .long o28.1]) (rest := [.ref 295, .int (1 : Int32), .ref 458]) rfl ly295 rfl rfl (ok_fM_minus sc o27.1 o28.1 o28.2 ho29) ?_
      refine tk_Ps  2 (pc' := 322) (ls' := [(4, .long s0), (0, .ref 295), (1, .ref v1), (2, .ref v2), (3, .int v3)]) (st' := [.int (3 : Int32), .ref v2, .long o29.1, .ref 295, .int (1 : Int32), .ref 458]) rfl ?_
      refine tk_HJa  rfl rfl hv2 hg25 ?_
      obtain ⟨o30, ho30, h⟩ := tk_bnd h
      refine tk_cV1  rfl rfl (r := 295) (as := [.long o29.1, .long (o29.2.2.1 v2 (tk_n (3 : Int32)))]) (rest := [.int (1 : Int32), .ref 458]) rfl ly295 rfl rfl (ok_fM_times sc o29.1 (o29.2.2.1 v2 (tk_n (3 : Int32))) o29.2 ho30) ?_
      refine tk_SJa  rfl rfl ly458 (by decide) ?_
      refine tk_Ps  1 (pc' := 328) (ls' := [(4, .long s0), (0, .ref 295), (1, .ref v1), (2, .ref v2), (3, .int v3)]) (st' := [.ref 295]) rfl ?_
      refine tk_HR  rfl rfl ly295 rt295_29 ?_
      refine tk_Ps  4 (pc' := 335) (ls' := [(4, .long s0), (0, .ref 295), (1, .ref v1), (2, .ref v2), (3, .int v3)]) (st' := [.int (3 : Int32), .ref v1, .ref 295, .int (3 : Int32), .ref 458]) rfl ?_
      obtain ⟨hg31, h⟩ := tk_grd h
      refine tk_HJa  rfl rfl hv1 hg31 ?_
      refine tk_Ps  4 (pc' := 340) (ls' := [(4, .long s0), (0, .ref 295), (1, .ref v1), (2, .ref v2), (3, .int v3)]) (st' := [.int (0 : Int32), .ref v2, .ref 295, .ref 295, .long (tk_u2 o30.2.2.1 458 1 o30.1 v1 (tk_n (3 : Int32))), .ref 295, .int (3 : Int32), .ref 458]) rfl ?_
      refine tk_HJa  rfl rfl hv2 hg18 ?_
      refine tk_Ps  2 (pc' := 343) (ls' := [(4, .long s0), (0, .ref 295), (1, .ref v1), (2, .ref v2), (3, .int v3)]) (st' := [.int (0 : Int32), .ref v2, .long (tk_u2 o30.2.2.1 458 1 o30.1 v2 (tk_n (0 : Int32))), .ref 295, .ref 295, .long (tk_u2 o30.2.2.1 458 1 o30.1 v1 (tk_n (3 : Int32))), .ref 295, .int (3 : Int32), .ref 458]) rfl ?_
      refine tk_HJa  rfl rfl hv2 hg18 ?_
      obtain ⟨o32, ho32, h⟩ := tk_bnd h
      refine tk_cV1  rfl rfl (r := 295) (as := [.long (tk_u2 o30.2.2.1 458 1 o30.1 v2 (tk_n (0 : Int32))), .long (tk_u2 o30.2.2.1 458 1 o30.1 v2 (tk_n (0 : Int32)))]) (rest := [.ref 295, .long (tk_u2 o30.2.2.1 458 1 o30.1 v1 (tk_n (3 : Int32))), .ref 295, .int (3 : Int32), .ref 458]) rfl ly295 rfl rfl (ok_fM_times sc (tk_u2 o30.2.2.1 458 1 o30.1 v2 (tk_n (0 : Int32))) (tk_u2 o30.2.2.1 458 1 o30.1 v2 (tk_n (0 : Int32))) (o30.2.1, tk_u2 o30.2.2.1 458 1 o30.1, o30.2.2.2.1, o30.2.2.2.2) ho32) ?_
      refine tk_Ps  4 (pc' := 351) (ls' := [(4, .long s0), (0, .ref 295), (1, .ref v1), (2, .ref v2), (3, .int v3)]) (st' := [.int (1 : Int32), .ref v2, .ref 295, .ref 295, .long o32.1, .ref 295, .long (tk_u2 o30.2.2.1 458 1 o30.1 v1 (tk_n (3 : Int32))), .ref 295, .int (3 : Int32), .ref 458]) rfl ?_
      refine tk_HJa  rfl rfl hv2 hg21 ?_
      refine tk_Ps  2 (pc' := 354) (ls' := [(4, .long s0), (0, .ref 295), (1, .ref v1), (2, .ref v2), (3, .int v3)]) (st' := [.int (1 : Int32), .ref v2, .long (o32.2.2.1 v2 (tk_n (1 : Int32))), .ref 295, .ref 295, .long o32.1, .ref 295, .long (tk_u2 o30.2.2.1 458 1 o30.1 v1 (tk_n (3 : Int32))), .ref 295, .int (3 : Int32), .ref 458]) rfl ?_
      refine tk_HJa  rfl rfl hv2 hg21 ?_
      obtain ⟨o33, ho33, h⟩ := tk_bnd h
      refine tk_cV1  rfl rfl (r := 295) (as := [.long (o32.2.2.1 v2 (tk_n (1 : Int32))), .long (o32.2.2.1 v2 (tk_n (1 : Int32)))]) (rest := [.ref 295, .long o32.1, .ref 295, .long (tk_u2 o30.2.2.1 458 1 o30.1 v1 (tk_n (3 : Int32))), .ref 295, .int (3 : Int32), .ref 458]) rfl ly295 rfl rfl (ok_fM_times sc (o32.2.2.1 v2 (tk_n (1 : Int32))) (o32.2.2.1 v2 (tk_n (1 : Int32))) o32.2 ho33) ?_
      refine tk_Ps  1 (pc' := 360) (ls' := [(4, .long s0), (0, .ref 295), (1, .ref v1), (2, .ref v2), (3, .int v3)]) (st' := [.long s0, .long o33.1, .ref 295, .long o32.1, .ref 295, .long (tk_u2 o30.2.2.1 458 1 o30.1 v1 (tk_n (3 : Int32))), .ref 295, .int (3 : Int32), .ref 458]) rfl ?_
      obtain ⟨o34, ho34, h⟩ := tk_bnd h
      refine tk_cV1  rfl rfl (r := 295) (as := [.long o33.1, .long s0]) (rest := [.long o32.1, .ref 295, .long (tk_u2 o30.2.2.1 458 1 o30.1 v1 (tk_n (3 : Int32))), .ref 295, .int (3 : Int32), .ref 458]) rfl ly295 rfl rfl (ok_fM_times sc o33.1 s0 o33.2 ho34) ?_
      obtain ⟨o35, ho35, h⟩ := tk_lete h
      refine tk_cV1  rfl rfl (r := 295) (as := [.long o32.1, .long o34.1]) (rest := [.long (tk_u2 o30.2.2.1 458 1 o30.1 v1 (tk_n (3 : Int32))), .ref 295, .int (3 : Int32), .ref 458]) rfl ly295 rfl rfl (ok_fM_minus sc o32.1 o34.1 o34.2 ho35) ?_
      obtain ⟨o36, ho36, h⟩ := tk_bnd h
      refine tk_cV1  rfl rfl (r := 295) (as := [.long (tk_u2 o30.2.2.1 458 1 o30.1 v1 (tk_n (3 : Int32))), .long o35.1]) (rest := [.int (3 : Int32), .ref 458]) rfl ly295 rfl rfl (ok_fM_times sc (tk_u2 o30.2.2.1 458 1 o30.1 v1 (tk_n (3 : Int32))) o35.1 o35.2 ho36) ?_
      refine tk_SJa  rfl rfl ly458 (by decide) ?_
      replace h := Option.some.inj h
      subst h
      exact tk_RV  rfl rfl rfl
  · replace h := tk_ifF hc1 h
    refine tk_bF  rfl rfl rfl (c := (2 : Int32) ≤ v3) hc1 (pc' := 32) (ls' := [(4, .long s0), (0, .ref 295), (1, .ref v1), (2, .ref v2), (3, .int v3)]) (st' := []) ?_
    refine tk_Ps  3 (pc' := 35) (ls' := [(4, .long s0), (0, .ref 295), (1, .ref v1), (2, .ref v2), (3, .int v3)]) (st' := [.int (0 : Int32), .ref v1, .ref 295]) rfl ?_
    obtain ⟨hg37, h⟩ := tk_grd h
    refine tk_HJa  rfl rfl hv1 hg37 ?_
    refine tk_Ps  2 (pc' := 38) (ls' := [(4, .long s0), (0, .ref 295), (1, .ref v1), (2, .ref v2), (3, .int v3)]) (st' := [.int (3 : Int32), .ref v2, .long (tk_u2 m.2.1 458 2 s0 v1 (tk_n (0 : Int32))), .ref 295]) rfl ?_
    obtain ⟨hg38, h⟩ := tk_grd h
    refine tk_HJa  rfl rfl hv2 hg38 ?_
    obtain ⟨o39, ho39, h⟩ := tk_bnd h
    refine tk_cV1  rfl rfl (r := 295) (as := [.long (tk_u2 m.2.1 458 2 s0 v1 (tk_n (0 : Int32))), .long (tk_u2 m.2.1 458 2 s0 v2 (tk_n (3 : Int32)))]) (rest := []) rfl ly295 rfl rfl (ok_fM_times sc (tk_u2 m.2.1 458 2 s0 v1 (tk_n (0 : Int32))) (tk_u2 m.2.1 458 2 s0 v2 (tk_n (3 : Int32))) (m.1, tk_u2 m.2.1 458 2 s0, m.2.2.1, m.2.2.2) ho39) ?_
    refine tk_Ps  4 (pc' := 47) (ls' := [(6, .long o39.1), (4, .long s0), (0, .ref 295), (1, .ref v1), (2, .ref v2), (3, .int v3)]) (st' := [.int (0 : Int32), .ref v2, .ref 295]) rfl ?_
    obtain ⟨hg40, h⟩ := tk_grd h
    refine tk_HJa  rfl rfl hv2 hg40 ?_
    refine tk_Ps  2 (pc' := 50) (ls' := [(6, .long o39.1), (4, .long s0), (0, .ref 295), (1, .ref v1), (2, .ref v2), (3, .int v3)]) (st' := [.int (3 : Int32), .ref v1, .long (o39.2.2.1 v2 (tk_n (0 : Int32))), .ref 295]) rfl ?_
    obtain ⟨hg41, h⟩ := tk_grd h
    refine tk_HJa  rfl rfl hv1 hg41 ?_
    obtain ⟨o42, ho42, h⟩ := tk_bnd h
    refine tk_cV1  rfl rfl (r := 295) (as := [.long (o39.2.2.1 v2 (tk_n (0 : Int32))), .long (o39.2.2.1 v1 (tk_n (3 : Int32)))]) (rest := []) rfl ly295 rfl rfl (ok_fM_times sc (o39.2.2.1 v2 (tk_n (0 : Int32))) (o39.2.2.1 v1 (tk_n (3 : Int32))) o39.2 ho42) ?_
    refine tk_Ps  4 (pc' := 59) (ls' := [(8, .long o42.1), (6, .long o39.1), (4, .long s0), (0, .ref 295), (1, .ref v1), (2, .ref v2), (3, .int v3)]) (st' := [.int (1 : Int32), .ref v1, .ref 295]) rfl ?_
    obtain ⟨hg43, h⟩ := tk_grd h
    refine tk_HJa  rfl rfl hv1 hg43 ?_
    refine tk_Ps  2 (pc' := 62) (ls' := [(8, .long o42.1), (6, .long o39.1), (4, .long s0), (0, .ref 295), (1, .ref v1), (2, .ref v2), (3, .int v3)]) (st' := [.int (3 : Int32), .ref v2, .long (o42.2.2.1 v1 (tk_n (1 : Int32))), .ref 295]) rfl ?_
    refine tk_HJa  rfl rfl hv2 hg38 ?_
    obtain ⟨o44, ho44, h⟩ := tk_bnd h
    refine tk_cV1  rfl rfl (r := 295) (as := [.long (o42.2.2.1 v1 (tk_n (1 : Int32))), .long (o42.2.2.1 v2 (tk_n (3 : Int32)))]) (rest := []) rfl ly295 rfl rfl (ok_fM_times sc (o42.2.2.1 v1 (tk_n (1 : Int32))) (o42.2.2.1 v2 (tk_n (3 : Int32))) o42.2 ho44) ?_
    refine tk_Ps  4 (pc' := 71) (ls' := [(10, .long o44.1), (8, .long o42.1), (6, .long o39.1), (4, .long s0), (0, .ref 295), (1, .ref v1), (2, .ref v2), (3, .int v3)]) (st' := [.int (1 : Int32), .ref v2, .ref 295]) rfl ?_
    obtain ⟨hg45, h⟩ := tk_grd h
    refine tk_HJa  rfl rfl hv2 hg45 ?_
    refine tk_Ps  2 (pc' := 74) (ls' := [(10, .long o44.1), (8, .long o42.1), (6, .long o39.1), (4, .long s0), (0, .ref 295), (1, .ref v1), (2, .ref v2), (3, .int v3)]) (st' := [.int (3 : Int32), .ref v1, .long (o44.2.2.1 v2 (tk_n (1 : Int32))), .ref 295]) rfl ?_
    refine tk_HJa  rfl rfl hv1 hg41 ?_
    obtain ⟨o46, ho46, h⟩ := tk_bnd h
    refine tk_cV1  rfl rfl (r := 295) (as := [.long (o44.2.2.1 v2 (tk_n (1 : Int32))), .long (o44.2.2.1 v1 (tk_n (3 : Int32)))]) (rest := []) rfl ly295 rfl rfl (ok_fM_times sc (o44.2.2.1 v2 (tk_n (1 : Int32))) (o44.2.2.1 v1 (tk_n (3 : Int32))) o44.2 ho46) ?_
    refine tk_Ps  2 (pc' := 81) (ls' := [(12, .long o46.1), (10, .long o44.1), (8, .long o42.1), (6, .long o39.1), (4, .long s0), (0, .ref 295), (1, .ref v1), (2, .ref v2), (3, .int v3)]) (st' := [.ref 295]) rfl ?_
    refine tk_HR  rfl rfl ly295 rt295_29 ?_
    refine tk_Ps  2 (pc' := 86) (ls' := [(12, .long o46.1), (10, .long o44.1), (8, .long o42.1), (6, .long o39.1), (4, .long s0), (0, .ref 295), (1, .ref v1), (2, .ref v2), (3, .int v3)]) (st' := [.int v3, .int (0 : Int32), .ref 458]) rfl ?_
    by_cases hc47 : v3 = 0
    · replace h := tk_ifT hc47 h
      refine tk_bT  rfl rfl rfl (c := v3 = 0) hc47 (pc' := 89) (ls' := [(12, .long o46.1), (10, .long o44.1), (8, .long o42.1), (6, .long o39.1), (4, .long s0), (0, .ref 295), (1, .ref v1), (2, .ref v2), (3, .int v3)]) (st' := [.int (0 : Int32), .ref 458]) ?_
      refine tk_Ps  3 (pc' := 94) (ls' := [(12, .long o46.1), (10, .long o44.1), (8, .long o42.1), (6, .long o39.1), (4, .long s0), (0, .ref 295), (1, .ref v1), (2, .ref v2), (3, .int v3)]) (st' := [.long o42.1, .long o39.1, .ref 295, .int (0 : Int32), .ref 458]) rfl ?_
      obtain ⟨o48, ho48, h⟩ := tk_lete h
      refine tk_cV1  rfl rfl (r := 295) (as := [.long o39.1, .long o42.1]) (rest := [.int (0 : Int32), .ref 458]) rfl ly295 rfl rfl (ok_fM_plus sc o39.1 o42.1 o46.2 ho48) ?_
      refine tk_Ps  1 (pc' := 108) (ls' := [(12, .long o46.1), (10, .long o44.1), (8, .long o42.1), (6, .long o39.1), (4, .long s0), (0, .ref 295), (1, .ref v1), (2, .ref v2), (3, .int v3)]) (st' := [.long o48.1, .int (0 : Int32), .ref 458]) rfl ?_
      refine tk_Kp  (ls' := [(0, .ref 295), (1, .ref v1), (2, .ref v2), (3, .int v3), (10, .long o44.1), (12, .long o46.1)]) rfl rfl ?_
      exact ok_fM_works_108 sc v1 v2 v3 o44.1 o46.1 o48.1 (0 : Int32) o48.2 (tk_al_of hv1) (tk_al_of hv2) _ h
    · replace h := tk_ifF hc47 h
      refine tk_bF  rfl rfl rfl (c := v3 = 0) hc47 (pc' := 100) (ls' := [(12, .long o46.1), (10, .long o44.1), (8, .long o42.1), (6, .long o39.1), (4, .long s0), (0, .ref 295), (1, .ref v1), (2, .ref v2), (3, .int v3)]) (st' := [.int (0 : Int32), .ref 458]) ?_
      refine tk_Ps  3 (pc' := 105) (ls' := [(12, .long o46.1), (10, .long o44.1), (8, .long o42.1), (6, .long o39.1), (4, .long s0), (0, .ref 295), (1, .ref v1), (2, .ref v2), (3, .int v3)]) (st' := [.long o42.1, .long o39.1, .ref 295, .int (0 : Int32), .ref 458]) rfl ?_
      obtain ⟨o49, ho49, h⟩ := tk_lete h
      refine tk_cV1  rfl rfl (r := 295) (as := [.long o39.1, .long o42.1]) (rest := [.int (0 : Int32), .ref 458]) rfl ly295 rfl rfl (ok_fM_minus sc o39.1 o42.1 o46.2 ho49) ?_
      refine tk_Kp  (ls' := [(0, .ref 295), (1, .ref v1), (2, .ref v2), (3, .int v3), (10, .long o44.1), (12, .long o46.1)]) rfl rfl ?_
      exact ok_fM_works_108 sc v1 v2 v3 o44.1 o46.1 o49.1 (0 : Int32) o49.2 (tk_al_of hv1) (tk_al_of hv2) _ h
set_option maxRecDepth 50000 in
theorem ok_fM_works (sc : tk_X) (a1 : Nat) (a2 : Nat) (a3 : Int32) (m : tk_m) (ha1 : tk_lay[a1]? = some (.inr (1, tk_al a1))) (ha2 : tk_lay[a2]? = some (.inr (1, tk_al a2))) {out : tk_m} (h : fM_works a1 a2 a3 m = some out) : tk_Ru sc 2 268 [.ref 295, .ref a1, .ref a2, .int a3] (tk_full m) (none, tk_full out) := by
  unfold fM_works at h
  refine tk_Ru0 me268 (ls := [(0, .ref 295), (1, .ref a1), (2, .ref a2), (3, .int a3)]) rfl rfl ?_
  refine tk_Ps  2 (pc' := 2) (ls' := [(0, .ref 295), (1, .ref a1), (2, .ref a2), (3, .int a3)]) (st' := [.int (1 : Int32), .ref a1]) rfl ?_
  obtain ⟨hg1, h⟩ := tk_grd h
  refine tk_HJa  rfl rfl ha1 hg1 ?_
  refine tk_Ps  2 (pc' := 5) (ls' := [(0, .ref 295), (1, .ref a1), (2, .ref a2), (3, .int a3)]) (st' := [.int (lg_cmp (m.2.1 a1 (tk_n (1 : Int32))) (0 : Int64))]) rfl ?_
  by_cases hc2 : (m.2.1 a1 (tk_n (1 : Int32))) = (0 : Int64)
  · replace h := tk_ifT hc2 h
    refine tk_bT  rfl rfl tk_eL_eq (c := (m.2.1 a1 (tk_n (1 : Int32))) = (0 : Int64)) hc2 (pc' := 14) (ls' := [(0, .ref 295), (1, .ref a1), (2, .ref a2), (3, .int a3)]) (st' := []) ?_
    refine tk_Ps  2 (pc' := 16) (ls' := [(0, .ref 295), (1, .ref a1), (2, .ref a2), (3, .int a3)]) (st' := [.int (2 : Int32), .ref a2]) rfl ?_
    obtain ⟨hg3, h⟩ := tk_grd h
    refine tk_HJa  rfl rfl ha2 hg3 ?_
    refine tk_Kp  (ls' := [(0, .ref 295), (1, .ref a1), (2, .ref a2), (3, .int a3)]) rfl rfl ?_
    exact ok_fM_works_17 sc a1 a2 a3 (m.2.1 a2 (tk_n (2 : Int32))) m (tk_al_of ha1) (tk_al_of ha2) _ h
  · replace h := tk_ifF hc2 h
    refine tk_bF  rfl rfl tk_eL_eq (c := (m.2.1 a1 (tk_n (1 : Int32))) = (0 : Int64)) hc2 (pc' := 8) (ls' := [(0, .ref 295), (1, .ref a1), (2, .ref a2), (3, .int a3)]) (st' := []) ?_
    refine tk_Ps  2 (pc' := 10) (ls' := [(0, .ref 295), (1, .ref a1), (2, .ref a2), (3, .int a3)]) (st' := [.int (2 : Int32), .ref a1]) rfl ?_
    obtain ⟨hg4, h⟩ := tk_grd h
    refine tk_HJa  rfl rfl ha1 hg4 ?_
    refine tk_Ps  1 (pc' := 17) (ls' := [(0, .ref 295), (1, .ref a1), (2, .ref a2), (3, .int a3)]) (st' := [.long (m.2.1 a1 (tk_n (2 : Int32)))]) rfl ?_
    refine tk_Kp  (ls' := [(0, .ref 295), (1, .ref a1), (2, .ref a2), (3, .int a3)]) rfl rfl ?_
    exact ok_fM_works_17 sc a1 a2 a3 (m.2.1 a1 (tk_n (2 : Int32))) m (tk_al_of ha1) (tk_al_of ha2) _ h

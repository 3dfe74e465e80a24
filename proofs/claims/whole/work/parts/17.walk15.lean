theorem ok_fM_count_73 (sc : tk_X) : ∀ (n : Nat) (v2 : Int32) (v3 : Int32) (m : tk_m) (out : Int32 × tk_m), fM_count_73 n v2 v3 m = some out → tk_Ex sc 4 tk_r282 tk_k282 73 [(0, .ref 295), (2, .int v2), (3, .int v3)] [] (tk_full m) (some (.int out.1), tk_full out.2) := by
  intro n
  induction n with
  | zero =>
    intro v2 v3 m out h
    cases h
  | succ n ih =>
    intro v2 v3 m out h
    unfold fM_count_73 at h
    refine tk_Ps  2 (pc' := 76) (ls' := [(0, .ref 295), (2, .int v2), (3, .int v3)]) (st' := [.int (6 : Int32), .int v3]) rfl ?_
    by_cases hc1 : (6 : Int32) ≤ v3
    · replace h := tk_ifT hc1 h
      refine tk_bT  rfl rfl rfl (c := (6 : Int32) ≤ v3) hc1 (pc' := 102) (ls' := [(0, .ref 295), (2, .int v2), (3, .int v3)]) (st' := []) ?_
      refine tk_Ps  1 (pc' := 103) (ls' := [(0, .ref 295), (2, .int v2), (3, .int v3)]) (st' := [.int v2]) rfl ?_
      replace h := Option.some.inj h
      subst h
      exact tk_RI  rfl rfl rfl
    · replace h := tk_ifF hc1 h
      refine tk_bF  rfl rfl rfl (c := (6 : Int32) ≤ v3) hc1 (pc' := 79) (ls' := [(0, .ref 295), (2, .int v2), (3, .int v3)]) (st' := []) ?_
      refine tk_Ps  2 (pc' := 81) (ls' := [(0, .ref 295), (2, .int v2), (3, .int v3)]) (st' := [.ref 295, .int v2]) rfl ?_
      refine tk_HR  rfl rfl ly295 rt295_27 ?_
      refine tk_Ps  1 (pc' := 85) (ls' := [(0, .ref 295), (2, .int v2), (3, .int v3)]) (st' := [.int v3, .ref 450, .int v2]) rfl ?_
      obtain ⟨hg2, h⟩ := tk_grd h
      refine tk_HBa  rfl rfl ly450 hg2 ?_
      by_cases hc3 : (m.2.2.1 450 (tk_n v3)) = true
      · replace h := tk_ifT hc3 h
        refine tk_bT  rfl rfl tk_eB_eq (c := (m.2.2.1 450 (tk_n v3)) = true) hc3 (pc' := 89) (ls' := [(0, .ref 295), (2, .int v2), (3, .int v3)]) (st' := [.int v2]) ?_
        refine tk_Ps  6 (pc' := 73) (ls' := [(3, .int (v3 + (1 : Int32))), (2, .int (v2 + (1 : Int32))), (0, .ref 295)]) (st' := []) rfl ?_
        refine tk_Kp  (ls' := [(0, .ref 295), (2, .int (v2 + (1 : Int32))), (3, .int (v3 + (1 : Int32)))]) rfl rfl ?_
        exact ih (v2 + (1 : Int32)) (v3 + (1 : Int32)) m _ h
      · replace h := tk_ifF hc3 h
        refine tk_bF  rfl rfl tk_eB_eq (c := (m.2.2.1 450 (tk_n v3)) = true) hc3 (pc' := 93) (ls' := [(0, .ref 295), (2, .int v2), (3, .int v3)]) (st' := [.int v2]) ?_
        refine tk_Ps  5 (pc' := 73) (ls' := [(3, .int (v3 + (1 : Int32))), (2, .int (v2 + (0 : Int32))), (0, .ref 295)]) (st' := []) rfl ?_
        refine tk_Kp  (ls' := [(0, .ref 295), (2, .int (v2 + (0 : Int32))), (3, .int (v3 + (1 : Int32)))]) rfl rfl ?_
        exact ih (v2 + (0 : Int32)) (v3 + (1 : Int32)) m _ h
theorem ok_fM_count (sc : tk_X) (a1 : Int32) (m : tk_m) {out : Int32 × tk_m} (h : fM_count a1 m = some out) : tk_Ru sc 5 282 [.ref 295, .int a1] (tk_full m) (some (.int out.1), tk_full out.2) := by
  unfold fM_count at h
  refine tk_Ru0 me282 (ls := [(0, .ref 295), (1, .int a1)]) rfl rfl ?_
  refine tk_Ps  3 (pc' := 3) (ls' := [(2, .int (0 : Int32)), (0, .ref 295), (1, .int a1)]) (st' := [.int a1]) rfl ?_
  by_cases hs1 : a1 = 0
  · replace h := tk_ifT hs1 h
    refine tk_sw  rfl rfl hs1 rfl (pc' := 40) (ls' := [(2, .int (0 : Int32)), (0, .ref 295), (1, .int a1)]) (st' := []) ?_
    refine tk_Ps  1 (pc' := 41) (ls' := [(2, .int (0 : Int32)), (0, .ref 295), (1, .int a1)]) (st' := [.ref 295]) rfl ?_
    refine tk_HR  rfl rfl ly295 rt295_0 ?_
    refine tk_Ps  1 (pc' := 45) (ls' := [(2, .int (0 : Int32)), (0, .ref 295), (1, .int a1)]) (st' := [.int (0 : Int32), .ref 296]) rfl ?_
    refine tk_HIa  rfl rfl ly296 (by decide) ?_
    replace h := Option.some.inj h
    subst h
    exact tk_RI  rfl rfl rfl
  replace h := tk_ifF hs1 h
  by_cases hs2 : a1 = 1
  · replace h := tk_ifT hs2 h
    refine tk_sw  rfl rfl hs2 rfl (pc' := 47) (ls' := [(2, .int (0 : Int32)), (0, .ref 295), (1, .int a1)]) (st' := []) ?_
    refine tk_Ps  2 (pc' := 49) (ls' := [(2, .int (0 : Int32)), (0, .ref 295), (1, .int a1)]) (st' := [.int (1 : Int32), .ref 295]) rfl ?_
    obtain ⟨o3, ho3, h⟩ := tk_bnd h
    refine tk_cV1  rfl rfl (r := 295) (as := [.int (1 : Int32)]) (rest := []) rfl ly295 rfl rfl (ok_fM_countOf sc (1 : Int32) m ho3) ?_
    replace h := Option.some.inj h
    subst h
    exact tk_RI  rfl rfl rfl
  replace h := tk_ifF hs2 h
  by_cases hs4 : a1 = 2
  · replace h := tk_ifT hs4 h
    refine tk_sw  rfl rfl hs4 rfl (pc' := 53) (ls' := [(2, .int (0 : Int32)), (0, .ref 295), (1, .int a1)]) (st' := []) ?_
    refine tk_Ps  2 (pc' := 55) (ls' := [(2, .int (0 : Int32)), (0, .ref 295), (1, .int a1)]) (st' := [.int (3 : Int32), .ref 295]) rfl ?_
    obtain ⟨o5, ho5, h⟩ := tk_bnd h
    refine tk_cV1  rfl rfl (r := 295) (as := [.int (3 : Int32)]) (rest := []) rfl ly295 rfl rfl (ok_fM_countOf sc (3 : Int32) m ho5) ?_
    replace h := Option.some.inj h
    subst h
    exact tk_RI  rfl rfl rfl
  replace h := tk_ifF hs4 h
  by_cases hs6 : a1 = 3
  · replace h := tk_ifT hs6 h
    refine tk_sw  rfl rfl hs6 rfl (pc' := 59) (ls' := [(2, .int (0 : Int32)), (0, .ref 295), (1, .int a1)]) (st' := []) ?_
    refine tk_Ps  1 (pc' := 60) (ls' := [(2, .int (0 : Int32)), (0, .ref 295), (1, .int a1)]) (st' := [.ref 295]) rfl ?_
    refine tk_HI  rfl rfl ly295 ?_
    replace h := Option.some.inj h
    subst h
    exact tk_RI  rfl rfl rfl
  replace h := tk_ifF hs6 h
  by_cases hs7 : a1 = 4
  · replace h := tk_ifT hs7 h
    refine tk_sw  rfl rfl hs7 rfl (pc' := 64) (ls' := [(2, .int (0 : Int32)), (0, .ref 295), (1, .int a1)]) (st' := []) ?_
    refine tk_Ps  1 (pc' := 65) (ls' := [(2, .int (0 : Int32)), (0, .ref 295), (1, .int a1)]) (st' := [.ref 295]) rfl ?_
    refine tk_HR  rfl rfl ly295 rt295_0 ?_
    refine tk_Ps  1 (pc' := 69) (ls' := [(2, .int (0 : Int32)), (0, .ref 295), (1, .int a1)]) (st' := [.int (4 : Int32), .ref 296]) rfl ?_
    refine tk_HIa  rfl rfl ly296 (by decide) ?_
    replace h := Option.some.inj h
    subst h
    exact tk_RI  rfl rfl rfl
  replace h := tk_ifF hs7 h
  by_cases hs8 : a1 = 5
  · replace h := tk_ifT hs8 h
    refine tk_sw  rfl rfl hs8 rfl (pc' := 71) (ls' := [(2, .int (0 : Int32)), (0, .ref 295), (1, .int a1)]) (st' := []) ?_
    refine tk_Ps  2 (pc' := 73) (ls' := [(3, .int (0 : Int32)), (2, .int (0 : Int32)), (0, .ref 295), (1, .int a1)]) (st' := []) rfl ?_
    refine tk_Kp  (ls' := [(0, .ref 295), (2, .int (0 : Int32)), (3, .int (0 : Int32))]) rfl rfl ?_
    exact ok_fM_count_73 sc tk_F (0 : Int32) (0 : Int32) m _ h
  replace h := tk_ifF hs8 h
  refine tk_swD  rfl rfl (tk_swo_0_5 hs1 hs2 hs4 hs6 hs7 hs8) rfl rfl (pc' := 104) (ls' := [(2, .int (0 : Int32)), (0, .ref 295), (1, .int a1)]) (st' := []) ?_
  refine tk_Ps  2 (pc' := 106) (ls' := [(2, .int (0 : Int32)), (0, .ref 295), (1, .int a1)]) (st' := [.int (0 : Int32), .ref 295]) rfl ?_
  obtain ⟨o9, ho9, h⟩ := tk_bnd h
  refine tk_cV1  rfl rfl (r := 295) (as := [.int (0 : Int32)]) (rest := []) rfl ly295 rfl rfl (ok_fM_finds sc (0 : Int32) m ho9) ?_
  replace h := Option.some.inj h
  subst h
  exact tk_RI  rfl rfl rfl
theorem ok_fM_status_24 (sc : tk_X) : ∀ (n : Nat) (v1 : Int32) (v2 : Int32) (v3 : Int32) (m : tk_m) (out : Int32 × tk_m), fM_status_24 n v1 v2 v3 m = some out → tk_Ex sc 1 tk_r284 tk_k284 24 [(0, .ref 295), (1, .int v1), (2, .int v2), (3, .int v3)] [] (tk_full m) (some (.int out.1), tk_full out.2) := by
  intro n
  induction n with
  | zero =>
    intro v1 v2 v3 m out h
    cases h
  | succ n ih =>
    intro v1 v2 v3 m out h
    unfold fM_status_24 at h
    refine tk_Ps  2 (pc' := 27) (ls' := [(0, .ref 295), (1, .int v1), (2, .int v2), (3, .int v3)]) (st' := [.int (8 : Int32), .int v3]) rfl ?_
    by_cases hc1 : (8 : Int32) ≤ v3
    · replace h := tk_ifT hc1 h
      refine tk_bT  rfl rfl rfl (c := (8 : Int32) ≤ v3) hc1 (pc' := 58) (ls' := [(0, .ref 295), (1, .int v1), (2, .int v2), (3, .int v3)]) (st' := []) ?_
      refine tk_Ps  1 (pc' := 59) (ls' := [(0, .ref 295), (1, .int v1), (2, .int v2), (3, .int v3)]) (st' := [.int v2]) rfl ?_
      replace h := Option.some.inj h
      subst h
      exact tk_RI  rfl rfl rfl
    · replace h := tk_ifF hc1 h
      refine tk_bF  rfl rfl rfl (c := (8 : Int32) ≤ v3) hc1 (pc' := 30) (ls' := [(0, .ref 295), (1, .int v1), (2, .int v2), (3, .int v3)]) (st' := []) ?_
      refine tk_Ps  2 (pc' := 32) (ls' := [(0, .ref 295), (1, .int v1), (2, .int v2), (3, .int v3)]) (st' := [.int v1, .int v2]) rfl ?_
      by_cases hc2 : v1 < 0
      · replace h := tk_ifT hc2 h
        refine tk_bT  rfl rfl rfl (c := v1 < 0) hc2 (pc' := 40) (ls' := [(0, .ref 295), (1, .int v1), (2, .int v2), (3, .int v3)]) (st' := [.int v2]) ?_
        refine tk_Ps  1 (pc' := 41) (ls' := [(0, .ref 295), (1, .int v1), (2, .int v2), (3, .int v3)]) (st' := [.ref 295, .int v2]) rfl ?_
        refine tk_HR  rfl rfl ly295 rt295_3 ?_
        refine tk_Ps  1 (pc' := 45) (ls' := [(0, .ref 295), (1, .int v1), (2, .int v2), (3, .int v3)]) (st' := [.int v3, .ref 306, .int v2]) rfl ?_
        obtain ⟨hg3, h⟩ := tk_grd h
        refine tk_HIa  rfl rfl ly306 hg3 ?_
        refine tk_Ps  5 (pc' := 24) (ls' := [(3, .int (v3 + (1 : Int32))), (2, .int (v2 + (m.1 306 (tk_n v3)))), (0, .ref 295), (1, .int v1)]) (st' := []) rfl ?_
        refine tk_Kp  (ls' := [(0, .ref 295), (1, .int v1), (2, .int (v2 + (m.1 306 (tk_n v3)))), (3, .int (v3 + (1 : Int32)))]) rfl rfl ?_
        exact ih v1 (v2 + (m.1 306 (tk_n v3))) (v3 + (1 : Int32)) m _ h
      · replace h := tk_ifF hc2 h
        refine tk_bF  rfl rfl rfl (c := v1 < 0) hc2 (pc' := 35) (ls' := [(0, .ref 295), (1, .int v1), (2, .int v2), (3, .int v3)]) (st' := [.int v2]) ?_
        refine tk_Ps  2 (pc' := 37) (ls' := [(0, .ref 295), (1, .int v1), (2, .int v2), (3, .int v3)]) (st' := [.int v3, .int v1, .int v2]) rfl ?_
        by_cases hc4 : v1 = v3
        · replace h := tk_ifT hc4 h
          refine tk_bT  rfl rfl rfl (c := v1 = v3) hc4 (pc' := 40) (ls' := [(0, .ref 295), (1, .int v1), (2, .int v2), (3, .int v3)]) (st' := [.int v2]) ?_
          refine tk_Ps  1 (pc' := 41) (ls' := [(0, .ref 295), (1, .int v1), (2, .int v2), (3, .int v3)]) (st' := [.ref 295, .int v2]) rfl ?_
          refine tk_HR  rfl rfl ly295 rt295_3 ?_
          refine tk_Ps  1 (pc' := 45) (ls' := [(0, .ref 295), (1, .int v1), (2, .int v2), (3, .int v3)]) (st' := [.int v3, .ref 306, .int v2]) rfl ?_
          obtain ⟨hg5, h⟩ := tk_grd h
          refine tk_HIa  rfl rfl ly306 hg5 ?_
          refine tk_Ps  5 (pc' := 24) (ls' := [(3, .int (v3 + (1 : Int32))), (2, .int (v2 + (m.1 306 (tk_n v3)))), (0, .ref 295), (1, .int v1)]) (st' := []) rfl ?_
          refine tk_Kp  (ls' := [(0, .ref 295), (1, .int v1), (2, .int (v2 + (m.1 306 (tk_n v3)))), (3, .int (v3 + (1 : Int32)))]) rfl rfl ?_
          exact ih v1 (v2 + (m.1 306 (tk_n v3))) (v3 + (1 : Int32)) m _ h
        · replace h := tk_ifF hc4 h
          refine tk_bF  rfl rfl rfl (c := v1 = v3) hc4 (pc' := 49) (ls' := [(0, .ref 295), (1, .int v1), (2, .int v2), (3, .int v3)]) (st' := [.int v2]) ?_
          refine tk_Ps  5 (pc' := 24) (ls' := [(3, .int (v3 + (1 : Int32))), (2, .int (v2 + (0 : Int32))), (0, .ref 295), (1, .int v1)]) (st' := []) rfl ?_
          refine tk_Kp  (ls' := [(0, .ref 295), (1, .int v1), (2, .int (v2 + (0 : Int32))), (3, .int (v3 + (1 : Int32)))]) rfl rfl ?_
          exact ih v1 (v2 + (0 : Int32)) (v3 + (1 : Int32)) m _ h
theorem ok_fM_status (sc : tk_X) (a1 : Int32) (m : tk_m) {out : Int32 × tk_m} (h : fM_status a1 m = some out) : tk_Ru sc 2 284 [.ref 295, .int a1] (tk_full m) (some (.int out.1), tk_full out.2) := by
  unfold fM_status at h
  refine tk_Ru0 me284 (ls := [(0, .ref 295), (1, .int a1)]) rfl rfl ?_
  refine tk_Ps  4 (pc' := 8) (ls' := [(0, .ref 295), (1, .int a1)]) (st' := [.long (7 : Int64), .long (-1 : Int64), .long (Int32.toInt64 a1)]) rfl ?_
  refine tk_cS1  rfl rfl (as := [.long (Int32.toInt64 a1), .long (-1 : Int64), .long (7 : Int64)]) (rest := []) rfl rfl rfl (ok_fM_in sc (Int32.toInt64 a1) (-1 : Int64) (7 : Int64) m) ?_
  by_cases hc1 : (fM_in (Int32.toInt64 a1) (-1 : Int64) (7 : Int64)) = true
  · replace h := tk_ifT hc1 h
    refine tk_bT  rfl rfl tk_eB_ne (c := (fM_in (Int32.toInt64 a1) (-1 : Int64) (7 : Int64)) = true) hc1 (pc' := 20) (ls' := [(0, .ref 295), (1, .int a1)]) (st' := []) ?_
    refine tk_Ps  4 (pc' := 24) (ls' := [(3, .int (0 : Int32)), (2, .int (0 : Int32)), (0, .ref 295), (1, .int a1)]) (st' := []) rfl ?_
    refine tk_Kp  (ls' := [(0, .ref 295), (1, .int a1), (2, .int (0 : Int32)), (3, .int (0 : Int32))]) rfl rfl ?_
    exact ok_fM_status_24 sc tk_F a1 (0 : Int32) (0 : Int32) m _ h
  · replace h := tk_ifF hc1 h
    refine tk_bF  rfl rfl tk_eB_ne (c := (fM_in (Int32.toInt64 a1) (-1 : Int64) (7 : Int64)) = true) hc1 (pc' := 14) (ls' := [(0, .ref 295), (1, .int a1)]) (st' := []) ?_
    refine tk_Ps  2 (pc' := 16) (ls' := [(0, .ref 295), (1, .int a1)]) (st' := [.int (0 : Int32), .ref 295]) rfl ?_
    obtain ⟨o2, ho2, h⟩ := tk_bnd h
    refine tk_cV1  rfl rfl (r := 295) (as := [.int (0 : Int32)]) (rest := []) rfl ly295 rfl rfl (ok_fM_finds sc (0 : Int32) m ho2) ?_
    replace h := Option.some.inj h
    subst h
    exact tk_RI  rfl rfl rfl

theorem ok_fM_answers_v_85 (sc : tk_X) (r17 : Int32 → Int32 → tk_m → Option tk_m) (H17 : ∀ (v1 : Int32) (v2 : Int32) (m : tk_m) (out : tk_m), r17 v1 v2 m = some out → tk_Ex sc 7 tk_r213 tk_k213 17 [(0, .ref 295), (1, .int v1), (2, .int v2)] [] (tk_full m) (none, tk_full out)) (v1 : Int32) (v2 : Int32) (m : tk_m) (out : tk_m) (h : fM_answers_v_85 r17 v1 v2 m = some out) : tk_Ex sc 7 tk_r213 tk_k213 85 [(0, .ref 295), (1, .int v1), (2, .int v2)] [] (tk_full m) (none, tk_full out) := by
  unfold fM_answers_v_85 at h
  refine tk_Ps  1 (pc' := 86) (ls' := [(0, .ref 295), (1, .int v1), (2, .int v2)]) (st' := [.int v1]) rfl ?_
  by_cases hc1 : 0 ≤ v1
  · replace h := tk_ifT hc1 h
    refine tk_bT  rfl rfl rfl (c := 0 ≤ v1) hc1 (pc' := 97) (ls' := [(0, .ref 295), (1, .int v1), (2, .int v2)]) (st' := []) ?_
    refine tk_Ps  3 (pc' := 100) (ls' := [(0, .ref 295), (1, .int v1), (2, .int v2)]) (st' := [.int v1, .int v2, .ref 295]) rfl ?_
    obtain ⟨o2, ho2, h⟩ := tk_bnd h
    refine tk_cV0  rfl rfl (r := 295) (as := [.int v2, .int v1]) (rest := []) rfl ly295 rfl rfl (ok_fM_byLine sc v2 v1 m ho2) ?_
    refine tk_Ps  2 (pc' := 17) (ls' := [(2, .int (v2 + (1 : Int32))), (0, .ref 295), (1, .int v1)]) (st' := []) rfl ?_
    refine tk_Kp  (ls' := [(0, .ref 295), (1, .int v1), (2, .int (v2 + (1 : Int32)))]) rfl rfl ?_
    exact H17 v1 (v2 + (1 : Int32)) o2 _ h
  · replace h := tk_ifF hc1 h
    refine tk_bF  rfl rfl rfl (c := 0 ≤ v1) hc1 (pc' := 89) (ls' := [(0, .ref 295), (1, .int v1), (2, .int v2)]) (st' := []) ?_
    refine tk_Ps  2 (pc' := 91) (ls' := [(0, .ref 295), (1, .int v1), (2, .int v2)]) (st' := [.int v2, .ref 295]) rfl ?_
    obtain ⟨o3, ho3, h⟩ := tk_bnd h
    refine tk_cV0  rfl rfl (r := 295) (as := [.int v2]) (rest := []) rfl ly295 rfl rfl (ok_fM_byFirst sc v2 m ho3) ?_
    refine tk_Ps  3 (pc' := 17) (ls' := [(2, .int (v2 + (1 : Int32))), (0, .ref 295), (1, .int v1)]) (st' := []) rfl ?_
    refine tk_Kp  (ls' := [(0, .ref 295), (1, .int v1), (2, .int (v2 + (1 : Int32)))]) rfl rfl ?_
    exact H17 v1 (v2 + (1 : Int32)) o3 _ h
theorem ok_fM_answers_v_41 (sc : tk_X) (r17 : Int32 → Int32 → tk_m → Option tk_m) (H17 : ∀ (v1 : Int32) (v2 : Int32) (m : tk_m) (out : tk_m), r17 v1 v2 m = some out → tk_Ex sc 7 tk_r213 tk_k213 17 [(0, .ref 295), (1, .int v1), (2, .int v2)] [] (tk_full m) (none, tk_full out)) : ∀ (n : Nat) (v1 : Int32) (v2 : Int32) (v3 : Int32) (m : tk_m) (out : tk_m), fM_answers_v_41 r17 n v1 v2 v3 m = some out → tk_Ex sc 7 tk_r213 tk_k213 41 [(0, .ref 295), (1, .int v1), (2, .int v2), (3, .int v3)] [] (tk_full m) (none, tk_full out) := by
  intro n
  induction n with
  | zero =>
    intro v1 v2 v3 m out h
    cases h
  | succ n ih =>
    intro v1 v2 v3 m out h
    unfold fM_answers_v_41 at h
    refine tk_Ps  2 (pc' := 43) (ls' := [(0, .ref 295), (1, .int v1), (2, .int v2), (3, .int v3)]) (st' := [.int (3 : Int32), .int v3]) rfl ?_
    by_cases hc1 : (3 : Int32) ≤ v3
    · replace h := tk_ifT hc1 h
      refine tk_bT  rfl rfl rfl (c := (3 : Int32) ≤ v3) hc1 (pc' := 85) (ls' := [(0, .ref 295), (1, .int v1), (2, .int v2), (3, .int v3)]) (st' := []) ?_
      refine tk_Kp  (ls' := [(0, .ref 295), (1, .int v1), (2, .int v2)]) rfl rfl ?_
      exact ok_fM_answers_v_85 sc r17 H17 v1 v2 m _ h
    · replace h := tk_ifF hc1 h
      refine tk_bF  rfl rfl rfl (c := (3 : Int32) ≤ v3) hc1 (pc' := 46) (ls' := [(0, .ref 295), (1, .int v1), (2, .int v2), (3, .int v3)]) (st' := []) ?_
      refine tk_Ps  3 (pc' := 49) (ls' := [(0, .ref 295), (1, .int v1), (2, .int v2), (3, .int v3)]) (st' := [.int v3, .ref 295, .ref 295]) rfl ?_
      obtain ⟨o2, ho2, h⟩ := tk_bnd h
      refine tk_cV1  rfl rfl (r := 295) (as := [.int v3]) (rest := [.ref 295]) rfl ly295 rfl rfl (ok_fM_three_I sc v3 m ho2) ?_
      obtain ⟨o3, ho3, h⟩ := tk_bnd h
      refine tk_cV1  rfl rfl (r := 295) (as := [.int o2]) (rest := []) rfl ly295 rfl rfl (ok_fM_isRound sc o2 m ho3) ?_
      by_cases hc4 : o3 = true
      · replace h := tk_ifT hc4 h
        refine tk_bT  rfl rfl tk_eB_ne (c := o3 = true) hc4 (pc' := 67) (ls' := [(0, .ref 295), (1, .int v1), (2, .int v2), (3, .int v3)]) (st' := []) ?_
        refine tk_Ps  2 (pc' := 69) (ls' := [(0, .ref 295), (1, .int v1), (2, .int v2), (3, .int v3)]) (st' := [.int v1, .int v3]) rfl ?_
        by_cases hc5 : v3 = v1
        · replace h := tk_ifT hc5 h
          refine tk_bT  rfl rfl rfl (c := v3 = v1) hc5 (pc' := 79) (ls' := [(0, .ref 295), (1, .int v1), (2, .int v2), (3, .int v3)]) (st' := []) ?_
          refine tk_Ps  2 (pc' := 41) (ls' := [(3, .int (v3 + (1 : Int32))), (0, .ref 295), (1, .int v1), (2, .int v2)]) (st' := []) rfl ?_
          refine tk_Kp  (ls' := [(0, .ref 295), (1, .int v1), (2, .int v2), (3, .int (v3 + (1 : Int32)))]) rfl rfl ?_
          exact ih v1 v2 (v3 + (1 : Int32)) m _ h
        · replace h := tk_ifF hc5 h
          refine tk_bF  rfl rfl rfl (c := v3 = v1) hc5 (pc' := 72) (ls' := [(0, .ref 295), (1, .int v1), (2, .int v2), (3, .int v3)]) (st' := []) ?_
          refine tk_Ps  4 (pc' := 76) (ls' := [(0, .ref 295), (1, .int v1), (2, .int v2), (3, .int v3)]) (st' := [.int v1, .int v3, .int v2, .ref 295]) rfl ?_
          obtain ⟨o6, ho6, h⟩ := tk_bnd h
          refine tk_cV0  rfl rfl (r := 295) (as := [.int v2, .int v3, .int v1]) (rest := []) rfl ly295 rfl rfl (ok_fM_takesRound sc v2 v3 v1 m ho6) ?_
          refine tk_Ps  2 (pc' := 41) (ls' := [(3, .int (v3 + (1 : Int32))), (0, .ref 295), (1, .int v1), (2, .int v2)]) (st' := []) rfl ?_
          refine tk_Kp  (ls' := [(0, .ref 295), (1, .int v1), (2, .int v2), (3, .int (v3 + (1 : Int32)))]) rfl rfl ?_
          exact ih v1 v2 (v3 + (1 : Int32)) o6 _ h
      · replace h := tk_ifF hc4 h
        refine tk_bF  rfl rfl tk_eB_ne (c := o3 = true) hc4 (pc' := 58) (ls' := [(0, .ref 295), (1, .int v1), (2, .int v2), (3, .int v3)]) (st' := []) ?_
        refine tk_Ps  3 (pc' := 61) (ls' := [(0, .ref 295), (1, .int v1), (2, .int v2), (3, .int v3)]) (st' := [.int v3, .int v2, .ref 295]) rfl ?_
        obtain ⟨o7, ho7, h⟩ := tk_bnd h
        refine tk_cV0  rfl rfl (r := 295) (as := [.int v2, .int v3]) (rest := []) rfl ly295 rfl rfl (ok_fM_takesStraight sc v2 v3 m ho7) ?_
        refine tk_Ps  3 (pc' := 41) (ls' := [(3, .int (v3 + (1 : Int32))), (0, .ref 295), (1, .int v1), (2, .int v2)]) (st' := []) rfl ?_
        refine tk_Kp  (ls' := [(0, .ref 295), (1, .int v1), (2, .int v2), (3, .int (v3 + (1 : Int32)))]) rfl rfl ?_
        exact ih v1 v2 (v3 + (1 : Int32)) o7 _ h
theorem ok_fM_answers_v_17 (sc : tk_X) : ∀ (n : Nat) (v1 : Int32) (v2 : Int32) (m : tk_m) (out : tk_m), fM_answers_v_17 n v1 v2 m = some out → tk_Ex sc 7 tk_r213 tk_k213 17 [(0, .ref 295), (1, .int v1), (2, .int v2)] [] (tk_full m) (none, tk_full out) := by
  intro n
  induction n with
  | zero =>
    intro v1 v2 m out h
    cases h
  | succ n ih =>
    intro v1 v2 m out h
    unfold fM_answers_v_17 at h
    refine tk_Ps  2 (pc' := 20) (ls' := [(0, .ref 295), (1, .int v1), (2, .int v2)]) (st' := [.int (8 : Int32), .int v2]) rfl ?_
    by_cases hc1 : (8 : Int32) ≤ v2
    · replace h := tk_ifT hc1 h
      refine tk_bT  rfl rfl rfl (c := (8 : Int32) ≤ v2) hc1 (pc' := 109) (ls' := [(0, .ref 295), (1, .int v1), (2, .int v2)]) (st' := []) ?_
      replace h := Option.some.inj h
      subst h
      exact tk_RV  rfl rfl rfl
    · replace h := tk_ifF hc1 h
      refine tk_bF  rfl rfl rfl (c := (8 : Int32) ≤ v2) hc1 (pc' := 23) (ls' := [(0, .ref 295), (1, .int v1), (2, .int v2)]) (st' := []) ?_
      refine tk_Ps  2 (pc' := 25) (ls' := [(0, .ref 295), (1, .int v1), (2, .int v2)]) (st' := [.int v2, .ref 295]) rfl ?_
      obtain ⟨o2, ho2, h⟩ := tk_bnd h
      refine tk_cV1  rfl rfl (r := 295) (as := [.int v2]) (rest := []) rfl ly295 rfl rfl (ok_fM_doCount sc v2 m ho2) ?_
      by_cases hc3 : o2 = true
      · replace h := tk_ifT hc3 h
        refine tk_bT  rfl rfl tk_eB_ne (c := o2 = true) hc3 (pc' := 34) (ls' := [(0, .ref 295), (1, .int v1), (2, .int v2)]) (st' := []) ?_
        refine tk_Ps  2 (pc' := 36) (ls' := [(0, .ref 295), (1, .int v1), (2, .int v2)]) (st' := [.int (0 : Int32), .ref 295]) rfl ?_
        refine tk_SI  rfl rfl ly295 ?_
        refine tk_Ps  2 (pc' := 41) (ls' := [(3, .int (0 : Int32)), (0, .ref 295), (1, .int v1), (2, .int v2)]) (st' := []) rfl ?_
        refine tk_Kp  (ls' := [(0, .ref 295), (1, .int v1), (2, .int v2), (3, .int (0 : Int32))]) rfl rfl ?_
        exact ok_fM_answers_v_41 sc (fM_answers_v_17 n) ih tk_F v1 v2 (0 : Int32) (tk_u2 m.1 295 16 (0 : Int32), m.2.1, m.2.2.1, m.2.2.2) _ h
      · replace h := tk_ifF hc3 h
        refine tk_bF  rfl rfl tk_eB_ne (c := o2 = true) hc3 (pc' := 31) (ls' := [(0, .ref 295), (1, .int v1), (2, .int v2)]) (st' := []) ?_
        refine tk_Ps  3 (pc' := 17) (ls' := [(2, .int (v2 + (1 : Int32))), (0, .ref 295), (1, .int v1)]) (st' := []) rfl ?_
        refine tk_Kp  (ls' := [(0, .ref 295), (1, .int v1), (2, .int (v2 + (1 : Int32)))]) rfl rfl ?_
        exact ih v1 (v2 + (1 : Int32)) m _ h
theorem ok_fM_answers_v (sc : tk_X) (m : tk_m) {out : tk_m} (h : fM_answers_v m = some out) : tk_Ru sc 8 213 [.ref 295] (tk_full m) (none, tk_full out) := by
  unfold fM_answers_v at h
  refine tk_Ru0 me213 (ls := [(0, .ref 295)]) rfl rfl ?_
  refine tk_Ps  2 (pc' := 2) (ls' := [(0, .ref 295)]) (st' := [.int (0 : Int32), .ref 295]) rfl ?_
  refine tk_SI  rfl rfl ly295 ?_
  refine tk_Ps  2 (pc' := 7) (ls' := [(0, .ref 295)]) (st' := [.int (0 : Int32), .ref 295]) rfl ?_
  refine tk_SI  rfl rfl ly295 ?_
  refine tk_Ps  1 (pc' := 11) (ls' := [(0, .ref 295)]) (st' := [.ref 295]) rfl ?_
  obtain ⟨o1, ho1, h⟩ := tk_bnd h
  refine tk_cV1  rfl rfl (r := 295) (as := []) (rest := []) rfl ly295 rfl rfl (ok_fM_stays sc (tk_u2 (tk_u2 m.1 295 10 (0 : Int32)) 295 11 (0 : Int32), m.2.1, m.2.2.1, m.2.2.2) ho1) ?_
  refine tk_Ps  3 (pc' := 17) (ls' := [(2, .int (0 : Int32)), (1, .int o1), (0, .ref 295)]) (st' := []) rfl ?_
  refine tk_Kp  (ls' := [(0, .ref 295), (1, .int o1), (2, .int (0 : Int32))]) rfl rfl ?_
  exact ok_fM_answers_v_17 sc tk_F o1 (0 : Int32) (tk_u2 (tk_u2 m.1 295 10 (0 : Int32)) 295 11 (0 : Int32), m.2.1, m.2.2.1, m.2.2.2) _ h
theorem ok_fM_answers_I_64 (sc : tk_X) (v1 : Int32) (v2 : Int32) (m : tk_m) (out : Int32 × tk_m) (h : fM_answers_I_64 v1 v2 m = some out) : tk_Ex sc 8 tk_r211 tk_k211 64 [(0, .ref 295), (1, .int v1), (2, .int v2)] [] (tk_full m) (some (.int out.1), tk_full out.2) := by
  unfold fM_answers_I_64 at h
  refine tk_Ps  1 (pc' := 65) (ls' := [(0, .ref 295), (1, .int v1), (2, .int v2)]) (st' := [.int v1]) rfl ?_
  by_cases hc1 : v1 = 0
  · replace h := tk_ifT hc1 h
    refine tk_bT  rfl rfl rfl (c := v1 = 0) hc1 (pc' := 68) (ls' := [(0, .ref 295), (1, .int v1), (2, .int v2)]) (st' := []) ?_
    refine tk_Ps  1 (pc' := 69) (ls' := [(0, .ref 295), (1, .int v1), (2, .int v2)]) (st' := [.ref 295]) rfl ?_
    refine tk_HI  rfl rfl ly295 ?_
    refine tk_Ps  1 (pc' := 88) (ls' := [(0, .ref 295), (1, .int v1), (2, .int v2)]) (st' := [.int (m.1 295 10)]) rfl ?_
    replace h := Option.some.inj h
    subst h
    exact tk_RI  rfl rfl rfl
  · replace h := tk_ifF hc1 h
    refine tk_bF  rfl rfl rfl (c := v1 = 0) hc1 (pc' := 75) (ls' := [(0, .ref 295), (1, .int v1), (2, .int v2)]) (st' := []) ?_
    refine tk_Ps  2 (pc' := 77) (ls' := [(0, .ref 295), (1, .int v1), (2, .int v2)]) (st' := [.int (1 : Int32), .int v1]) rfl ?_
    by_cases hc2 : v1 = (1 : Int32)
    · replace h := tk_ifT hc2 h
      refine tk_bT  rfl rfl rfl (c := v1 = (1 : Int32)) hc2 (pc' := 80) (ls' := [(0, .ref 295), (1, .int v1), (2, .int v2)]) (st' := []) ?_
      refine tk_Ps  1 (pc' := 81) (ls' := [(0, .ref 295), (1, .int v1), (2, .int v2)]) (st' := [.ref 295]) rfl ?_
      refine tk_HI  rfl rfl ly295 ?_
      refine tk_Ps  1 (pc' := 88) (ls' := [(0, .ref 295), (1, .int v1), (2, .int v2)]) (st' := [.int (m.1 295 11)]) rfl ?_
      replace h := Option.some.inj h
      subst h
      exact tk_RI  rfl rfl rfl
    · replace h := tk_ifF hc2 h
      refine tk_bF  rfl rfl rfl (c := v1 = (1 : Int32)) hc2 (pc' := 87) (ls' := [(0, .ref 295), (1, .int v1), (2, .int v2)]) (st' := []) ?_
      refine tk_Ps  1 (pc' := 88) (ls' := [(0, .ref 295), (1, .int v1), (2, .int v2)]) (st' := [.int v2]) rfl ?_
      replace h := Option.some.inj h
      subst h
      exact tk_RI  rfl rfl rfl
theorem ok_fM_answers_I_39 (sc : tk_X) : ∀ (n : Nat) (v1 : Int32) (v2 : Int32) (v3 : Int32) (m : tk_m) (out : Int32 × tk_m), fM_answers_I_39 n v1 v2 v3 m = some out → tk_Ex sc 8 tk_r211 tk_k211 39 [(0, .ref 295), (1, .int v1), (2, .int v2), (3, .int v3)] [] (tk_full m) (some (.int out.1), tk_full out.2) := by
  intro n
  induction n with
  | zero =>
    intro v1 v2 v3 m out h
    cases h
  | succ n ih =>
    intro v1 v2 v3 m out h
    unfold fM_answers_I_39 at h
    refine tk_Ps  2 (pc' := 41) (ls' := [(0, .ref 295), (1, .int v1), (2, .int v2), (3, .int v3)]) (st' := [.ref 295, .int v3]) rfl ?_
    refine tk_HI  rfl rfl ly295 ?_
    by_cases hc1 : (m.1 295 10) ≤ v3
    · replace h := tk_ifT hc1 h
      refine tk_bT  rfl rfl rfl (c := (m.1 295 10) ≤ v3) hc1 (pc' := 64) (ls' := [(0, .ref 295), (1, .int v1), (2, .int v2), (3, .int v3)]) (st' := []) ?_
      refine tk_Kp  (ls' := [(0, .ref 295), (1, .int v1), (2, .int v2)]) rfl rfl ?_
      exact ok_fM_answers_I_64 sc v1 v2 m _ h
    · replace h := tk_ifF hc1 h
      refine tk_bF  rfl rfl rfl (c := (m.1 295 10) ≤ v3) hc1 (pc' := 47) (ls' := [(0, .ref 295), (1, .int v1), (2, .int v2), (3, .int v3)]) (st' := []) ?_
      refine tk_Ps  3 (pc' := 50) (ls' := [(0, .ref 295), (1, .int v1), (2, .int v2), (3, .int v3)]) (st' := [.ref 295, .int (1 : Int32), .int v2]) rfl ?_
      refine tk_HR  rfl rfl ly295 rt295_12 ?_
      refine tk_Ps  1 (pc' := 54) (ls' := [(0, .ref 295), (1, .int v1), (2, .int v2), (3, .int v3)]) (st' := [.int v3, .ref 349, .int (1 : Int32), .int v2]) rfl ?_
      obtain ⟨hg2, h⟩ := tk_grd h
      refine tk_HIa  rfl rfl ly349 hg2 ?_
      refine tk_Ps  5 (pc' := 39) (ls' := [(3, .int (v3 + (1 : Int32))), (2, .int (v2 ||| (tk_ishl (1 : Int32) (m.1 349 (tk_n v3))))), (0, .ref 295), (1, .int v1)]) (st' := []) rfl ?_
      refine tk_Kp  (ls' := [(0, .ref 295), (1, .int v1), (2, .int (v2 ||| (tk_ishl (1 : Int32) (m.1 349 (tk_n v3))))), (3, .int (v3 + (1 : Int32)))]) rfl rfl ?_
      exact ih v1 (v2 ||| (tk_ishl (1 : Int32) (m.1 349 (tk_n v3)))) (v3 + (1 : Int32)) m _ h
theorem ok_fM_answers_I (sc : tk_X) (a1 : Int32) (m : tk_m) {out : Int32 × tk_m} (h : fM_answers_I a1 m = some out) : tk_Ru sc 9 211 [.ref 295, .int a1] (tk_full m) (some (.int out.1), tk_full out.2) := by
  unfold fM_answers_I at h
  refine tk_Ru0 me211 (ls := [(0, .ref 295), (1, .int a1)]) rfl rfl ?_
  refine tk_Ps  4 (pc' := 6) (ls' := [(0, .ref 295), (1, .int a1)]) (st' := [.long (2 : Int64), .long (0 : Int64), .long (Int32.toInt64 a1)]) rfl ?_
  refine tk_cS1  rfl rfl (as := [.long (Int32.toInt64 a1), .long (0 : Int64), .long (2 : Int64)]) (rest := []) rfl rfl rfl (ok_fM_in sc (Int32.toInt64 a1) (0 : Int64) (2 : Int64) m) ?_
  by_cases hc1 : (fM_in (Int32.toInt64 a1) (0 : Int64) (2 : Int64)) = true
  · replace h := tk_ifT hc1 h
    refine tk_bT  rfl rfl tk_eB_ne (c := (fM_in (Int32.toInt64 a1) (0 : Int64) (2 : Int64)) = true) hc1 (pc' := 18) (ls' := [(0, .ref 295), (1, .int a1)]) (st' := []) ?_
    refine tk_Ps  1 (pc' := 19) (ls' := [(0, .ref 295), (1, .int a1)]) (st' := [.ref 295]) rfl ?_
    refine tk_cV1  rfl rfl (r := 295) (as := []) (rest := []) rfl ly295 rfl rfl (ok_fM_areThere sc m) ?_
    by_cases hc2 : (fM_areThere m) = true
    · replace h := tk_ifT hc2 h
      refine tk_bT  rfl rfl tk_eB_ne (c := (fM_areThere m) = true) hc2 (pc' := 31) (ls' := [(0, .ref 295), (1, .int a1)]) (st' := []) ?_
      refine tk_Ps  1 (pc' := 32) (ls' := [(0, .ref 295), (1, .int a1)]) (st' := [.ref 295]) rfl ?_
      obtain ⟨o3, ho3, h⟩ := tk_bnd h
      refine tk_cV0  rfl rfl (r := 295) (as := []) (rest := []) rfl ly295 rfl rfl (ok_fM_answers_v sc m ho3) ?_
      refine tk_Ps  4 (pc' := 39) (ls' := [(3, .int (0 : Int32)), (2, .int (0 : Int32)), (0, .ref 295), (1, .int a1)]) (st' := []) rfl ?_
      refine tk_Kp  (ls' := [(0, .ref 295), (1, .int a1), (2, .int (0 : Int32)), (3, .int (0 : Int32))]) rfl rfl ?_
      exact ok_fM_answers_I_39 sc tk_F a1 (0 : Int32) (0 : Int32) o3 _ h
    · replace h := tk_ifF hc2 h
      refine tk_bF  rfl rfl tk_eB_ne (c := (fM_areThere m) = true) hc2 (pc' := 25) (ls' := [(0, .ref 295), (1, .int a1)]) (st' := []) ?_
      refine tk_Ps  2 (pc' := 27) (ls' := [(0, .ref 295), (1, .int a1)]) (st' := [.int (4 : Int32), .ref 295]) rfl ?_
      obtain ⟨o4, ho4, h⟩ := tk_bnd h
      refine tk_cV1  rfl rfl (r := 295) (as := [.int (4 : Int32)]) (rest := []) rfl ly295 rfl rfl (ok_fM_finds sc (4 : Int32) m ho4) ?_
      replace h := Option.some.inj h
      subst h
      exact tk_RI  rfl rfl rfl
  · replace h := tk_ifF hc1 h
    refine tk_bF  rfl rfl tk_eB_ne (c := (fM_in (Int32.toInt64 a1) (0 : Int64) (2 : Int64)) = true) hc1 (pc' := 12) (ls' := [(0, .ref 295), (1, .int a1)]) (st' := []) ?_
    refine tk_Ps  2 (pc' := 14) (ls' := [(0, .ref 295), (1, .int a1)]) (st' := [.int (0 : Int32), .ref 295]) rfl ?_
    obtain ⟨o5, ho5, h⟩ := tk_bnd h
    refine tk_cV1  rfl rfl (r := 295) (as := [.int (0 : Int32)]) (rest := []) rfl ly295 rfl rfl (ok_fM_finds sc (0 : Int32) m ho5) ?_
    replace h := Option.some.inj h
    subst h
    exact tk_RI  rfl rfl rfl
theorem ok_fM_whyNot (sc : tk_X) (a1 : Int32) (m : tk_m) {out : Int32 × tk_m} (h : fM_whyNot a1 m = some out) : tk_Ru sc 9 243 [.ref 295, .int a1] (tk_full m) (some (.int out.1), tk_full out.2) := by
  unfold fM_whyNot at h
  refine tk_Ru0 me243 (ls := [(0, .ref 295), (1, .int a1)]) rfl rfl ?_
  refine tk_Ps  1 (pc' := 1) (ls' := [(0, .ref 295), (1, .int a1)]) (st' := [.ref 295]) rfl ?_
  refine tk_cV1  rfl rfl (r := 295) (as := []) (rest := []) rfl ly295 rfl rfl (ok_fM_areThere sc m) ?_
  by_cases hc1 : (fM_areThere m) = true
  · replace h := tk_ifT hc1 h
    refine tk_bT  rfl rfl tk_eB_ne (c := (fM_areThere m) = true) hc1 (pc' := 9) (ls' := [(0, .ref 295), (1, .int a1)]) (st' := []) ?_
    refine tk_Ps  1 (pc' := 10) (ls' := [(0, .ref 295), (1, .int a1)]) (st' := [.ref 295]) rfl ?_
    obtain ⟨o2, ho2, h⟩ := tk_bnd h
    refine tk_cV0  rfl rfl (r := 295) (as := []) (rest := []) rfl ly295 rfl rfl (ok_fM_answers_v sc m ho2) ?_
    refine tk_Ps  4 (pc' := 17) (ls' := [(0, .ref 295), (1, .int a1)]) (st' := [.ref 295, .long (0 : Int64), .long (Int32.toInt64 a1)]) rfl ?_
    refine tk_HI  rfl rfl ly295 ?_
    refine tk_Ps  3 (pc' := 23) (ls' := [(0, .ref 295), (1, .int a1)]) (st' := [.long (Int32.toInt64 ((o2.1 295 10) - (1 : Int32))), .long (0 : Int64), .long (Int32.toInt64 a1)]) rfl ?_
    refine tk_cS1  rfl rfl (as := [.long (Int32.toInt64 a1), .long (0 : Int64), .long (Int32.toInt64 ((o2.1 295 10) - (1 : Int32)))]) (rest := []) rfl rfl rfl (ok_fM_in sc (Int32.toInt64 a1) (0 : Int64) (Int32.toInt64 ((o2.1 295 10) - (1 : Int32))) o2) ?_
    by_cases hc3 : (fM_in (Int32.toInt64 a1) (0 : Int64) (Int32.toInt64 ((o2.1 295 10) - (1 : Int32)))) = true
    · replace h := tk_ifT hc3 h
      refine tk_bT  rfl rfl tk_eB_eq (c := (fM_in (Int32.toInt64 a1) (0 : Int64) (Int32.toInt64 ((o2.1 295 10) - (1 : Int32)))) = true) hc3 (pc' := 29) (ls' := [(0, .ref 295), (1, .int a1)]) (st' := []) ?_
      refine tk_Ps  2 (pc' := 34) (ls' := [(0, .ref 295), (1, .int a1)]) (st' := [.int (-1 : Int32)]) rfl ?_
      replace h := Option.some.inj h
      subst h
      exact tk_RI  rfl rfl rfl
    · replace h := tk_ifF hc3 h
      refine tk_bF  rfl rfl tk_eB_eq (c := (fM_in (Int32.toInt64 a1) (0 : Int64) (Int32.toInt64 ((o2.1 295 10) - (1 : Int32)))) = true) hc3 (pc' := 33) (ls' := [(0, .ref 295), (1, .int a1)]) (st' := []) ?_
      refine tk_Ps  1 (pc' := 34) (ls' := [(0, .ref 295), (1, .int a1)]) (st' := [.int (3 : Int32)]) rfl ?_
      replace h := Option.some.inj h
      subst h
      exact tk_RI  rfl rfl rfl
  · replace h := tk_ifF hc1 h
    refine tk_bF  rfl rfl tk_eB_ne (c := (fM_areThere m) = true) hc1 (pc' := 7) (ls' := [(0, .ref 295), (1, .int a1)]) (st' := []) ?_
    refine tk_Ps  1 (pc' := 8) (ls' := [(0, .ref 295), (1, .int a1)]) (st' := [.int (4 : Int32)]) rfl ?_
    replace h := Option.some.inj h
    subst h
    exact tk_RI  rfl rfl rfl
theorem ok_fM_signs (sc : tk_X) (a1 : Int32) (m : tk_m) {out : Int32 × tk_m} (h : fM_signs a1 m = some out) : tk_Ru sc 10 242 [.ref 295, .int a1] (tk_full m) (some (.int out.1), tk_full out.2) := by
  unfold fM_signs at h
  refine tk_Ru0 me242 (ls := [(0, .ref 295), (1, .int a1)]) rfl rfl ?_
  refine tk_Ps  2 (pc' := 2) (ls' := [(0, .ref 295), (1, .int a1)]) (st' := [.int a1, .ref 295]) rfl ?_
  obtain ⟨o1, ho1, h⟩ := tk_bnd h
  refine tk_cV1  rfl rfl (r := 295) (as := [.int a1]) (rest := []) rfl ly295 rfl rfl (ok_fM_whyNot sc a1 m ho1) ?_
  refine tk_Ps  2 (pc' := 7) (ls' := [(2, .int o1.1), (0, .ref 295), (1, .int a1)]) (st' := [.int o1.1]) rfl ?_
  by_cases hc2 : 0 ≤ o1.1
  · replace h := tk_ifT hc2 h
    refine tk_bT  rfl rfl rfl (c := 0 ≤ o1.1) hc2 (pc' := 19) (ls' := [(2, .int o1.1), (0, .ref 295), (1, .int a1)]) (st' := []) ?_
    refine tk_Ps  2 (pc' := 21) (ls' := [(2, .int o1.1), (0, .ref 295), (1, .int a1)]) (st' := [.int o1.1, .ref 295]) rfl ?_
    obtain ⟨o3, ho3, h⟩ := tk_bnd h
    refine tk_cV1  rfl rfl (r := 295) (as := [.int o1.1]) (rest := []) rfl ly295 rfl rfl (ok_fM_finds sc o1.1 o1.2 ho3) ?_
    replace h := Option.some.inj h
    subst h
    exact tk_RI  rfl rfl rfl
  · replace h := tk_ifF hc2 h
    refine tk_bF  rfl rfl rfl (c := 0 ≤ o1.1) hc2 (pc' := 10) (ls' := [(2, .int o1.1), (0, .ref 295), (1, .int a1)]) (st' := []) ?_
    refine tk_Ps  1 (pc' := 11) (ls' := [(2, .int o1.1), (0, .ref 295), (1, .int a1)]) (st' := [.ref 295]) rfl ?_
    refine tk_HR  rfl rfl ly295 rt295_12 ?_
    refine tk_Ps  1 (pc' := 15) (ls' := [(2, .int o1.1), (0, .ref 295), (1, .int a1)]) (st' := [.int a1, .ref 349]) rfl ?_
    obtain ⟨hg4, h⟩ := tk_grd h
    refine tk_HIa  rfl rfl ly349 hg4 ?_
    refine tk_Ps  1 (pc' := 24) (ls' := [(2, .int o1.1), (0, .ref 295), (1, .int a1)]) (st' := [.int (o1.2.1 349 (tk_n a1))]) rfl ?_
    replace h := Option.some.inj h
    subst h
    exact tk_RI  rfl rfl rfl
theorem ok_fM_findsLong (sc : tk_X) (a1 : Int32) (m : tk_m) {out : Int64 × tk_m} (h : fM_findsLong a1 m = some out) : tk_Ru sc 1 245 [.ref 295, .int a1] (tk_full m) (some (.long out.1), tk_full out.2) := by
  unfold fM_findsLong at h
  refine tk_Ru0 me245 (ls := [(0, .ref 295), (1, .int a1)]) rfl rfl ?_
  refine tk_Ps  1 (pc' := 1) (ls' := [(0, .ref 295), (1, .int a1)]) (st' := [.ref 295]) rfl ?_
  refine tk_HR  rfl rfl ly295 rt295_3 ?_
  refine tk_Ps  2 (pc' := 6) (ls' := [(0, .ref 295), (1, .int a1)]) (st' := [.int a1, .ref 306, .int a1, .ref 306]) rfl ?_
  obtain ⟨hg1, h⟩ := tk_grd h
  refine tk_HIa  rfl rfl ly306 hg1 ?_
  refine tk_Ps  2 (pc' := 9) (ls' := [(0, .ref 295), (1, .int a1)]) (st' := [.int ((m.1 306 (tk_n a1)) + (1 : Int32)), .int a1, .ref 306]) rfl ?_
  refine tk_SIa  rfl rfl ly306 hg1 ?_
  refine tk_Ps  4 (pc' := 16) (ls' := [(0, .ref 295), (1, .int a1)]) (st' := [.long ((-4000000000000000001 : Int64) - (Int32.toInt64 a1))]) rfl ?_
  replace h := Option.some.inj h
  subst h
  exact tk_RJ  rfl rfl rfl
theorem ok_fM_answer (sc : tk_X) (a1 : Int32) (a2 : Int32) (a3 : Int32) (m : tk_m) {out : Int64 × tk_m} (h : fM_answer a1 a2 a3 m = some out) : tk_Ru sc 10 244 [.ref 295, .int a1, .int a2, .int a3] (tk_full m) (some (.long out.1), tk_full out.2) := by
  unfold fM_answer at h
  refine tk_Ru0 me244 (ls := [(0, .ref 295), (1, .int a1), (2, .int a2), (3, .int a3)]) rfl rfl ?_
  refine tk_Ps  4 (pc' := 6) (ls' := [(0, .ref 295), (1, .int a1), (2, .int a2), (3, .int a3)]) (st' := [.long (2 : Int64), .long (0 : Int64), .long (Int32.toInt64 a2)]) rfl ?_
  refine tk_cS1  rfl rfl (as := [.long (Int32.toInt64 a2), .long (0 : Int64), .long (2 : Int64)]) (rest := []) rfl rfl rfl (ok_fM_in sc (Int32.toInt64 a2) (0 : Int64) (2 : Int64) m) ?_
  by_cases hc1 : (fM_in (Int32.toInt64 a2) (0 : Int64) (2 : Int64)) = true
  · replace h := tk_ifT hc1 h
    refine tk_bT  rfl rfl tk_eB_eq (c := (fM_in (Int32.toInt64 a2) (0 : Int64) (2 : Int64)) = true) hc1 (pc' := 12) (ls' := [(0, .ref 295), (1, .int a1), (2, .int a2), (3, .int a3)]) (st' := []) ?_
    refine tk_Ps  4 (pc' := 18) (ls' := [(0, .ref 295), (1, .int a1), (2, .int a2), (3, .int a3)]) (st' := [.long (3 : Int64), .long (0 : Int64), .long (Int32.toInt64 a3)]) rfl ?_
    refine tk_cS1  rfl rfl (as := [.long (Int32.toInt64 a3), .long (0 : Int64), .long (3 : Int64)]) (rest := []) rfl rfl rfl (ok_fM_in sc (Int32.toInt64 a3) (0 : Int64) (3 : Int64) m) ?_
    by_cases hc2 : (fM_in (Int32.toInt64 a3) (0 : Int64) (3 : Int64)) = true
    · replace h := tk_ifT hc2 h
      refine tk_bT  rfl rfl tk_eB_ne (c := (fM_in (Int32.toInt64 a3) (0 : Int64) (3 : Int64)) = true) hc2 (pc' := 30) (ls' := [(0, .ref 295), (1, .int a1), (2, .int a2), (3, .int a3)]) (st' := []) ?_
      refine tk_Ps  2 (pc' := 32) (ls' := [(0, .ref 295), (1, .int a1), (2, .int a2), (3, .int a3)]) (st' := [.int a1, .ref 295]) rfl ?_
      obtain ⟨o3, ho3, h⟩ := tk_bnd h
      refine tk_cV1  rfl rfl (r := 295) (as := [.int a1]) (rest := []) rfl ly295 rfl rfl (ok_fM_whyNot sc a1 m ho3) ?_
      refine tk_Ps  2 (pc' := 39) (ls' := [(4, .int o3.1), (0, .ref 295), (1, .int a1), (2, .int a2), (3, .int a3)]) (st' := [.int o3.1]) rfl ?_
      by_cases hc4 : 0 ≤ o3.1
      · replace h := tk_ifT hc4 h
        refine tk_bT  rfl rfl rfl (c := 0 ≤ o3.1) hc4 (pc' := 55) (ls' := [(4, .int o3.1), (0, .ref 295), (1, .int a1), (2, .int a2), (3, .int a3)]) (st' := []) ?_
        refine tk_Ps  2 (pc' := 58) (ls' := [(4, .int o3.1), (0, .ref 295), (1, .int a1), (2, .int a2), (3, .int a3)]) (st' := [.int o3.1, .ref 295]) rfl ?_
        obtain ⟨o5, ho5, h⟩ := tk_bnd h
        refine tk_cV1  rfl rfl (r := 295) (as := [.int o3.1]) (rest := []) rfl ly295 rfl rfl (ok_fM_findsLong sc o3.1 o3.2 ho5) ?_
        replace h := Option.some.inj h
        subst h
        exact tk_RJ  rfl rfl rfl
      · replace h := tk_ifF hc4 h
        refine tk_bF  rfl rfl rfl (c := 0 ≤ o3.1) hc4 (pc' := 42) (ls' := [(4, .int o3.1), (0, .ref 295), (1, .int a1), (2, .int a2), (3, .int a3)]) (st' := []) ?_
        refine tk_Ps  1 (pc' := 43) (ls' := [(4, .int o3.1), (0, .ref 295), (1, .int a1), (2, .int a2), (3, .int a3)]) (st' := [.ref 295]) rfl ?_
        refine tk_HR  rfl rfl ly295 rt295_13 ?_
        refine tk_Ps  1 (pc' := 47) (ls' := [(4, .int o3.1), (0, .ref 295), (1, .int a1), (2, .int a2), (3, .int a3)]) (st' := [.int a1, .ref 350]) rfl ?_
        obtain ⟨hg6, h⟩ := tk_grd h
        refine tk_HQ  rfl rfl ly350 hg6 (la350 _ (hg6).2).1 ?_
        refine tk_Ps  1 (pc' := 49) (ls' := [(4, .int o3.1), (0, .ref 295), (1, .int a1), (2, .int a2), (3, .int a3)]) (st' := [.int a2, .ref (351 + 4 * (tk_n a1))]) rfl ?_
        obtain ⟨hg7, h⟩ := tk_grd h
        refine tk_HQ  rfl rfl ((la350 _ (hg6).2).2) hg7 (lbR _ ((hg6).2) _ (hg7).2).1 ?_
        refine tk_Ps  1 (pc' := 51) (ls' := [(4, .int o3.1), (0, .ref 295), (1, .int a1), (2, .int a2), (3, .int a3)]) (st' := [.int a3, .ref ((351 + 4 * (tk_n a1)) + 1 + (tk_n a2))]) rfl ?_
        obtain ⟨hg8, h⟩ := tk_grd h
        refine tk_HJa  rfl rfl ((lbR _ ((hg6).2) _ (hg7).2).2) hg8 ?_
        refine tk_Ps  1 (pc' := 61) (ls' := [(4, .int o3.1), (0, .ref 295), (1, .int a1), (2, .int a2), (3, .int a3)]) (st' := [.long (o3.2.2.1 ((351 + 4 * (tk_n a1)) + 1 + (tk_n a2)) (tk_n a3))]) rfl ?_
        replace h := Option.some.inj h
        subst h
        exact tk_RJ  rfl rfl rfl
    · replace h := tk_ifF hc2 h
      refine tk_bF  rfl rfl tk_eB_ne (c := (fM_in (Int32.toInt64 a3) (0 : Int64) (3 : Int64)) = true) hc2 (pc' := 24) (ls' := [(0, .ref 295), (1, .int a1), (2, .int a2), (3, .int a3)]) (st' := []) ?_
      refine tk_Ps  2 (pc' := 26) (ls' := [(0, .ref 295), (1, .int a1), (2, .int a2), (3, .int a3)]) (st' := [.int (0 : Int32), .ref 295]) rfl ?_
      obtain ⟨o9, ho9, h⟩ := tk_bnd h
      refine tk_cV1  rfl rfl (r := 295) (as := [.int (0 : Int32)]) (rest := []) rfl ly295 rfl rfl (ok_fM_findsLong sc (0 : Int32) m ho9) ?_
      replace h := Option.some.inj h
      subst h
      exact tk_RJ  rfl rfl rfl
  · replace h := tk_ifF hc1 h
    refine tk_bF  rfl rfl tk_eB_eq (c := (fM_in (Int32.toInt64 a2) (0 : Int64) (2 : Int64)) = true) hc1 (pc' := 24) (ls' := [(0, .ref 295), (1, .int a1), (2, .int a2), (3, .int a3)]) (st' := []) ?_
    refine tk_Ps  2 (pc' := 26) (ls' := [(0, .ref 295), (1, .int a1), (2, .int a2), (3, .int a3)]) (st' := [.int (0 : Int32), .ref 295]) rfl ?_
    obtain ⟨o10, ho10, h⟩ := tk_bnd h
    refine tk_cV1  rfl rfl (r := 295) (as := [.int (0 : Int32)]) (rest := []) rfl ly295 rfl rfl (ok_fM_findsLong sc (0 : Int32) m ho10) ?_
    replace h := Option.some.inj h
    subst h
    exact tk_RJ  rfl rfl rfl
theorem ok_fM_best_37 (sc : tk_X) : ∀ (n : Nat) (v1 : Int32) (v3 : Int32) (v4 : Int32) (m : tk_m) (out : Int32 × tk_m), fM_best_37 n v1 v3 v4 m = some out → tk_Ex sc 9 tk_r246 tk_k246 37 [(0, .ref 295), (1, .int v1), (3, .int v3), (4, .int v4)] [] (tk_full m) (some (.int out.1), tk_full out.2) := by
  intro n
  induction n with
  | zero =>
    intro v1 v3 v4 m out h
    cases h
  | succ n ih =>
    intro v1 v3 v4 m out h
    unfold fM_best_37 at h
    refine tk_Ps  2 (pc' := 40) (ls' := [(0, .ref 295), (1, .int v1), (3, .int v3), (4, .int v4)]) (st' := [.ref 295, .int v4]) rfl ?_
    refine tk_HI  rfl rfl ly295 ?_
    by_cases hc1 : (m.1 295 10) ≤ v4
    · replace h := tk_ifT hc1 h
      refine tk_bT  rfl rfl rfl (c := (m.1 295 10) ≤ v4) hc1 (pc' := 99) (ls' := [(0, .ref 295), (1, .int v1), (3, .int v3), (4, .int v4)]) (st' := []) ?_
      refine tk_Ps  1 (pc' := 100) (ls' := [(0, .ref 295), (1, .int v1), (3, .int v3), (4, .int v4)]) (st' := [.int v3]) rfl ?_
      replace h := Option.some.inj h
      subst h
      exact tk_RI  rfl rfl rfl
    · replace h := tk_ifF hc1 h
      refine tk_bF  rfl rfl rfl (c := (m.1 295 10) ≤ v4) hc1 (pc' := 46) (ls' := [(0, .ref 295), (1, .int v1), (3, .int v3), (4, .int v4)]) (st' := []) ?_
      refine tk_Ps  2 (pc' := 48) (ls' := [(0, .ref 295), (1, .int v1), (3, .int v3), (4, .int v4)]) (st' := [.ref 295, .ref 295]) rfl ?_
      refine tk_HR  rfl rfl ly295 rt295_13 ?_
      refine tk_Ps  1 (pc' := 53) (ls' := [(0, .ref 295), (1, .int v1), (3, .int v3), (4, .int v4)]) (st' := [.int v4, .ref 350, .ref 295]) rfl ?_
      obtain ⟨hg2, h⟩ := tk_grd h
      refine tk_HQ  rfl rfl ly350 hg2 (la350 _ (hg2).2).1 ?_
      refine tk_Ps  1 (pc' := 55) (ls' := [(0, .ref 295), (1, .int v1), (3, .int v3), (4, .int v4)]) (st' := [.int (2 : Int32), .ref (351 + 4 * (tk_n v4)), .ref 295]) rfl ?_
      refine tk_HQ  rfl rfl ((la350 _ (hg2).2).2) (by decide) (lbR _ ((hg2).2) 2 (by decide)).1 ?_
      refine tk_Ps  1 (pc' := 57) (ls' := [(0, .ref 295), (1, .int v1), (3, .int v3), (4, .int v4)]) (st' := [.ref 295, .ref ((351 + 4 * (tk_n v4)) + 1 + 2), .ref 295]) rfl ?_
      refine tk_HR  rfl rfl ly295 rt295_13 ?_
      refine tk_Ps  1 (pc' := 61) (ls' := [(0, .ref 295), (1, .int v1), (3, .int v3), (4, .int v4)]) (st' := [.int v3, .ref 350, .ref ((351 + 4 * (tk_n v4)) + 1 + 2), .ref 295]) rfl ?_
      obtain ⟨hg3, h⟩ := tk_grd h
      refine tk_HQ  rfl rfl ly350 hg3 (la350 _ (hg3).2).1 ?_
      refine tk_Ps  1 (pc' := 63) (ls' := [(0, .ref 295), (1, .int v1), (3, .int v3), (4, .int v4)]) (st' := [.int (2 : Int32), .ref (351 + 4 * (tk_n v3)), .ref ((351 + 4 * (tk_n v4)) + 1 + 2), .ref 295]) rfl ?_
      refine tk_HQ  rfl rfl ((la350 _ (hg3).2).2) (by decide) (lbR _ ((hg3).2) 2 (by decide)).1 ?_
      obtain ⟨o4, ho4, h⟩ := tk_bnd h
      refine tk_cV1  rfl rfl (r := 295) (as := [.ref ((351 + 4 * (tk_n v4)) + 1 + 2), .ref ((351 + 4 * (tk_n v3)) + 1 + 2)]) (rest := []) rfl ly295 rfl rfl (ok_fM_compares sc ((351 + 4 * (tk_n v4)) + 1 + 2) ((351 + 4 * (tk_n v3)) + 1 + 2) m (tk_al_of ((lbR _ ((hg2).2) 2 (by decide)).2)) (tk_al_of ((lbR _ ((hg3).2) 2 (by decide)).2)) ho4) ?_
      refine tk_Ps  2 (pc' := 70) (ls' := [(5, .int o4.1), (0, .ref 295), (1, .int v1), (3, .int v3), (4, .int v4)]) (st' := [.int v1]) rfl ?_
      by_cases hc5 : v1 = 0
      · replace h := tk_ifT hc5 h
        refine tk_bT  rfl rfl rfl (c := v1 = 0) hc5 (pc' := 73) (ls' := [(5, .int o4.1), (0, .ref 295), (1, .int v1), (3, .int v3), (4, .int v4)]) (st' := []) ?_
        refine tk_Ps  1 (pc' := 75) (ls' := [(5, .int o4.1), (0, .ref 295), (1, .int v1), (3, .int v3), (4, .int v4)]) (st' := [.int o4.1]) rfl ?_
        by_cases hc6 : o4.1 ≤ 0
        · replace h := tk_ifT hc6 h
          refine tk_bT  rfl rfl rfl (c := o4.1 ≤ 0) hc6 (pc' := 91) (ls' := [(5, .int o4.1), (0, .ref 295), (1, .int v1), (3, .int v3), (4, .int v4)]) (st' := []) ?_
          refine tk_Ps  4 (pc' := 37) (ls' := [(4, .int (v4 + (1 : Int32))), (3, .int v3), (5, .int o4.1), (0, .ref 295), (1, .int v1)]) (st' := []) rfl ?_
          refine tk_Kp  (ls' := [(0, .ref 295), (1, .int v1), (3, .int v3), (4, .int (v4 + (1 : Int32)))]) rfl rfl ?_
          exact ih v1 v3 (v4 + (1 : Int32)) o4.2 _ h
        · replace h := tk_ifF hc6 h
          refine tk_bF  rfl rfl rfl (c := o4.1 ≤ 0) hc6 (pc' := 78) (ls' := [(5, .int o4.1), (0, .ref 295), (1, .int v1), (3, .int v3), (4, .int v4)]) (st' := []) ?_
          refine tk_Ps  6 (pc' := 37) (ls' := [(4, .int (v4 + (1 : Int32))), (3, .int v4), (5, .int o4.1), (0, .ref 295), (1, .int v1)]) (st' := []) rfl ?_
          refine tk_Kp  (ls' := [(0, .ref 295), (1, .int v1), (3, .int v4), (4, .int (v4 + (1 : Int32)))]) rfl rfl ?_
          exact ih v1 v4 (v4 + (1 : Int32)) o4.2 _ h
      · replace h := tk_ifF hc5 h
        refine tk_bF  rfl rfl rfl (c := v1 = 0) hc5 (pc' := 81) (ls' := [(5, .int o4.1), (0, .ref 295), (1, .int v1), (3, .int v3), (4, .int v4)]) (st' := []) ?_
        refine tk_Ps  1 (pc' := 83) (ls' := [(5, .int o4.1), (0, .ref 295), (1, .int v1), (3, .int v3), (4, .int v4)]) (st' := [.int o4.1]) rfl ?_
        by_cases hc7 : 0 ≤ o4.1
        · replace h := tk_ifT hc7 h
          refine tk_bT  rfl rfl rfl (c := 0 ≤ o4.1) hc7 (pc' := 91) (ls' := [(5, .int o4.1), (0, .ref 295), (1, .int v1), (3, .int v3), (4, .int v4)]) (st' := []) ?_
          refine tk_Ps  4 (pc' := 37) (ls' := [(4, .int (v4 + (1 : Int32))), (3, .int v3), (5, .int o4.1), (0, .ref 295), (1, .int v1)]) (st' := []) rfl ?_
          refine tk_Kp  (ls' := [(0, .ref 295), (1, .int v1), (3, .int v3), (4, .int (v4 + (1 : Int32)))]) rfl rfl ?_
          exact ih v1 v3 (v4 + (1 : Int32)) o4.2 _ h
        · replace h := tk_ifF hc7 h
          refine tk_bF  rfl rfl rfl (c := 0 ≤ o4.1) hc7 (pc' := 86) (ls' := [(5, .int o4.1), (0, .ref 295), (1, .int v1), (3, .int v3), (4, .int v4)]) (st' := []) ?_
          refine tk_Ps  5 (pc' := 37) (ls' := [(4, .int (v4 + (1 : Int32))), (3, .int v4), (5, .int o4.1), (0, .ref 295), (1, .int v1)]) (st' := []) rfl ?_
          refine tk_Kp  (ls' := [(0, .ref 295), (1, .int v1), (3, .int v4), (4, .int (v4 + (1 : Int32)))]) rfl rfl ?_
          exact ih v1 v4 (v4 + (1 : Int32)) o4.2 _ h
theorem ok_fM_best (sc : tk_X) (a1 : Int32) (m : tk_m) {out : Int32 × tk_m} (h : fM_best a1 m = some out) : tk_Ru sc 10 246 [.ref 295, .int a1] (tk_full m) (some (.int out.1), tk_full out.2) := by
  unfold fM_best at h
  refine tk_Ru0 me246 (ls := [(0, .ref 295), (1, .int a1)]) rfl rfl ?_
  refine tk_Ps  4 (pc' := 4) (ls' := [(0, .ref 295), (1, .int a1)]) (st' := [.long (1 : Int64), .long (0 : Int64), .long (Int32.toInt64 a1)]) rfl ?_
  refine tk_cS1  rfl rfl (as := [.long (Int32.toInt64 a1), .long (0 : Int64), .long (1 : Int64)]) (rest := []) rfl rfl rfl (ok_fM_in sc (Int32.toInt64 a1) (0 : Int64) (1 : Int64) m) ?_
  by_cases hc1 : (fM_in (Int32.toInt64 a1) (0 : Int64) (1 : Int64)) = true
  · replace h := tk_ifT hc1 h
    refine tk_bT  rfl rfl tk_eB_ne (c := (fM_in (Int32.toInt64 a1) (0 : Int64) (1 : Int64)) = true) hc1 (pc' := 16) (ls' := [(0, .ref 295), (1, .int a1)]) (st' := []) ?_
    refine tk_Ps  2 (pc' := 18) (ls' := [(0, .ref 295), (1, .int a1)]) (st' := [.int (0 : Int32), .ref 295]) rfl ?_
    obtain ⟨o2, ho2, h⟩ := tk_bnd h
    refine tk_cV1  rfl rfl (r := 295) (as := [.int (0 : Int32)]) (rest := []) rfl ly295 rfl rfl (ok_fM_whyNot sc (0 : Int32) m ho2) ?_
    refine tk_Ps  2 (pc' := 23) (ls' := [(2, .int o2.1), (0, .ref 295), (1, .int a1)]) (st' := [.int o2.1]) rfl ?_
    by_cases hc3 : o2.1 < 0
    · replace h := tk_ifT hc3 h
      refine tk_bT  rfl rfl rfl (c := o2.1 < 0) hc3 (pc' := 32) (ls' := [(2, .int o2.1), (0, .ref 295), (1, .int a1)]) (st' := []) ?_
      refine tk_Ps  4 (pc' := 37) (ls' := [(4, .int (1 : Int32)), (3, .int (0 : Int32)), (2, .int o2.1), (0, .ref 295), (1, .int a1)]) (st' := []) rfl ?_
      refine tk_Kp  (ls' := [(0, .ref 295), (1, .int a1), (3, .int (0 : Int32)), (4, .int (1 : Int32))]) rfl rfl ?_
      exact ok_fM_best_37 sc tk_F a1 (0 : Int32) (1 : Int32) o2.2 _ h
    · replace h := tk_ifF hc3 h
      refine tk_bF  rfl rfl rfl (c := o2.1 < 0) hc3 (pc' := 26) (ls' := [(2, .int o2.1), (0, .ref 295), (1, .int a1)]) (st' := []) ?_
      refine tk_Ps  2 (pc' := 28) (ls' := [(2, .int o2.1), (0, .ref 295), (1, .int a1)]) (st' := [.int o2.1, .ref 295]) rfl ?_
      obtain ⟨o4, ho4, h⟩ := tk_bnd h
      refine tk_cV1  rfl rfl (r := 295) (as := [.int o2.1]) (rest := []) rfl ly295 rfl rfl (ok_fM_finds sc o2.1 o2.2 ho4) ?_
      replace h := Option.some.inj h
      subst h
      exact tk_RI  rfl rfl rfl
  · replace h := tk_ifF hc1 h
    refine tk_bF  rfl rfl tk_eB_ne (c := (fM_in (Int32.toInt64 a1) (0 : Int64) (1 : Int64)) = true) hc1 (pc' := 10) (ls' := [(0, .ref 295), (1, .int a1)]) (st' := []) ?_
    refine tk_Ps  2 (pc' := 12) (ls' := [(0, .ref 295), (1, .int a1)]) (st' := [.int (0 : Int32), .ref 295]) rfl ?_
    obtain ⟨o5, ho5, h⟩ := tk_bnd h
    refine tk_cV1  rfl rfl (r := 295) (as := [.int (0 : Int32)]) (rest := []) rfl ly295 rfl rfl (ok_fM_finds sc (0 : Int32) m ho5) ?_
    replace h := Option.some.inj h
    subst h
    exact tk_RI  rfl rfl rfl
theorem ok_fM_rank_21 (sc : tk_X) : ∀ (n : Nat) (v1 : Int32) (v3 : Int32) (v4 : Int32) (m : tk_m) (out : Int32 × tk_m), fM_rank_21 n v1 v3 v4 m = some out → tk_Ex sc 9 tk_r247 tk_k247 21 [(0, .ref 295), (1, .int v1), (3, .int v3), (4, .int v4)] [] (tk_full m) (some (.int out.1), tk_full out.2) := by
  intro n
  induction n with
  | zero =>
    intro v1 v3 v4 m out h
    cases h
  | succ n ih =>
    intro v1 v3 v4 m out h
    unfold fM_rank_21 at h
    refine tk_Ps  2 (pc' := 24) (ls' := [(0, .ref 295), (1, .int v1), (3, .int v3), (4, .int v4)]) (st' := [.ref 295, .int v4]) rfl ?_
    refine tk_HI  rfl rfl ly295 ?_
    by_cases hc1 : (m.1 295 10) ≤ v4
    · replace h := tk_ifT hc1 h
      refine tk_bT  rfl rfl rfl (c := (m.1 295 10) ≤ v4) hc1 (pc' := 68) (ls' := [(0, .ref 295), (1, .int v1), (3, .int v3), (4, .int v4)]) (st' := []) ?_
      refine tk_Ps  1 (pc' := 69) (ls' := [(0, .ref 295), (1, .int v1), (3, .int v3), (4, .int v4)]) (st' := [.int v3]) rfl ?_
      replace h := Option.some.inj h
      subst h
      exact tk_RI  rfl rfl rfl
    · replace h := tk_ifF hc1 h
      refine tk_bF  rfl rfl rfl (c := (m.1 295 10) ≤ v4) hc1 (pc' := 30) (ls' := [(0, .ref 295), (1, .int v1), (3, .int v3), (4, .int v4)]) (st' := []) ?_
      refine tk_Ps  3 (pc' := 33) (ls' := [(0, .ref 295), (1, .int v1), (3, .int v3), (4, .int v4)]) (st' := [.ref 295, .ref 295, .int v3]) rfl ?_
      refine tk_HR  rfl rfl ly295 rt295_13 ?_
      refine tk_Ps  1 (pc' := 38) (ls' := [(0, .ref 295), (1, .int v1), (3, .int v3), (4, .int v4)]) (st' := [.int v4, .ref 350, .ref 295, .int v3]) rfl ?_
      obtain ⟨hg2, h⟩ := tk_grd h
      refine tk_HQ  rfl rfl ly350 hg2 (la350 _ (hg2).2).1 ?_
      refine tk_Ps  1 (pc' := 40) (ls' := [(0, .ref 295), (1, .int v1), (3, .int v3), (4, .int v4)]) (st' := [.int (2 : Int32), .ref (351 + 4 * (tk_n v4)), .ref 295, .int v3]) rfl ?_
      refine tk_HQ  rfl rfl ((la350 _ (hg2).2).2) (by decide) (lbR _ ((hg2).2) 2 (by decide)).1 ?_
      refine tk_Ps  1 (pc' := 42) (ls' := [(0, .ref 295), (1, .int v1), (3, .int v3), (4, .int v4)]) (st' := [.ref 295, .ref ((351 + 4 * (tk_n v4)) + 1 + 2), .ref 295, .int v3]) rfl ?_
      refine tk_HR  rfl rfl ly295 rt295_13 ?_
      refine tk_Ps  1 (pc' := 46) (ls' := [(0, .ref 295), (1, .int v1), (3, .int v3), (4, .int v4)]) (st' := [.int v1, .ref 350, .ref ((351 + 4 * (tk_n v4)) + 1 + 2), .ref 295, .int v3]) rfl ?_
      obtain ⟨hg3, h⟩ := tk_grd h
      refine tk_HQ  rfl rfl ly350 hg3 (la350 _ (hg3).2).1 ?_
      refine tk_Ps  1 (pc' := 48) (ls' := [(0, .ref 295), (1, .int v1), (3, .int v3), (4, .int v4)]) (st' := [.int (2 : Int32), .ref (351 + 4 * (tk_n v1)), .ref ((351 + 4 * (tk_n v4)) + 1 + 2), .ref 295, .int v3]) rfl ?_
      refine tk_HQ  rfl rfl ((la350 _ (hg3).2).2) (by decide) (lbR _ ((hg3).2) 2 (by decide)).1 ?_
      obtain ⟨o4, ho4, h⟩ := tk_bnd h
      refine tk_cV1  rfl rfl (r := 295) (as := [.ref ((351 + 4 * (tk_n v4)) + 1 + 2), .ref ((351 + 4 * (tk_n v1)) + 1 + 2)]) (rest := [.int v3]) rfl ly295 rfl rfl (ok_fM_compares sc ((351 + 4 * (tk_n v4)) + 1 + 2) ((351 + 4 * (tk_n v1)) + 1 + 2) m (tk_al_of ((lbR _ ((hg2).2) 2 (by decide)).2)) (tk_al_of ((lbR _ ((hg3).2) 2 (by decide)).2)) ho4) ?_
      by_cases hc5 : 0 ≤ o4.1
      · replace h := tk_ifT hc5 h
        refine tk_bT  rfl rfl rfl (c := 0 ≤ o4.1) hc5 (pc' := 59) (ls' := [(0, .ref 295), (1, .int v1), (3, .int v3), (4, .int v4)]) (st' := [.int v3]) ?_
        refine tk_Ps  5 (pc' := 21) (ls' := [(4, .int (v4 + (1 : Int32))), (3, .int (v3 + (0 : Int32))), (0, .ref 295), (1, .int v1)]) (st' := []) rfl ?_
        refine tk_Kp  (ls' := [(0, .ref 295), (1, .int v1), (3, .int (v3 + (0 : Int32))), (4, .int (v4 + (1 : Int32)))]) rfl rfl ?_
        exact ih v1 (v3 + (0 : Int32)) (v4 + (1 : Int32)) o4.2 _ h
      · replace h := tk_ifF hc5 h
        refine tk_bF  rfl rfl rfl (c := 0 ≤ o4.1) hc5 (pc' := 55) (ls' := [(0, .ref 295), (1, .int v1), (3, .int v3), (4, .int v4)]) (st' := [.int v3]) ?_
        refine tk_Ps  6 (pc' := 21) (ls' := [(4, .int (v4 + (1 : Int32))), (3, .int (v3 + (1 : Int32))), (0, .ref 295), (1, .int v1)]) (st' := []) rfl ?_
        refine tk_Kp  (ls' := [(0, .ref 295), (1, .int v1), (3, .int (v3 + (1 : Int32))), (4, .int (v4 + (1 : Int32)))]) rfl rfl ?_
        exact ih v1 (v3 + (1 : Int32)) (v4 + (1 : Int32)) o4.2 _ h
theorem ok_fM_rank (sc : tk_X) (a1 : Int32) (m : tk_m) {out : Int32 × tk_m} (h : fM_rank a1 m = some out) : tk_Ru sc 10 247 [.ref 295, .int a1] (tk_full m) (some (.int out.1), tk_full out.2) := by
  unfold fM_rank at h
  refine tk_Ru0 me247 (ls := [(0, .ref 295), (1, .int a1)]) rfl rfl ?_
  refine tk_Ps  2 (pc' := 2) (ls' := [(0, .ref 295), (1, .int a1)]) (st' := [.int a1, .ref 295]) rfl ?_
  obtain ⟨o1, ho1, h⟩ := tk_bnd h
  refine tk_cV1  rfl rfl (r := 295) (as := [.int a1]) (rest := []) rfl ly295 rfl rfl (ok_fM_whyNot sc a1 m ho1) ?_
  refine tk_Ps  2 (pc' := 7) (ls' := [(2, .int o1.1), (0, .ref 295), (1, .int a1)]) (st' := [.int o1.1]) rfl ?_
  by_cases hc2 : o1.1 < 0
  · replace h := tk_ifT hc2 h
    refine tk_bT  rfl rfl rfl (c := o1.1 < 0) hc2 (pc' := 16) (ls' := [(2, .int o1.1), (0, .ref 295), (1, .int a1)]) (st' := []) ?_
    refine tk_Ps  4 (pc' := 21) (ls' := [(4, .int (0 : Int32)), (3, .int (0 : Int32)), (2, .int o1.1), (0, .ref 295), (1, .int a1)]) (st' := []) rfl ?_
    refine tk_Kp  (ls' := [(0, .ref 295), (1, .int a1), (3, .int (0 : Int32)), (4, .int (0 : Int32))]) rfl rfl ?_
    exact ok_fM_rank_21 sc tk_F a1 (0 : Int32) (0 : Int32) o1.2 _ h
  · replace h := tk_ifF hc2 h
    refine tk_bF  rfl rfl rfl (c := o1.1 < 0) hc2 (pc' := 10) (ls' := [(2, .int o1.1), (0, .ref 295), (1, .int a1)]) (st' := []) ?_
    refine tk_Ps  2 (pc' := 12) (ls' := [(2, .int o1.1), (0, .ref 295), (1, .int a1)]) (st' := [.int o1.1, .ref 295]) rfl ?_
    obtain ⟨o3, ho3, h⟩ := tk_bnd h
    refine tk_cV1  rfl rfl (r := 295) (as := [.int o1.1]) (rest := []) rfl ly295 rfl rfl (ok_fM_finds sc o1.1 o1.2 ho3) ?_
    replace h := Option.some.inj h
    subst h
    exact tk_RI  rfl rfl rfl
theorem ok_fM_adds (sc : tk_X) (a1 : Int32) (a2 : Int64) (a3 : Int64) (a4 : Int32) (m : tk_m) {out : Int32 × tk_m} (h : fM_adds a1 a2 a3 a4 m = some out) : tk_Ru sc 4 250 [.ref 295, .int a1, .long a2, .long a3, .int a4] (tk_full m) (some (.int out.1), tk_full out.2) := by
  unfold fM_adds at h
  refine tk_Ru0 me250 (ls := [(0, .ref 295), (1, .int a1), (2, .long a2), (4, .long a3), (6, .int a4)]) rfl rfl ?_
  refine tk_Ps  3 (pc' := 4) (ls' := [(0, .ref 295), (1, .int a1), (2, .long a2), (4, .long a3), (6, .int a4)]) (st' := [.long a3, .long a2, .ref 295]) rfl ?_
  obtain ⟨o1, ho1, h⟩ := tk_bnd h
  refine tk_cV1  rfl rfl (r := 295) (as := [.long a2, .long a3]) (rest := []) rfl ly295 rfl rfl (ok_fM_timesWide_JJ sc a2 a3 m ho1) ?_
  refine tk_Ps  4 (pc' := 13) (ls' := [(7, .int o1.1), (0, .ref 295), (1, .int a1), (2, .long a2), (4, .long a3), (6, .int a4)]) (st' := [.int a4, .int a1, .ref 295]) rfl ?_
  by_cases hc2 : a4 = 0
  · replace h := tk_ifT hc2 h
    refine tk_bT  rfl rfl rfl (c := a4 = 0) hc2 (pc' := 25) (ls' := [(7, .int o1.1), (0, .ref 295), (1, .int a1), (2, .long a2), (4, .long a3), (6, .int a4)]) (st' := [.int a1, .ref 295]) ?_
    refine tk_Ps  1 (pc' := 27) (ls' := [(7, .int o1.1), (0, .ref 295), (1, .int a1), (2, .long a2), (4, .long a3), (6, .int a4)]) (st' := [.int o1.1, .int a1, .ref 295]) rfl ?_
    obtain ⟨o3, ho3, h⟩ := tk_bnd h
    refine tk_cV1  rfl rfl (r := 295) (as := [.int a1, .int o1.1]) (rest := []) rfl ly295 rfl rfl (ok_fM_plusWide sc a1 o1.1 o1.2 ho3) ?_
    replace h := Option.some.inj h
    subst h
    exact tk_RI  rfl rfl rfl
  · replace h := tk_ifF hc2 h
    refine tk_bF  rfl rfl rfl (c := a4 = 0) hc2 (pc' := 16) (ls' := [(7, .int o1.1), (0, .ref 295), (1, .int a1), (2, .long a2), (4, .long a3), (6, .int a4)]) (st' := [.int a1, .ref 295]) ?_
    refine tk_Ps  2 (pc' := 19) (ls' := [(7, .int o1.1), (0, .ref 295), (1, .int a1), (2, .long a2), (4, .long a3), (6, .int a4)]) (st' := [.int o1.1, .ref 295, .int a1, .ref 295]) rfl ?_
    obtain ⟨o4, ho4, h⟩ := tk_bnd h
    refine tk_cV1  rfl rfl (r := 295) (as := [.int o1.1]) (rest := [.int a1, .ref 295]) rfl ly295 rfl rfl (ok_fM_turned sc o1.1 o1.2 ho4) ?_
    refine tk_Ps  1 (pc' := 27) (ls' := [(7, .int o1.1), (0, .ref 295), (1, .int a1), (2, .long a2), (4, .long a3), (6, .int a4)]) (st' := [.int o4.1, .int a1, .ref 295]) rfl ?_
    obtain ⟨o5, ho5, h⟩ := tk_bnd h
    refine tk_cV1  rfl rfl (r := 295) (as := [.int a1, .int o4.1]) (rest := []) rfl ly295 rfl rfl (ok_fM_plusWide sc a1 o4.1 o4.2 ho5) ?_
    replace h := Option.some.inj h
    subst h
    exact tk_RI  rfl rfl rfl
theorem ok_fM_touchesRound (sc : tk_X) (a1 : Nat) (a2 : Int32) (a3 : Int32) (m : tk_m) (ha1 : tk_lay[a1]? = some (.inr (1, tk_al a1))) {out : Bool × tk_m} (h : fM_touchesRound a1 a2 a3 m = some out) : tk_Ru sc 5 249 [.ref 295, .ref a1, .int a2, .int a3] (tk_full m) (some (.int (tk_b out.1)), tk_full out.2) := by
  unfold fM_touchesRound at h
  refine tk_Ru0 me249 (ls := [(0, .ref 295), (1, .ref a1), (2, .int a2), (3, .int a3)]) rfl rfl ?_
  refine tk_Ps  2 (pc' := 2) (ls' := [(0, .ref 295), (1, .ref a1), (2, .int a2), (3, .int a3)]) (st' := [.int (0 : Int32), .ref a1]) rfl ?_
  obtain ⟨hg1, h⟩ := tk_grd h
  refine tk_HJa  rfl rfl ha1 hg1 ?_
  refine tk_Ps  3 (pc' := 6) (ls' := [(0, .ref 295), (1, .ref a1), (2, .int a2), (3, .int a3)]) (st' := [.int (1 : Int32), .int a2, .ref 295, .long (m.2.1 a1 (tk_n (0 : Int32)))]) rfl ?_
  obtain ⟨o2, ho2, h⟩ := tk_bnd h
  refine tk_cV1  rfl rfl (r := 295) (as := [.int a2, .int (1 : Int32)]) (rest := [.long (m.2.1 a1 (tk_n (0 : Int32)))]) rfl ly295 rfl rfl (ok_fM_of0 sc a2 (1 : Int32) m ho2) ?_
  refine tk_Ps  3 (pc' := 13) (ls' := [(0, .ref 295), (1, .ref a1), (2, .int a2), (3, .int a3)]) (st' := [.int (7 : Int32), .ref a1, .long (Int32.toInt64 o2), .long (m.2.1 a1 (tk_n (0 : Int32)))]) rfl ?_
  obtain ⟨hg3, h⟩ := tk_grd h
  refine tk_HJa  rfl rfl ha1 hg3 ?_
  refine tk_Ps  5 (pc' := 20) (ls' := [(4, .long ((m.2.1 a1 (tk_n (0 : Int32))) - ((Int32.toInt64 o2) * (m.2.1 a1 (tk_n (7 : Int32)))))), (0, .ref 295), (1, .ref a1), (2, .int a2), (3, .int a3)]) (st' := [.int (1 : Int32), .ref a1]) rfl ?_
  obtain ⟨hg4, h⟩ := tk_grd h
  refine tk_HJa  rfl rfl ha1 hg4 ?_
  refine tk_Ps  3 (pc' := 24) (ls' := [(4, .long ((m.2.1 a1 (tk_n (0 : Int32))) - ((Int32.toInt64 o2) * (m.2.1 a1 (tk_n (7 : Int32)))))), (0, .ref 295), (1, .ref a1), (2, .int a2), (3, .int a3)]) (st' := [.int (2 : Int32), .int a2, .ref 295, .long (m.2.1 a1 (tk_n (1 : Int32)))]) rfl ?_
  obtain ⟨o5, ho5, h⟩ := tk_bnd h
  refine tk_cV1  rfl rfl (r := 295) (as := [.int a2, .int (2 : Int32)]) (rest := [.long (m.2.1 a1 (tk_n (1 : Int32)))]) rfl ly295 rfl rfl (ok_fM_of0 sc a2 (2 : Int32) m ho5) ?_
  refine tk_Ps  3 (pc' := 31) (ls' := [(4, .long ((m.2.1 a1 (tk_n (0 : Int32))) - ((Int32.toInt64 o2) * (m.2.1 a1 (tk_n (7 : Int32)))))), (0, .ref 295), (1, .ref a1), (2, .int a2), (3, .int a3)]) (st' := [.int (7 : Int32), .ref a1, .long (Int32.toInt64 o5), .long (m.2.1 a1 (tk_n (1 : Int32)))]) rfl ?_
  refine tk_HJa  rfl rfl ha1 hg3 ?_
  refine tk_Ps  5 (pc' := 38) (ls' := [(6, .long ((m.2.1 a1 (tk_n (1 : Int32))) - ((Int32.toInt64 o5) * (m.2.1 a1 (tk_n (7 : Int32)))))), (4, .long ((m.2.1 a1 (tk_n (0 : Int32))) - ((Int32.toInt64 o2) * (m.2.1 a1 (tk_n (7 : Int32)))))), (0, .ref 295), (1, .ref a1), (2, .int a2), (3, .int a3)]) (st' := [.int (2 : Int32), .ref a1]) rfl ?_
  obtain ⟨hg6, h⟩ := tk_grd h
  refine tk_HJa  rfl rfl ha1 hg6 ?_
  refine tk_Ps  4 (pc' := 43) (ls' := [(6, .long ((m.2.1 a1 (tk_n (1 : Int32))) - ((Int32.toInt64 o5) * (m.2.1 a1 (tk_n (7 : Int32)))))), (4, .long ((m.2.1 a1 (tk_n (0 : Int32))) - ((Int32.toInt64 o2) * (m.2.1 a1 (tk_n (7 : Int32)))))), (0, .ref 295), (1, .ref a1), (2, .int a2), (3, .int a3)]) (st' := [.int (3 : Int32), .int a2, .ref 295, .int a3, .long (m.2.1 a1 (tk_n (2 : Int32)))]) rfl ?_
  obtain ⟨o7, ho7, h⟩ := tk_bnd h
  refine tk_cV1  rfl rfl (r := 295) (as := [.int a2, .int (3 : Int32)]) (rest := [.int a3, .long (m.2.1 a1 (tk_n (2 : Int32)))]) rfl ly295 rfl rfl (ok_fM_of0 sc a2 (3 : Int32) m ho7) ?_
  refine tk_Ps  4 (pc' := 51) (ls' := [(6, .long ((m.2.1 a1 (tk_n (1 : Int32))) - ((Int32.toInt64 o5) * (m.2.1 a1 (tk_n (7 : Int32)))))), (4, .long ((m.2.1 a1 (tk_n (0 : Int32))) - ((Int32.toInt64 o2) * (m.2.1 a1 (tk_n (7 : Int32)))))), (0, .ref 295), (1, .ref a1), (2, .int a2), (3, .int a3)]) (st' := [.int (7 : Int32), .ref a1, .long (Int32.toInt64 (a3 * o7)), .long (m.2.1 a1 (tk_n (2 : Int32)))]) rfl ?_
  refine tk_HJa  rfl rfl ha1 hg3 ?_
  refine tk_Ps  5 (pc' := 58) (ls' := [(8, .long ((m.2.1 a1 (tk_n (2 : Int32))) - ((Int32.toInt64 (a3 * o7)) * (m.2.1 a1 (tk_n (7 : Int32)))))), (6, .long ((m.2.1 a1 (tk_n (1 : Int32))) - ((Int32.toInt64 o5) * (m.2.1 a1 (tk_n (7 : Int32)))))), (4, .long ((m.2.1 a1 (tk_n (0 : Int32))) - ((Int32.toInt64 o2) * (m.2.1 a1 (tk_n (7 : Int32)))))), (0, .ref 295), (1, .ref a1), (2, .int a2), (3, .int a3)]) (st' := [.int (0 : Int32), .ref 295]) rfl ?_
  refine tk_SI  rfl rfl ly295 ?_
  refine tk_Ps  5 (pc' := 66) (ls' := [(8, .long ((m.2.1 a1 (tk_n (2 : Int32))) - ((Int32.toInt64 (a3 * o7)) * (m.2.1 a1 (tk_n (7 : Int32)))))), (6, .long ((m.2.1 a1 (tk_n (1 : Int32))) - ((Int32.toInt64 o5) * (m.2.1 a1 (tk_n (7 : Int32)))))), (4, .long ((m.2.1 a1 (tk_n (0 : Int32))) - ((Int32.toInt64 o2) * (m.2.1 a1 (tk_n (7 : Int32)))))), (0, .ref 295), (1, .ref a1), (2, .int a2), (3, .int a3)]) (st' := [.long (0 : Int64), .ref 295, .ref 295, .ref 295, .ref 295]) rfl ?_
  obtain ⟨o8, ho8, h⟩ := tk_bnd h
  refine tk_cV1  rfl rfl (r := 295) (as := [.long (0 : Int64)]) (rest := [.ref 295, .ref 295, .ref 295]) rfl ly295 rfl rfl (ok_fM_widens sc (0 : Int64) (tk_u2 m.1 295 9 (0 : Int32), m.2.1, m.2.2.1, m.2.2.2) ho8) ?_
  refine tk_Ps  2 (pc' := 71) (ls' := [(8, .long ((m.2.1 a1 (tk_n (2 : Int32))) - ((Int32.toInt64 (a3 * o7)) * (m.2.1 a1 (tk_n (7 : Int32)))))), (6, .long ((m.2.1 a1 (tk_n (1 : Int32))) - ((Int32.toInt64 o5) * (m.2.1 a1 (tk_n (7 : Int32)))))), (4, .long ((m.2.1 a1 (tk_n (0 : Int32))) - ((Int32.toInt64 o2) * (m.2.1 a1 (tk_n (7 : Int32)))))), (0, .ref 295), (1, .ref a1), (2, .int a2), (3, .int a3)]) (st' := [.int (3 : Int32), .ref a1, .int o8.1, .ref 295, .ref 295, .ref 295]) rfl ?_
  obtain ⟨hg9, h⟩ := tk_grd h
  refine tk_HJa  rfl rfl ha1 hg9 ?_
  refine tk_Ps  2 (pc' := 74) (ls' := [(8, .long ((m.2.1 a1 (tk_n (2 : Int32))) - ((Int32.toInt64 (a3 * o7)) * (m.2.1 a1 (tk_n (7 : Int32)))))), (6, .long ((m.2.1 a1 (tk_n (1 : Int32))) - ((Int32.toInt64 o5) * (m.2.1 a1 (tk_n (7 : Int32)))))), (4, .long ((m.2.1 a1 (tk_n (0 : Int32))) - ((Int32.toInt64 o2) * (m.2.1 a1 (tk_n (7 : Int32)))))), (0, .ref 295), (1, .ref a1), (2, .int a2), (3, .int a3)]) (st' := [.int (3 : Int32), .ref a1, .long (o8.2.2.1 a1 (tk_n (3 : Int32))), .int o8.1, .ref 295, .ref 295, .ref 295]) rfl ?_
  refine tk_HJa  rfl rfl ha1 hg9 ?_
  refine tk_Ps  1 (pc' := 76) (ls' := [(8, .long ((m.2.1 a1 (tk_n (2 : Int32))) - ((Int32.toInt64 (a3 * o7)) * (m.2.1 a1 (tk_n (7 : Int32)))))), (6, .long ((m.2.1 a1 (tk_n (1 : Int32))) - ((Int32.toInt64 o5) * (m.2.1 a1 (tk_n (7 : Int32)))))), (4, .long ((m.2.1 a1 (tk_n (0 : Int32))) - ((Int32.toInt64 o2) * (m.2.1 a1 (tk_n (7 : Int32)))))), (0, .ref 295), (1, .ref a1), (2, .int a2), (3, .int a3)]) (st' := [.int (0 : Int32), .long (o8.2.2.1 a1 (tk_n (3 : Int32))), .long (o8.2.2.1 a1 (tk_n (3 : Int32))), .int o8.1, .ref 295, .ref 295, .ref 295]) rfl ?_
  obtain ⟨o10, ho10, h⟩ := tk_bnd h
  refine tk_cV1  rfl rfl (r := 295) (as := [.int o8.1, .long (o8.2.2.1 a1 (tk_n (3 : Int32))), .long (o8.2.2.1 a1 (tk_n (3 : Int32))), .int (0 : Int32)]) (rest := [.ref 295, .ref 295]) rfl ly295 rfl rfl (ok_fM_adds sc o8.1 (o8.2.2.1 a1 (tk_n (3 : Int32))) (o8.2.2.1 a1 (tk_n (3 : Int32))) (0 : Int32) o8.2 ho10) ?_
  refine tk_Ps  2 (pc' := 81) (ls' := [(8, .long ((m.2.1 a1 (tk_n (2 : Int32))) - ((Int32.toInt64 (a3 * o7)) * (m.2.1 a1 (tk_n (7 : Int32)))))), (6, .long ((m.2.1 a1 (tk_n (1 : Int32))) - ((Int32.toInt64 o5) * (m.2.1 a1 (tk_n (7 : Int32)))))), (4, .long ((m.2.1 a1 (tk_n (0 : Int32))) - ((Int32.toInt64 o2) * (m.2.1 a1 (tk_n (7 : Int32)))))), (0, .ref 295), (1, .ref a1), (2, .int a2), (3, .int a3)]) (st' := [.int (4 : Int32), .ref a1, .int o10.1, .ref 295, .ref 295]) rfl ?_
  obtain ⟨hg11, h⟩ := tk_grd h
  refine tk_HJa  rfl rfl ha1 hg11 ?_
  refine tk_Ps  2 (pc' := 84) (ls' := [(8, .long ((m.2.1 a1 (tk_n (2 : Int32))) - ((Int32.toInt64 (a3 * o7)) * (m.2.1 a1 (tk_n (7 : Int32)))))), (6, .long ((m.2.1 a1 (tk_n (1 : Int32))) - ((Int32.toInt64 o5) * (m.2.1 a1 (tk_n (7 : Int32)))))), (4, .long ((m.2.1 a1 (tk_n (0 : Int32))) - ((Int32.toInt64 o2) * (m.2.1 a1 (tk_n (7 : Int32)))))), (0, .ref 295), (1, .ref a1), (2, .int a2), (3, .int a3)]) (st' := [.int (4 : Int32), .ref a1, .long (o10.2.2.1 a1 (tk_n (4 : Int32))), .int o10.1, .ref 295, .ref 295]) rfl ?_
  refine tk_HJa  rfl rfl ha1 hg11 ?_
  refine tk_Ps  1 (pc' := 86) (ls' := [(8, .long ((m.2.1 a1 (tk_n (2 : Int32))) - ((Int32.toInt64 (a3 * o7)) * (m.2.1 a1 (tk_n (7 : Int32)))))), (6, .long ((m.2.1 a1 (tk_n (1 : Int32))) - ((Int32.toInt64 o5) * (m.2.1 a1 (tk_n (7 : Int32)))))), (4, .long ((m.2.1 a1 (tk_n (0 : Int32))) - ((Int32.toInt64 o2) * (m.2.1 a1 (tk_n (7 : Int32)))))), (0, .ref 295), (1, .ref a1), (2, .int a2), (3, .int a3)]) (st' := [.int (0 : Int32), .long (o10.2.2.1 a1 (tk_n (4 : Int32))), .long (o10.2.2.1 a1 (tk_n (4 : Int32))), .int o10.1, .ref 295, .ref 295]) rfl ?_
  obtain ⟨o12, ho12, h⟩ := tk_bnd h
  refine tk_cV1  rfl rfl (r := 295) (as := [.int o10.1, .long (o10.2.2.1 a1 (tk_n (4 : Int32))), .long (o10.2.2.1 a1 (tk_n (4 : Int32))), .int (0 : Int32)]) (rest := [.ref 295]) rfl ly295 rfl rfl (ok_fM_adds sc o10.1 (o10.2.2.1 a1 (tk_n (4 : Int32))) (o10.2.2.1 a1 (tk_n (4 : Int32))) (0 : Int32) o10.2 ho12) ?_
  refine tk_Ps  2 (pc' := 91) (ls' := [(8, .long ((m.2.1 a1 (tk_n (2 : Int32))) - ((Int32.toInt64 (a3 * o7)) * (m.2.1 a1 (tk_n (7 : Int32)))))), (6, .long ((m.2.1 a1 (tk_n (1 : Int32))) - ((Int32.toInt64 o5) * (m.2.1 a1 (tk_n (7 : Int32)))))), (4, .long ((m.2.1 a1 (tk_n (0 : Int32))) - ((Int32.toInt64 o2) * (m.2.1 a1 (tk_n (7 : Int32)))))), (0, .ref 295), (1, .ref a1), (2, .int a2), (3, .int a3)]) (st' := [.int (5 : Int32), .ref a1, .int o12.1, .ref 295]) rfl ?_
  obtain ⟨hg13, h⟩ := tk_grd h
  refine tk_HJa  rfl rfl ha1 hg13 ?_
  refine tk_Ps  2 (pc' := 94) (ls' := [(8, .long ((m.2.1 a1 (tk_n (2 : Int32))) - ((Int32.toInt64 (a3 * o7)) * (m.2.1 a1 (tk_n (7 : Int32)))))), (6, .long ((m.2.1 a1 (tk_n (1 : Int32))) - ((Int32.toInt64 o5) * (m.2.1 a1 (tk_n (7 : Int32)))))), (4, .long ((m.2.1 a1 (tk_n (0 : Int32))) - ((Int32.toInt64 o2) * (m.2.1 a1 (tk_n (7 : Int32)))))), (0, .ref 295), (1, .ref a1), (2, .int a2), (3, .int a3)]) (st' := [.int (5 : Int32), .ref a1, .long (o12.2.2.1 a1 (tk_n (5 : Int32))), .int o12.1, .ref 295]) rfl ?_
  refine tk_HJa  rfl rfl ha1 hg13 ?_
  refine tk_Ps  1 (pc' := 96) (ls' := [(8, .long ((m.2.1 a1 (tk_n (2 : Int32))) - ((Int32.toInt64 (a3 * o7)) * (m.2.1 a1 (tk_n (7 : Int32)))))), (6, .long ((m.2.1 a1 (tk_n (1 : Int32))) - ((Int32.toInt64 o5) * (m.2.1 a1 (tk_n (7 : Int32)))))), (4, .long ((m.2.1 a1 (tk_n (0 : Int32))) - ((Int32.toInt64 o2) * (m.2.1 a1 (tk_n (7 : Int32)))))), (0, .ref 295), (1, .ref a1), (2, .int a2), (3, .int a3)]) (st' := [.int (1 : Int32), .long (o12.2.2.1 a1 (tk_n (5 : Int32))), .long (o12.2.2.1 a1 (tk_n (5 : Int32))), .int o12.1, .ref 295]) rfl ?_
  obtain ⟨o14, ho14, h⟩ := tk_bnd h
  refine tk_cV1  rfl rfl (r := 295) (as := [.int o12.1, .long (o12.2.2.1 a1 (tk_n (5 : Int32))), .long (o12.2.2.1 a1 (tk_n (5 : Int32))), .int (1 : Int32)]) (rest := []) rfl ly295 rfl rfl (ok_fM_adds sc o12.1 (o12.2.2.1 a1 (tk_n (5 : Int32))) (o12.2.2.1 a1 (tk_n (5 : Int32))) (1 : Int32) o12.2 ho14) ?_
  refine tk_Ps  9 (pc' := 111) (ls' := [(10, .int o14.1), (8, .long ((m.2.1 a1 (tk_n (2 : Int32))) - ((Int32.toInt64 (a3 * o7)) * (m.2.1 a1 (tk_n (7 : Int32)))))), (6, .long ((m.2.1 a1 (tk_n (1 : Int32))) - ((Int32.toInt64 o5) * (m.2.1 a1 (tk_n (7 : Int32)))))), (4, .long ((m.2.1 a1 (tk_n (0 : Int32))) - ((Int32.toInt64 o2) * (m.2.1 a1 (tk_n (7 : Int32)))))), (0, .ref 295), (1, .ref a1), (2, .int a2), (3, .int a3)]) (st' := [.int (6 : Int32), .ref a1, .ref 295, .int o14.1, .ref 295, .ref 295, .ref 295, .ref 295]) rfl ?_
  obtain ⟨hg15, h⟩ := tk_grd h
  refine tk_HJa  rfl rfl ha1 hg15 ?_
  obtain ⟨o16, ho16, h⟩ := tk_bnd h
  refine tk_cV1  rfl rfl (r := 295) (as := [.long (o14.2.2.1 a1 (tk_n (6 : Int32)))]) (rest := [.int o14.1, .ref 295, .ref 295, .ref 295, .ref 295]) rfl ly295 rfl rfl (ok_fM_widens sc (o14.2.2.1 a1 (tk_n (6 : Int32))) o14.2 ho16) ?_
  obtain ⟨o17, ho17, h⟩ := tk_bnd h
  refine tk_cV1  rfl rfl (r := 295) (as := [.int o14.1, .int o16.1]) (rest := [.ref 295, .ref 295, .ref 295]) rfl ly295 rfl rfl (ok_fM_timesWide_II sc o14.1 o16.1 o16.2 ho17) ?_
  refine tk_Ps  3 (pc' := 123) (ls' := [(10, .int o14.1), (8, .long ((m.2.1 a1 (tk_n (2 : Int32))) - ((Int32.toInt64 (a3 * o7)) * (m.2.1 a1 (tk_n (7 : Int32)))))), (6, .long ((m.2.1 a1 (tk_n (1 : Int32))) - ((Int32.toInt64 o5) * (m.2.1 a1 (tk_n (7 : Int32)))))), (4, .long ((m.2.1 a1 (tk_n (0 : Int32))) - ((Int32.toInt64 o2) * (m.2.1 a1 (tk_n (7 : Int32)))))), (0, .ref 295), (1, .ref a1), (2, .int a2), (3, .int a3)]) (st' := [.int (0 : Int32), .long ((m.2.1 a1 (tk_n (0 : Int32))) - ((Int32.toInt64 o2) * (m.2.1 a1 (tk_n (7 : Int32))))), .long ((m.2.1 a1 (tk_n (0 : Int32))) - ((Int32.toInt64 o2) * (m.2.1 a1 (tk_n (7 : Int32))))), .int o17.1, .ref 295, .ref 295, .ref 295]) rfl ?_
  obtain ⟨o18, ho18, h⟩ := tk_bnd h
  refine tk_cV1  rfl rfl (r := 295) (as := [.int o17.1, .long ((m.2.1 a1 (tk_n (0 : Int32))) - ((Int32.toInt64 o2) * (m.2.1 a1 (tk_n (7 : Int32))))), .long ((m.2.1 a1 (tk_n (0 : Int32))) - ((Int32.toInt64 o2) * (m.2.1 a1 (tk_n (7 : Int32))))), .int (0 : Int32)]) (rest := [.ref 295, .ref 295]) rfl ly295 rfl rfl (ok_fM_adds sc o17.1 ((m.2.1 a1 (tk_n (0 : Int32))) - ((Int32.toInt64 o2) * (m.2.1 a1 (tk_n (7 : Int32))))) ((m.2.1 a1 (tk_n (0 : Int32))) - ((Int32.toInt64 o2) * (m.2.1 a1 (tk_n (7 : Int32))))) (0 : Int32) o17.2 ho18) ?_
  refine tk_Ps  3 (pc' := 131) (ls' := [(10, .int o14.1), (8, .long ((m.2.1 a1 (tk_n (2 : Int32))) - ((Int32.toInt64 (a3 * o7)) * (m.2.1 a1 (tk_n (7 : Int32)))))), (6, .long ((m.2.1 a1 (tk_n (1 : Int32))) - ((Int32.toInt64 o5) * (m.2.1 a1 (tk_n (7 : Int32)))))), (4, .long ((m.2.1 a1 (tk_n (0 : Int32))) - ((Int32.toInt64 o2) * (m.2.1 a1 (tk_n (7 : Int32)))))), (0, .ref 295), (1, .ref a1), (2, .int a2), (3, .int a3)]) (st' := [.int (0 : Int32), .long ((m.2.1 a1 (tk_n (1 : Int32))) - ((Int32.toInt64 o5) * (m.2.1 a1 (tk_n (7 : Int32))))), .long ((m.2.1 a1 (tk_n (1 : Int32))) - ((Int32.toInt64 o5) * (m.2.1 a1 (tk_n (7 : Int32))))), .int o18.1, .ref 295, .ref 295]) rfl ?_
  obtain ⟨o19, ho19, h⟩ := tk_bnd h
  refine tk_cV1  rfl rfl (r := 295) (as := [.int o18.1, .long ((m.2.1 a1 (tk_n (1 : Int32))) - ((Int32.toInt64 o5) * (m.2.1 a1 (tk_n (7 : Int32))))), .long ((m.2.1 a1 (tk_n (1 : Int32))) - ((Int32.toInt64 o5) * (m.2.1 a1 (tk_n (7 : Int32))))), .int (0 : Int32)]) (rest := [.ref 295]) rfl ly295 rfl rfl (ok_fM_adds sc o18.1 ((m.2.1 a1 (tk_n (1 : Int32))) - ((Int32.toInt64 o5) * (m.2.1 a1 (tk_n (7 : Int32))))) ((m.2.1 a1 (tk_n (1 : Int32))) - ((Int32.toInt64 o5) * (m.2.1 a1 (tk_n (7 : Int32))))) (0 : Int32) o18.2 ho19) ?_
  refine tk_Ps  3 (pc' := 139) (ls' := [(10, .int o14.1), (8, .long ((m.2.1 a1 (tk_n (2 : Int32))) - ((Int32.toInt64 (a3 * o7)) * (m.2.1 a1 (tk_n (7 : Int32)))))), (6, .long ((m.2.1 a1 (tk_n (1 : Int32))) - ((Int32.toInt64 o5) * (m.2.1 a1 (tk_n (7 : Int32)))))), (4, .long ((m.2.1 a1 (tk_n (0 : Int32))) - ((Int32.toInt64 o2) * (m.2.1 a1 (tk_n (7 : Int32)))))), (0, .ref 295), (1, .ref a1), (2, .int a2), (3, .int a3)]) (st' := [.int (1 : Int32), .long ((m.2.1 a1 (tk_n (2 : Int32))) - ((Int32.toInt64 (a3 * o7)) * (m.2.1 a1 (tk_n (7 : Int32))))), .long ((m.2.1 a1 (tk_n (2 : Int32))) - ((Int32.toInt64 (a3 * o7)) * (m.2.1 a1 (tk_n (7 : Int32))))), .int o19.1, .ref 295]) rfl ?_
  obtain ⟨o20, ho20, h⟩ := tk_bnd h
  refine tk_cV1  rfl rfl (r := 295) (as := [.int o19.1, .long ((m.2.1 a1 (tk_n (2 : Int32))) - ((Int32.toInt64 (a3 * o7)) * (m.2.1 a1 (tk_n (7 : Int32))))), .long ((m.2.1 a1 (tk_n (2 : Int32))) - ((Int32.toInt64 (a3 * o7)) * (m.2.1 a1 (tk_n (7 : Int32))))), .int (1 : Int32)]) (rest := []) rfl ly295 rfl rfl (ok_fM_adds sc o19.1 ((m.2.1 a1 (tk_n (2 : Int32))) - ((Int32.toInt64 (a3 * o7)) * (m.2.1 a1 (tk_n (7 : Int32))))) ((m.2.1 a1 (tk_n (2 : Int32))) - ((Int32.toInt64 (a3 * o7)) * (m.2.1 a1 (tk_n (7 : Int32))))) (1 : Int32) o19.2 ho20) ?_
  refine tk_Ps  2 (pc' := 145) (ls' := [(11, .int o20.1), (10, .int o14.1), (8, .long ((m.2.1 a1 (tk_n (2 : Int32))) - ((Int32.toInt64 (a3 * o7)) * (m.2.1 a1 (tk_n (7 : Int32)))))), (6, .long ((m.2.1 a1 (tk_n (1 : Int32))) - ((Int32.toInt64 o5) * (m.2.1 a1 (tk_n (7 : Int32)))))), (4, .long ((m.2.1 a1 (tk_n (0 : Int32))) - ((Int32.toInt64 o2) * (m.2.1 a1 (tk_n (7 : Int32)))))), (0, .ref 295), (1, .ref a1), (2, .int a2), (3, .int a3)]) (st' := [.ref 295]) rfl ?_
  refine tk_HR  rfl rfl ly295 rt295_8 ?_
  refine tk_Ps  1 (pc' := 150) (ls' := [(11, .int o20.1), (10, .int o14.1), (8, .long ((m.2.1 a1 (tk_n (2 : Int32))) - ((Int32.toInt64 (a3 * o7)) * (m.2.1 a1 (tk_n (7 : Int32)))))), (6, .long ((m.2.1 a1 (tk_n (1 : Int32))) - ((Int32.toInt64 o5) * (m.2.1 a1 (tk_n (7 : Int32)))))), (4, .long ((m.2.1 a1 (tk_n (0 : Int32))) - ((Int32.toInt64 o2) * (m.2.1 a1 (tk_n (7 : Int32)))))), (0, .ref 295), (1, .ref a1), (2, .int a2), (3, .int a3)]) (st' := [.int o20.1, .ref 348]) rfl ?_
  obtain ⟨hg21, h⟩ := tk_grd h
  refine tk_HIa  rfl rfl ly348 hg21 ?_
  by_cases hc22 : (o20.2.1 348 (tk_n o20.1)) = 0
  · replace h := tk_ifT hc22 h
    refine tk_bT  rfl rfl rfl (c := (o20.2.1 348 (tk_n o20.1)) = 0) hc22 (pc' := 156) (ls' := [(11, .int o20.1), (10, .int o14.1), (8, .long ((m.2.1 a1 (tk_n (2 : Int32))) - ((Int32.toInt64 (a3 * o7)) * (m.2.1 a1 (tk_n (7 : Int32)))))), (6, .long ((m.2.1 a1 (tk_n (1 : Int32))) - ((Int32.toInt64 o5) * (m.2.1 a1 (tk_n (7 : Int32)))))), (4, .long ((m.2.1 a1 (tk_n (0 : Int32))) - ((Int32.toInt64 o2) * (m.2.1 a1 (tk_n (7 : Int32)))))), (0, .ref 295), (1, .ref a1), (2, .int a2), (3, .int a3)]) (st' := []) ?_
    refine tk_Ps  2 (pc' := 158) (ls' := [(11, .int o20.1), (10, .int o14.1), (8, .long ((m.2.1 a1 (tk_n (2 : Int32))) - ((Int32.toInt64 (a3 * o7)) * (m.2.1 a1 (tk_n (7 : Int32)))))), (6, .long ((m.2.1 a1 (tk_n (1 : Int32))) - ((Int32.toInt64 o5) * (m.2.1 a1 (tk_n (7 : Int32)))))), (4, .long ((m.2.1 a1 (tk_n (0 : Int32))) - ((Int32.toInt64 o2) * (m.2.1 a1 (tk_n (7 : Int32)))))), (0, .ref 295), (1, .ref a1), (2, .int a2), (3, .int a3)]) (st' := [.int (0 : Int32), .ref 295]) rfl ?_
    refine tk_SI  rfl rfl ly295 ?_
    refine tk_Ps  5 (pc' := 166) (ls' := [(11, .int o20.1), (10, .int o14.1), (8, .long ((m.2.1 a1 (tk_n (2 : Int32))) - ((Int32.toInt64 (a3 * o7)) * (m.2.1 a1 (tk_n (7 : Int32)))))), (6, .long ((m.2.1 a1 (tk_n (1 : Int32))) - ((Int32.toInt64 o5) * (m.2.1 a1 (tk_n (7 : Int32)))))), (4, .long ((m.2.1 a1 (tk_n (0 : Int32))) - ((Int32.toInt64 o2) * (m.2.1 a1 (tk_n (7 : Int32)))))), (0, .ref 295), (1, .ref a1), (2, .int a2), (3, .int a3)]) (st' := [.long (0 : Int64), .ref 295, .ref 295, .ref 295, .ref 295]) rfl ?_
    obtain ⟨o23, ho23, h⟩ := tk_bnd h
    refine tk_cV1  rfl rfl (r := 295) (as := [.long (0 : Int64)]) (rest := [.ref 295, .ref 295, .ref 295]) rfl ly295 rfl rfl (ok_fM_widens sc (0 : Int64) (tk_u2 o20.2.1 295 9 (0 : Int32), o20.2.2.1, o20.2.2.2.1, o20.2.2.2.2) ho23) ?_
    refine tk_Ps  3 (pc' := 173) (ls' := [(11, .int o20.1), (10, .int o14.1), (8, .long ((m.2.1 a1 (tk_n (2 : Int32))) - ((Int32.toInt64 (a3 * o7)) * (m.2.1 a1 (tk_n (7 : Int32)))))), (6, .long ((m.2.1 a1 (tk_n (1 : Int32))) - ((Int32.toInt64 o5) * (m.2.1 a1 (tk_n (7 : Int32)))))), (4, .long ((m.2.1 a1 (tk_n (0 : Int32))) - ((Int32.toInt64 o2) * (m.2.1 a1 (tk_n (7 : Int32)))))), (0, .ref 295), (1, .ref a1), (2, .int a2), (3, .int a3)]) (st' := [.int (3 : Int32), .ref a1, .long ((m.2.1 a1 (tk_n (0 : Int32))) - ((Int32.toInt64 o2) * (m.2.1 a1 (tk_n (7 : Int32))))), .int o23.1, .ref 295, .ref 295, .ref 295]) rfl ?_
    refine tk_HJa  rfl rfl ha1 hg9 ?_
    refine tk_Ps  1 (pc' := 175) (ls' := [(11, .int o20.1), (10, .int o14.1), (8, .long ((m.2.1 a1 (tk_n (2 : Int32))) - ((Int32.toInt64 (a3 * o7)) * (m.2.1 a1 (tk_n (7 : Int32)))))), (6, .long ((m.2.1 a1 (tk_n (1 : Int32))) - ((Int32.toInt64 o5) * (m.2.1 a1 (tk_n (7 : Int32)))))), (4, .long ((m.2.1 a1 (tk_n (0 : Int32))) - ((Int32.toInt64 o2) * (m.2.1 a1 (tk_n (7 : Int32)))))), (0, .ref 295), (1, .ref a1), (2, .int a2), (3, .int a3)]) (st' := [.int (0 : Int32), .long (o23.2.2.1 a1 (tk_n (3 : Int32))), .long ((m.2.1 a1 (tk_n (0 : Int32))) - ((Int32.toInt64 o2) * (m.2.1 a1 (tk_n (7 : Int32))))), .int o23.1, .ref 295, .ref 295, .ref 295]) rfl ?_
    obtain ⟨o24, ho24, h⟩ := tk_bnd h
    refine tk_cV1  rfl rfl (r := 295) (as := [.int o23.1, .long ((m.2.1 a1 (tk_n (0 : Int32))) - ((Int32.toInt64 o2) * (m.2.1 a1 (tk_n (7 : Int32))))), .long (o23.2.2.1 a1 (tk_n (3 : Int32))), .int (0 : Int32)]) (rest := [.ref 295, .ref 295]) rfl ly295 rfl rfl (ok_fM_adds sc o23.1 ((m.2.1 a1 (tk_n (0 : Int32))) - ((Int32.toInt64 o2) * (m.2.1 a1 (tk_n (7 : Int32))))) (o23.2.2.1 a1 (tk_n (3 : Int32))) (0 : Int32) o23.2 ho24) ?_
    refine tk_Ps  3 (pc' := 182) (ls' := [(11, .int o20.1), (10, .int o14.1), (8, .long ((m.2.1 a1 (tk_n (2 : Int32))) - ((Int32.toInt64 (a3 * o7)) * (m.2.1 a1 (tk_n (7 : Int32)))))), (6, .long ((m.2.1 a1 (tk_n (1 : Int32))) - ((Int32.toInt64 o5) * (m.2.1 a1 (tk_n (7 : Int32)))))), (4, .long ((m.2.1 a1 (tk_n (0 : Int32))) - ((Int32.toInt64 o2) * (m.2.1 a1 (tk_n (7 : Int32)))))), (0, .ref 295), (1, .ref a1), (2, .int a2), (3, .int a3)]) (st' := [.int (4 : Int32), .ref a1, .long ((m.2.1 a1 (tk_n (1 : Int32))) - ((Int32.toInt64 o5) * (m.2.1 a1 (tk_n (7 : Int32))))), .int o24.1, .ref 295, .ref 295]) rfl ?_
    refine tk_HJa  rfl rfl ha1 hg11 ?_
    refine tk_Ps  1 (pc' := 184) (ls' := [(11, .int o20.1), (10, .int o14.1), (8, .long ((m.2.1 a1 (tk_n (2 : Int32))) - ((Int32.toInt64 (a3 * o7)) * (m.2.1 a1 (tk_n (7 : Int32)))))), (6, .long ((m.2.1 a1 (tk_n (1 : Int32))) - ((Int32.toInt64 o5) * (m.2.1 a1 (tk_n (7 : Int32)))))), (4, .long ((m.2.1 a1 (tk_n (0 : Int32))) - ((Int32.toInt64 o2) * (m.2.1 a1 (tk_n (7 : Int32)))))), (0, .ref 295), (1, .ref a1), (2, .int a2), (3, .int a3)]) (st' := [.int (0 : Int32), .long (o24.2.2.1 a1 (tk_n (4 : Int32))), .long ((m.2.1 a1 (tk_n (1 : Int32))) - ((Int32.toInt64 o5) * (m.2.1 a1 (tk_n (7 : Int32))))), .int o24.1, .ref 295, .ref 295]) rfl ?_
    obtain ⟨o25, ho25, h⟩ := tk_bnd h
    refine tk_cV1  rfl rfl (r := 295) (as := [.int o24.1, .long ((m.2.1 a1 (tk_n (1 : Int32))) - ((Int32.toInt64 o5) * (m.2.1 a1 (tk_n (7 : Int32))))), .long (o24.2.2.1 a1 (tk_n (4 : Int32))), .int (0 : Int32)]) (rest := [.ref 295]) rfl ly295 rfl rfl (ok_fM_adds sc o24.1 ((m.2.1 a1 (tk_n (1 : Int32))) - ((Int32.toInt64 o5) * (m.2.1 a1 (tk_n (7 : Int32))))) (o24.2.2.1 a1 (tk_n (4 : Int32))) (0 : Int32) o24.2 ho25) ?_
    refine tk_Ps  3 (pc' := 191) (ls' := [(11, .int o20.1), (10, .int o14.1), (8, .long ((m.2.1 a1 (tk_n (2 : Int32))) - ((Int32.toInt64 (a3 * o7)) * (m.2.1 a1 (tk_n (7 : Int32)))))), (6, .long ((m.2.1 a1 (tk_n (1 : Int32))) - ((Int32.toInt64 o5) * (m.2.1 a1 (tk_n (7 : Int32)))))), (4, .long ((m.2.1 a1 (tk_n (0 : Int32))) - ((Int32.toInt64 o2) * (m.2.1 a1 (tk_n (7 : Int32)))))), (0, .ref 295), (1, .ref a1), (2, .int a2), (3, .int a3)]) (st' := [.int (5 : Int32), .ref a1, .long ((m.2.1 a1 (tk_n (2 : Int32))) - ((Int32.toInt64 (a3 * o7)) * (m.2.1 a1 (tk_n (7 : Int32))))), .int o25.1, .ref 295]) rfl ?_
    refine tk_HJa  rfl rfl ha1 hg13 ?_
    refine tk_Ps  1 (pc' := 193) (ls' := [(11, .int o20.1), (10, .int o14.1), (8, .long ((m.2.1 a1 (tk_n (2 : Int32))) - ((Int32.toInt64 (a3 * o7)) * (m.2.1 a1 (tk_n (7 : Int32)))))), (6, .long ((m.2.1 a1 (tk_n (1 : Int32))) - ((Int32.toInt64 o5) * (m.2.1 a1 (tk_n (7 : Int32)))))), (4, .long ((m.2.1 a1 (tk_n (0 : Int32))) - ((Int32.toInt64 o2) * (m.2.1 a1 (tk_n (7 : Int32)))))), (0, .ref 295), (1, .ref a1), (2, .int a2), (3, .int a3)]) (st' := [.int (1 : Int32), .long (o25.2.2.1 a1 (tk_n (5 : Int32))), .long ((m.2.1 a1 (tk_n (2 : Int32))) - ((Int32.toInt64 (a3 * o7)) * (m.2.1 a1 (tk_n (7 : Int32))))), .int o25.1, .ref 295]) rfl ?_
    obtain ⟨o26, ho26, h⟩ := tk_bnd h
    refine tk_cV1  rfl rfl (r := 295) (as := [.int o25.1, .long ((m.2.1 a1 (tk_n (2 : Int32))) - ((Int32.toInt64 (a3 * o7)) * (m.2.1 a1 (tk_n (7 : Int32))))), .long (o25.2.2.1 a1 (tk_n (5 : Int32))), .int (1 : Int32)]) (rest := []) rfl ly295 rfl rfl (ok_fM_adds sc o25.1 ((m.2.1 a1 (tk_n (2 : Int32))) - ((Int32.toInt64 (a3 * o7)) * (m.2.1 a1 (tk_n (7 : Int32))))) (o25.2.2.1 a1 (tk_n (5 : Int32))) (1 : Int32) o25.2 ho26) ?_
    refine tk_Ps  3 (pc' := 201) (ls' := [(12, .int o26.1), (11, .int o20.1), (10, .int o14.1), (8, .long ((m.2.1 a1 (tk_n (2 : Int32))) - ((Int32.toInt64 (a3 * o7)) * (m.2.1 a1 (tk_n (7 : Int32)))))), (6, .long ((m.2.1 a1 (tk_n (1 : Int32))) - ((Int32.toInt64 o5) * (m.2.1 a1 (tk_n (7 : Int32)))))), (4, .long ((m.2.1 a1 (tk_n (0 : Int32))) - ((Int32.toInt64 o2) * (m.2.1 a1 (tk_n (7 : Int32)))))), (0, .ref 295), (1, .ref a1), (2, .int a2), (3, .int a3)]) (st' := [.int (6 : Int32), .ref a1]) rfl ?_
    refine tk_HJa  rfl rfl ha1 hg15 ?_
    refine tk_Ps  2 (pc' := 204) (ls' := [(12, .int o26.1), (11, .int o20.1), (10, .int o14.1), (8, .long ((m.2.1 a1 (tk_n (2 : Int32))) - ((Int32.toInt64 (a3 * o7)) * (m.2.1 a1 (tk_n (7 : Int32)))))), (6, .long ((m.2.1 a1 (tk_n (1 : Int32))) - ((Int32.toInt64 o5) * (m.2.1 a1 (tk_n (7 : Int32)))))), (4, .long ((m.2.1 a1 (tk_n (0 : Int32))) - ((Int32.toInt64 o2) * (m.2.1 a1 (tk_n (7 : Int32)))))), (0, .ref 295), (1, .ref a1), (2, .int a2), (3, .int a3)]) (st' := [.int (lg_cmp (o26.2.2.1 a1 (tk_n (6 : Int32))) (0 : Int64))]) rfl ?_
    by_cases hc27 : (o26.2.2.1 a1 (tk_n (6 : Int32))) = (0 : Int64)
    · replace h := tk_ifT hc27 h
      refine tk_bT  rfl rfl tk_eL_eq (c := (o26.2.2.1 a1 (tk_n (6 : Int32))) = (0 : Int64)) hc27 (pc' := 217) (ls' := [(12, .int o26.1), (11, .int o20.1), (10, .int o14.1), (8, .long ((m.2.1 a1 (tk_n (2 : Int32))) - ((Int32.toInt64 (a3 * o7)) * (m.2.1 a1 (tk_n (7 : Int32)))))), (6, .long ((m.2.1 a1 (tk_n (1 : Int32))) - ((Int32.toInt64 o5) * (m.2.1 a1 (tk_n (7 : Int32)))))), (4, .long ((m.2.1 a1 (tk_n (0 : Int32))) - ((Int32.toInt64 o2) * (m.2.1 a1 (tk_n (7 : Int32)))))), (0, .ref 295), (1, .ref a1), (2, .int a2), (3, .int a3)]) (st' := []) ?_
      refine tk_Ps  2 (pc' := 222) (ls' := [(12, .int o26.1), (11, .int o20.1), (10, .int o14.1), (8, .long ((m.2.1 a1 (tk_n (2 : Int32))) - ((Int32.toInt64 (a3 * o7)) * (m.2.1 a1 (tk_n (7 : Int32)))))), (6, .long ((m.2.1 a1 (tk_n (1 : Int32))) - ((Int32.toInt64 o5) * (m.2.1 a1 (tk_n (7 : Int32)))))), (4, .long ((m.2.1 a1 (tk_n (0 : Int32))) - ((Int32.toInt64 o2) * (m.2.1 a1 (tk_n (7 : Int32)))))), (0, .ref 295), (1, .ref a1), (2, .int a2), (3, .int a3)]) (st' := [.int (1 : Int32)]) rfl ?_
      replace h := Option.some.inj h
      subst h
      exact tk_RB (b := true)  rfl rfl rfl
    · replace h := tk_ifF hc27 h
      refine tk_bF  rfl rfl tk_eL_eq (c := (o26.2.2.1 a1 (tk_n (6 : Int32))) = (0 : Int64)) hc27 (pc' := 207) (ls' := [(12, .int o26.1), (11, .int o20.1), (10, .int o14.1), (8, .long ((m.2.1 a1 (tk_n (2 : Int32))) - ((Int32.toInt64 (a3 * o7)) * (m.2.1 a1 (tk_n (7 : Int32)))))), (6, .long ((m.2.1 a1 (tk_n (1 : Int32))) - ((Int32.toInt64 o5) * (m.2.1 a1 (tk_n (7 : Int32)))))), (4, .long ((m.2.1 a1 (tk_n (0 : Int32))) - ((Int32.toInt64 o2) * (m.2.1 a1 (tk_n (7 : Int32)))))), (0, .ref 295), (1, .ref a1), (2, .int a2), (3, .int a3)]) (st' := []) ?_
      refine tk_Ps  1 (pc' := 208) (ls' := [(12, .int o26.1), (11, .int o20.1), (10, .int o14.1), (8, .long ((m.2.1 a1 (tk_n (2 : Int32))) - ((Int32.toInt64 (a3 * o7)) * (m.2.1 a1 (tk_n (7 : Int32)))))), (6, .long ((m.2.1 a1 (tk_n (1 : Int32))) - ((Int32.toInt64 o5) * (m.2.1 a1 (tk_n (7 : Int32)))))), (4, .long ((m.2.1 a1 (tk_n (0 : Int32))) - ((Int32.toInt64 o2) * (m.2.1 a1 (tk_n (7 : Int32)))))), (0, .ref 295), (1, .ref a1), (2, .int a2), (3, .int a3)]) (st' := [.ref 295]) rfl ?_
      refine tk_HR  rfl rfl ly295 rt295_8 ?_
      refine tk_Ps  1 (pc' := 213) (ls' := [(12, .int o26.1), (11, .int o20.1), (10, .int o14.1), (8, .long ((m.2.1 a1 (tk_n (2 : Int32))) - ((Int32.toInt64 (a3 * o7)) * (m.2.1 a1 (tk_n (7 : Int32)))))), (6, .long ((m.2.1 a1 (tk_n (1 : Int32))) - ((Int32.toInt64 o5) * (m.2.1 a1 (tk_n (7 : Int32)))))), (4, .long ((m.2.1 a1 (tk_n (0 : Int32))) - ((Int32.toInt64 o2) * (m.2.1 a1 (tk_n (7 : Int32)))))), (0, .ref 295), (1, .ref a1), (2, .int a2), (3, .int a3)]) (st' := [.int o26.1, .ref 348]) rfl ?_
      obtain ⟨hg28, h⟩ := tk_grd h
      refine tk_HIa  rfl rfl ly348 hg28 ?_
      by_cases hc29 : (o26.2.1 348 (tk_n o26.1)) = 0
      · replace h := tk_ifT hc29 h
        refine tk_bT  rfl rfl rfl (c := (o26.2.1 348 (tk_n o26.1)) = 0) hc29 (pc' := 217) (ls' := [(12, .int o26.1), (11, .int o20.1), (10, .int o14.1), (8, .long ((m.2.1 a1 (tk_n (2 : Int32))) - ((Int32.toInt64 (a3 * o7)) * (m.2.1 a1 (tk_n (7 : Int32)))))), (6, .long ((m.2.1 a1 (tk_n (1 : Int32))) - ((Int32.toInt64 o5) * (m.2.1 a1 (tk_n (7 : Int32)))))), (4, .long ((m.2.1 a1 (tk_n (0 : Int32))) - ((Int32.toInt64 o2) * (m.2.1 a1 (tk_n (7 : Int32)))))), (0, .ref 295), (1, .ref a1), (2, .int a2), (3, .int a3)]) (st' := []) ?_
        refine tk_Ps  2 (pc' := 222) (ls' := [(12, .int o26.1), (11, .int o20.1), (10, .int o14.1), (8, .long ((m.2.1 a1 (tk_n (2 : Int32))) - ((Int32.toInt64 (a3 * o7)) * (m.2.1 a1 (tk_n (7 : Int32)))))), (6, .long ((m.2.1 a1 (tk_n (1 : Int32))) - ((Int32.toInt64 o5) * (m.2.1 a1 (tk_n (7 : Int32)))))), (4, .long ((m.2.1 a1 (tk_n (0 : Int32))) - ((Int32.toInt64 o2) * (m.2.1 a1 (tk_n (7 : Int32)))))), (0, .ref 295), (1, .ref a1), (2, .int a2), (3, .int a3)]) (st' := [.int (1 : Int32)]) rfl ?_
        replace h := Option.some.inj h
        subst h
        exact tk_RB (b := true)  rfl rfl rfl
      · replace h := tk_ifF hc29 h
        refine tk_bF  rfl rfl rfl (c := (o26.2.1 348 (tk_n o26.1)) = 0) hc29 (pc' := 221) (ls' := [(12, .int o26.1), (11, .int o20.1), (10, .int o14.1), (8, .long ((m.2.1 a1 (tk_n (2 : Int32))) - ((Int32.toInt64 (a3 * o7)) * (m.2.1 a1 (tk_n (7 : Int32)))))), (6, .long ((m.2.1 a1 (tk_n (1 : Int32))) - ((Int32.toInt64 o5) * (m.2.1 a1 (tk_n (7 : Int32)))))), (4, .long ((m.2.1 a1 (tk_n (0 : Int32))) - ((Int32.toInt64 o2) * (m.2.1 a1 (tk_n (7 : Int32)))))), (0, .ref 295), (1, .ref a1), (2, .int a2), (3, .int a3)]) (st' := []) ?_
        refine tk_Ps  1 (pc' := 222) (ls' := [(12, .int o26.1), (11, .int o20.1), (10, .int o14.1), (8, .long ((m.2.1 a1 (tk_n (2 : Int32))) - ((Int32.toInt64 (a3 * o7)) * (m.2.1 a1 (tk_n (7 : Int32)))))), (6, .long ((m.2.1 a1 (tk_n (1 : Int32))) - ((Int32.toInt64 o5) * (m.2.1 a1 (tk_n (7 : Int32)))))), (4, .long ((m.2.1 a1 (tk_n (0 : Int32))) - ((Int32.toInt64 o2) * (m.2.1 a1 (tk_n (7 : Int32)))))), (0, .ref 295), (1, .ref a1), (2, .int a2), (3, .int a3)]) (st' := [.int (0 : Int32)]) rfl ?_
        replace h := Option.some.inj h
        subst h
        exact tk_RB (b := false)  rfl rfl rfl
  · replace h := tk_ifF hc22 h
    refine tk_bF  rfl rfl rfl (c := (o20.2.1 348 (tk_n o20.1)) = 0) hc22 (pc' := 154) (ls' := [(11, .int o20.1), (10, .int o14.1), (8, .long ((m.2.1 a1 (tk_n (2 : Int32))) - ((Int32.toInt64 (a3 * o7)) * (m.2.1 a1 (tk_n (7 : Int32)))))), (6, .long ((m.2.1 a1 (tk_n (1 : Int32))) - ((Int32.toInt64 o5) * (m.2.1 a1 (tk_n (7 : Int32)))))), (4, .long ((m.2.1 a1 (tk_n (0 : Int32))) - ((Int32.toInt64 o2) * (m.2.1 a1 (tk_n (7 : Int32)))))), (0, .ref 295), (1, .ref a1), (2, .int a2), (3, .int a3)]) (st' := []) ?_
    refine tk_Ps  1 (pc' := 155) (ls' := [(11, .int o20.1), (10, .int o14.1), (8, .long ((m.2.1 a1 (tk_n (2 : Int32))) - ((Int32.toInt64 (a3 * o7)) * (m.2.1 a1 (tk_n (7 : Int32)))))), (6, .long ((m.2.1 a1 (tk_n (1 : Int32))) - ((Int32.toInt64 o5) * (m.2.1 a1 (tk_n (7 : Int32)))))), (4, .long ((m.2.1 a1 (tk_n (0 : Int32))) - ((Int32.toInt64 o2) * (m.2.1 a1 (tk_n (7 : Int32)))))), (0, .ref 295), (1, .ref a1), (2, .int a2), (3, .int a3)]) (st' := [.int (0 : Int32)]) rfl ?_
    replace h := Option.some.inj h
    subst h
    exact tk_RB (b := false)  rfl rfl rfl
theorem ok_fM_touchesStraight (sc : tk_X) (a1 : Nat) (a2 : Int32) (a3 : Int32) (m : tk_m) (ha1 : tk_lay[a1]? = some (.inr (1, tk_al a1))) {out : Bool} (h : fM_touchesStraight a1 a2 a3 m = some out) : tk_Ru sc 3 251 [.ref 295, .ref a1, .int a2, .int a3] (tk_full m) (some (.int (tk_b out)), tk_full m) := by
  unfold fM_touchesStraight at h
  refine tk_Ru0 me251 (ls := [(0, .ref 295), (1, .ref a1), (2, .int a2), (3, .int a3)]) rfl rfl ?_
  refine tk_Ps  1 (pc' := 1) (ls' := [(0, .ref 295), (1, .ref a1), (2, .int a2), (3, .int a3)]) (st' := [.ref 295]) rfl ?_
  refine tk_Hst  rfl rfl ?_
  refine tk_Ps  1 (pc' := 5) (ls' := [(0, .ref 295), (1, .ref a1), (2, .int a2), (3, .int a3)]) (st' := [.int a2, .ref 1003, .ref 295]) rfl ?_
  obtain ⟨o1, ho1, h⟩ := tk_bnd h
  refine tk_cV1  rfl rfl (r := 295) (as := [.ref 1003, .int a2]) (rest := []) rfl ly295 rfl rfl (ok_fM_slant sc 1003 a2 m (by decide) ho1) ?_
  refine tk_Ps  3 (pc' := 12) (ls' := [(4, .long (Int32.toInt64 o1)), (0, .ref 295), (1, .ref a1), (2, .int a2), (3, .int a3)]) (st' := [.ref 295]) rfl ?_
  refine tk_Hst  rfl rfl ?_
  refine tk_Ps  1 (pc' := 16) (ls' := [(4, .long (Int32.toInt64 o1)), (0, .ref 295), (1, .ref a1), (2, .int a2), (3, .int a3)]) (st' := [.int a2, .ref 1004, .ref 295]) rfl ?_
  obtain ⟨o2, ho2, h⟩ := tk_bnd h
  refine tk_cV1  rfl rfl (r := 295) (as := [.ref 1004, .int a2]) (rest := []) rfl ly295 rfl rfl (ok_fM_slant sc 1004 a2 m (by decide) ho2) ?_
  refine tk_Ps  4 (pc' := 24) (ls' := [(6, .long (Int32.toInt64 o2)), (4, .long (Int32.toInt64 o1)), (0, .ref 295), (1, .ref a1), (2, .int a2), (3, .int a3)]) (st' := [.ref 295, .int a3]) rfl ?_
  refine tk_Hst  rfl rfl ?_
  refine tk_Ps  1 (pc' := 28) (ls' := [(6, .long (Int32.toInt64 o2)), (4, .long (Int32.toInt64 o1)), (0, .ref 295), (1, .ref a1), (2, .int a2), (3, .int a3)]) (st' := [.int a2, .ref 1005, .ref 295, .int a3]) rfl ?_
  obtain ⟨o3, ho3, h⟩ := tk_bnd h
  refine tk_cV1  rfl rfl (r := 295) (as := [.ref 1005, .int a2]) (rest := [.int a3]) rfl ly295 rfl rfl (ok_fM_slant sc 1005 a2 m (by decide) ho3) ?_
  refine tk_Ps  6 (pc' := 39) (ls' := [(8, .long (Int32.toInt64 (a3 * o3))), (6, .long (Int32.toInt64 o2)), (4, .long (Int32.toInt64 o1)), (0, .ref 295), (1, .ref a1), (2, .int a2), (3, .int a3)]) (st' := [.int (0 : Int32), .ref a1, .long (Int32.toInt64 o1)]) rfl ?_
  obtain ⟨hg4, h⟩ := tk_grd h
  refine tk_HJa  rfl rfl ha1 hg4 ?_
  refine tk_Ps  4 (pc' := 45) (ls' := [(8, .long (Int32.toInt64 (a3 * o3))), (6, .long (Int32.toInt64 o2)), (4, .long (Int32.toInt64 o1)), (0, .ref 295), (1, .ref a1), (2, .int a2), (3, .int a3)]) (st' := [.int (1 : Int32), .ref a1, .long (Int32.toInt64 o2), .long ((Int32.toInt64 o1) * (m.2.1 a1 (tk_n (0 : Int32))))]) rfl ?_
  obtain ⟨hg5, h⟩ := tk_grd h
  refine tk_HJa  rfl rfl ha1 hg5 ?_
  refine tk_Ps  5 (pc' := 51) (ls' := [(8, .long (Int32.toInt64 (a3 * o3))), (6, .long (Int32.toInt64 o2)), (4, .long (Int32.toInt64 o1)), (0, .ref 295), (1, .ref a1), (2, .int a2), (3, .int a3)]) (st' := [.int (2 : Int32), .int a2, .ref 295, .long (((Int32.toInt64 o1) * (m.2.1 a1 (tk_n (0 : Int32)))) + ((Int32.toInt64 o2) * (m.2.1 a1 (tk_n (1 : Int32)))))]) rfl ?_
  obtain ⟨o6, ho6, h⟩ := tk_bnd h
  refine tk_cV1  rfl rfl (r := 295) (as := [.int a2, .int (2 : Int32)]) (rest := [.long (((Int32.toInt64 o1) * (m.2.1 a1 (tk_n (0 : Int32)))) + ((Int32.toInt64 o2) * (m.2.1 a1 (tk_n (1 : Int32)))))]) rfl ly295 rfl rfl (ok_fM_of0 sc a2 (2 : Int32) m ho6) ?_
  refine tk_Ps  3 (pc' := 58) (ls' := [(8, .long (Int32.toInt64 (a3 * o3))), (6, .long (Int32.toInt64 o2)), (4, .long (Int32.toInt64 o1)), (0, .ref 295), (1, .ref a1), (2, .int a2), (3, .int a3)]) (st' := [.int (7 : Int32), .ref a1, .long (Int32.toInt64 o6), .long (((Int32.toInt64 o1) * (m.2.1 a1 (tk_n (0 : Int32)))) + ((Int32.toInt64 o2) * (m.2.1 a1 (tk_n (1 : Int32)))))]) rfl ?_
  obtain ⟨hg7, h⟩ := tk_grd h
  refine tk_HJa  rfl rfl ha1 hg7 ?_
  refine tk_Ps  5 (pc' := 65) (ls' := [(8, .long (Int32.toInt64 (a3 * o3))), (6, .long (Int32.toInt64 o2)), (4, .long (Int32.toInt64 o1)), (0, .ref 295), (1, .ref a1), (2, .int a2), (3, .int a3)]) (st' := [.int (2 : Int32), .ref a1, .long (Int32.toInt64 (a3 * o3)), .long ((((Int32.toInt64 o1) * (m.2.1 a1 (tk_n (0 : Int32)))) + ((Int32.toInt64 o2) * (m.2.1 a1 (tk_n (1 : Int32))))) - ((Int32.toInt64 o6) * (m.2.1 a1 (tk_n (7 : Int32)))))]) rfl ?_
  obtain ⟨hg8, h⟩ := tk_grd h
  refine tk_HJa  rfl rfl ha1 hg8 ?_
  refine tk_Ps  2 (pc' := 68) (ls' := [(8, .long (Int32.toInt64 (a3 * o3))), (6, .long (Int32.toInt64 o2)), (4, .long (Int32.toInt64 o1)), (0, .ref 295), (1, .ref a1), (2, .int a2), (3, .int a3)]) (st' := [.int (lg_cmp ((((Int32.toInt64 o1) * (m.2.1 a1 (tk_n (0 : Int32)))) + ((Int32.toInt64 o2) * (m.2.1 a1 (tk_n (1 : Int32))))) - ((Int32.toInt64 o6) * (m.2.1 a1 (tk_n (7 : Int32))))) ((Int32.toInt64 (a3 * o3)) * (m.2.1 a1 (tk_n (2 : Int32)))))]) rfl ?_
  by_cases hc9 : ((((Int32.toInt64 o1) * (m.2.1 a1 (tk_n (0 : Int32)))) + ((Int32.toInt64 o2) * (m.2.1 a1 (tk_n (1 : Int32))))) - ((Int32.toInt64 o6) * (m.2.1 a1 (tk_n (7 : Int32))))) = ((Int32.toInt64 (a3 * o3)) * (m.2.1 a1 (tk_n (2 : Int32))))
  · replace h := tk_ifT hc9 h
    refine tk_bT  rfl rfl tk_eL_ne (c := ((((Int32.toInt64 o1) * (m.2.1 a1 (tk_n (0 : Int32)))) + ((Int32.toInt64 o2) * (m.2.1 a1 (tk_n (1 : Int32))))) - ((Int32.toInt64 o6) * (m.2.1 a1 (tk_n (7 : Int32))))) = ((Int32.toInt64 (a3 * o3)) * (m.2.1 a1 (tk_n (2 : Int32))))) hc9 (pc' := 71) (ls' := [(8, .long (Int32.toInt64 (a3 * o3))), (6, .long (Int32.toInt64 o2)), (4, .long (Int32.toInt64 o1)), (0, .ref 295), (1, .ref a1), (2, .int a2), (3, .int a3)]) (st' := []) ?_
    refine tk_Ps  3 (pc' := 75) (ls' := [(8, .long (Int32.toInt64 (a3 * o3))), (6, .long (Int32.toInt64 o2)), (4, .long (Int32.toInt64 o1)), (0, .ref 295), (1, .ref a1), (2, .int a2), (3, .int a3)]) (st' := [.int (3 : Int32), .ref a1, .long (Int32.toInt64 o1)]) rfl ?_
    obtain ⟨hg10, h⟩ := tk_grd h
    refine tk_HJa  rfl rfl ha1 hg10 ?_
    refine tk_Ps  4 (pc' := 81) (ls' := [(8, .long (Int32.toInt64 (a3 * o3))), (6, .long (Int32.toInt64 o2)), (4, .long (Int32.toInt64 o1)), (0, .ref 295), (1, .ref a1), (2, .int a2), (3, .int a3)]) (st' := [.int (4 : Int32), .ref a1, .long (Int32.toInt64 o2), .long ((Int32.toInt64 o1) * (m.2.1 a1 (tk_n (3 : Int32))))]) rfl ?_
    obtain ⟨hg11, h⟩ := tk_grd h
    refine tk_HJa  rfl rfl ha1 hg11 ?_
    refine tk_Ps  5 (pc' := 88) (ls' := [(8, .long (Int32.toInt64 (a3 * o3))), (6, .long (Int32.toInt64 o2)), (4, .long (Int32.toInt64 o1)), (0, .ref 295), (1, .ref a1), (2, .int a2), (3, .int a3)]) (st' := [.int (5 : Int32), .ref a1, .long (Int32.toInt64 (a3 * o3)), .long (((Int32.toInt64 o1) * (m.2.1 a1 (tk_n (3 : Int32)))) + ((Int32.toInt64 o2) * (m.2.1 a1 (tk_n (4 : Int32)))))]) rfl ?_
    obtain ⟨hg12, h⟩ := tk_grd h
    refine tk_HJa  rfl rfl ha1 hg12 ?_
    refine tk_Ps  2 (pc' := 91) (ls' := [(8, .long (Int32.toInt64 (a3 * o3))), (6, .long (Int32.toInt64 o2)), (4, .long (Int32.toInt64 o1)), (0, .ref 295), (1, .ref a1), (2, .int a2), (3, .int a3)]) (st' := [.int (lg_cmp (((Int32.toInt64 o1) * (m.2.1 a1 (tk_n (3 : Int32)))) + ((Int32.toInt64 o2) * (m.2.1 a1 (tk_n (4 : Int32))))) ((Int32.toInt64 (a3 * o3)) * (m.2.1 a1 (tk_n (5 : Int32)))))]) rfl ?_
    by_cases hc13 : (((Int32.toInt64 o1) * (m.2.1 a1 (tk_n (3 : Int32)))) + ((Int32.toInt64 o2) * (m.2.1 a1 (tk_n (4 : Int32))))) = ((Int32.toInt64 (a3 * o3)) * (m.2.1 a1 (tk_n (5 : Int32))))
    · replace h := tk_ifT hc13 h
      refine tk_bT  rfl rfl tk_eL_ne (c := (((Int32.toInt64 o1) * (m.2.1 a1 (tk_n (3 : Int32)))) + ((Int32.toInt64 o2) * (m.2.1 a1 (tk_n (4 : Int32))))) = ((Int32.toInt64 (a3 * o3)) * (m.2.1 a1 (tk_n (5 : Int32))))) hc13 (pc' := 94) (ls' := [(8, .long (Int32.toInt64 (a3 * o3))), (6, .long (Int32.toInt64 o2)), (4, .long (Int32.toInt64 o1)), (0, .ref 295), (1, .ref a1), (2, .int a2), (3, .int a3)]) (st' := []) ?_
      refine tk_Ps  2 (pc' := 99) (ls' := [(8, .long (Int32.toInt64 (a3 * o3))), (6, .long (Int32.toInt64 o2)), (4, .long (Int32.toInt64 o1)), (0, .ref 295), (1, .ref a1), (2, .int a2), (3, .int a3)]) (st' := [.int (1 : Int32)]) rfl ?_
      replace h := Option.some.inj h
      subst h
      exact tk_RB (b := true)  rfl rfl rfl
    · replace h := tk_ifF hc13 h
      refine tk_bF  rfl rfl tk_eL_ne (c := (((Int32.toInt64 o1) * (m.2.1 a1 (tk_n (3 : Int32)))) + ((Int32.toInt64 o2) * (m.2.1 a1 (tk_n (4 : Int32))))) = ((Int32.toInt64 (a3 * o3)) * (m.2.1 a1 (tk_n (5 : Int32))))) hc13 (pc' := 98) (ls' := [(8, .long (Int32.toInt64 (a3 * o3))), (6, .long (Int32.toInt64 o2)), (4, .long (Int32.toInt64 o1)), (0, .ref 295), (1, .ref a1), (2, .int a2), (3, .int a3)]) (st' := []) ?_
      refine tk_Ps  1 (pc' := 99) (ls' := [(8, .long (Int32.toInt64 (a3 * o3))), (6, .long (Int32.toInt64 o2)), (4, .long (Int32.toInt64 o1)), (0, .ref 295), (1, .ref a1), (2, .int a2), (3, .int a3)]) (st' := [.int (0 : Int32)]) rfl ?_
      replace h := Option.some.inj h
      subst h
      exact tk_RB (b := false)  rfl rfl rfl
  · replace h := tk_ifF hc9 h
    refine tk_bF  rfl rfl tk_eL_ne (c := ((((Int32.toInt64 o1) * (m.2.1 a1 (tk_n (0 : Int32)))) + ((Int32.toInt64 o2) * (m.2.1 a1 (tk_n (1 : Int32))))) - ((Int32.toInt64 o6) * (m.2.1 a1 (tk_n (7 : Int32))))) = ((Int32.toInt64 (a3 * o3)) * (m.2.1 a1 (tk_n (2 : Int32))))) hc9 (pc' := 98) (ls' := [(8, .long (Int32.toInt64 (a3 * o3))), (6, .long (Int32.toInt64 o2)), (4, .long (Int32.toInt64 o1)), (0, .ref 295), (1, .ref a1), (2, .int a2), (3, .int a3)]) (st' := []) ?_
    refine tk_Ps  1 (pc' := 99) (ls' := [(8, .long (Int32.toInt64 (a3 * o3))), (6, .long (Int32.toInt64 o2)), (4, .long (Int32.toInt64 o1)), (0, .ref 295), (1, .ref a1), (2, .int a2), (3, .int a3)]) (st' := [.int (0 : Int32)]) rfl ?_
    replace h := Option.some.inj h
    subst h
    exact tk_RB (b := false)  rfl rfl rfl
theorem ok_fM_touches_82 (sc : tk_X) (v4 : Int32) (m : tk_m) (out : Int32 × tk_m) (h : fM_touches_82 v4 m = some out) : tk_Ex sc 9 tk_r248 tk_k248 82 [(4, .int v4)] [] (tk_full m) (some (.int out.1), tk_full out.2) := by
  unfold fM_touches_82 at h
  refine tk_Ps  2 (pc' := 85) (ls' := [(4, .int v4)]) (st' := [.int (1 : Int32), .int v4]) rfl ?_
  by_cases hc1 : v4 = (1 : Int32)
  · replace h := tk_ifT hc1 h
    refine tk_bT  rfl rfl rfl (c := v4 = (1 : Int32)) hc1 (pc' := 88) (ls' := [(4, .int v4)]) (st' := []) ?_
    refine tk_Ps  2 (pc' := 93) (ls' := [(4, .int v4)]) (st' := [.int (1 : Int32)]) rfl ?_
    replace h := Option.some.inj h
    subst h
    exact tk_RI  rfl rfl rfl
  · replace h := tk_ifF hc1 h
    refine tk_bF  rfl rfl rfl (c := v4 = (1 : Int32)) hc1 (pc' := 92) (ls' := [(4, .int v4)]) (st' := []) ?_
    refine tk_Ps  1 (pc' := 93) (ls' := [(4, .int v4)]) (st' := [.int (2 : Int32)]) rfl ?_
    replace h := Option.some.inj h
    subst h
    exact tk_RI  rfl rfl rfl
theorem ok_fM_touches_33 (sc : tk_X) : ∀ (n : Nat) (v1 : Int32) (v2 : Int32) (v4 : Int32) (m : tk_m) (out : Int32 × tk_m), fM_touches_33 n v1 v2 v4 m = some out → tk_Ex sc 9 tk_r248 tk_k248 33 [(0, .ref 295), (1, .int v1), (2, .int v2), (4, .int v4)] [] (tk_full m) (some (.int out.1), tk_full out.2) := by
  intro n
  induction n with
  | zero =>
    intro v1 v2 v4 m out h
    cases h
  | succ n ih =>
    intro v1 v2 v4 m out h
    unfold fM_touches_33 at h
    refine tk_Ps  2 (pc' := 36) (ls' := [(0, .ref 295), (1, .int v1), (2, .int v2), (4, .int v4)]) (st' := [.int (-1 : Int32), .int v4]) rfl ?_
    by_cases hc1 : v4 < (-1 : Int32)
    · replace h := tk_ifT hc1 h
      refine tk_bT  rfl rfl rfl (c := v4 < (-1 : Int32)) hc1 (pc' := 100) (ls' := [(0, .ref 295), (1, .int v1), (2, .int v2), (4, .int v4)]) (st' := []) ?_
      refine tk_Ps  1 (pc' := 101) (ls' := [(0, .ref 295), (1, .int v1), (2, .int v2), (4, .int v4)]) (st' := [.int (0 : Int32)]) rfl ?_
      replace h := Option.some.inj h
      subst h
      exact tk_RI  rfl rfl rfl
    · replace h := tk_ifF hc1 h
      refine tk_bF  rfl rfl rfl (c := v4 < (-1 : Int32)) hc1 (pc' := 39) (ls' := [(0, .ref 295), (1, .int v1), (2, .int v2), (4, .int v4)]) (st' := []) ?_
      refine tk_Ps  2 (pc' := 41) (ls' := [(0, .ref 295), (1, .int v1), (2, .int v2), (4, .int v4)]) (st' := [.int v2, .ref 295]) rfl ?_
      obtain ⟨o2, ho2, h⟩ := tk_bnd h
      refine tk_cV1  rfl rfl (r := 295) (as := [.int v2]) (rest := []) rfl ly295 rfl rfl (ok_fM_isRound sc v2 m ho2) ?_
      by_cases hc3 : o2 = true
      · replace h := tk_ifT hc3 h
        refine tk_bT  rfl rfl tk_eB_eq (c := o2 = true) hc3 (pc' := 47) (ls' := [(0, .ref 295), (1, .int v1), (2, .int v2), (4, .int v4)]) (st' := []) ?_
        refine tk_Ps  2 (pc' := 49) (ls' := [(0, .ref 295), (1, .int v1), (2, .int v2), (4, .int v4)]) (st' := [.ref 295, .ref 295]) rfl ?_
        refine tk_HR  rfl rfl ly295 rt295_14 ?_
        refine tk_Ps  1 (pc' := 53) (ls' := [(0, .ref 295), (1, .int v1), (2, .int v2), (4, .int v4)]) (st' := [.int v1, .ref 415, .ref 295]) rfl ?_
        obtain ⟨hg4, h⟩ := tk_grd h
        refine tk_HQ  rfl rfl ly415 hg4 (la415 _ (hg4).2).1 ?_
        refine tk_Ps  2 (pc' := 57) (ls' := [(0, .ref 295), (1, .int v1), (2, .int v2), (4, .int v4)]) (st' := [.int v4, .int v2, .ref (416 + (tk_n v1)), .ref 295]) rfl ?_
        obtain ⟨o5, ho5, h⟩ := tk_bnd h
        refine tk_cV1  rfl rfl (r := 295) (as := [.ref (416 + (tk_n v1)), .int v2, .int v4]) (rest := []) rfl ly295 rfl rfl (ok_fM_touchesRound sc (416 + (tk_n v1)) v2 v4 m (tk_al_of ((la415 _ (hg4).2).2)) ho5) ?_
        by_cases hc6 : o5.1 = true
        · replace h := tk_ifT hc6 h
          refine tk_bT  rfl rfl tk_eB_eq (c := o5.1 = true) hc6 (pc' := 63) (ls' := [(0, .ref 295), (1, .int v1), (2, .int v2), (4, .int v4)]) (st' := []) ?_
          refine tk_Ps  1 (pc' := 82) (ls' := [(0, .ref 295), (1, .int v1), (2, .int v2), (4, .int v4)]) (st' := []) rfl ?_
          refine tk_Kp  (ls' := [(4, .int v4)]) rfl rfl ?_
          exact ok_fM_touches_82 sc v4 o5.2 _ h
        · replace h := tk_ifF hc6 h
          refine tk_bF  rfl rfl tk_eB_eq (c := o5.1 = true) hc6 (pc' := 94) (ls' := [(0, .ref 295), (1, .int v1), (2, .int v2), (4, .int v4)]) (st' := []) ?_
          refine tk_Ps  2 (pc' := 33) (ls' := [(4, .int (v4 + (-2 : Int32))), (0, .ref 295), (1, .int v1), (2, .int v2)]) (st' := []) rfl ?_
          refine tk_Kp  (ls' := [(0, .ref 295), (1, .int v1), (2, .int v2), (4, .int (v4 + (-2 : Int32)))]) rfl rfl ?_
          exact ih v1 v2 (v4 + (-2 : Int32)) o5.2 _ h
      · replace h := tk_ifF hc3 h
        refine tk_bF  rfl rfl tk_eB_eq (c := o2 = true) hc3 (pc' := 66) (ls' := [(0, .ref 295), (1, .int v1), (2, .int v2), (4, .int v4)]) (st' := []) ?_
        refine tk_Ps  2 (pc' := 68) (ls' := [(0, .ref 295), (1, .int v1), (2, .int v2), (4, .int v4)]) (st' := [.ref 295, .ref 295]) rfl ?_
        refine tk_HR  rfl rfl ly295 rt295_14 ?_
        refine tk_Ps  1 (pc' := 72) (ls' := [(0, .ref 295), (1, .int v1), (2, .int v2), (4, .int v4)]) (st' := [.int v1, .ref 415, .ref 295]) rfl ?_
        obtain ⟨hg7, h⟩ := tk_grd h
        refine tk_HQ  rfl rfl ly415 hg7 (la415 _ (hg7).2).1 ?_
        refine tk_Ps  2 (pc' := 76) (ls' := [(0, .ref 295), (1, .int v1), (2, .int v2), (4, .int v4)]) (st' := [.int v4, .int v2, .ref (416 + (tk_n v1)), .ref 295]) rfl ?_
        obtain ⟨o8, ho8, h⟩ := tk_bnd h
        refine tk_cV1  rfl rfl (r := 295) (as := [.ref (416 + (tk_n v1)), .int v2, .int v4]) (rest := []) rfl ly295 rfl rfl (ok_fM_touchesStraight sc (416 + (tk_n v1)) v2 v4 m (tk_al_of ((la415 _ (hg7).2).2)) ho8) ?_
        by_cases hc9 : o8 = true
        · replace h := tk_ifT hc9 h
          refine tk_bT  rfl rfl tk_eB_eq (c := o8 = true) hc9 (pc' := 82) (ls' := [(0, .ref 295), (1, .int v1), (2, .int v2), (4, .int v4)]) (st' := []) ?_
          refine tk_Kp  (ls' := [(4, .int v4)]) rfl rfl ?_
          exact ok_fM_touches_82 sc v4 m _ h
        · replace h := tk_ifF hc9 h
          refine tk_bF  rfl rfl tk_eB_eq (c := o8 = true) hc9 (pc' := 94) (ls' := [(0, .ref 295), (1, .int v1), (2, .int v2), (4, .int v4)]) (st' := []) ?_
          refine tk_Ps  2 (pc' := 33) (ls' := [(4, .int (v4 + (-2 : Int32))), (0, .ref 295), (1, .int v1), (2, .int v2)]) (st' := []) rfl ?_
          refine tk_Kp  (ls' := [(0, .ref 295), (1, .int v1), (2, .int v2), (4, .int (v4 + (-2 : Int32)))]) rfl rfl ?_
          exact ih v1 v2 (v4 + (-2 : Int32)) m _ h
theorem ok_fM_touches (sc : tk_X) (a1 : Int32) (a2 : Int32) (m : tk_m) {out : Int32 × tk_m} (h : fM_touches a1 a2 m = some out) : tk_Ru sc 10 248 [.ref 295, .int a1, .int a2] (tk_full m) (some (.int out.1), tk_full out.2) := by
  unfold fM_touches at h
  refine tk_Ru0 me248 (ls := [(0, .ref 295), (1, .int a1), (2, .int a2)]) rfl rfl ?_
  refine tk_Ps  2 (pc' := 2) (ls' := [(0, .ref 295), (1, .int a1), (2, .int a2)]) (st' := [.int a2, .ref 295]) rfl ?_
  refine tk_cV1  rfl rfl (r := 295) (as := [.int a2]) (rest := []) rfl ly295 rfl rfl (ok_fM_isShape sc a2 m) ?_
  by_cases hc1 : (fM_isShape a2 m) = true
  · replace h := tk_ifT hc1 h
    refine tk_bT  rfl rfl tk_eB_ne (c := (fM_isShape a2 m) = true) hc1 (pc' := 14) (ls' := [(0, .ref 295), (1, .int a1), (2, .int a2)]) (st' := []) ?_
    refine tk_Ps  2 (pc' := 16) (ls' := [(0, .ref 295), (1, .int a1), (2, .int a2)]) (st' := [.int a1, .ref 295]) rfl ?_
    obtain ⟨o2, ho2, h⟩ := tk_bnd h
    refine tk_cV1  rfl rfl (r := 295) (as := [.int a1]) (rest := []) rfl ly295 rfl rfl (ok_fM_whyNot sc a1 m ho2) ?_
    refine tk_Ps  2 (pc' := 21) (ls' := [(3, .int o2.1), (0, .ref 295), (1, .int a1), (2, .int a2)]) (st' := [.int o2.1]) rfl ?_
    by_cases hc3 : o2.1 < 0
    · replace h := tk_ifT hc3 h
      refine tk_bT  rfl rfl rfl (c := o2.1 < 0) hc3 (pc' := 30) (ls' := [(3, .int o2.1), (0, .ref 295), (1, .int a1), (2, .int a2)]) (st' := []) ?_
      refine tk_Ps  2 (pc' := 33) (ls' := [(4, .int (1 : Int32)), (3, .int o2.1), (0, .ref 295), (1, .int a1), (2, .int a2)]) (st' := []) rfl ?_
      refine tk_Kp  (ls' := [(0, .ref 295), (1, .int a1), (2, .int a2), (4, .int (1 : Int32))]) rfl rfl ?_
      exact ok_fM_touches_33 sc tk_F a1 a2 (1 : Int32) o2.2 _ h
    · replace h := tk_ifF hc3 h
      refine tk_bF  rfl rfl rfl (c := o2.1 < 0) hc3 (pc' := 24) (ls' := [(3, .int o2.1), (0, .ref 295), (1, .int a1), (2, .int a2)]) (st' := []) ?_
      refine tk_Ps  2 (pc' := 26) (ls' := [(3, .int o2.1), (0, .ref 295), (1, .int a1), (2, .int a2)]) (st' := [.int o2.1, .ref 295]) rfl ?_
      obtain ⟨o4, ho4, h⟩ := tk_bnd h
      refine tk_cV1  rfl rfl (r := 295) (as := [.int o2.1]) (rest := []) rfl ly295 rfl rfl (ok_fM_finds sc o2.1 o2.2 ho4) ?_
      replace h := Option.some.inj h
      subst h
      exact tk_RI  rfl rfl rfl
  · replace h := tk_ifF hc1 h
    refine tk_bF  rfl rfl tk_eB_ne (c := (fM_isShape a2 m) = true) hc1 (pc' := 8) (ls' := [(0, .ref 295), (1, .int a1), (2, .int a2)]) (st' := []) ?_
    refine tk_Ps  2 (pc' := 10) (ls' := [(0, .ref 295), (1, .int a1), (2, .int a2)]) (st' := [.int (0 : Int32), .ref 295]) rfl ?_
    obtain ⟨o5, ho5, h⟩ := tk_bnd h
    refine tk_cV1  rfl rfl (r := 295) (as := [.int (0 : Int32)]) (rest := []) rfl ly295 rfl rfl (ok_fM_finds sc (0 : Int32) m ho5) ?_
    replace h := Option.some.inj h
    subst h
    exact tk_RI  rfl rfl rfl
theorem ok_fM_isSheet (sc : tk_X) (a1 : Int32) (m : tk_m) : tk_Ru sc 2 253 [.int a1] (tk_full m) (some (.int (tk_b (fM_isSheet a1))), tk_full m) := by
  obtain ⟨out, h⟩ : ∃ out, fM_isSheet a1 = out := ⟨_, rfl⟩
  rw [h]
  unfold fM_isSheet at h
  refine tk_Ru0 me253 (ls := [(0, .int a1)]) rfl rfl ?_
  refine tk_Ps  4 (pc' := 6) (ls' := [(0, .int a1)]) (st' := [.long (3 : Int64), .long (0 : Int64), .long (Int32.toInt64 a1)]) rfl ?_
  refine tk_cS1  rfl rfl (as := [.long (Int32.toInt64 a1), .long (0 : Int64), .long (3 : Int64)]) (rest := []) rfl rfl rfl (ok_fM_in sc (Int32.toInt64 a1) (0 : Int64) (3 : Int64) m) ?_
  subst h
  exact tk_RB (b := fM_in (Int32.toInt64 a1) (0 : Int64) (3 : Int64))  rfl rfl rfl
theorem ok_fM_cut (sc : tk_X) (a1 : Int32) (a2 : Int64) (m : tk_m) : tk_Ru sc 1 254 [.int a1, .long a2] (tk_full m) (some (.long (fM_cut a1 a2)), tk_full m) := by
  obtain ⟨out, h⟩ : ∃ out, fM_cut a1 a2 = out := ⟨_, rfl⟩
  rw [h]
  unfold fM_cut at h
  refine tk_Ru0 me254 (ls := [(0, .int a1), (1, .long a2)]) rfl rfl ?_
  refine tk_Ps  1 (pc' := 1) (ls' := [(0, .int a1), (1, .long a2)]) (st' := [.int a1]) rfl ?_
  by_cases hc1 : a1 = 0
  · replace h := tk_ifT hc1 h
    refine tk_bT  rfl rfl rfl (c := a1 = 0) hc1 (pc' := 4) (ls' := [(0, .int a1), (1, .long a2)]) (st' := []) ?_
    refine tk_Ps  5 (pc' := 23) (ls' := [(0, .int a1), (1, .long a2)]) (st' := [.long (Int32.toInt64 (tk_i2b (Int64.toInt32 a2)))]) rfl ?_
    subst h
    exact tk_RJ  rfl rfl rfl
  · replace h := tk_ifF hc1 h
    refine tk_bF  rfl rfl rfl (c := a1 = 0) hc1 (pc' := 11) (ls' := [(0, .int a1), (1, .long a2)]) (st' := []) ?_
    refine tk_Ps  2 (pc' := 13) (ls' := [(0, .int a1), (1, .long a2)]) (st' := [.int (1 : Int32), .int a1]) rfl ?_
    by_cases hc2 : a1 = (1 : Int32)
    · replace h := tk_ifT hc2 h
      refine tk_bT  rfl rfl rfl (c := a1 = (1 : Int32)) hc2 (pc' := 16) (ls' := [(0, .int a1), (1, .long a2)]) (st' := []) ?_
      refine tk_Ps  4 (pc' := 23) (ls' := [(0, .int a1), (1, .long a2)]) (st' := [.long (Int32.toInt64 (Int64.toInt32 a2))]) rfl ?_
      subst h
      exact tk_RJ  rfl rfl rfl
    · replace h := tk_ifF hc2 h
      refine tk_bF  rfl rfl rfl (c := a1 = (1 : Int32)) hc2 (pc' := 22) (ls' := [(0, .int a1), (1, .long a2)]) (st' := []) ?_
      refine tk_Ps  1 (pc' := 23) (ls' := [(0, .int a1), (1, .long a2)]) (st' := [.long a2]) rfl ?_
      subst h
      exact tk_RJ  rfl rfl rfl
theorem ok_fM_lays_50 (sc : tk_X) : ∀ (n : Nat) (v1 : Int32) (v2 : Int32) (v3 : Int32) (v4 : Int32) (m : tk_m) (out : Int32 × tk_m), fM_lays_50 n v1 v2 v3 v4 m = some out → tk_Ex sc 3 tk_r252 tk_k252 50 [(0, .ref 295), (1, .int v1), (2, .int v2), (3, .int v3), (4, .int v4)] [] (tk_full m) (some (.int out.1), tk_full out.2) := by
  intro n
  induction n with
  | zero =>
    intro v1 v2 v3 v4 m out h
    cases h
  | succ n ih =>
    intro v1 v2 v3 v4 m out h
    unfold fM_lays_50 at h
    refine tk_Ps  2 (pc' := 53) (ls' := [(0, .ref 295), (1, .int v1), (2, .int v2), (3, .int v3), (4, .int v4)]) (st' := [.int v3, .int v4]) rfl ?_
    by_cases hc1 : v3 ≤ v4
    · replace h := tk_ifT hc1 h
      refine tk_bT  rfl rfl rfl (c := v3 ≤ v4) hc1 (pc' := 88) (ls' := [(0, .ref 295), (1, .int v1), (2, .int v2), (3, .int v3), (4, .int v4)]) (st' := []) ?_
      refine tk_Ps  1 (pc' := 89) (ls' := [(0, .ref 295), (1, .int v1), (2, .int v2), (3, .int v3), (4, .int v4)]) (st' := [.int v3]) rfl ?_
      replace h := Option.some.inj h
      subst h
      exact tk_RI  rfl rfl rfl
    · replace h := tk_ifF hc1 h
      refine tk_bF  rfl rfl rfl (c := v3 ≤ v4) hc1 (pc' := 56) (ls' := [(0, .ref 295), (1, .int v1), (2, .int v2), (3, .int v3), (4, .int v4)]) (st' := []) ?_
      refine tk_Ps  1 (pc' := 57) (ls' := [(0, .ref 295), (1, .int v1), (2, .int v2), (3, .int v3), (4, .int v4)]) (st' := [.ref 295]) rfl ?_
      refine tk_HR  rfl rfl ly295 rt295_25 ?_
      refine tk_Ps  1 (pc' := 61) (ls' := [(0, .ref 295), (1, .int v1), (2, .int v2), (3, .int v3), (4, .int v4)]) (st' := [.int v1, .ref 444]) rfl ?_
      obtain ⟨hg2, h⟩ := tk_grd h
      refine tk_HQ  rfl rfl ly444 hg2 (la444 _ (hg2).2).1 ?_
      refine tk_Ps  2 (pc' := 65) (ls' := [(0, .ref 295), (1, .int v1), (2, .int v2), (3, .int v3), (4, .int v4)]) (st' := [.ref 295, .int v4, .ref (445 + (tk_n v1))]) rfl ?_
      refine tk_HR  rfl rfl ly295 rt295_23 ?_
      refine tk_Ps  1 (pc' := 69) (ls' := [(0, .ref 295), (1, .int v1), (2, .int v2), (3, .int v3), (4, .int v4)]) (st' := [.int v1, .ref 442, .int v4, .ref (445 + (tk_n v1))]) rfl ?_
      refine tk_HIa  rfl rfl ly442 hg2 ?_
      refine tk_Ps  3 (pc' := 74) (ls' := [(0, .ref 295), (1, .int v1), (2, .int v2), (3, .int v3), (4, .int v4)]) (st' := [.int v4, .int v2, .ref 295, .int (m.1 442 (tk_n v1)), .int v4, .ref (445 + (tk_n v1))]) rfl ?_
      obtain ⟨o3, ho3, h⟩ := tk_bnd h
      refine tk_cV1  rfl rfl (r := 295) (as := [.int v2, .int v4]) (rest := [.int (m.1 442 (tk_n v1)), .int v4, .ref (445 + (tk_n v1))]) rfl ly295 rfl rfl (ok_fM_form sc v2 v4 m ho3) ?_
      refine tk_Ps  1 (pc' := 78) (ls' := [(0, .ref 295), (1, .int v1), (2, .int v2), (3, .int v3), (4, .int v4)]) (st' := [.long (Int32.toInt64 o3), .int (m.1 442 (tk_n v1)), .int v4, .ref (445 + (tk_n v1))]) rfl ?_
      refine tk_cS1  rfl rfl (as := [.int (m.1 442 (tk_n v1)), .long (Int32.toInt64 o3)]) (rest := [.int v4, .ref (445 + (tk_n v1))]) rfl rfl rfl (ok_fM_cut sc (m.1 442 (tk_n v1)) (Int32.toInt64 o3) m) ?_
      obtain ⟨hg4, h⟩ := tk_grd h
      refine tk_SJa  rfl rfl ((la444 _ (hg2).2).2) hg4 ?_
      refine tk_Ps  2 (pc' := 50) (ls' := [(4, .int (v4 + (1 : Int32))), (0, .ref 295), (1, .int v1), (2, .int v2), (3, .int v3)]) (st' := []) rfl ?_
      refine tk_Kp  (ls' := [(0, .ref 295), (1, .int v1), (2, .int v2), (3, .int v3), (4, .int (v4 + (1 : Int32)))]) rfl rfl ?_
      exact ih v1 v2 v3 (v4 + (1 : Int32)) (m.1, tk_u2 m.2.1 (445 + (tk_n v1)) (tk_n v4) (fM_cut (m.1 442 (tk_n v1)) (Int32.toInt64 o3)), m.2.2.1, m.2.2.2) _ h
theorem ok_fM_lays (sc : tk_X) (a1 : Int32) (a2 : Int32) (m : tk_m) {out : Int32 × tk_m} (h : fM_lays a1 a2 m = some out) : tk_Ru sc 4 252 [.ref 295, .int a1, .int a2] (tk_full m) (some (.int out.1), tk_full out.2) := by
  unfold fM_lays at h
  refine tk_Ru0 me252 (ls := [(0, .ref 295), (1, .int a1), (2, .int a2)]) rfl rfl ?_
  refine tk_Ps  1 (pc' := 1) (ls' := [(0, .ref 295), (1, .int a1), (2, .int a2)]) (st' := [.int a1]) rfl ?_
  refine tk_cS1  rfl rfl (as := [.int a1]) (rest := []) rfl rfl rfl (ok_fM_isSheet sc a1 m) ?_
  by_cases hc1 : (fM_isSheet a1) = true
  · replace h := tk_ifT hc1 h
    refine tk_bT  rfl rfl tk_eB_eq (c := (fM_isSheet a1) = true) hc1 (pc' := 7) (ls' := [(0, .ref 295), (1, .int a1), (2, .int a2)]) (st' := []) ?_
    refine tk_Ps  2 (pc' := 9) (ls' := [(0, .ref 295), (1, .int a1), (2, .int a2)]) (st' := [.int a2, .ref 295]) rfl ?_
    refine tk_cV1  rfl rfl (r := 295) (as := [.int a2]) (rest := []) rfl ly295 rfl rfl (ok_fM_isShape sc a2 m) ?_
    by_cases hc2 : (fM_isShape a2 m) = true
    · replace h := tk_ifT hc2 h
      refine tk_bT  rfl rfl tk_eB_ne (c := (fM_isShape a2 m) = true) hc2 (pc' := 21) (ls' := [(0, .ref 295), (1, .int a1), (2, .int a2)]) (st' := []) ?_
      refine tk_Ps  1 (pc' := 22) (ls' := [(0, .ref 295), (1, .int a1), (2, .int a2)]) (st' := [.ref 295]) rfl ?_
      refine tk_HR  rfl rfl ly295 rt295_23 ?_
      refine tk_Ps  1 (pc' := 26) (ls' := [(0, .ref 295), (1, .int a1), (2, .int a2)]) (st' := [.int a1, .ref 442]) rfl ?_
      obtain ⟨hg3, h⟩ := tk_grd h
      refine tk_HIa  rfl rfl ly442 hg3 ?_
      by_cases hc4 : 0 ≤ (m.1 442 (tk_n a1))
      · replace h := tk_ifT hc4 h
        refine tk_bT  rfl rfl rfl (c := 0 ≤ (m.1 442 (tk_n a1))) hc4 (pc' := 36) (ls' := [(0, .ref 295), (1, .int a1), (2, .int a2)]) (st' := []) ?_
        refine tk_Ps  2 (pc' := 38) (ls' := [(0, .ref 295), (1, .int a1), (2, .int a2)]) (st' := [.ref 295, .int (4 : Int32)]) rfl ?_
        refine tk_HR  rfl rfl ly295 rt295_24 ?_
        refine tk_Ps  1 (pc' := 42) (ls' := [(0, .ref 295), (1, .int a1), (2, .int a2)]) (st' := [.int a1, .ref 443, .int (4 : Int32)]) rfl ?_
        refine tk_HIa  rfl rfl ly443 hg3 ?_
        refine tk_cS1  rfl rfl (as := [.int (4 : Int32), .int (m.1 443 (tk_n a1))]) (rest := []) rfl rfl rfl (ok_fZ_min_I sc (4 : Int32) (m.1 443 (tk_n a1)) m) ?_
        refine tk_Ps  3 (pc' := 50) (ls' := [(4, .int (0 : Int32)), (3, .int (fZ_min_I (4 : Int32) (m.1 443 (tk_n a1)))), (0, .ref 295), (1, .int a1), (2, .int a2)]) (st' := []) rfl ?_
        refine tk_Kp  (ls' := [(0, .ref 295), (1, .int a1), (2, .int a2), (3, .int (fZ_min_I (4 : Int32) (m.1 443 (tk_n a1)))), (4, .int (0 : Int32))]) rfl rfl ?_
        exact ok_fM_lays_50 sc tk_F a1 a2 (fZ_min_I (4 : Int32) (m.1 443 (tk_n a1))) (0 : Int32) m _ h
      · replace h := tk_ifF hc4 h
        refine tk_bF  rfl rfl rfl (c := 0 ≤ (m.1 442 (tk_n a1))) hc4 (pc' := 30) (ls' := [(0, .ref 295), (1, .int a1), (2, .int a2)]) (st' := []) ?_
        refine tk_Ps  2 (pc' := 32) (ls' := [(0, .ref 295), (1, .int a1), (2, .int a2)]) (st' := [.int (5 : Int32), .ref 295]) rfl ?_
        obtain ⟨o5, ho5, h⟩ := tk_bnd h
        refine tk_cV1  rfl rfl (r := 295) (as := [.int (5 : Int32)]) (rest := []) rfl ly295 rfl rfl (ok_fM_finds sc (5 : Int32) m ho5) ?_
        replace h := Option.some.inj h
        subst h
        exact tk_RI  rfl rfl rfl
    · replace h := tk_ifF hc2 h
      refine tk_bF  rfl rfl tk_eB_ne (c := (fM_isShape a2 m) = true) hc2 (pc' := 15) (ls' := [(0, .ref 295), (1, .int a1), (2, .int a2)]) (st' := []) ?_
      refine tk_Ps  2 (pc' := 17) (ls' := [(0, .ref 295), (1, .int a1), (2, .int a2)]) (st' := [.int (0 : Int32), .ref 295]) rfl ?_
      obtain ⟨o6, ho6, h⟩ := tk_bnd h
      refine tk_cV1  rfl rfl (r := 295) (as := [.int (0 : Int32)]) (rest := []) rfl ly295 rfl rfl (ok_fM_finds sc (0 : Int32) m ho6) ?_
      replace h := Option.some.inj h
      subst h
      exact tk_RI  rfl rfl rfl
  · replace h := tk_ifF hc1 h
    refine tk_bF  rfl rfl tk_eB_eq (c := (fM_isSheet a1) = true) hc1 (pc' := 15) (ls' := [(0, .ref 295), (1, .int a1), (2, .int a2)]) (st' := []) ?_
    refine tk_Ps  2 (pc' := 17) (ls' := [(0, .ref 295), (1, .int a1), (2, .int a2)]) (st' := [.int (0 : Int32), .ref 295]) rfl ?_
    obtain ⟨o7, ho7, h⟩ := tk_bnd h
    refine tk_cV1  rfl rfl (r := 295) (as := [.int (0 : Int32)]) (rest := []) rfl ly295 rfl rfl (ok_fM_finds sc (0 : Int32) m ho7) ?_
    replace h := Option.some.inj h
    subst h
    exact tk_RI  rfl rfl rfl
theorem ok_fM_times_32 (sc : tk_X) (v1 : Int64) (v3 : Int64) (v5 : Int64) (s0 : Bool) (m : tk_m) (out : Int64 × tk_m) (h : fM_times_32 v1 v3 v5 s0 m = some out) : tk_Ex sc 0 tk_r257 tk_k257 32 [(1, .long v1), (3, .long v3), (5, .long v5)] [.int (tk_b s0), .ref 295] (tk_full m) (some (.long out.1), tk_full out.2) := by
  unfold fM_times_32 at h
  refine tk_Ps  2 (pc' := 35) (ls' := [(1, .long v1), (3, .long v3), (5, .long v5)]) (st' := [.long v1, .long v5, .int (tk_b s0), .ref 295]) rfl ?_
  obtain ⟨hz1, h⟩ := tk_grn h
  refine tk_ldiv  rfl rfl hz1 ?_
  refine tk_Ps  2 (pc' := 38) (ls' := [(1, .long v1), (3, .long v3), (5, .long v5)]) (st' := [.int (lg_cmp (v5 / v1) v3), .int (tk_b s0), .ref 295]) rfl ?_
  by_cases hc2 : (v5 / v1) = v3
  · replace h := tk_ifT hc2 h
    refine tk_bT  rfl rfl tk_eL_eq (c := (v5 / v1) = v3) hc2 (pc' := 45) (ls' := [(1, .long v1), (3, .long v3), (5, .long v5)]) (st' := [.int (tk_b s0), .ref 295]) ?_
    refine tk_Ps  1 (pc' := 46) (ls' := [(1, .long v1), (3, .long v3), (5, .long v5)]) (st' := [.int (0 : Int32), .int (tk_b s0), .ref 295]) rfl ?_
    refine tk_iorB  rfl rfl (b := s0) (b2 := false) ?_
    refine tk_SB (b := s0 || false)  rfl rfl ly295 ?_
    refine tk_Ps  1 (pc' := 52) (ls' := [(1, .long v1), (3, .long v3), (5, .long v5)]) (st' := [.long v5]) rfl ?_
    replace h := Option.some.inj h
    subst h
    exact tk_RJ  rfl rfl rfl
  · replace h := tk_ifF hc2 h
    refine tk_bF  rfl rfl tk_eL_eq (c := (v5 / v1) = v3) hc2 (pc' := 41) (ls' := [(1, .long v1), (3, .long v3), (5, .long v5)]) (st' := [.int (tk_b s0), .ref 295]) ?_
    refine tk_Ps  2 (pc' := 46) (ls' := [(1, .long v1), (3, .long v3), (5, .long v5)]) (st' := [.int (1 : Int32), .int (tk_b s0), .ref 295]) rfl ?_
    refine tk_iorB  rfl rfl (b := s0) (b2 := true) ?_
    refine tk_SB (b := s0 || true)  rfl rfl ly295 ?_
    refine tk_Ps  1 (pc' := 52) (ls' := [(1, .long v1), (3, .long v3), (5, .long v5)]) (st' := [.long v5]) rfl ?_
    replace h := Option.some.inj h
    subst h
    exact tk_RJ  rfl rfl rfl
theorem ok_fM_times (sc : tk_X) (a1 : Int64) (a2 : Int64) (m : tk_m) {out : Int64 × tk_m} (h : fM_times a1 a2 m = some out) : tk_Ru sc 1 257 [.ref 295, .long a1, .long a2] (tk_full m) (some (.long out.1), tk_full out.2) := by
  unfold fM_times at h
  refine tk_Ru0 me257 (ls := [(0, .ref 295), (1, .long a1), (3, .long a2)]) rfl rfl ?_
  refine tk_Ps  6 (pc' := 7) (ls' := [(5, .long (a1 * a2)), (0, .ref 295), (1, .long a1), (3, .long a2)]) (st' := [.ref 295, .ref 295]) rfl ?_
  refine tk_HB  rfl rfl ly295 ?_
  refine tk_Ps  3 (pc' := 13) (ls' := [(5, .long (a1 * a2)), (0, .ref 295), (1, .long a1), (3, .long a2)]) (st' := [.int (lg_cmp a1 (0 : Int64)), .int (tk_b (m.2.2.1 295 4)), .ref 295]) rfl ?_
  by_cases hc1 : a1 = (0 : Int64)
  · replace h := tk_ifT hc1 h
    refine tk_bT  rfl rfl tk_eL_eq (c := a1 = (0 : Int64)) hc1 (pc' := 45) (ls' := [(5, .long (a1 * a2)), (0, .ref 295), (1, .long a1), (3, .long a2)]) (st' := [.int (tk_b (m.2.2.1 295 4)), .ref 295]) ?_
    refine tk_Ps  1 (pc' := 46) (ls' := [(5, .long (a1 * a2)), (0, .ref 295), (1, .long a1), (3, .long a2)]) (st' := [.int (0 : Int32), .int (tk_b (m.2.2.1 295 4)), .ref 295]) rfl ?_
    refine tk_iorB  rfl rfl (b := (m.2.2.1 295 4)) (b2 := false) ?_
    refine tk_SB (b := (m.2.2.1 295 4) || false)  rfl rfl ly295 ?_
    refine tk_Ps  1 (pc' := 52) (ls' := [(5, .long (a1 * a2)), (0, .ref 295), (1, .long a1), (3, .long a2)]) (st' := [.long (a1 * a2)]) rfl ?_
    replace h := Option.some.inj h
    subst h
    exact tk_RJ  rfl rfl rfl
  · replace h := tk_ifF hc1 h
    refine tk_bF  rfl rfl tk_eL_eq (c := a1 = (0 : Int64)) hc1 (pc' := 16) (ls' := [(5, .long (a1 * a2)), (0, .ref 295), (1, .long a1), (3, .long a2)]) (st' := [.int (tk_b (m.2.2.1 295 4)), .ref 295]) ?_
    refine tk_Ps  3 (pc' := 21) (ls' := [(5, .long (a1 * a2)), (0, .ref 295), (1, .long a1), (3, .long a2)]) (st' := [.int (lg_cmp a1 (-1 : Int64)), .int (tk_b (m.2.2.1 295 4)), .ref 295]) rfl ?_
    by_cases hc2 : a1 = (-1 : Int64)
    · replace h := tk_ifT hc2 h
      refine tk_bT  rfl rfl tk_eL_ne (c := a1 = (-1 : Int64)) hc2 (pc' := 24) (ls' := [(5, .long (a1 * a2)), (0, .ref 295), (1, .long a1), (3, .long a2)]) (st' := [.int (tk_b (m.2.2.1 295 4)), .ref 295]) ?_
      refine tk_Ps  3 (pc' := 29) (ls' := [(5, .long (a1 * a2)), (0, .ref 295), (1, .long a1), (3, .long a2)]) (st' := [.int (lg_cmp a2 (-9223372036854775808 : Int64)), .int (tk_b (m.2.2.1 295 4)), .ref 295]) rfl ?_
      by_cases hc3 : a2 = (-9223372036854775808 : Int64)
      · replace h := tk_ifT hc3 h
        refine tk_bT  rfl rfl tk_eL_eq (c := a2 = (-9223372036854775808 : Int64)) hc3 (pc' := 41) (ls' := [(5, .long (a1 * a2)), (0, .ref 295), (1, .long a1), (3, .long a2)]) (st' := [.int (tk_b (m.2.2.1 295 4)), .ref 295]) ?_
        refine tk_Ps  2 (pc' := 46) (ls' := [(5, .long (a1 * a2)), (0, .ref 295), (1, .long a1), (3, .long a2)]) (st' := [.int (1 : Int32), .int (tk_b (m.2.2.1 295 4)), .ref 295]) rfl ?_
        refine tk_iorB  rfl rfl (b := (m.2.2.1 295 4)) (b2 := true) ?_
        refine tk_SB (b := (m.2.2.1 295 4) || true)  rfl rfl ly295 ?_
        refine tk_Ps  1 (pc' := 52) (ls' := [(5, .long (a1 * a2)), (0, .ref 295), (1, .long a1), (3, .long a2)]) (st' := [.long (a1 * a2)]) rfl ?_
        replace h := Option.some.inj h
        subst h
        exact tk_RJ  rfl rfl rfl
      · replace h := tk_ifF hc3 h
        refine tk_bF  rfl rfl tk_eL_eq (c := a2 = (-9223372036854775808 : Int64)) hc3 (pc' := 32) (ls' := [(5, .long (a1 * a2)), (0, .ref 295), (1, .long a1), (3, .long a2)]) (st' := [.int (tk_b (m.2.2.1 295 4)), .ref 295]) ?_
        refine tk_Kp  (ls' := [(1, .long a1), (3, .long a2), (5, .long (a1 * a2))]) rfl rfl ?_
        exact ok_fM_times_32 sc a1 a2 (a1 * a2) (m.2.2.1 295 4) m _ h
    · replace h := tk_ifF hc2 h
      refine tk_bF  rfl rfl tk_eL_ne (c := a1 = (-1 : Int64)) hc2 (pc' := 32) (ls' := [(5, .long (a1 * a2)), (0, .ref 295), (1, .long a1), (3, .long a2)]) (st' := [.int (tk_b (m.2.2.1 295 4)), .ref 295]) ?_
      refine tk_Kp  (ls' := [(1, .long a1), (3, .long a2), (5, .long (a1 * a2))]) rfl rfl ?_
      exact ok_fM_times_32 sc a1 a2 (a1 * a2) (m.2.2.1 295 4) m _ h

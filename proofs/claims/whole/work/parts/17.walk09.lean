theorem ok_fM_compareSizes_26 (sc : tk_X) (v1 : Int32) (v2 : Int32) (v3 : Int32) (m : tk_m) (out : Int32) (h : fM_compareSizes_26 v1 v2 v3 m = some out) : tk_Ex sc 0 tk_r230 tk_k230 26 [(0, .ref 274), (1, .int v1), (2, .int v2), (3, .int v3)] [] (tk_full m) (some (.int out), tk_full m) := by
  unfold fM_compareSizes_26 at h
  refine tk_Ps  1 (pc' := 27) (ls' := [(0, .ref 274), (1, .int v1), (2, .int v2), (3, .int v3)]) (st' := [.ref 274]) rfl ?_
  refine tk_HR  rfl rfl ly274 rt274_7 ?_
  refine tk_Ps  1 (pc' := 31) (ls' := [(0, .ref 274), (1, .int v1), (2, .int v2), (3, .int v3)]) (st' := [.int v1, .ref 286]) rfl ?_
  obtain ⟨hg1, h⟩ := tk_grd h
  refine tk_HQ  rfl rfl ly286 hg1 (la286 _ (hg1).2).1 ?_
  refine tk_Ps  1 (pc' := 33) (ls' := [(0, .ref 274), (1, .int v1), (2, .int v2), (3, .int v3)]) (st' := [.int v3, .ref (287 + (tk_n v1))]) rfl ?_
  obtain ⟨hg2, h⟩ := tk_grd h
  refine tk_HIa  rfl rfl ((la286 _ (hg1).2).2) hg2 ?_
  refine tk_Ps  1 (pc' := 35) (ls' := [(0, .ref 274), (1, .int v1), (2, .int v2), (3, .int v3)]) (st' := [.ref 274, .int (m.1 (287 + (tk_n v1)) (tk_n v3))]) rfl ?_
  refine tk_HR  rfl rfl ly274 rt274_7 ?_
  refine tk_Ps  1 (pc' := 39) (ls' := [(0, .ref 274), (1, .int v1), (2, .int v2), (3, .int v3)]) (st' := [.int v2, .ref 286, .int (m.1 (287 + (tk_n v1)) (tk_n v3))]) rfl ?_
  obtain ⟨hg3, h⟩ := tk_grd h
  refine tk_HQ  rfl rfl ly286 hg3 (la286 _ (hg3).2).1 ?_
  refine tk_Ps  1 (pc' := 41) (ls' := [(0, .ref 274), (1, .int v1), (2, .int v2), (3, .int v3)]) (st' := [.int v3, .ref (287 + (tk_n v2)), .int (m.1 (287 + (tk_n v1)) (tk_n v3))]) rfl ?_
  refine tk_HIa  rfl rfl ((la286 _ (hg3).2).2) hg2 ?_
  by_cases hc4 : (m.1 (287 + (tk_n v2)) (tk_n v3)) ≤ (m.1 (287 + (tk_n v1)) (tk_n v3))
  · replace h := tk_ifT hc4 h
    refine tk_bT  rfl rfl rfl (c := (m.1 (287 + (tk_n v2)) (tk_n v3)) ≤ (m.1 (287 + (tk_n v1)) (tk_n v3))) hc4 (pc' := 49) (ls' := [(0, .ref 274), (1, .int v1), (2, .int v2), (3, .int v3)]) (st' := []) ?_
    refine tk_Ps  1 (pc' := 50) (ls' := [(0, .ref 274), (1, .int v1), (2, .int v2), (3, .int v3)]) (st' := [.int (1 : Int32)]) rfl ?_
    replace h := Option.some.inj h
    subst h
    exact tk_RI  rfl rfl rfl
  · replace h := tk_ifF hc4 h
    refine tk_bF  rfl rfl rfl (c := (m.1 (287 + (tk_n v2)) (tk_n v3)) ≤ (m.1 (287 + (tk_n v1)) (tk_n v3))) hc4 (pc' := 45) (ls' := [(0, .ref 274), (1, .int v1), (2, .int v2), (3, .int v3)]) (st' := []) ?_
    refine tk_Ps  2 (pc' := 50) (ls' := [(0, .ref 274), (1, .int v1), (2, .int v2), (3, .int v3)]) (st' := [.int (-1 : Int32)]) rfl ?_
    replace h := Option.some.inj h
    subst h
    exact tk_RI  rfl rfl rfl
theorem ok_fM_compareSizes_3 (sc : tk_X) : ∀ (n : Nat) (v1 : Int32) (v2 : Int32) (v3 : Int32) (m : tk_m) (out : Int32), fM_compareSizes_3 n v1 v2 v3 m = some out → tk_Ex sc 0 tk_r230 tk_k230 3 [(0, .ref 274), (1, .int v1), (2, .int v2), (3, .int v3)] [] (tk_full m) (some (.int out), tk_full m) := by
  intro n
  induction n with
  | zero =>
    intro v1 v2 v3 m out h
    cases h
  | succ n ih =>
    intro v1 v2 v3 m out h
    unfold fM_compareSizes_3 at h
    refine tk_Ps  1 (pc' := 4) (ls' := [(0, .ref 274), (1, .int v1), (2, .int v2), (3, .int v3)]) (st' := [.int v3]) rfl ?_
    by_cases hc1 : v3 < 0
    · replace h := tk_ifT hc1 h
      refine tk_bT  rfl rfl rfl (c := v3 < 0) hc1 (pc' := 57) (ls' := [(0, .ref 274), (1, .int v1), (2, .int v2), (3, .int v3)]) (st' := []) ?_
      refine tk_Ps  1 (pc' := 58) (ls' := [(0, .ref 274), (1, .int v1), (2, .int v2), (3, .int v3)]) (st' := [.int (0 : Int32)]) rfl ?_
      replace h := Option.some.inj h
      subst h
      exact tk_RI  rfl rfl rfl
    · replace h := tk_ifF hc1 h
      refine tk_bF  rfl rfl rfl (c := v3 < 0) hc1 (pc' := 7) (ls' := [(0, .ref 274), (1, .int v1), (2, .int v2), (3, .int v3)]) (st' := []) ?_
      refine tk_Ps  1 (pc' := 8) (ls' := [(0, .ref 274), (1, .int v1), (2, .int v2), (3, .int v3)]) (st' := [.ref 274]) rfl ?_
      refine tk_HR  rfl rfl ly274 rt274_7 ?_
      refine tk_Ps  1 (pc' := 12) (ls' := [(0, .ref 274), (1, .int v1), (2, .int v2), (3, .int v3)]) (st' := [.int v1, .ref 286]) rfl ?_
      obtain ⟨hg2, h⟩ := tk_grd h
      refine tk_HQ  rfl rfl ly286 hg2 (la286 _ (hg2).2).1 ?_
      refine tk_Ps  1 (pc' := 14) (ls' := [(0, .ref 274), (1, .int v1), (2, .int v2), (3, .int v3)]) (st' := [.int v3, .ref (287 + (tk_n v1))]) rfl ?_
      obtain ⟨hg3, h⟩ := tk_grd h
      refine tk_HIa  rfl rfl ((la286 _ (hg2).2).2) hg3 ?_
      refine tk_Ps  1 (pc' := 16) (ls' := [(0, .ref 274), (1, .int v1), (2, .int v2), (3, .int v3)]) (st' := [.ref 274, .int (m.1 (287 + (tk_n v1)) (tk_n v3))]) rfl ?_
      refine tk_HR  rfl rfl ly274 rt274_7 ?_
      refine tk_Ps  1 (pc' := 20) (ls' := [(0, .ref 274), (1, .int v1), (2, .int v2), (3, .int v3)]) (st' := [.int v2, .ref 286, .int (m.1 (287 + (tk_n v1)) (tk_n v3))]) rfl ?_
      obtain ⟨hg4, h⟩ := tk_grd h
      refine tk_HQ  rfl rfl ly286 hg4 (la286 _ (hg4).2).1 ?_
      refine tk_Ps  1 (pc' := 22) (ls' := [(0, .ref 274), (1, .int v1), (2, .int v2), (3, .int v3)]) (st' := [.int v3, .ref (287 + (tk_n v2)), .int (m.1 (287 + (tk_n v1)) (tk_n v3))]) rfl ?_
      refine tk_HIa  rfl rfl ((la286 _ (hg4).2).2) hg3 ?_
      by_cases hc5 : (m.1 (287 + (tk_n v1)) (tk_n v3)) = (m.1 (287 + (tk_n v2)) (tk_n v3))
      · replace h := tk_ifT hc5 h
        refine tk_bT  rfl rfl rfl (c := (m.1 (287 + (tk_n v1)) (tk_n v3)) = (m.1 (287 + (tk_n v2)) (tk_n v3))) hc5 (pc' := 51) (ls' := [(0, .ref 274), (1, .int v1), (2, .int v2), (3, .int v3)]) (st' := []) ?_
        refine tk_Ps  2 (pc' := 3) (ls' := [(3, .int (v3 + (-1 : Int32))), (0, .ref 274), (1, .int v1), (2, .int v2)]) (st' := []) rfl ?_
        refine tk_Kp  (ls' := [(0, .ref 274), (1, .int v1), (2, .int v2), (3, .int (v3 + (-1 : Int32)))]) rfl rfl ?_
        exact ih v1 v2 (v3 + (-1 : Int32)) m _ h
      · replace h := tk_ifF hc5 h
        refine tk_bF  rfl rfl rfl (c := (m.1 (287 + (tk_n v1)) (tk_n v3)) = (m.1 (287 + (tk_n v2)) (tk_n v3))) hc5 (pc' := 26) (ls' := [(0, .ref 274), (1, .int v1), (2, .int v2), (3, .int v3)]) (st' := []) ?_
        refine tk_Kp  (ls' := [(0, .ref 274), (1, .int v1), (2, .int v2), (3, .int v3)]) rfl rfl ?_
        exact ok_fM_compareSizes_26 sc v1 v2 v3 m _ h
theorem ok_fM_compareSizes (sc : tk_X) (a1 : Int32) (a2 : Int32) (m : tk_m) {out : Int32} (h : fM_compareSizes a1 a2 m = some out) : tk_Ru sc 1 230 [.ref 274, .int a1, .int a2] (tk_full m) (some (.int out), tk_full m) := by
  unfold fM_compareSizes at h
  refine tk_Ru0 me230 (ls := [(0, .ref 274), (1, .int a1), (2, .int a2)]) rfl rfl ?_
  refine tk_Ps  2 (pc' := 3) (ls' := [(3, .int (59 : Int32)), (0, .ref 274), (1, .int a1), (2, .int a2)]) (st' := []) rfl ?_
  refine tk_Kp  (ls' := [(0, .ref 274), (1, .int a1), (2, .int a2), (3, .int (59 : Int32))]) rfl rfl ?_
  exact ok_fM_compareSizes_3 sc tk_F a1 a2 (59 : Int32) m _ h
theorem ok_fM_signOf (sc : tk_X) (a1 : Int32) (a2 : Int32) (a3 : Int64) (m : tk_m) {out : Int32 × tk_m} (h : fM_signOf a1 a2 a3 m = some out) : tk_Ru sc 3 228 [.ref 274, .int a1, .int a2, .long a3] (tk_full m) (some (.int out.1), tk_full out.2) := by
  unfold fM_signOf at h
  refine tk_Ru0 me228 (ls := [(0, .ref 274), (1, .int a1), (2, .int a2), (3, .long a3)]) rfl rfl ?_
  refine tk_Ps  1 (pc' := 1) (ls' := [(0, .ref 274), (1, .int a1), (2, .int a2), (3, .long a3)]) (st' := [.ref 274]) rfl ?_
  refine tk_HR  rfl rfl ly274 rt274_8 ?_
  refine tk_Ps  1 (pc' := 5) (ls' := [(0, .ref 274), (1, .int a1), (2, .int a2), (3, .long a3)]) (st' := [.int a2, .ref 327]) rfl ?_
  obtain ⟨hg1, h⟩ := tk_grd h
  refine tk_HIa  rfl rfl ly327 hg1 ?_
  by_cases hc2 : (m.1 327 (tk_n a2)) = 0
  · replace h := tk_ifT hc2 h
    refine tk_bT  rfl rfl rfl (c := (m.1 327 (tk_n a2)) = 0) hc2 (pc' := 24) (ls' := [(0, .ref 274), (1, .int a1), (2, .int a2), (3, .long a3)]) (st' := []) ?_
    refine tk_Ps  1 (pc' := 25) (ls' := [(0, .ref 274), (1, .int a1), (2, .int a2), (3, .long a3)]) (st' := [.ref 274]) rfl ?_
    refine tk_HR  rfl rfl ly274 rt274_8 ?_
    refine tk_Ps  1 (pc' := 29) (ls' := [(0, .ref 274), (1, .int a1), (2, .int a2), (3, .long a3)]) (st' := [.int a1, .ref 327]) rfl ?_
    obtain ⟨hg3, h⟩ := tk_grd h
    refine tk_HIa  rfl rfl ly327 hg3 ?_
    replace h := Option.some.inj h
    subst h
    exact tk_RI  rfl rfl rfl
  · replace h := tk_ifF hc2 h
    refine tk_bF  rfl rfl rfl (c := (m.1 327 (tk_n a2)) = 0) hc2 (pc' := 9) (ls' := [(0, .ref 274), (1, .int a1), (2, .int a2), (3, .long a3)]) (st' := []) ?_
    refine tk_Ps  1 (pc' := 10) (ls' := [(0, .ref 274), (1, .int a1), (2, .int a2), (3, .long a3)]) (st' := [.ref 274]) rfl ?_
    refine tk_HR  rfl rfl ly274 rt274_8 ?_
    refine tk_Ps  1 (pc' := 14) (ls' := [(0, .ref 274), (1, .int a1), (2, .int a2), (3, .long a3)]) (st' := [.int a1, .ref 327]) rfl ?_
    obtain ⟨hg4, h⟩ := tk_grd h
    refine tk_HIa  rfl rfl ly327 hg4 ?_
    refine tk_Ps  1 (pc' := 16) (ls' := [(0, .ref 274), (1, .int a1), (2, .int a2), (3, .long a3)]) (st' := [.ref 274, .int (m.1 327 (tk_n a1))]) rfl ?_
    refine tk_HR  rfl rfl ly274 rt274_8 ?_
    refine tk_Ps  1 (pc' := 20) (ls' := [(0, .ref 274), (1, .int a1), (2, .int a2), (3, .long a3)]) (st' := [.int a2, .ref 327, .int (m.1 327 (tk_n a1))]) rfl ?_
    refine tk_HIa  rfl rfl ly327 hg1 ?_
    by_cases hc5 : (m.1 327 (tk_n a1)) = (m.1 327 (tk_n a2))
    · replace h := tk_ifT hc5 h
      refine tk_bT  rfl rfl rfl (c := (m.1 327 (tk_n a1)) = (m.1 327 (tk_n a2))) hc5 (pc' := 24) (ls' := [(0, .ref 274), (1, .int a1), (2, .int a2), (3, .long a3)]) (st' := []) ?_
      refine tk_Ps  1 (pc' := 25) (ls' := [(0, .ref 274), (1, .int a1), (2, .int a2), (3, .long a3)]) (st' := [.ref 274]) rfl ?_
      refine tk_HR  rfl rfl ly274 rt274_8 ?_
      refine tk_Ps  1 (pc' := 29) (ls' := [(0, .ref 274), (1, .int a1), (2, .int a2), (3, .long a3)]) (st' := [.int a1, .ref 327]) rfl ?_
      refine tk_HIa  rfl rfl ly327 hg4 ?_
      replace h := Option.some.inj h
      subst h
      exact tk_RI  rfl rfl rfl
    · replace h := tk_ifF hc5 h
      refine tk_bF  rfl rfl rfl (c := (m.1 327 (tk_n a1)) = (m.1 327 (tk_n a2))) hc5 (pc' := 31) (ls' := [(0, .ref 274), (1, .int a1), (2, .int a2), (3, .long a3)]) (st' := []) ?_
      refine tk_Ps  1 (pc' := 32) (ls' := [(0, .ref 274), (1, .int a1), (2, .int a2), (3, .long a3)]) (st' := [.ref 274]) rfl ?_
      refine tk_HR  rfl rfl ly274 rt274_8 ?_
      refine tk_Ps  1 (pc' := 36) (ls' := [(0, .ref 274), (1, .int a1), (2, .int a2), (3, .long a3)]) (st' := [.int a1, .ref 327]) rfl ?_
      refine tk_HIa  rfl rfl ly327 hg4 ?_
      by_cases hc6 : (m.1 327 (tk_n a1)) = 0
      · replace h := tk_ifT hc6 h
        refine tk_bT  rfl rfl rfl (c := (m.1 327 (tk_n a1)) = 0) hc6 (pc' := 40) (ls' := [(0, .ref 274), (1, .int a1), (2, .int a2), (3, .long a3)]) (st' := []) ?_
        refine tk_Ps  1 (pc' := 41) (ls' := [(0, .ref 274), (1, .int a1), (2, .int a2), (3, .long a3)]) (st' := [.ref 274]) rfl ?_
        refine tk_HR  rfl rfl ly274 rt274_8 ?_
        refine tk_Ps  1 (pc' := 45) (ls' := [(0, .ref 274), (1, .int a1), (2, .int a2), (3, .long a3)]) (st' := [.int a2, .ref 327]) rfl ?_
        refine tk_HIa  rfl rfl ly327 hg1 ?_
        replace h := Option.some.inj h
        subst h
        exact tk_RI  rfl rfl rfl
      · replace h := tk_ifF hc6 h
        refine tk_bF  rfl rfl rfl (c := (m.1 327 (tk_n a1)) = 0) hc6 (pc' := 47) (ls' := [(0, .ref 274), (1, .int a1), (2, .int a2), (3, .long a3)]) (st' := []) ?_
        refine tk_Ps  4 (pc' := 51) (ls' := [(0, .ref 274), (1, .int a1), (2, .int a2), (3, .long a3)]) (st' := [.int a1, .int a1, .ref 274, .ref 274]) rfl ?_
        obtain ⟨o7, ho7, h⟩ := tk_bnd h
        refine tk_cV1  rfl rfl (r := 274) (as := [.int a1, .int a1]) (rest := [.ref 274]) rfl ly274 rfl rfl (ok_fM_timesWide_II sc a1 a1 m ho7) ?_
        refine tk_Ps  4 (pc' := 58) (ls' := [(0, .ref 274), (1, .int a1), (2, .int a2), (3, .long a3)]) (st' := [.int a2, .int a2, .ref 274, .ref 274, .int o7.1, .ref 274]) rfl ?_
        obtain ⟨o8, ho8, h⟩ := tk_bnd h
        refine tk_cV1  rfl rfl (r := 274) (as := [.int a2, .int a2]) (rest := [.ref 274, .int o7.1, .ref 274]) rfl ly274 rfl rfl (ok_fM_timesWide_II sc a2 a2 o7.2 ho8) ?_
        refine tk_Ps  2 (pc' := 63) (ls' := [(0, .ref 274), (1, .int a1), (2, .int a2), (3, .long a3)]) (st' := [.long a3, .ref 274, .int o8.1, .ref 274, .int o7.1, .ref 274]) rfl ?_
        obtain ⟨o9, ho9, h⟩ := tk_bnd h
        refine tk_cV1  rfl rfl (r := 274) (as := [.long a3]) (rest := [.int o8.1, .ref 274, .int o7.1, .ref 274]) rfl ly274 rfl rfl (ok_fM_widens sc a3 o8.2 ho9) ?_
        obtain ⟨o10, ho10, h⟩ := tk_bnd h
        refine tk_cV1  rfl rfl (r := 274) (as := [.int o8.1, .int o9.1]) (rest := [.int o7.1, .ref 274]) rfl ly274 rfl rfl (ok_fM_timesWide_II sc o8.1 o9.1 o9.2 ho10) ?_
        obtain ⟨o11, ho11, h⟩ := tk_bnd h
        refine tk_cV1  rfl rfl (r := 274) (as := [.int o7.1, .int o10.1]) (rest := []) rfl ly274 rfl rfl (ok_fM_compareSizes sc o7.1 o10.1 o10.2 ho11) ?_
        refine tk_Ps  2 (pc' := 76) (ls' := [(5, .int o11), (0, .ref 274), (1, .int a1), (2, .int a2), (3, .long a3)]) (st' := [.int o11]) rfl ?_
        by_cases hc12 : o11 = 0
        · replace h := tk_ifT hc12 h
          refine tk_bT  rfl rfl rfl (c := o11 = 0) hc12 (pc' := 79) (ls' := [(5, .int o11), (0, .ref 274), (1, .int a1), (2, .int a2), (3, .long a3)]) (st' := []) ?_
          refine tk_Ps  2 (pc' := 103) (ls' := [(5, .int o11), (0, .ref 274), (1, .int a1), (2, .int a2), (3, .long a3)]) (st' := [.int (0 : Int32)]) rfl ?_
          replace h := Option.some.inj h
          subst h
          exact tk_RI  rfl rfl rfl
        · replace h := tk_ifF hc12 h
          refine tk_bF  rfl rfl rfl (c := o11 = 0) hc12 (pc' := 83) (ls' := [(5, .int o11), (0, .ref 274), (1, .int a1), (2, .int a2), (3, .long a3)]) (st' := []) ?_
          refine tk_Ps  1 (pc' := 85) (ls' := [(5, .int o11), (0, .ref 274), (1, .int a1), (2, .int a2), (3, .long a3)]) (st' := [.int o11]) rfl ?_
          by_cases hc13 : o11 ≤ 0
          · replace h := tk_ifT hc13 h
            refine tk_bT  rfl rfl rfl (c := o11 ≤ 0) hc13 (pc' := 97) (ls' := [(5, .int o11), (0, .ref 274), (1, .int a1), (2, .int a2), (3, .long a3)]) (st' := []) ?_
            refine tk_Ps  1 (pc' := 98) (ls' := [(5, .int o11), (0, .ref 274), (1, .int a1), (2, .int a2), (3, .long a3)]) (st' := [.ref 274]) rfl ?_
            refine tk_HR  rfl rfl ly274 rt274_8 ?_
            refine tk_Ps  1 (pc' := 102) (ls' := [(5, .int o11), (0, .ref 274), (1, .int a1), (2, .int a2), (3, .long a3)]) (st' := [.int a2, .ref 327]) rfl ?_
            refine tk_HIa  rfl rfl ly327 hg1 ?_
            replace h := Option.some.inj h
            subst h
            exact tk_RI  rfl rfl rfl
          · replace h := tk_ifF hc13 h
            refine tk_bF  rfl rfl rfl (c := o11 ≤ 0) hc13 (pc' := 88) (ls' := [(5, .int o11), (0, .ref 274), (1, .int a1), (2, .int a2), (3, .long a3)]) (st' := []) ?_
            refine tk_Ps  1 (pc' := 89) (ls' := [(5, .int o11), (0, .ref 274), (1, .int a1), (2, .int a2), (3, .long a3)]) (st' := [.ref 274]) rfl ?_
            refine tk_HR  rfl rfl ly274 rt274_8 ?_
            refine tk_Ps  1 (pc' := 93) (ls' := [(5, .int o11), (0, .ref 274), (1, .int a1), (2, .int a2), (3, .long a3)]) (st' := [.int a1, .ref 327]) rfl ?_
            refine tk_HIa  rfl rfl ly327 hg4 ?_
            refine tk_Ps  1 (pc' := 103) (ls' := [(5, .int o11), (0, .ref 274), (1, .int a1), (2, .int a2), (3, .long a3)]) (st' := [.int (o10.2.1 327 (tk_n a1))]) rfl ?_
            replace h := Option.some.inj h
            subst h
            exact tk_RI  rfl rfl rfl
theorem ok_fM_takes_150 (sc : tk_X) (v1 : Int32) (v2 : Int64) (v4 : Int64) (v6 : Nat) (v7 : Int64) (m : tk_m) (hv6 : tk_lay[v6]? = some (.inr (1, 8))) (out : tk_m) (h : fM_takes_150 v1 v2 v4 v6 v7 m = some out) : tk_Ex sc 3 tk_r222 tk_k222 150 [(0, .ref 274), (1, .int v1), (2, .long v2), (4, .long v4), (6, .ref v6), (7, .long v7)] [] (tk_full m) (none, tk_full out) := by
  unfold fM_takes_150 at h
  refine tk_Ps  3 (pc' := 155) (ls' := [(0, .ref 274), (1, .int v1), (2, .long v2), (4, .long v4), (6, .ref v6), (7, .long v7)]) (st' := [.long v2, .int (6 : Int32), .ref v6]) rfl ?_
  refine tk_SJa  rfl rfl hv6 (by decide) ?_
  refine tk_Ps  4 (pc' := 164) (ls' := [(0, .ref 274), (1, .int v1), (2, .long v2), (4, .long v4), (6, .ref v6), (7, .long v7)]) (st' := [.long v7, .long v4, .int (7 : Int32), .ref v6]) rfl ?_
  obtain ⟨hz1, h⟩ := tk_grn h
  refine tk_ldiv  rfl rfl hz1 ?_
  refine tk_SJa  rfl rfl hv6 (by decide) ?_
  refine tk_Ps  2 (pc' := 168) (ls' := [(0, .ref 274), (1, .int v1), (2, .long v2), (4, .long v4), (6, .ref v6), (7, .long v7)]) (st' := [.int (0 : Int32), .ref 274]) rfl ?_
  refine tk_SI  rfl rfl ly274 ?_
  refine tk_Ps  4 (pc' := 176) (ls' := [(0, .ref 274), (1, .int v1), (2, .long v2), (4, .long v4), (6, .ref v6), (7, .long v7)]) (st' := [.int (2 : Int32), .ref v6, .ref 274, .ref 274]) rfl ?_
  refine tk_HJa  rfl rfl hv6 (by decide) ?_
  obtain ⟨o2, ho2, h⟩ := tk_bnd h
  refine tk_cV1  rfl rfl (r := 274) (as := [.long (tk_u2 (tk_u2 m.2.1 v6 6 v2) v6 7 (v4 / v7) v6 2)]) (rest := [.ref 274]) rfl ly274 rfl rfl (ok_fM_widens sc (tk_u2 (tk_u2 m.2.1 v6 6 v2) v6 7 (v4 / v7) v6 2) (tk_u2 m.1 274 9 (0 : Int32), tk_u2 (tk_u2 m.2.1 v6 6 v2) v6 7 (v4 / v7), m.2.2.1, m.2.2.2) ho2) ?_
  refine tk_Ps  3 (pc' := 184) (ls' := [(0, .ref 274), (1, .int v1), (2, .long v2), (4, .long v4), (6, .ref v6), (7, .long v7)]) (st' := [.int (5 : Int32), .ref v6, .ref 274, .int o2.1, .ref 274]) rfl ?_
  refine tk_HJa  rfl rfl hv6 (by decide) ?_
  obtain ⟨o3, ho3, h⟩ := tk_bnd h
  refine tk_cV1  rfl rfl (r := 274) (as := [.long (o2.2.2.1 v6 5)]) (rest := [.int o2.1, .ref 274]) rfl ly274 rfl rfl (ok_fM_widens sc (o2.2.2.1 v6 5) o2.2 ho3) ?_
  refine tk_Ps  1 (pc' := 189) (ls' := [(0, .ref 274), (1, .int v1), (2, .long v2), (4, .long v4), (6, .ref v6), (7, .long v7)]) (st' := [.long v2, .int o3.1, .int o2.1, .ref 274]) rfl ?_
  obtain ⟨o4, ho4, h⟩ := tk_bnd h
  refine tk_cV1  rfl rfl (r := 274) (as := [.int o2.1, .int o3.1, .long v2]) (rest := []) rfl ly274 rfl rfl (ok_fM_signOf sc o2.1 o3.1 v2 o3.2 ho4) ?_
  by_cases hc5 : 0 < o4.1
  · replace h := tk_ifT hc5 h
    refine tk_bT  rfl rfl rfl (c := 0 < o4.1) hc5 (pc' := 196) (ls' := [(0, .ref 274), (1, .int v1), (2, .long v2), (4, .long v4), (6, .ref v6), (7, .long v7)]) (st' := []) ?_
    refine tk_Ps  1 (pc' := 197) (ls' := [(0, .ref 274), (1, .int v1), (2, .long v2), (4, .long v4), (6, .ref v6), (7, .long v7)]) (st' := [.ref 274]) rfl ?_
    refine tk_HR  rfl rfl ly274 rt274_12 ?_
    refine tk_Ps  1 (pc' := 201) (ls' := [(0, .ref 274), (1, .int v1), (2, .long v2), (4, .long v4), (6, .ref v6), (7, .long v7)]) (st' := [.ref 274, .ref 328]) rfl ?_
    refine tk_HI  rfl rfl ly274 ?_
    refine tk_Ps  1 (pc' := 205) (ls' := [(0, .ref 274), (1, .int v1), (2, .long v2), (4, .long v4), (6, .ref v6), (7, .long v7)]) (st' := [.int v1, .int (o4.2.1 274 10), .ref 328]) rfl ?_
    obtain ⟨hg6, h⟩ := tk_grd h
    refine tk_SIa  rfl rfl ly328 hg6 ?_
    refine tk_Ps  2 (pc' := 208) (ls' := [(0, .ref 274), (1, .int v1), (2, .long v2), (4, .long v4), (6, .ref v6), (7, .long v7)]) (st' := [.ref 274, .ref 274]) rfl ?_
    refine tk_HI  rfl rfl ly274 ?_
    refine tk_Ps  2 (pc' := 213) (ls' := [(0, .ref 274), (1, .int v1), (2, .long v2), (4, .long v4), (6, .ref v6), (7, .long v7)]) (st' := [.int ((tk_u2 o4.2.1 328 (tk_n (o4.2.1 274 10)) v1 274 10) + (1 : Int32)), .ref 274]) rfl ?_
    refine tk_SI  rfl rfl ly274 ?_
    replace h := Option.some.inj h
    subst h
    exact tk_RV  rfl rfl rfl
  · replace h := tk_ifF hc5 h
    refine tk_bF  rfl rfl rfl (c := 0 < o4.1) hc5 (pc' := 195) (ls' := [(0, .ref 274), (1, .int v1), (2, .long v2), (4, .long v4), (6, .ref v6), (7, .long v7)]) (st' := []) ?_
    replace h := Option.some.inj h
    subst h
    exact tk_RV  rfl rfl rfl
theorem ok_fM_takes_73 (sc : tk_X) : ∀ (n : Nat) (v1 : Int32) (v2 : Int64) (v4 : Int64) (v6 : Nat) (v7 : Int64) (v9 : Int32) (m : tk_m) (hv6 : tk_lay[v6]? = some (.inr (1, 8))) (out : tk_m), fM_takes_73 n v1 v2 v4 v6 v7 v9 m = some out → tk_Ex sc 3 tk_r222 tk_k222 73 [(0, .ref 274), (1, .int v1), (2, .long v2), (4, .long v4), (6, .ref v6), (7, .long v7), (9, .int v9)] [] (tk_full m) (none, tk_full out) := by
  intro n
  induction n with
  | zero =>
    intro v1 v2 v4 v6 v7 v9 m hv6 out h
    cases h
  | succ n ih =>
    intro v1 v2 v4 v6 v7 v9 m hv6 out h
    unfold fM_takes_73 at h
    refine tk_Ps  2 (pc' := 76) (ls' := [(0, .ref 274), (1, .int v1), (2, .long v2), (4, .long v4), (6, .ref v6), (7, .long v7), (9, .int v9)]) (st' := [.int (3 : Int32), .int v9]) rfl ?_
    by_cases hc1 : (3 : Int32) ≤ v9
    · replace h := tk_ifT hc1 h
      refine tk_bT  rfl rfl rfl (c := (3 : Int32) ≤ v9) hc1 (pc' := 150) (ls' := [(0, .ref 274), (1, .int v1), (2, .long v2), (4, .long v4), (6, .ref v6), (7, .long v7), (9, .int v9)]) (st' := []) ?_
      refine tk_Kp  (ls' := [(0, .ref 274), (1, .int v1), (2, .long v2), (4, .long v4), (6, .ref v6), (7, .long v7)]) rfl rfl ?_
      exact ok_fM_takes_150 sc v1 v2 v4 v6 v7 m hv6 _ h
    · replace h := tk_ifF hc1 h
      refine tk_bF  rfl rfl rfl (c := (3 : Int32) ≤ v9) hc1 (pc' := 79) (ls' := [(0, .ref 274), (1, .int v1), (2, .long v2), (4, .long v4), (6, .ref v6), (7, .long v7), (9, .int v9)]) (st' := []) ?_
      refine tk_Ps  3 (pc' := 84) (ls' := [(0, .ref 274), (1, .int v1), (2, .long v2), (4, .long v4), (6, .ref v6), (7, .long v7), (9, .int v9)]) (st' := [.ref 274, .int v9, .ref v6]) rfl ?_
      refine tk_HR  rfl rfl ly274 rt274_21 ?_
      refine tk_Ps  1 (pc' := 89) (ls' := [(0, .ref 274), (1, .int v1), (2, .long v2), (4, .long v4), (6, .ref v6), (7, .long v7), (9, .int v9)]) (st' := [.int v9, .ref 419, .int v9, .ref v6]) rfl ?_
      obtain ⟨hg2, h⟩ := tk_grd h
      refine tk_HJa  rfl rfl ly419 hg2 ?_
      refine tk_Ps  1 (pc' := 92) (ls' := [(0, .ref 274), (1, .int v1), (2, .long v2), (4, .long v4), (6, .ref v6), (7, .long v7), (9, .int v9)]) (st' := [.long v7, .long (m.2.1 419 (tk_n v9)), .int v9, .ref v6]) rfl ?_
      obtain ⟨hz3, h⟩ := tk_grn h
      refine tk_ldiv  rfl rfl hz3 ?_
      obtain ⟨hg4, h⟩ := tk_grd h
      refine tk_SJa  rfl rfl hv6 hg4 ?_
      refine tk_Ps  5 (pc' := 101) (ls' := [(0, .ref 274), (1, .int v1), (2, .long v2), (4, .long v4), (6, .ref v6), (7, .long v7), (9, .int v9)]) (st' := [.ref 274, .int ((3 : Int32) + v9), .ref v6]) rfl ?_
      refine tk_HR  rfl rfl ly274 rt274_22 ?_
      refine tk_Ps  1 (pc' := 106) (ls' := [(0, .ref 274), (1, .int v1), (2, .long v2), (4, .long v4), (6, .ref v6), (7, .long v7), (9, .int v9)]) (st' := [.int v9, .ref 420, .int ((3 : Int32) + v9), .ref v6]) rfl ?_
      refine tk_HJa  rfl rfl ly420 hg2 ?_
      refine tk_Ps  1 (pc' := 109) (ls' := [(0, .ref 274), (1, .int v1), (2, .long v2), (4, .long v4), (6, .ref v6), (7, .long v7), (9, .int v9)]) (st' := [.long v7, .long (tk_u2 m.2.1 v6 (tk_n v9) ((m.2.1 419 (tk_n v9)) / v7) 420 (tk_n v9)), .int ((3 : Int32) + v9), .ref v6]) rfl ?_
      obtain ⟨hz5, h⟩ := tk_grn h
      refine tk_ldiv  rfl rfl hz5 ?_
      obtain ⟨hg6, h⟩ := tk_grd h
      refine tk_SJa  rfl rfl hv6 hg6 ?_
      refine tk_Ps  2 (pc' := 113) (ls' := [(0, .ref 274), (1, .int v1), (2, .long v2), (4, .long v4), (6, .ref v6), (7, .long v7), (9, .int v9)]) (st' := [.ref 274, .ref 274]) rfl ?_
      refine tk_HR  rfl rfl ly274 rt274_21 ?_
      refine tk_Ps  1 (pc' := 118) (ls' := [(0, .ref 274), (1, .int v1), (2, .long v2), (4, .long v4), (6, .ref v6), (7, .long v7), (9, .int v9)]) (st' := [.int v9, .ref 419, .ref 274]) rfl ?_
      refine tk_HJa  rfl rfl ly419 hg2 ?_
      refine tk_Ps  1 (pc' := 120) (ls' := [(0, .ref 274), (1, .int v1), (2, .long v2), (4, .long v4), (6, .ref v6), (7, .long v7), (9, .int v9)]) (st' := [.ref 274, .long (tk_u2 (tk_u2 m.2.1 v6 (tk_n v9) ((m.2.1 419 (tk_n v9)) / v7)) v6 (tk_n ((3 : Int32) + v9)) ((tk_u2 m.2.1 v6 (tk_n v9) ((m.2.1 419 (tk_n v9)) / v7) 420 (tk_n v9)) / v7) 419 (tk_n v9)), .ref 274]) rfl ?_
      refine tk_HR  rfl rfl ly274 rt274_22 ?_
      refine tk_Ps  1 (pc' := 125) (ls' := [(0, .ref 274), (1, .int v1), (2, .long v2), (4, .long v4), (6, .ref v6), (7, .long v7), (9, .int v9)]) (st' := [.int v9, .ref 420, .long (tk_u2 (tk_u2 m.2.1 v6 (tk_n v9) ((m.2.1 419 (tk_n v9)) / v7)) v6 (tk_n ((3 : Int32) + v9)) ((tk_u2 m.2.1 v6 (tk_n v9) ((m.2.1 419 (tk_n v9)) / v7) 420 (tk_n v9)) / v7) 419 (tk_n v9)), .ref 274]) rfl ?_
      refine tk_HJa  rfl rfl ly420 hg2 ?_
      refine tk_Ps  3 (pc' := 130) (ls' := [(0, .ref 274), (1, .int v1), (2, .long v2), (4, .long v4), (6, .ref v6), (7, .long v7), (9, .int v9)]) (st' := [.ref 274, .long v4, .long v2, .long (tk_u2 (tk_u2 m.2.1 v6 (tk_n v9) ((m.2.1 419 (tk_n v9)) / v7)) v6 (tk_n ((3 : Int32) + v9)) ((tk_u2 m.2.1 v6 (tk_n v9) ((m.2.1 419 (tk_n v9)) / v7) 420 (tk_n v9)) / v7) 420 (tk_n v9)), .long (tk_u2 (tk_u2 m.2.1 v6 (tk_n v9) ((m.2.1 419 (tk_n v9)) / v7)) v6 (tk_n ((3 : Int32) + v9)) ((tk_u2 m.2.1 v6 (tk_n v9) ((m.2.1 419 (tk_n v9)) / v7) 420 (tk_n v9)) / v7) 419 (tk_n v9)), .ref 274]) rfl ?_
      refine tk_HR  rfl rfl ly274 rt274_13 ?_
      refine tk_Ps  1 (pc' := 134) (ls' := [(0, .ref 274), (1, .int v1), (2, .long v2), (4, .long v4), (6, .ref v6), (7, .long v7), (9, .int v9)]) (st' := [.ref 274, .ref 329, .long v4, .long v2, .long (tk_u2 (tk_u2 m.2.1 v6 (tk_n v9) ((m.2.1 419 (tk_n v9)) / v7)) v6 (tk_n ((3 : Int32) + v9)) ((tk_u2 m.2.1 v6 (tk_n v9) ((m.2.1 419 (tk_n v9)) / v7) 420 (tk_n v9)) / v7) 420 (tk_n v9)), .long (tk_u2 (tk_u2 m.2.1 v6 (tk_n v9) ((m.2.1 419 (tk_n v9)) / v7)) v6 (tk_n ((3 : Int32) + v9)) ((tk_u2 m.2.1 v6 (tk_n v9) ((m.2.1 419 (tk_n v9)) / v7) 420 (tk_n v9)) / v7) 419 (tk_n v9)), .ref 274]) rfl ?_
      refine tk_HI  rfl rfl ly274 ?_
      obtain ⟨hg7, h⟩ := tk_grd h
      refine tk_HQ  rfl rfl ly329 hg7 (la329 _ (hg7).2).1 ?_
      refine tk_Ps  1 (pc' := 140) (ls' := [(0, .ref 274), (1, .int v1), (2, .long v2), (4, .long v4), (6, .ref v6), (7, .long v7), (9, .int v9)]) (st' := [.int v9, .ref (330 + 4 * (tk_n (m.1 274 10))), .long v4, .long v2, .long (tk_u2 (tk_u2 m.2.1 v6 (tk_n v9) ((m.2.1 419 (tk_n v9)) / v7)) v6 (tk_n ((3 : Int32) + v9)) ((tk_u2 m.2.1 v6 (tk_n v9) ((m.2.1 419 (tk_n v9)) / v7) 420 (tk_n v9)) / v7) 420 (tk_n v9)), .long (tk_u2 (tk_u2 m.2.1 v6 (tk_n v9) ((m.2.1 419 (tk_n v9)) / v7)) v6 (tk_n ((3 : Int32) + v9)) ((tk_u2 m.2.1 v6 (tk_n v9) ((m.2.1 419 (tk_n v9)) / v7) 420 (tk_n v9)) / v7) 419 (tk_n v9)), .ref 274]) rfl ?_
      refine tk_HQ  rfl rfl ((la329 _ (hg7).2).2) hg2 (lb329 _ ((hg7).2) _ (hg2).2).1 ?_
      obtain ⟨o8, ho8, h⟩ := tk_bnd h
      refine tk_cV0  rfl rfl (r := 274) (as := [.long (tk_u2 (tk_u2 m.2.1 v6 (tk_n v9) ((m.2.1 419 (tk_n v9)) / v7)) v6 (tk_n ((3 : Int32) + v9)) ((tk_u2 m.2.1 v6 (tk_n v9) ((m.2.1 419 (tk_n v9)) / v7) 420 (tk_n v9)) / v7) 419 (tk_n v9)), .long (tk_u2 (tk_u2 m.2.1 v6 (tk_n v9) ((m.2.1 419 (tk_n v9)) / v7)) v6 (tk_n ((3 : Int32) + v9)) ((tk_u2 m.2.1 v6 (tk_n v9) ((m.2.1 419 (tk_n v9)) / v7) 420 (tk_n v9)) / v7) 420 (tk_n v9)), .long v2, .long v4, .ref ((330 + 4 * (tk_n (m.1 274 10))) + 1 + (tk_n v9))]) (rest := []) rfl ly274 rfl rfl (ok_fM_lowest sc (tk_u2 (tk_u2 m.2.1 v6 (tk_n v9) ((m.2.1 419 (tk_n v9)) / v7)) v6 (tk_n ((3 : Int32) + v9)) ((tk_u2 m.2.1 v6 (tk_n v9) ((m.2.1 419 (tk_n v9)) / v7) 420 (tk_n v9)) / v7) 419 (tk_n v9)) (tk_u2 (tk_u2 m.2.1 v6 (tk_n v9) ((m.2.1 419 (tk_n v9)) / v7)) v6 (tk_n ((3 : Int32) + v9)) ((tk_u2 m.2.1 v6 (tk_n v9) ((m.2.1 419 (tk_n v9)) / v7) 420 (tk_n v9)) / v7) 420 (tk_n v9)) v2 v4 ((330 + 4 * (tk_n (m.1 274 10))) + 1 + (tk_n v9)) (m.1, tk_u2 (tk_u2 m.2.1 v6 (tk_n v9) ((m.2.1 419 (tk_n v9)) / v7)) v6 (tk_n ((3 : Int32) + v9)) ((tk_u2 m.2.1 v6 (tk_n v9) ((m.2.1 419 (tk_n v9)) / v7) 420 (tk_n v9)) / v7), m.2.2.1, m.2.2.2) (tk_al_of ((lb329 _ ((hg7).2) _ (hg2).2).2)) ho8) ?_
      refine tk_Ps  2 (pc' := 73) (ls' := [(9, .int (v9 + (1 : Int32))), (0, .ref 274), (1, .int v1), (2, .long v2), (4, .long v4), (6, .ref v6), (7, .long v7)]) (st' := []) rfl ?_
      refine tk_Kp  (ls' := [(0, .ref 274), (1, .int v1), (2, .long v2), (4, .long v4), (6, .ref v6), (7, .long v7), (9, .int (v9 + (1 : Int32)))]) rfl rfl ?_
      exact ih v1 v2 v4 v6 v7 (v9 + (1 : Int32)) o8 hv6 _ h
theorem ok_fM_takes_58 (sc : tk_X) (v1 : Int32) (v2 : Int64) (v4 : Int64) (v6 : Nat) (v7 : Int64) (m : tk_m) (hv6 : tk_lay[v6]? = some (.inr (1, 8))) (out : tk_m) (h : fM_takes_58 v1 v2 v4 v6 v7 m = some out) : tk_Ex sc 3 tk_r222 tk_k222 58 [(0, .ref 274), (1, .int v1), (2, .long v2), (4, .long v4), (6, .ref v6), (7, .long v7)] [] (tk_full m) (none, tk_full out) := by
  unfold fM_takes_58 at h
  refine tk_Ps  3 (pc' := 62) (ls' := [(0, .ref 274), (1, .int v1), (2, .long v2), (4, .long v4), (6, .ref v6), (7, .long v7)]) (st' := [.int (lg_cmp v4 (0 : Int64))]) rfl ?_
  by_cases hc1 : v4 ≤ (0 : Int64)
  · replace h := tk_ifT hc1 h
    refine tk_bT  rfl rfl tk_eL_le (c := v4 ≤ (0 : Int64)) hc1 (pc' := 70) (ls' := [(0, .ref 274), (1, .int v1), (2, .long v2), (4, .long v4), (6, .ref v6), (7, .long v7)]) (st' := []) ?_
    refine tk_Ps  2 (pc' := 73) (ls' := [(9, .int (0 : Int32)), (0, .ref 274), (1, .int v1), (2, .long v2), (4, .long v4), (6, .ref v6), (7, .long v7)]) (st' := []) rfl ?_
    refine tk_Kp  (ls' := [(0, .ref 274), (1, .int v1), (2, .long v2), (4, .long v4), (6, .ref v6), (7, .long v7), (9, .int (0 : Int32))]) rfl rfl ?_
    exact ok_fM_takes_73 sc tk_F v1 v2 v4 v6 v7 (0 : Int32) m hv6 _ h
  · replace h := tk_ifF hc1 h
    refine tk_bF  rfl rfl tk_eL_le (c := v4 ≤ (0 : Int64)) hc1 (pc' := 65) (ls' := [(0, .ref 274), (1, .int v1), (2, .long v2), (4, .long v4), (6, .ref v6), (7, .long v7)]) (st' := []) ?_
    refine tk_Ps  5 (pc' := 73) (ls' := [(9, .int (0 : Int32)), (7, .long (-v7)), (0, .ref 274), (1, .int v1), (2, .long v2), (4, .long v4), (6, .ref v6)]) (st' := []) rfl ?_
    refine tk_Kp  (ls' := [(0, .ref 274), (1, .int v1), (2, .long v2), (4, .long v4), (6, .ref v6), (7, .long (-v7)), (9, .int (0 : Int32))]) rfl rfl ?_
    exact ok_fM_takes_73 sc tk_F v1 v2 v4 v6 (-v7) (0 : Int32) m hv6 _ h
theorem ok_fM_takes_22 (sc : tk_X) : ∀ (n : Nat) (v1 : Int32) (v2 : Int64) (v4 : Int64) (v6 : Nat) (v7 : Int64) (v9 : Int32) (m : tk_m) (hv6 : tk_lay[v6]? = some (.inr (1, 8))) (out : tk_m), fM_takes_22 n v1 v2 v4 v6 v7 v9 m = some out → tk_Ex sc 3 tk_r222 tk_k222 22 [(0, .ref 274), (1, .int v1), (2, .long v2), (4, .long v4), (6, .ref v6), (7, .long v7), (9, .int v9)] [] (tk_full m) (none, tk_full out) := by
  intro n
  induction n with
  | zero =>
    intro v1 v2 v4 v6 v7 v9 m hv6 out h
    cases h
  | succ n ih =>
    intro v1 v2 v4 v6 v7 v9 m hv6 out h
    unfold fM_takes_22 at h
    refine tk_Ps  2 (pc' := 25) (ls' := [(0, .ref 274), (1, .int v1), (2, .long v2), (4, .long v4), (6, .ref v6), (7, .long v7), (9, .int v9)]) (st' := [.int (3 : Int32), .int v9]) rfl ?_
    by_cases hc1 : (3 : Int32) ≤ v9
    · replace h := tk_ifT hc1 h
      refine tk_bT  rfl rfl rfl (c := (3 : Int32) ≤ v9) hc1 (pc' := 58) (ls' := [(0, .ref 274), (1, .int v1), (2, .long v2), (4, .long v4), (6, .ref v6), (7, .long v7), (9, .int v9)]) (st' := []) ?_
      refine tk_Kp  (ls' := [(0, .ref 274), (1, .int v1), (2, .long v2), (4, .long v4), (6, .ref v6), (7, .long v7)]) rfl rfl ?_
      exact ok_fM_takes_58 sc v1 v2 v4 v6 v7 m hv6 _ h
    · replace h := tk_ifF hc1 h
      refine tk_bF  rfl rfl rfl (c := (3 : Int32) ≤ v9) hc1 (pc' := 28) (ls' := [(0, .ref 274), (1, .int v1), (2, .long v2), (4, .long v4), (6, .ref v6), (7, .long v7), (9, .int v9)]) (st' := []) ?_
      refine tk_Ps  2 (pc' := 31) (ls' := [(0, .ref 274), (1, .int v1), (2, .long v2), (4, .long v4), (6, .ref v6), (7, .long v7), (9, .int v9)]) (st' := [.ref 274, .long v7]) rfl ?_
      refine tk_HR  rfl rfl ly274 rt274_21 ?_
      refine tk_Ps  1 (pc' := 36) (ls' := [(0, .ref 274), (1, .int v1), (2, .long v2), (4, .long v4), (6, .ref v6), (7, .long v7), (9, .int v9)]) (st' := [.int v9, .ref 419, .long v7]) rfl ?_
      obtain ⟨hg2, h⟩ := tk_grd h
      refine tk_HJa  rfl rfl ly419 hg2 ?_
      obtain ⟨o3, ho3, h⟩ := tk_bnd h
      refine tk_cS1  rfl rfl (as := [.long v7, .long (m.2.1 419 (tk_n v9))]) (rest := []) rfl rfl rfl (ok_fM_below sc v7 (m.2.1 419 (tk_n v9)) m ho3) ?_
      refine tk_Ps  1 (pc' := 41) (ls' := [(0, .ref 274), (1, .int v1), (2, .long v2), (4, .long v4), (6, .ref v6), (7, .long v7), (9, .int v9)]) (st' := [.ref 274, .long o3]) rfl ?_
      refine tk_HR  rfl rfl ly274 rt274_22 ?_
      refine tk_Ps  1 (pc' := 46) (ls' := [(0, .ref 274), (1, .int v1), (2, .long v2), (4, .long v4), (6, .ref v6), (7, .long v7), (9, .int v9)]) (st' := [.int v9, .ref 420, .long o3]) rfl ?_
      refine tk_HJa  rfl rfl ly420 hg2 ?_
      obtain ⟨o4, ho4, h⟩ := tk_bnd h
      refine tk_cS1  rfl rfl (as := [.long o3, .long (m.2.1 420 (tk_n v9))]) (rest := []) rfl rfl rfl (ok_fM_below sc o3 (m.2.1 420 (tk_n v9)) m ho4) ?_
      refine tk_Ps  3 (pc' := 22) (ls' := [(9, .int (v9 + (1 : Int32))), (7, .long o4), (0, .ref 274), (1, .int v1), (2, .long v2), (4, .long v4), (6, .ref v6)]) (st' := []) rfl ?_
      refine tk_Kp  (ls' := [(0, .ref 274), (1, .int v1), (2, .long v2), (4, .long v4), (6, .ref v6), (7, .long o4), (9, .int (v9 + (1 : Int32)))]) rfl rfl ?_
      exact ih v1 v2 v4 v6 o4 (v9 + (1 : Int32)) m hv6 _ h
theorem ok_fM_takes (sc : tk_X) (a1 : Int32) (a2 : Int64) (a3 : Int64) (m : tk_m) {out : tk_m} (h : fM_takes a1 a2 a3 m = some out) : tk_Ru sc 4 222 [.ref 274, .int a1, .long a2, .long a3] (tk_full m) (none, tk_full out) := by
  unfold fM_takes at h
  refine tk_Ru0 me222 (ls := [(0, .ref 274), (1, .int a1), (2, .long a2), (4, .long a3)]) rfl rfl ?_
  refine tk_Ps  1 (pc' := 1) (ls' := [(0, .ref 274), (1, .int a1), (2, .long a2), (4, .long a3)]) (st' := [.ref 274]) rfl ?_
  refine tk_HR  rfl rfl ly274 rt274_14 ?_
  refine tk_Ps  1 (pc' := 5) (ls' := [(0, .ref 274), (1, .int a1), (2, .long a2), (4, .long a3)]) (st' := [.ref 274, .ref 394]) rfl ?_
  refine tk_HI  rfl rfl ly274 ?_
  obtain ⟨hg1, h⟩ := tk_grd h
  refine tk_HQ  rfl rfl ly394 hg1 (la394 _ (hg1).2).1 ?_
  refine tk_Ps  3 (pc' := 14) (ls' := [(6, .ref (395 + (tk_n (m.1 274 10)))), (0, .ref 274), (1, .int a1), (2, .long a2), (4, .long a3)]) (st' := [.long (0 : Int64), .long a3]) rfl ?_
  obtain ⟨o2, ho2, h⟩ := tk_bnd h
  refine tk_cS1  rfl rfl (as := [.long a3, .long (0 : Int64)]) (rest := []) rfl rfl rfl (ok_fM_below sc a3 (0 : Int64) m ho2) ?_
  refine tk_Ps  3 (pc' := 22) (ls' := [(9, .int (0 : Int32)), (7, .long o2), (6, .ref (395 + (tk_n (m.1 274 10)))), (0, .ref 274), (1, .int a1), (2, .long a2), (4, .long a3)]) (st' := []) rfl ?_
  refine tk_Kp  (ls' := [(0, .ref 274), (1, .int a1), (2, .long a2), (4, .long a3), (6, .ref (395 + (tk_n (m.1 274 10)))), (7, .long o2), (9, .int (0 : Int32))]) rfl rfl ?_
  exact ok_fM_takes_22 sc tk_F a1 a2 a3 (395 + (tk_n (m.1 274 10))) o2 (0 : Int32) m ((la394 _ (hg1).2).2) _ h
theorem ok_fM_byFirst_203 (sc : tk_X) (v1 : Int32) (v2 : Int64) (m : tk_m) (out : tk_m) (h : fM_byFirst_203 v1 v2 m = some out) : tk_Ex sc 4 tk_r220 tk_k220 203 [(0, .ref 274), (1, .int v1), (2, .long v2)] [] (tk_full m) (none, tk_full out) := by
  unfold fM_byFirst_203 at h
  refine tk_Ps  6 (pc' := 211) (ls' := [(0, .ref 274), (1, .int v1), (2, .long v2)]) (st' := [.long ((2 : Int64) * v2), .long (0 : Int64), .int v1, .ref 274]) rfl ?_
  obtain ⟨o1, ho1, h⟩ := tk_bnd h
  refine tk_cV0  rfl rfl (r := 274) (as := [.int v1, .long (0 : Int64), .long ((2 : Int64) * v2)]) (rest := []) rfl ly274 rfl rfl (ok_fM_takes sc v1 (0 : Int64) ((2 : Int64) * v2) m ho1) ?_
  replace h := Option.some.inj h
  subst h
  exact tk_RV  rfl rfl rfl
theorem ok_fM_byFirst_158 (sc : tk_X) (r120 : Int32 → Int64 → Int32 → tk_m → Option tk_m) (H120 : ∀ (v1 : Int32) (v2 : Int64) (v4 : Int32) (m : tk_m) (out : tk_m), r120 v1 v2 v4 m = some out → tk_Ex sc 4 tk_r220 tk_k220 120 [(0, .ref 274), (1, .int v1), (2, .long v2), (4, .int v4)] [] (tk_full m) (none, tk_full out)) : ∀ (n : Nat) (v1 : Int32) (v2 : Int64) (v4 : Int32) (v5 : Int32) (m : tk_m) (out : tk_m), fM_byFirst_158 r120 n v1 v2 v4 v5 m = some out → tk_Ex sc 4 tk_r220 tk_k220 158 [(0, .ref 274), (1, .int v1), (2, .long v2), (4, .int v4), (5, .int v5)] [] (tk_full m) (none, tk_full out) := by
  intro n
  induction n with
  | zero =>
    intro v1 v2 v4 v5 m out h
    cases h
  | succ n ih =>
    intro v1 v2 v4 v5 m out h
    unfold fM_byFirst_158 at h
    refine tk_Ps  2 (pc' := 161) (ls' := [(0, .ref 274), (1, .int v1), (2, .long v2), (4, .int v4), (5, .int v5)]) (st' := [.int (3 : Int32), .int v5]) rfl ?_
    by_cases hc1 : (3 : Int32) ≤ v5
    · replace h := tk_ifT hc1 h
      refine tk_bT  rfl rfl rfl (c := (3 : Int32) ≤ v5) hc1 (pc' := 197) (ls' := [(0, .ref 274), (1, .int v1), (2, .long v2), (4, .int v4), (5, .int v5)]) (st' := []) ?_
      refine tk_Ps  2 (pc' := 120) (ls' := [(4, .int (v4 + (1 : Int32))), (0, .ref 274), (1, .int v1), (2, .long v2), (5, .int v5)]) (st' := []) rfl ?_
      refine tk_Kp  (ls' := [(0, .ref 274), (1, .int v1), (2, .long v2), (4, .int (v4 + (1 : Int32)))]) rfl rfl ?_
      exact H120 v1 v2 (v4 + (1 : Int32)) m _ h
    · replace h := tk_ifF hc1 h
      refine tk_bF  rfl rfl rfl (c := (3 : Int32) ≤ v5) hc1 (pc' := 164) (ls' := [(0, .ref 274), (1, .int v1), (2, .long v2), (4, .int v4), (5, .int v5)]) (st' := []) ?_
      refine tk_Ps  1 (pc' := 165) (ls' := [(0, .ref 274), (1, .int v1), (2, .long v2), (4, .int v4), (5, .int v5)]) (st' := [.ref 274]) rfl ?_
      refine tk_HR  rfl rfl ly274 rt274_21 ?_
      refine tk_Ps  2 (pc' := 171) (ls' := [(0, .ref 274), (1, .int v1), (2, .long v2), (4, .int v4), (5, .int v5)]) (st' := [.int v5, .ref 419, .int v5, .ref 419]) rfl ?_
      obtain ⟨hg2, h⟩ := tk_grd h
      refine tk_HJa  rfl rfl ly419 hg2 ?_
      refine tk_Ps  1 (pc' := 173) (ls' := [(0, .ref 274), (1, .int v1), (2, .long v2), (4, .int v4), (5, .int v5)]) (st' := [.ref 274, .long (m.2.1 419 (tk_n v5)), .int v5, .ref 419]) rfl ?_
      refine tk_HR  rfl rfl ly274 rt274_15 ?_
      refine tk_Ps  1 (pc' := 178) (ls' := [(0, .ref 274), (1, .int v1), (2, .long v2), (4, .int v4), (5, .int v5)]) (st' := [.int v4, .ref 411, .long (m.2.1 419 (tk_n v5)), .int v5, .ref 419]) rfl ?_
      obtain ⟨hg3, h⟩ := tk_grd h
      refine tk_HQ  rfl rfl ly411 hg3 (la411 _ (hg3).2).1 ?_
      refine tk_Ps  1 (pc' := 180) (ls' := [(0, .ref 274), (1, .int v1), (2, .long v2), (4, .int v4), (5, .int v5)]) (st' := [.int (3 : Int32), .ref (412 + (tk_n v4)), .long (m.2.1 419 (tk_n v5)), .int v5, .ref 419]) rfl ?_
      refine tk_HJa  rfl rfl ((la411 _ (hg3).2).2) (by decide) ?_
      refine tk_Ps  1 (pc' := 182) (ls' := [(0, .ref 274), (1, .int v1), (2, .long v2), (4, .int v4), (5, .int v5)]) (st' := [.ref 274, .long (m.2.1 (412 + (tk_n v4)) 3), .long (m.2.1 419 (tk_n v5)), .int v5, .ref 419]) rfl ?_
      refine tk_HR  rfl rfl ly274 rt274_19 ?_
      refine tk_Ps  1 (pc' := 187) (ls' := [(0, .ref 274), (1, .int v1), (2, .long v2), (4, .int v4), (5, .int v5)]) (st' := [.int v5, .ref 417, .long (m.2.1 (412 + (tk_n v4)) 3), .long (m.2.1 419 (tk_n v5)), .int v5, .ref 419]) rfl ?_
      refine tk_HJa  rfl rfl ly417 hg2 ?_
      refine tk_Ps  2 (pc' := 190) (ls' := [(0, .ref 274), (1, .int v1), (2, .long v2), (4, .int v4), (5, .int v5)]) (st' := [.long ((m.2.1 419 (tk_n v5)) + ((m.2.1 (412 + (tk_n v4)) 3) * (m.2.1 417 (tk_n v5)))), .int v5, .ref 419]) rfl ?_
      refine tk_SJa  rfl rfl ly419 hg2 ?_
      refine tk_Ps  2 (pc' := 158) (ls' := [(5, .int (v5 + (1 : Int32))), (0, .ref 274), (1, .int v1), (2, .long v2), (4, .int v4)]) (st' := []) rfl ?_
      refine tk_Kp  (ls' := [(0, .ref 274), (1, .int v1), (2, .long v2), (4, .int v4), (5, .int (v5 + (1 : Int32)))]) rfl rfl ?_
      exact ih v1 v2 v4 (v5 + (1 : Int32)) (m.1, tk_u2 m.2.1 419 (tk_n v5) ((m.2.1 419 (tk_n v5)) + ((m.2.1 (412 + (tk_n v4)) 3) * (m.2.1 417 (tk_n v5)))), m.2.2.1, m.2.2.2) _ h
theorem ok_fM_byFirst_120 (sc : tk_X) : ∀ (n : Nat) (v1 : Int32) (v2 : Int64) (v4 : Int32) (m : tk_m) (out : tk_m), fM_byFirst_120 n v1 v2 v4 m = some out → tk_Ex sc 4 tk_r220 tk_k220 120 [(0, .ref 274), (1, .int v1), (2, .long v2), (4, .int v4)] [] (tk_full m) (none, tk_full out) := by
  intro n
  induction n with
  | zero =>
    intro v1 v2 v4 m out h
    cases h
  | succ n ih =>
    intro v1 v2 v4 m out h
    unfold fM_byFirst_120 at h
    refine tk_Ps  2 (pc' := 123) (ls' := [(0, .ref 274), (1, .int v1), (2, .long v2), (4, .int v4)]) (st' := [.int (3 : Int32), .int v4]) rfl ?_
    by_cases hc1 : (3 : Int32) ≤ v4
    · replace h := tk_ifT hc1 h
      refine tk_bT  rfl rfl rfl (c := (3 : Int32) ≤ v4) hc1 (pc' := 203) (ls' := [(0, .ref 274), (1, .int v1), (2, .long v2), (4, .int v4)]) (st' := []) ?_
      refine tk_Kp  (ls' := [(0, .ref 274), (1, .int v1), (2, .long v2)]) rfl rfl ?_
      exact ok_fM_byFirst_203 sc v1 v2 m _ h
    · replace h := tk_ifF hc1 h
      refine tk_bF  rfl rfl rfl (c := (3 : Int32) ≤ v4) hc1 (pc' := 126) (ls' := [(0, .ref 274), (1, .int v1), (2, .long v2), (4, .int v4)]) (st' := []) ?_
      refine tk_Ps  1 (pc' := 127) (ls' := [(0, .ref 274), (1, .int v1), (2, .long v2), (4, .int v4)]) (st' := [.ref 274]) rfl ?_
      refine tk_HR  rfl rfl ly274 rt274_15 ?_
      refine tk_Ps  5 (pc' := 136) (ls' := [(0, .ref 274), (1, .int v1), (2, .long v2), (4, .int v4)]) (st' := [.int (tk_irem (v4 + (1 : Int32)) (3 : Int32)), .ref 411]) rfl ?_
      obtain ⟨hg2, h⟩ := tk_grd h
      refine tk_HQ  rfl rfl ly411 hg2 (la411 _ (hg2).2).1 ?_
      refine tk_Ps  1 (pc' := 138) (ls' := [(0, .ref 274), (1, .int v1), (2, .long v2), (4, .int v4)]) (st' := [.ref 274, .ref (412 + (tk_n (tk_irem (v4 + (1 : Int32)) (3 : Int32))))]) rfl ?_
      refine tk_HR  rfl rfl ly274 rt274_15 ?_
      refine tk_Ps  5 (pc' := 147) (ls' := [(0, .ref 274), (1, .int v1), (2, .long v2), (4, .int v4)]) (st' := [.int (tk_irem (v4 + (2 : Int32)) (3 : Int32)), .ref 411, .ref (412 + (tk_n (tk_irem (v4 + (1 : Int32)) (3 : Int32))))]) rfl ?_
      obtain ⟨hg3, h⟩ := tk_grd h
      refine tk_HQ  rfl rfl ly411 hg3 (la411 _ (hg3).2).1 ?_
      refine tk_Ps  1 (pc' := 149) (ls' := [(0, .ref 274), (1, .int v1), (2, .long v2), (4, .int v4)]) (st' := [.ref 274, .ref (412 + (tk_n (tk_irem (v4 + (2 : Int32)) (3 : Int32)))), .ref (412 + (tk_n (tk_irem (v4 + (1 : Int32)) (3 : Int32))))]) rfl ?_
      refine tk_HR  rfl rfl ly274 rt274_19 ?_
      obtain ⟨o4, ho4, h⟩ := tk_bnd h
      refine tk_cS0  rfl rfl (as := [.ref (412 + (tk_n (tk_irem (v4 + (1 : Int32)) (3 : Int32)))), .ref (412 + (tk_n (tk_irem (v4 + (2 : Int32)) (3 : Int32)))), .ref 417]) (rest := []) rfl rfl rfl (ok_fM_crosses sc (412 + (tk_n (tk_irem (v4 + (1 : Int32)) (3 : Int32)))) (412 + (tk_n (tk_irem (v4 + (2 : Int32)) (3 : Int32)))) 417 m (tk_al_of ((la411 _ (hg2).2).2)) (tk_al_of ((la411 _ (hg3).2).2)) (tk_al_of ly417) ho4) ?_
      refine tk_Ps  2 (pc' := 158) (ls' := [(5, .int (0 : Int32)), (0, .ref 274), (1, .int v1), (2, .long v2), (4, .int v4)]) (st' := []) rfl ?_
      refine tk_Kp  (ls' := [(0, .ref 274), (1, .int v1), (2, .long v2), (4, .int v4), (5, .int (0 : Int32))]) rfl rfl ?_
      exact ok_fM_byFirst_158 sc (fM_byFirst_120 n) ih tk_F v1 v2 v4 (0 : Int32) o4 _ h
theorem ok_fM_byFirst_89 (sc : tk_X) : ∀ (n : Nat) (v1 : Int32) (v2 : Int64) (v4 : Int32) (m : tk_m) (out : tk_m), fM_byFirst_89 n v1 v2 v4 m = some out → tk_Ex sc 4 tk_r220 tk_k220 89 [(0, .ref 274), (1, .int v1), (2, .long v2), (4, .int v4)] [] (tk_full m) (none, tk_full out) := by
  intro n
  induction n with
  | zero =>
    intro v1 v2 v4 m out h
    cases h
  | succ n ih =>
    intro v1 v2 v4 m out h
    unfold fM_byFirst_89 at h
    refine tk_Ps  2 (pc' := 92) (ls' := [(0, .ref 274), (1, .int v1), (2, .long v2), (4, .int v4)]) (st' := [.int (3 : Int32), .int v4]) rfl ?_
    by_cases hc1 : (3 : Int32) ≤ v4
    · replace h := tk_ifT hc1 h
      refine tk_bT  rfl rfl rfl (c := (3 : Int32) ≤ v4) hc1 (pc' := 117) (ls' := [(0, .ref 274), (1, .int v1), (2, .long v2), (4, .int v4)]) (st' := []) ?_
      refine tk_Ps  2 (pc' := 120) (ls' := [(4, .int (0 : Int32)), (0, .ref 274), (1, .int v1), (2, .long v2)]) (st' := []) rfl ?_
      refine tk_Kp  (ls' := [(0, .ref 274), (1, .int v1), (2, .long v2), (4, .int (0 : Int32))]) rfl rfl ?_
      exact ok_fM_byFirst_120 sc tk_F v1 v2 (0 : Int32) m _ h
    · replace h := tk_ifF hc1 h
      refine tk_bF  rfl rfl rfl (c := (3 : Int32) ≤ v4) hc1 (pc' := 95) (ls' := [(0, .ref 274), (1, .int v1), (2, .long v2), (4, .int v4)]) (st' := []) ?_
      refine tk_Ps  1 (pc' := 96) (ls' := [(0, .ref 274), (1, .int v1), (2, .long v2), (4, .int v4)]) (st' := [.ref 274]) rfl ?_
      refine tk_HR  rfl rfl ly274 rt274_21 ?_
      refine tk_Ps  2 (pc' := 102) (ls' := [(0, .ref 274), (1, .int v1), (2, .long v2), (4, .int v4)]) (st' := [.long (0 : Int64), .int v4, .ref 419]) rfl ?_
      obtain ⟨hg2, h⟩ := tk_grd h
      refine tk_SJa  rfl rfl ly419 hg2 ?_
      refine tk_Ps  1 (pc' := 104) (ls' := [(0, .ref 274), (1, .int v1), (2, .long v2), (4, .int v4)]) (st' := [.ref 274]) rfl ?_
      refine tk_HR  rfl rfl ly274 rt274_22 ?_
      refine tk_Ps  2 (pc' := 110) (ls' := [(0, .ref 274), (1, .int v1), (2, .long v2), (4, .int v4)]) (st' := [.long (0 : Int64), .int v4, .ref 420]) rfl ?_
      refine tk_SJa  rfl rfl ly420 hg2 ?_
      refine tk_Ps  2 (pc' := 89) (ls' := [(4, .int (v4 + (1 : Int32))), (0, .ref 274), (1, .int v1), (2, .long v2)]) (st' := []) rfl ?_
      refine tk_Kp  (ls' := [(0, .ref 274), (1, .int v1), (2, .long v2), (4, .int (v4 + (1 : Int32)))]) rfl rfl ?_
      exact ih v1 v2 (v4 + (1 : Int32)) (m.1, tk_u2 (tk_u2 m.2.1 419 (tk_n v4) (0 : Int64)) 420 (tk_n v4) (0 : Int64), m.2.2.1, m.2.2.2) _ h
theorem ok_fM_byFirst (sc : tk_X) (a1 : Int32) (m : tk_m) {out : tk_m} (h : fM_byFirst a1 m = some out) : tk_Ru sc 5 220 [.ref 274, .int a1] (tk_full m) (none, tk_full out) := by
  unfold fM_byFirst at h
  refine tk_Ru0 me220 (ls := [(0, .ref 274), (1, .int a1)]) rfl rfl ?_
  refine tk_Ps  1 (pc' := 1) (ls' := [(0, .ref 274), (1, .int a1)]) (st' := [.ref 274]) rfl ?_
  refine tk_HR  rfl rfl ly274 rt274_15 ?_
  refine tk_Ps  1 (pc' := 5) (ls' := [(0, .ref 274), (1, .int a1)]) (st' := [.int (1 : Int32), .ref 411]) rfl ?_
  refine tk_HQ  rfl rfl ly411 (by decide) rt411_1 ?_
  refine tk_Ps  1 (pc' := 7) (ls' := [(0, .ref 274), (1, .int a1)]) (st' := [.ref 274, .ref 413]) rfl ?_
  refine tk_HR  rfl rfl ly274 rt274_15 ?_
  refine tk_Ps  1 (pc' := 11) (ls' := [(0, .ref 274), (1, .int a1)]) (st' := [.int (2 : Int32), .ref 411, .ref 413]) rfl ?_
  refine tk_HQ  rfl rfl ly411 (by decide) rt411_2 ?_
  refine tk_Ps  1 (pc' := 13) (ls' := [(0, .ref 274), (1, .int a1)]) (st' := [.ref 274, .ref 414, .ref 413]) rfl ?_
  refine tk_HR  rfl rfl ly274 rt274_19 ?_
  obtain ⟨o1, ho1, h⟩ := tk_bnd h
  refine tk_cS0  rfl rfl (as := [.ref 413, .ref 414, .ref 417]) (rest := []) rfl rfl rfl (ok_fM_crosses sc 413 414 417 m (tk_al_of ly413) (tk_al_of ly414) (tk_al_of ly417) ho1) ?_
  refine tk_Ps  1 (pc' := 20) (ls' := [(0, .ref 274), (1, .int a1)]) (st' := [.ref 274]) rfl ?_
  refine tk_HR  rfl rfl ly274 rt274_15 ?_
  refine tk_Ps  1 (pc' := 24) (ls' := [(0, .ref 274), (1, .int a1)]) (st' := [.int (0 : Int32), .ref 411]) rfl ?_
  refine tk_HQ  rfl rfl ly411 (by decide) rt411_0 ?_
  refine tk_Ps  1 (pc' := 26) (ls' := [(0, .ref 274), (1, .int a1)]) (st' := [.int (0 : Int32), .ref 412]) rfl ?_
  refine tk_HJa  rfl rfl ly412 (by decide) ?_
  refine tk_Ps  1 (pc' := 28) (ls' := [(0, .ref 274), (1, .int a1)]) (st' := [.ref 274, .long (o1.2.1 412 0)]) rfl ?_
  refine tk_HR  rfl rfl ly274 rt274_19 ?_
  refine tk_Ps  1 (pc' := 32) (ls' := [(0, .ref 274), (1, .int a1)]) (st' := [.int (0 : Int32), .ref 417, .long (o1.2.1 412 0)]) rfl ?_
  refine tk_HJa  rfl rfl ly417 (by decide) ?_
  refine tk_Ps  2 (pc' := 35) (ls' := [(0, .ref 274), (1, .int a1)]) (st' := [.ref 274, .long ((o1.2.1 412 0) * (o1.2.1 417 0))]) rfl ?_
  refine tk_HR  rfl rfl ly274 rt274_15 ?_
  refine tk_Ps  1 (pc' := 39) (ls' := [(0, .ref 274), (1, .int a1)]) (st' := [.int (0 : Int32), .ref 411, .long ((o1.2.1 412 0) * (o1.2.1 417 0))]) rfl ?_
  refine tk_HQ  rfl rfl ly411 (by decide) rt411_0 ?_
  refine tk_Ps  1 (pc' := 41) (ls' := [(0, .ref 274), (1, .int a1)]) (st' := [.int (1 : Int32), .ref 412, .long ((o1.2.1 412 0) * (o1.2.1 417 0))]) rfl ?_
  refine tk_HJa  rfl rfl ly412 (by decide) ?_
  refine tk_Ps  1 (pc' := 43) (ls' := [(0, .ref 274), (1, .int a1)]) (st' := [.ref 274, .long (o1.2.1 412 1), .long ((o1.2.1 412 0) * (o1.2.1 417 0))]) rfl ?_
  refine tk_HR  rfl rfl ly274 rt274_19 ?_
  refine tk_Ps  1 (pc' := 47) (ls' := [(0, .ref 274), (1, .int a1)]) (st' := [.int (1 : Int32), .ref 417, .long (o1.2.1 412 1), .long ((o1.2.1 412 0) * (o1.2.1 417 0))]) rfl ?_
  refine tk_HJa  rfl rfl ly417 (by decide) ?_
  refine tk_Ps  3 (pc' := 51) (ls' := [(0, .ref 274), (1, .int a1)]) (st' := [.ref 274, .long (((o1.2.1 412 0) * (o1.2.1 417 0)) + ((o1.2.1 412 1) * (o1.2.1 417 1)))]) rfl ?_
  refine tk_HR  rfl rfl ly274 rt274_15 ?_
  refine tk_Ps  1 (pc' := 55) (ls' := [(0, .ref 274), (1, .int a1)]) (st' := [.int (0 : Int32), .ref 411, .long (((o1.2.1 412 0) * (o1.2.1 417 0)) + ((o1.2.1 412 1) * (o1.2.1 417 1)))]) rfl ?_
  refine tk_HQ  rfl rfl ly411 (by decide) rt411_0 ?_
  refine tk_Ps  1 (pc' := 57) (ls' := [(0, .ref 274), (1, .int a1)]) (st' := [.int (2 : Int32), .ref 412, .long (((o1.2.1 412 0) * (o1.2.1 417 0)) + ((o1.2.1 412 1) * (o1.2.1 417 1)))]) rfl ?_
  refine tk_HJa  rfl rfl ly412 (by decide) ?_
  refine tk_Ps  1 (pc' := 59) (ls' := [(0, .ref 274), (1, .int a1)]) (st' := [.ref 274, .long (o1.2.1 412 2), .long (((o1.2.1 412 0) * (o1.2.1 417 0)) + ((o1.2.1 412 1) * (o1.2.1 417 1)))]) rfl ?_
  refine tk_HR  rfl rfl ly274 rt274_19 ?_
  refine tk_Ps  1 (pc' := 63) (ls' := [(0, .ref 274), (1, .int a1)]) (st' := [.int (2 : Int32), .ref 417, .long (o1.2.1 412 2), .long (((o1.2.1 412 0) * (o1.2.1 417 0)) + ((o1.2.1 412 1) * (o1.2.1 417 1)))]) rfl ?_
  refine tk_HJa  rfl rfl ly417 (by decide) ?_
  refine tk_Ps  6 (pc' := 70) (ls' := [(2, .long ((((o1.2.1 412 0) * (o1.2.1 417 0)) + ((o1.2.1 412 1) * (o1.2.1 417 1))) + ((o1.2.1 412 2) * (o1.2.1 417 2)))), (0, .ref 274), (1, .int a1)]) (st' := [.int (lg_cmp ((((o1.2.1 412 0) * (o1.2.1 417 0)) + ((o1.2.1 412 1) * (o1.2.1 417 1))) + ((o1.2.1 412 2) * (o1.2.1 417 2))) (0 : Int64))]) rfl ?_
  by_cases hc2 : ((((o1.2.1 412 0) * (o1.2.1 417 0)) + ((o1.2.1 412 1) * (o1.2.1 417 1))) + ((o1.2.1 412 2) * (o1.2.1 417 2))) = (0 : Int64)
  · replace h := tk_ifT hc2 h
    refine tk_bT  rfl rfl tk_eL_ne (c := ((((o1.2.1 412 0) * (o1.2.1 417 0)) + ((o1.2.1 412 1) * (o1.2.1 417 1))) + ((o1.2.1 412 2) * (o1.2.1 417 2))) = (0 : Int64)) hc2 (pc' := 73) (ls' := [(2, .long ((((o1.2.1 412 0) * (o1.2.1 417 0)) + ((o1.2.1 412 1) * (o1.2.1 417 1))) + ((o1.2.1 412 2) * (o1.2.1 417 2)))), (0, .ref 274), (1, .int a1)]) (st' := []) ?_
    refine tk_Ps  2 (pc' := 75) (ls' := [(2, .long ((((o1.2.1 412 0) * (o1.2.1 417 0)) + ((o1.2.1 412 1) * (o1.2.1 417 1))) + ((o1.2.1 412 2) * (o1.2.1 417 2)))), (0, .ref 274), (1, .int a1)]) (st' := [.ref 274, .ref 274]) rfl ?_
    refine tk_HI  rfl rfl ly274 ?_
    refine tk_Ps  4 (pc' := 82) (ls' := [(2, .long ((((o1.2.1 412 0) * (o1.2.1 417 0)) + ((o1.2.1 412 1) * (o1.2.1 417 1))) + ((o1.2.1 412 2) * (o1.2.1 417 2)))), (0, .ref 274), (1, .int a1)]) (st' := [.int ((o1.1 274 11) ||| (tk_ishl (1 : Int32) a1)), .ref 274]) rfl ?_
    refine tk_SI  rfl rfl ly274 ?_
    replace h := Option.some.inj h
    subst h
    exact tk_RV  rfl rfl rfl
  · replace h := tk_ifF hc2 h
    refine tk_bF  rfl rfl tk_eL_ne (c := ((((o1.2.1 412 0) * (o1.2.1 417 0)) + ((o1.2.1 412 1) * (o1.2.1 417 1))) + ((o1.2.1 412 2) * (o1.2.1 417 2))) = (0 : Int64)) hc2 (pc' := 86) (ls' := [(2, .long ((((o1.2.1 412 0) * (o1.2.1 417 0)) + ((o1.2.1 412 1) * (o1.2.1 417 1))) + ((o1.2.1 412 2) * (o1.2.1 417 2)))), (0, .ref 274), (1, .int a1)]) (st' := []) ?_
    refine tk_Ps  2 (pc' := 89) (ls' := [(4, .int (0 : Int32)), (2, .long ((((o1.2.1 412 0) * (o1.2.1 417 0)) + ((o1.2.1 412 1) * (o1.2.1 417 1))) + ((o1.2.1 412 2) * (o1.2.1 417 2)))), (0, .ref 274), (1, .int a1)]) (st' := []) rfl ?_
    refine tk_Kp  (ls' := [(0, .ref 274), (1, .int a1), (2, .long ((((o1.2.1 412 0) * (o1.2.1 417 0)) + ((o1.2.1 412 1) * (o1.2.1 417 1))) + ((o1.2.1 412 2) * (o1.2.1 417 2)))), (4, .int (0 : Int32))]) rfl rfl ?_
    exact ok_fM_byFirst_89 sc tk_F a1 ((((o1.2.1 412 0) * (o1.2.1 417 0)) + ((o1.2.1 412 1) * (o1.2.1 417 1))) + ((o1.2.1 412 2) * (o1.2.1 417 2))) (0 : Int32) o1 _ h
theorem ok_fM_quadric (sc : tk_X) (a1 : Nat) (a2 : Nat) (m : tk_m) (ha1 : tk_lay[a1]? = some (.inr (1, tk_al a1))) (ha2 : tk_lay[a2]? = some (.inr (1, tk_al a2))) {out : Int64} (h : fM_quadric a1 a2 m = some out) : tk_Ru sc 1 232 [.ref a1, .ref a2] (tk_full m) (some (.long out), tk_full m) := by
  unfold fM_quadric at h
  refine tk_Ru0 me232 (ls := [(0, .ref a1), (1, .ref a2)]) rfl rfl ?_
  refine tk_Ps  2 (pc' := 2) (ls' := [(0, .ref a1), (1, .ref a2)]) (st' := [.int (0 : Int32), .ref a1]) rfl ?_
  obtain ⟨hg1, h⟩ := tk_grd h
  refine tk_HJa  rfl rfl ha1 hg1 ?_
  refine tk_Ps  2 (pc' := 5) (ls' := [(0, .ref a1), (1, .ref a2)]) (st' := [.int (0 : Int32), .ref a2, .long (m.2.1 a1 (tk_n (0 : Int32)))]) rfl ?_
  obtain ⟨hg2, h⟩ := tk_grd h
  refine tk_HJa  rfl rfl ha2 hg2 ?_
  refine tk_Ps  3 (pc' := 9) (ls' := [(0, .ref a1), (1, .ref a2)]) (st' := [.int (1 : Int32), .ref a1, .long ((m.2.1 a1 (tk_n (0 : Int32))) * (m.2.1 a2 (tk_n (0 : Int32))))]) rfl ?_
  obtain ⟨hg3, h⟩ := tk_grd h
  refine tk_HJa  rfl rfl ha1 hg3 ?_
  refine tk_Ps  2 (pc' := 12) (ls' := [(0, .ref a1), (1, .ref a2)]) (st' := [.int (1 : Int32), .ref a2, .long (m.2.1 a1 (tk_n (1 : Int32))), .long ((m.2.1 a1 (tk_n (0 : Int32))) * (m.2.1 a2 (tk_n (0 : Int32))))]) rfl ?_
  obtain ⟨hg4, h⟩ := tk_grd h
  refine tk_HJa  rfl rfl ha2 hg4 ?_
  refine tk_Ps  4 (pc' := 17) (ls' := [(0, .ref a1), (1, .ref a2)]) (st' := [.int (2 : Int32), .ref a1, .long (((m.2.1 a1 (tk_n (0 : Int32))) * (m.2.1 a2 (tk_n (0 : Int32)))) + ((m.2.1 a1 (tk_n (1 : Int32))) * (m.2.1 a2 (tk_n (1 : Int32)))))]) rfl ?_
  obtain ⟨hg5, h⟩ := tk_grd h
  refine tk_HJa  rfl rfl ha1 hg5 ?_
  refine tk_Ps  2 (pc' := 20) (ls' := [(0, .ref a1), (1, .ref a2)]) (st' := [.int (2 : Int32), .ref a2, .long (m.2.1 a1 (tk_n (2 : Int32))), .long (((m.2.1 a1 (tk_n (0 : Int32))) * (m.2.1 a2 (tk_n (0 : Int32)))) + ((m.2.1 a1 (tk_n (1 : Int32))) * (m.2.1 a2 (tk_n (1 : Int32)))))]) rfl ?_
  obtain ⟨hg6, h⟩ := tk_grd h
  refine tk_HJa  rfl rfl ha2 hg6 ?_
  refine tk_Ps  2 (pc' := 23) (ls' := [(0, .ref a1), (1, .ref a2)]) (st' := [.long ((((m.2.1 a1 (tk_n (0 : Int32))) * (m.2.1 a2 (tk_n (0 : Int32)))) + ((m.2.1 a1 (tk_n (1 : Int32))) * (m.2.1 a2 (tk_n (1 : Int32))))) - ((m.2.1 a1 (tk_n (2 : Int32))) * (m.2.1 a2 (tk_n (2 : Int32)))))]) rfl ?_
  replace h := Option.some.inj h
  subst h
  exact tk_RJ  rfl rfl rfl
theorem ok_fM_parts_95 (sc : tk_X) (v3 : Int64) (m : tk_m) (out : tk_m) (h : fM_parts_95 v3 m = some out) : tk_Ex sc 0 tk_r234 tk_k234 95 [(0, .ref 274), (3, .long v3)] [] (tk_full m) (none, tk_full out) := by
  unfold fM_parts_95 at h
  refine tk_Ps  2 (pc' := 97) (ls' := [(0, .ref 274), (3, .long v3)]) (st' := [.ref 274, .ref 274]) rfl ?_
  refine tk_HJ  rfl rfl ly274 ?_
  refine tk_Ps  2 (pc' := 102) (ls' := [(0, .ref 274), (3, .long v3)]) (st' := [.long ((m.2.1 274 6) * v3), .ref 274]) rfl ?_
  refine tk_SJ  rfl rfl ly274 ?_
  replace h := Option.some.inj h
  subst h
  exact tk_RV  rfl rfl rfl
theorem ok_fM_parts_61 (sc : tk_X) (r17 : Int64 → Int64 → tk_m → Option tk_m) (H17 : ∀ (v3 : Int64) (v5 : Int64) (m : tk_m) (out : tk_m), r17 v3 v5 m = some out → tk_Ex sc 0 tk_r234 tk_k234 17 [(0, .ref 274), (3, .long v3), (5, .long v5)] [] (tk_full m) (none, tk_full out)) (v3 : Int64) (v5 : Int64) (m : tk_m) (out : tk_m) (h : fM_parts_61 r17 v3 v5 m = some out) : tk_Ex sc 0 tk_r234 tk_k234 61 [(0, .ref 274), (3, .long v3), (5, .long v5)] [] (tk_full m) (none, tk_full out) := by
  unfold fM_parts_61 at h
  refine tk_Ps  2 (pc' := 64) (ls' := [(0, .ref 274), (3, .long v3), (5, .long v5)]) (st' := [.long v5, .long v3]) rfl ?_
  obtain ⟨hz1, h⟩ := tk_grn h
  refine tk_lremR  rfl rfl hz1 ?_
  refine tk_Ps  2 (pc' := 67) (ls' := [(0, .ref 274), (3, .long v3), (5, .long v5)]) (st' := [.int (lg_cmp (tk_lrem v3 v5) (0 : Int64))]) rfl ?_
  by_cases hc2 : (tk_lrem v3 v5) = (0 : Int64)
  · replace h := tk_ifT hc2 h
    refine tk_bT  rfl rfl tk_eL_ne (c := (tk_lrem v3 v5) = (0 : Int64)) hc2 (pc' := 70) (ls' := [(0, .ref 274), (3, .long v3), (5, .long v5)]) (st' := []) ?_
    refine tk_Ps  2 (pc' := 72) (ls' := [(0, .ref 274), (3, .long v3), (5, .long v5)]) (st' := [.ref 274, .ref 274]) rfl ?_
    refine tk_HJ  rfl rfl ly274 ?_
    refine tk_Ps  2 (pc' := 78) (ls' := [(0, .ref 274), (3, .long v3), (5, .long v5)]) (st' := [.long ((m.2.1 274 6) * v5), .ref 274]) rfl ?_
    refine tk_SJ  rfl rfl ly274 ?_
    refine tk_Ps  2 (pc' := 84) (ls' := [(0, .ref 274), (3, .long v3), (5, .long v5)]) (st' := [.long v5, .long v3]) rfl ?_
    obtain ⟨hz3, h⟩ := tk_grn h
    refine tk_ldiv  rfl rfl hz3 ?_
    refine tk_Ps  6 (pc' := 17) (ls' := [(5, .long (v5 + (1 : Int64))), (3, .long (v3 / v5)), (0, .ref 274)]) (st' := []) rfl ?_
    refine tk_Kp  (ls' := [(0, .ref 274), (3, .long (v3 / v5)), (5, .long (v5 + (1 : Int64)))]) rfl rfl ?_
    exact H17 (v3 / v5) (v5 + (1 : Int64)) (m.1, tk_u2 m.2.1 274 6 ((m.2.1 274 6) * v5), m.2.2.1, m.2.2.2) _ h
  · replace h := tk_ifF hc2 h
    refine tk_bF  rfl rfl tk_eL_ne (c := (tk_lrem v3 v5) = (0 : Int64)) hc2 (pc' := 86) (ls' := [(0, .ref 274), (3, .long v3), (5, .long v5)]) (st' := []) ?_
    refine tk_Ps  5 (pc' := 17) (ls' := [(5, .long (v5 + (1 : Int64))), (0, .ref 274), (3, .long v3)]) (st' := []) rfl ?_
    refine tk_Kp  (ls' := [(0, .ref 274), (3, .long v3), (5, .long (v5 + (1 : Int64)))]) rfl rfl ?_
    exact H17 v3 (v5 + (1 : Int64)) m _ h
theorem ok_fM_parts_27 (sc : tk_X) (r17 : Int64 → Int64 → tk_m → Option tk_m) (H17 : ∀ (v3 : Int64) (v5 : Int64) (m : tk_m) (out : tk_m), r17 v3 v5 m = some out → tk_Ex sc 0 tk_r234 tk_k234 17 [(0, .ref 274), (3, .long v3), (5, .long v5)] [] (tk_full m) (none, tk_full out)) : ∀ (n : Nat) (v3 : Int64) (v5 : Int64) (m : tk_m) (out : tk_m), fM_parts_27 r17 n v3 v5 m = some out → tk_Ex sc 0 tk_r234 tk_k234 27 [(0, .ref 274), (3, .long v3), (5, .long v5)] [] (tk_full m) (none, tk_full out) := by
  intro n
  induction n with
  | zero =>
    intro v3 v5 m out h
    cases h
  | succ n ih =>
    intro v3 v5 m out h
    unfold fM_parts_27 at h
    refine tk_Ps  4 (pc' := 33) (ls' := [(0, .ref 274), (3, .long v3), (5, .long v5)]) (st' := [.long (v5 * v5), .long v3]) rfl ?_
    obtain ⟨hz1, h⟩ := tk_grn h
    refine tk_lremR  rfl rfl hz1 ?_
    refine tk_Ps  2 (pc' := 36) (ls' := [(0, .ref 274), (3, .long v3), (5, .long v5)]) (st' := [.int (lg_cmp (tk_lrem v3 (v5 * v5)) (0 : Int64))]) rfl ?_
    by_cases hc2 : (tk_lrem v3 (v5 * v5)) = (0 : Int64)
    · replace h := tk_ifT hc2 h
      refine tk_bT  rfl rfl tk_eL_ne (c := (tk_lrem v3 (v5 * v5)) = (0 : Int64)) hc2 (pc' := 39) (ls' := [(0, .ref 274), (3, .long v3), (5, .long v5)]) (st' := []) ?_
      refine tk_Ps  2 (pc' := 41) (ls' := [(0, .ref 274), (3, .long v3), (5, .long v5)]) (st' := [.ref 274, .ref 274]) rfl ?_
      refine tk_HJ  rfl rfl ly274 ?_
      refine tk_Ps  2 (pc' := 47) (ls' := [(0, .ref 274), (3, .long v3), (5, .long v5)]) (st' := [.long ((m.2.1 274 5) * v5), .ref 274]) rfl ?_
      refine tk_SJ  rfl rfl ly274 ?_
      refine tk_Ps  4 (pc' := 56) (ls' := [(0, .ref 274), (3, .long v3), (5, .long v5)]) (st' := [.long (v5 * v5), .long v3]) rfl ?_
      obtain ⟨hz3, h⟩ := tk_grn h
      refine tk_ldiv  rfl rfl hz3 ?_
      refine tk_Ps  2 (pc' := 27) (ls' := [(3, .long (v3 / (v5 * v5))), (0, .ref 274), (5, .long v5)]) (st' := []) rfl ?_
      refine tk_Kp  (ls' := [(0, .ref 274), (3, .long (v3 / (v5 * v5))), (5, .long v5)]) rfl rfl ?_
      exact ih (v3 / (v5 * v5)) v5 (m.1, tk_u2 m.2.1 274 5 ((m.2.1 274 5) * v5), m.2.2.1, m.2.2.2) _ h
    · replace h := tk_ifF hc2 h
      refine tk_bF  rfl rfl tk_eL_ne (c := (tk_lrem v3 (v5 * v5)) = (0 : Int64)) hc2 (pc' := 61) (ls' := [(0, .ref 274), (3, .long v3), (5, .long v5)]) (st' := []) ?_
      refine tk_Kp  (ls' := [(0, .ref 274), (3, .long v3), (5, .long v5)]) rfl rfl ?_
      exact ok_fM_parts_61 sc r17 H17 v3 v5 m _ h
theorem ok_fM_parts_17 (sc : tk_X) : ∀ (n : Nat) (v3 : Int64) (v5 : Int64) (m : tk_m) (out : tk_m), fM_parts_17 n v3 v5 m = some out → tk_Ex sc 0 tk_r234 tk_k234 17 [(0, .ref 274), (3, .long v3), (5, .long v5)] [] (tk_full m) (none, tk_full out) := by
  intro n
  induction n with
  | zero =>
    intro v3 v5 m out h
    cases h
  | succ n ih =>
    intro v3 v5 m out h
    unfold fM_parts_17 at h
    refine tk_Ps  5 (pc' := 24) (ls' := [(0, .ref 274), (3, .long v3), (5, .long v5)]) (st' := [.int (lg_cmp (v5 * v5) v3)]) rfl ?_
    by_cases hc1 : v3 < (v5 * v5)
    · replace h := tk_ifT hc1 h
      refine tk_bT  rfl rfl tk_eL_gt (c := v3 < (v5 * v5)) hc1 (pc' := 95) (ls' := [(0, .ref 274), (3, .long v3), (5, .long v5)]) (st' := []) ?_
      refine tk_Kp  (ls' := [(0, .ref 274), (3, .long v3)]) rfl rfl ?_
      exact ok_fM_parts_95 sc v3 m _ h
    · replace h := tk_ifF hc1 h
      refine tk_bF  rfl rfl tk_eL_gt (c := v3 < (v5 * v5)) hc1 (pc' := 27) (ls' := [(0, .ref 274), (3, .long v3), (5, .long v5)]) (st' := []) ?_
      refine tk_Kp  (ls' := [(0, .ref 274), (3, .long v3), (5, .long v5)]) rfl rfl ?_
      exact ok_fM_parts_27 sc (fM_parts_17 n) ih tk_F v3 v5 m _ h
theorem ok_fM_parts (sc : tk_X) (a1 : Int64) (m : tk_m) {out : tk_m} (h : fM_parts a1 m = some out) : tk_Ru sc 1 234 [.ref 274, .long a1] (tk_full m) (none, tk_full out) := by
  unfold fM_parts at h
  refine tk_Ru0 me234 (ls := [(0, .ref 274), (1, .long a1)]) rfl rfl ?_
  refine tk_Ps  2 (pc' := 2) (ls' := [(0, .ref 274), (1, .long a1)]) (st' := [.long (1 : Int64), .ref 274]) rfl ?_
  refine tk_SJ  rfl rfl ly274 ?_
  refine tk_Ps  2 (pc' := 7) (ls' := [(0, .ref 274), (1, .long a1)]) (st' := [.long (1 : Int64), .ref 274]) rfl ?_
  refine tk_SJ  rfl rfl ly274 ?_
  refine tk_Ps  4 (pc' := 17) (ls' := [(5, .long (2 : Int64)), (3, .long a1), (0, .ref 274), (1, .long a1)]) (st' := []) rfl ?_
  refine tk_Kp  (ls' := [(0, .ref 274), (3, .long a1), (5, .long (2 : Int64))]) rfl rfl ?_
  exact ok_fM_parts_17 sc tk_F a1 (2 : Int64) (m.1, tk_u2 (tk_u2 m.2.1 274 5 (1 : Int64)) 274 6 (1 : Int64), m.2.2.1, m.2.2.2) _ h
theorem ok_fM_timesWide_JJ (sc : tk_X) (a1 : Int64) (a2 : Int64) (m : tk_m) {out : Int32 × tk_m} (h : fM_timesWide_JJ a1 a2 m = some out) : tk_Ru sc 3 237 [.ref 274, .long a1, .long a2] (tk_full m) (some (.int out.1), tk_full out.2) := by
  unfold fM_timesWide_JJ at h
  refine tk_Ru0 me237 (ls := [(0, .ref 274), (1, .long a1), (3, .long a2)]) rfl rfl ?_
  refine tk_Ps  3 (pc' := 3) (ls' := [(0, .ref 274), (1, .long a1), (3, .long a2)]) (st' := [.long a1, .ref 274, .ref 274]) rfl ?_
  obtain ⟨o1, ho1, h⟩ := tk_bnd h
  refine tk_cV1  rfl rfl (r := 274) (as := [.long a1]) (rest := [.ref 274]) rfl ly274 rfl rfl (ok_fM_widens sc a1 m ho1) ?_
  refine tk_Ps  2 (pc' := 8) (ls' := [(0, .ref 274), (1, .long a1), (3, .long a2)]) (st' := [.long a2, .ref 274, .int o1.1, .ref 274]) rfl ?_
  obtain ⟨o2, ho2, h⟩ := tk_bnd h
  refine tk_cV1  rfl rfl (r := 274) (as := [.long a2]) (rest := [.int o1.1, .ref 274]) rfl ly274 rfl rfl (ok_fM_widens sc a2 o1.2 ho2) ?_
  obtain ⟨o3, ho3, h⟩ := tk_bnd h
  refine tk_cV1  rfl rfl (r := 274) (as := [.int o1.1, .int o2.1]) (rest := []) rfl ly274 rfl rfl (ok_fM_timesWide_II sc o1.1 o2.1 o2.2 ho3) ?_
  replace h := Option.some.inj h
  subst h
  exact tk_RI  rfl rfl rfl
theorem ok_fM_turned (sc : tk_X) (a1 : Int32) (m : tk_m) {out : Int32 × tk_m} (h : fM_turned a1 m = some out) : tk_Ru sc 1 238 [.ref 274, .int a1] (tk_full m) (some (.int out.1), tk_full out.2) := by
  unfold fM_turned at h
  refine tk_Ru0 me238 (ls := [(0, .ref 274), (1, .int a1)]) rfl rfl ?_
  refine tk_Ps  1 (pc' := 1) (ls' := [(0, .ref 274), (1, .int a1)]) (st' := [.ref 274]) rfl ?_
  refine tk_HR  rfl rfl ly274 rt274_8 ?_
  refine tk_Ps  2 (pc' := 6) (ls' := [(0, .ref 274), (1, .int a1)]) (st' := [.ref 274, .int a1, .ref 327]) rfl ?_
  refine tk_HR  rfl rfl ly274 rt274_8 ?_
  refine tk_Ps  1 (pc' := 10) (ls' := [(0, .ref 274), (1, .int a1)]) (st' := [.int a1, .ref 327, .int a1, .ref 327]) rfl ?_
  obtain ⟨hg1, h⟩ := tk_grd h
  refine tk_HIa  rfl rfl ly327 hg1 ?_
  refine tk_Ps  1 (pc' := 12) (ls' := [(0, .ref 274), (1, .int a1)]) (st' := [.int (-(m.1 327 (tk_n a1))), .int a1, .ref 327]) rfl ?_
  refine tk_SIa  rfl rfl ly327 hg1 ?_
  refine tk_Ps  1 (pc' := 14) (ls' := [(0, .ref 274), (1, .int a1)]) (st' := [.int a1]) rfl ?_
  replace h := Option.some.inj h
  subst h
  exact tk_RI  rfl rfl rfl
theorem ok_fZ_floorMod_I (sc : tk_X) (a1 : Int32) (a2 : Int32) (m : tk_m) {out : Int32} (h : fZ_floorMod_I a1 a2 = some out) : tk_Ru sc 1 240 [.int a1, .int a2] (tk_full m) (some (.int out), tk_full m) := by
  unfold fZ_floorMod_I at h
  refine tk_Ru0 me240 (ls := [(0, .int a1), (1, .int a2)]) rfl rfl ?_
  refine tk_Ps  2 (pc' := 2) (ls' := [(0, .int a1), (1, .int a2)]) (st' := [.int a2, .int a1]) rfl ?_
  obtain ⟨hz1, h⟩ := tk_grn h
  refine tk_iremR  rfl rfl hz1 ?_
  refine tk_Ps  4 (pc' := 7) (ls' := [(2, .int (tk_irem a1 a2)), (0, .int a1), (1, .int a2)]) (st' := [.int (a1 ^^^ a2)]) rfl ?_
  by_cases hc2 : 0 ≤ (a1 ^^^ a2)
  · replace h := tk_ifT hc2 h
    refine tk_bT  rfl rfl rfl (c := 0 ≤ (a1 ^^^ a2)) hc2 (pc' := 18) (ls' := [(2, .int (tk_irem a1 a2)), (0, .int a1), (1, .int a2)]) (st' := []) ?_
    refine tk_Ps  1 (pc' := 19) (ls' := [(2, .int (tk_irem a1 a2)), (0, .int a1), (1, .int a2)]) (st' := [.int (tk_irem a1 a2)]) rfl ?_
    replace h := Option.some.inj h
    subst h
    exact tk_RI  rfl rfl rfl
  · replace h := tk_ifF hc2 h
    refine tk_bF  rfl rfl rfl (c := 0 ≤ (a1 ^^^ a2)) hc2 (pc' := 10) (ls' := [(2, .int (tk_irem a1 a2)), (0, .int a1), (1, .int a2)]) (st' := []) ?_
    refine tk_Ps  1 (pc' := 11) (ls' := [(2, .int (tk_irem a1 a2)), (0, .int a1), (1, .int a2)]) (st' := [.int (tk_irem a1 a2)]) rfl ?_
    by_cases hc3 : (tk_irem a1 a2) = 0
    · replace h := tk_ifT hc3 h
      refine tk_bT  rfl rfl rfl (c := (tk_irem a1 a2) = 0) hc3 (pc' := 18) (ls' := [(2, .int (tk_irem a1 a2)), (0, .int a1), (1, .int a2)]) (st' := []) ?_
      refine tk_Ps  1 (pc' := 19) (ls' := [(2, .int (tk_irem a1 a2)), (0, .int a1), (1, .int a2)]) (st' := [.int (tk_irem a1 a2)]) rfl ?_
      replace h := Option.some.inj h
      subst h
      exact tk_RI  rfl rfl rfl
    · replace h := tk_ifF hc3 h
      refine tk_bF  rfl rfl rfl (c := (tk_irem a1 a2) = 0) hc3 (pc' := 14) (ls' := [(2, .int (tk_irem a1 a2)), (0, .int a1), (1, .int a2)]) (st' := []) ?_
      refine tk_Ps  3 (pc' := 17) (ls' := [(2, .int (tk_irem a1 a2)), (0, .int a1), (1, .int a2)]) (st' := [.int ((tk_irem a1 a2) + a2)]) rfl ?_
      replace h := Option.some.inj h
      subst h
      exact tk_RI  rfl rfl rfl
theorem ok_fZ_floorDiv_I (sc : tk_X) (a1 : Int32) (a2 : Int32) (m : tk_m) {out : Int32} (h : fZ_floorDiv_I a1 a2 = some out) : tk_Ru sc 1 241 [.int a1, .int a2] (tk_full m) (some (.int out), tk_full m) := by
  unfold fZ_floorDiv_I at h
  refine tk_Ru0 me241 (ls := [(0, .int a1), (1, .int a2)]) rfl rfl ?_
  refine tk_Ps  2 (pc' := 2) (ls' := [(0, .int a1), (1, .int a2)]) (st' := [.int a2, .int a1]) rfl ?_
  obtain ⟨hz1, h⟩ := tk_grn h
  refine tk_idiv  rfl rfl hz1 ?_
  refine tk_Ps  4 (pc' := 7) (ls' := [(2, .int (a1 / a2)), (0, .int a1), (1, .int a2)]) (st' := [.int (a1 ^^^ a2)]) rfl ?_
  by_cases hc2 : 0 ≤ (a1 ^^^ a2)
  · replace h := tk_ifT hc2 h
    refine tk_bT  rfl rfl rfl (c := 0 ≤ (a1 ^^^ a2)) hc2 (pc' := 21) (ls' := [(2, .int (a1 / a2)), (0, .int a1), (1, .int a2)]) (st' := []) ?_
    refine tk_Ps  1 (pc' := 22) (ls' := [(2, .int (a1 / a2)), (0, .int a1), (1, .int a2)]) (st' := [.int (a1 / a2)]) rfl ?_
    replace h := Option.some.inj h
    subst h
    exact tk_RI  rfl rfl rfl
  · replace h := tk_ifF hc2 h
    refine tk_bF  rfl rfl rfl (c := 0 ≤ (a1 ^^^ a2)) hc2 (pc' := 10) (ls' := [(2, .int (a1 / a2)), (0, .int a1), (1, .int a2)]) (st' := []) ?_
    refine tk_Ps  4 (pc' := 14) (ls' := [(2, .int (a1 / a2)), (0, .int a1), (1, .int a2)]) (st' := [.int a1, .int ((a1 / a2) * a2)]) rfl ?_
    by_cases hc3 : ((a1 / a2) * a2) = a1
    · replace h := tk_ifT hc3 h
      refine tk_bT  rfl rfl rfl (c := ((a1 / a2) * a2) = a1) hc3 (pc' := 21) (ls' := [(2, .int (a1 / a2)), (0, .int a1), (1, .int a2)]) (st' := []) ?_
      refine tk_Ps  1 (pc' := 22) (ls' := [(2, .int (a1 / a2)), (0, .int a1), (1, .int a2)]) (st' := [.int (a1 / a2)]) rfl ?_
      replace h := Option.some.inj h
      subst h
      exact tk_RI  rfl rfl rfl
    · replace h := tk_ifF hc3 h
      refine tk_bF  rfl rfl rfl (c := ((a1 / a2) * a2) = a1) hc3 (pc' := 17) (ls' := [(2, .int (a1 / a2)), (0, .int a1), (1, .int a2)]) (st' := []) ?_
      refine tk_Ps  3 (pc' := 20) (ls' := [(2, .int (a1 / a2)), (0, .int a1), (1, .int a2)]) (st' := [.int ((a1 / a2) - (1 : Int32))]) rfl ?_
      replace h := Option.some.inj h
      subst h
      exact tk_RI  rfl rfl rfl
theorem ok_fM_plusWide_177 (sc : tk_X) (r131 : Int32 → Int32 → Int32 → Int32 → Int32 → Int32 → tk_m → Option (Int32 × tk_m)) (H131 : ∀ (v3 : Int32) (v4 : Int32) (v5 : Int32) (v6 : Int32) (v7 : Int32) (v8 : Int32) (m : tk_m) (out : (Int32 × tk_m)), r131 v3 v4 v5 v6 v7 v8 m = some out → tk_Ex sc 1 tk_r239 tk_k239 131 [(0, .ref 274), (3, .int v3), (4, .int v4), (5, .int v5), (6, .int v6), (7, .int v7), (8, .int v8)] [] (tk_full m) (some (.int out.1), tk_full out.2)) (v3 : Int32) (v4 : Int32) (v5 : Int32) (v6 : Int32) (v7 : Int32) (v8 : Int32) (s0 : Int32) (s1 : Int32) (m : tk_m) (out : Int32 × tk_m) (h : fM_plusWide_177 r131 v3 v4 v5 v6 v7 v8 s0 s1 m = some out) : tk_Ex sc 1 tk_r239 tk_k239 177 [(0, .ref 274), (3, .int v3), (4, .int v4), (5, .int v5), (6, .int v6), (7, .int v7), (8, .int v8)] [.int s0, .int s1] (tk_full m) (some (.int out.1), tk_full out.2) := by
  unfold fM_plusWide_177 at h
  refine tk_Ps  5 (pc' := 184) (ls' := [(9, .int ((s1 + s0) + v7)), (0, .ref 274), (3, .int v3), (4, .int v4), (5, .int v5), (6, .int v6), (7, .int v7), (8, .int v8)]) (st' := [.ref 274]) rfl ?_
  refine tk_HR  rfl rfl ly274 rt274_7 ?_
  refine tk_Ps  1 (pc' := 188) (ls' := [(9, .int ((s1 + s0) + v7)), (0, .ref 274), (3, .int v3), (4, .int v4), (5, .int v5), (6, .int v6), (7, .int v7), (8, .int v8)]) (st' := [.int v3, .ref 286]) rfl ?_
  obtain ⟨hg1, h⟩ := tk_grd h
  refine tk_HQ  rfl rfl ly286 hg1 (la286 _ (hg1).2).1 ?_
  refine tk_Ps  3 (pc' := 196) (ls' := [(9, .int ((s1 + s0) + v7)), (0, .ref 274), (3, .int v3), (4, .int v4), (5, .int v5), (6, .int v6), (7, .int v7), (8, .int v8)]) (st' := [.int (10000 : Int32), .int ((s1 + s0) + v7), .int v8, .ref (287 + (tk_n v3))]) rfl ?_
  obtain ⟨o2, ho2, h⟩ := tk_bnd h
  refine tk_cS1  rfl rfl (as := [.int ((s1 + s0) + v7), .int (10000 : Int32)]) (rest := [.int v8, .ref (287 + (tk_n v3))]) rfl rfl rfl (ok_fZ_floorMod_I sc ((s1 + s0) + v7) (10000 : Int32) m ho2) ?_
  obtain ⟨hg3, h⟩ := tk_grd h
  refine tk_SIa  rfl rfl ((la286 _ (hg1).2).2) hg3 ?_
  refine tk_Ps  2 (pc' := 205) (ls' := [(9, .int ((s1 + s0) + v7)), (0, .ref 274), (3, .int v3), (4, .int v4), (5, .int v5), (6, .int v6), (7, .int v7), (8, .int v8)]) (st' := [.int (10000 : Int32), .int ((s1 + s0) + v7)]) rfl ?_
  obtain ⟨o4, ho4, h⟩ := tk_bnd h
  refine tk_cS1  rfl rfl (as := [.int ((s1 + s0) + v7), .int (10000 : Int32)]) (rest := []) rfl rfl rfl (ok_fZ_floorDiv_I sc ((s1 + s0) + v7) (10000 : Int32) (tk_u2 m.1 (287 + (tk_n v3)) (tk_n v8) o2, m.2.1, m.2.2.1, m.2.2.2) ho4) ?_
  refine tk_Ps  3 (pc' := 131) (ls' := [(8, .int (v8 + (1 : Int32))), (7, .int o4), (9, .int ((s1 + s0) + v7)), (0, .ref 274), (3, .int v3), (4, .int v4), (5, .int v5), (6, .int v6)]) (st' := []) rfl ?_
  refine tk_Kp  (ls' := [(0, .ref 274), (3, .int v3), (4, .int v4), (5, .int v5), (6, .int v6), (7, .int o4), (8, .int (v8 + (1 : Int32)))]) rfl rfl ?_
  exact H131 v3 v4 v5 v6 o4 (v8 + (1 : Int32)) (tk_u2 m.1 (287 + (tk_n v3)) (tk_n v8) o2, m.2.1, m.2.2.1, m.2.2.2) _ h
theorem ok_fM_plusWide_131 (sc : tk_X) : ∀ (n : Nat) (v3 : Int32) (v4 : Int32) (v5 : Int32) (v6 : Int32) (v7 : Int32) (v8 : Int32) (m : tk_m) (out : Int32 × tk_m), fM_plusWide_131 n v3 v4 v5 v6 v7 v8 m = some out → tk_Ex sc 1 tk_r239 tk_k239 131 [(0, .ref 274), (3, .int v3), (4, .int v4), (5, .int v5), (6, .int v6), (7, .int v7), (8, .int v8)] [] (tk_full m) (some (.int out.1), tk_full out.2) := by
  intro n
  induction n with
  | zero =>
    intro v3 v4 v5 v6 v7 v8 m out h
    cases h
  | succ n ih =>
    intro v3 v4 v5 v6 v7 v8 m out h
    unfold fM_plusWide_131 at h
    refine tk_Ps  2 (pc' := 135) (ls' := [(0, .ref 274), (3, .int v3), (4, .int v4), (5, .int v5), (6, .int v6), (7, .int v7), (8, .int v8)]) (st' := [.int (60 : Int32), .int v8]) rfl ?_
    by_cases hc1 : (60 : Int32) ≤ v8
    · replace h := tk_ifT hc1 h
      refine tk_bT  rfl rfl rfl (c := (60 : Int32) ≤ v8) hc1 (pc' := 216) (ls' := [(0, .ref 274), (3, .int v3), (4, .int v4), (5, .int v5), (6, .int v6), (7, .int v7), (8, .int v8)]) (st' := []) ?_
      refine tk_Ps  1 (pc' := 217) (ls' := [(0, .ref 274), (3, .int v3), (4, .int v4), (5, .int v5), (6, .int v6), (7, .int v7), (8, .int v8)]) (st' := [.int v3]) rfl ?_
      replace h := Option.some.inj h
      subst h
      exact tk_RI  rfl rfl rfl
    · replace h := tk_ifF hc1 h
      refine tk_bF  rfl rfl rfl (c := (60 : Int32) ≤ v8) hc1 (pc' := 138) (ls' := [(0, .ref 274), (3, .int v3), (4, .int v4), (5, .int v5), (6, .int v6), (7, .int v7), (8, .int v8)]) (st' := []) ?_
      refine tk_Ps  1 (pc' := 139) (ls' := [(0, .ref 274), (3, .int v3), (4, .int v4), (5, .int v5), (6, .int v6), (7, .int v7), (8, .int v8)]) (st' := [.ref 274]) rfl ?_
      refine tk_HR  rfl rfl ly274 rt274_7 ?_
      refine tk_Ps  1 (pc' := 144) (ls' := [(0, .ref 274), (3, .int v3), (4, .int v4), (5, .int v5), (6, .int v6), (7, .int v7), (8, .int v8)]) (st' := [.int v5, .ref 286]) rfl ?_
      obtain ⟨hg2, h⟩ := tk_grd h
      refine tk_HQ  rfl rfl ly286 hg2 (la286 _ (hg2).2).1 ?_
      refine tk_Ps  1 (pc' := 147) (ls' := [(0, .ref 274), (3, .int v3), (4, .int v4), (5, .int v5), (6, .int v6), (7, .int v7), (8, .int v8)]) (st' := [.int v8, .ref (287 + (tk_n v5))]) rfl ?_
      obtain ⟨hg3, h⟩ := tk_grd h
      refine tk_HIa  rfl rfl ((la286 _ (hg2).2).2) hg3 ?_
      refine tk_Ps  1 (pc' := 150) (ls' := [(0, .ref 274), (3, .int v3), (4, .int v4), (5, .int v5), (6, .int v6), (7, .int v7), (8, .int v8)]) (st' := [.int v4, .int (m.1 (287 + (tk_n v5)) (tk_n v8))]) rfl ?_
      by_cases hc4 : v4 = 0
      · replace h := tk_ifT hc4 h
        refine tk_bT  rfl rfl rfl (c := v4 = 0) hc4 (pc' := 166) (ls' := [(0, .ref 274), (3, .int v3), (4, .int v4), (5, .int v5), (6, .int v6), (7, .int v7), (8, .int v8)]) (st' := [.int (m.1 (287 + (tk_n v5)) (tk_n v8))]) ?_
        refine tk_Ps  1 (pc' := 167) (ls' := [(0, .ref 274), (3, .int v3), (4, .int v4), (5, .int v5), (6, .int v6), (7, .int v7), (8, .int v8)]) (st' := [.ref 274, .int (m.1 (287 + (tk_n v5)) (tk_n v8))]) rfl ?_
        refine tk_HR  rfl rfl ly274 rt274_7 ?_
        refine tk_Ps  1 (pc' := 172) (ls' := [(0, .ref 274), (3, .int v3), (4, .int v4), (5, .int v5), (6, .int v6), (7, .int v7), (8, .int v8)]) (st' := [.int v6, .ref 286, .int (m.1 (287 + (tk_n v5)) (tk_n v8))]) rfl ?_
        obtain ⟨hg5, h⟩ := tk_grd h
        refine tk_HQ  rfl rfl ly286 hg5 (la286 _ (hg5).2).1 ?_
        refine tk_Ps  1 (pc' := 175) (ls' := [(0, .ref 274), (3, .int v3), (4, .int v4), (5, .int v5), (6, .int v6), (7, .int v7), (8, .int v8)]) (st' := [.int v8, .ref (287 + (tk_n v6)), .int (m.1 (287 + (tk_n v5)) (tk_n v8))]) rfl ?_
        refine tk_HIa  rfl rfl ((la286 _ (hg5).2).2) hg3 ?_
        refine tk_Ps  1 (pc' := 177) (ls' := [(0, .ref 274), (3, .int v3), (4, .int v4), (5, .int v5), (6, .int v6), (7, .int v7), (8, .int v8)]) (st' := [.int (-(m.1 (287 + (tk_n v6)) (tk_n v8))), .int (m.1 (287 + (tk_n v5)) (tk_n v8))]) rfl ?_
        refine tk_Kp  (ls' := [(0, .ref 274), (3, .int v3), (4, .int v4), (5, .int v5), (6, .int v6), (7, .int v7), (8, .int v8)]) rfl rfl ?_
        exact ok_fM_plusWide_177 sc (fM_plusWide_131 n) ih v3 v4 v5 v6 v7 v8 (-(m.1 (287 + (tk_n v6)) (tk_n v8))) (m.1 (287 + (tk_n v5)) (tk_n v8)) m _ h
      · replace h := tk_ifF hc4 h
        refine tk_bF  rfl rfl rfl (c := v4 = 0) hc4 (pc' := 153) (ls' := [(0, .ref 274), (3, .int v3), (4, .int v4), (5, .int v5), (6, .int v6), (7, .int v7), (8, .int v8)]) (st' := [.int (m.1 (287 + (tk_n v5)) (tk_n v8))]) ?_
        refine tk_Ps  1 (pc' := 154) (ls' := [(0, .ref 274), (3, .int v3), (4, .int v4), (5, .int v5), (6, .int v6), (7, .int v7), (8, .int v8)]) (st' := [.ref 274, .int (m.1 (287 + (tk_n v5)) (tk_n v8))]) rfl ?_
        refine tk_HR  rfl rfl ly274 rt274_7 ?_
        refine tk_Ps  1 (pc' := 159) (ls' := [(0, .ref 274), (3, .int v3), (4, .int v4), (5, .int v5), (6, .int v6), (7, .int v7), (8, .int v8)]) (st' := [.int v6, .ref 286, .int (m.1 (287 + (tk_n v5)) (tk_n v8))]) rfl ?_
        obtain ⟨hg6, h⟩ := tk_grd h
        refine tk_HQ  rfl rfl ly286 hg6 (la286 _ (hg6).2).1 ?_
        refine tk_Ps  1 (pc' := 162) (ls' := [(0, .ref 274), (3, .int v3), (4, .int v4), (5, .int v5), (6, .int v6), (7, .int v7), (8, .int v8)]) (st' := [.int v8, .ref (287 + (tk_n v6)), .int (m.1 (287 + (tk_n v5)) (tk_n v8))]) rfl ?_
        refine tk_HIa  rfl rfl ((la286 _ (hg6).2).2) hg3 ?_
        refine tk_Ps  1 (pc' := 177) (ls' := [(0, .ref 274), (3, .int v3), (4, .int v4), (5, .int v5), (6, .int v6), (7, .int v7), (8, .int v8)]) (st' := [.int (m.1 (287 + (tk_n v6)) (tk_n v8)), .int (m.1 (287 + (tk_n v5)) (tk_n v8))]) rfl ?_
        refine tk_Kp  (ls' := [(0, .ref 274), (3, .int v3), (4, .int v4), (5, .int v5), (6, .int v6), (7, .int v7), (8, .int v8)]) rfl rfl ?_
        exact ok_fM_plusWide_177 sc (fM_plusWide_131 n) ih v3 v4 v5 v6 v7 v8 (m.1 (287 + (tk_n v6)) (tk_n v8)) (m.1 (287 + (tk_n v5)) (tk_n v8)) m _ h
theorem ok_fM_plusWide_65 (sc : tk_X) (v1 : Int32) (v2 : Int32) (v3 : Int32) (v4 : Int32) (v5 : Int32) (s0 : Int32) (m : tk_m) (out : Int32 × tk_m) (h : fM_plusWide_65 v1 v2 v3 v4 v5 s0 m = some out) : tk_Ex sc 1 tk_r239 tk_k239 65 [(0, .ref 274), (1, .int v1), (2, .int v2), (3, .int v3), (4, .int v4), (5, .int v5)] [.int s0] (tk_full m) (some (.int out.1), tk_full out.2) := by
  unfold fM_plusWide_65 at h
  refine tk_Ps  2 (pc' := 68) (ls' := [(6, .int s0), (0, .ref 274), (1, .int v1), (2, .int v2), (3, .int v3), (4, .int v4), (5, .int v5)]) (st' := [.ref 274]) rfl ?_
  refine tk_HR  rfl rfl ly274 rt274_8 ?_
  refine tk_Ps  2 (pc' := 74) (ls' := [(6, .int s0), (0, .ref 274), (1, .int v1), (2, .int v2), (3, .int v3), (4, .int v4), (5, .int v5)]) (st' := [.int v4, .int v3, .ref 327]) rfl ?_
  by_cases hc1 : v4 = 0
  · replace h := tk_ifT hc1 h
    refine tk_bT  rfl rfl rfl (c := v4 = 0) hc1 (pc' := 104) (ls' := [(6, .int s0), (0, .ref 274), (1, .int v1), (2, .int v2), (3, .int v3), (4, .int v4), (5, .int v5)]) (st' := [.int v3, .ref 327]) ?_
    refine tk_Ps  3 (pc' := 107) (ls' := [(6, .int s0), (0, .ref 274), (1, .int v1), (2, .int v2), (3, .int v3), (4, .int v4), (5, .int v5)]) (st' := [.int v2, .int v1, .ref 274, .int v3, .ref 327]) rfl ?_
    obtain ⟨o2, ho2, h⟩ := tk_bnd h
    refine tk_cV1  rfl rfl (r := 274) (as := [.int v1, .int v2]) (rest := [.int v3, .ref 327]) rfl ly274 rfl rfl (ok_fM_compareSizes sc v1 v2 m ho2) ?_
    by_cases hc3 : o2 = 0
    · replace h := tk_ifT hc3 h
      refine tk_bT  rfl rfl rfl (c := o2 = 0) hc3 (pc' := 113) (ls' := [(6, .int s0), (0, .ref 274), (1, .int v1), (2, .int v2), (3, .int v3), (4, .int v4), (5, .int v5)]) (st' := [.int v3, .ref 327]) ?_
      refine tk_Ps  2 (pc' := 124) (ls' := [(6, .int s0), (0, .ref 274), (1, .int v1), (2, .int v2), (3, .int v3), (4, .int v4), (5, .int v5)]) (st' := [.int (0 : Int32), .int v3, .ref 327]) rfl ?_
      obtain ⟨hg4, h⟩ := tk_grd h
      refine tk_SIa  rfl rfl ly327 hg4 ?_
      refine tk_Ps  4 (pc' := 131) (ls' := [(8, .int (0 : Int32)), (7, .int (0 : Int32)), (6, .int s0), (0, .ref 274), (1, .int v1), (2, .int v2), (3, .int v3), (4, .int v4), (5, .int v5)]) (st' := []) rfl ?_
      refine tk_Kp  (ls' := [(0, .ref 274), (3, .int v3), (4, .int v4), (5, .int v5), (6, .int s0), (7, .int (0 : Int32)), (8, .int (0 : Int32))]) rfl rfl ?_
      exact ok_fM_plusWide_131 sc tk_F v3 v4 v5 s0 (0 : Int32) (0 : Int32) (tk_u2 m.1 327 (tk_n v3) (0 : Int32), m.2.1, m.2.2.1, m.2.2.2) _ h
    · replace h := tk_ifF hc3 h
      refine tk_bF  rfl rfl rfl (c := o2 = 0) hc3 (pc' := 117) (ls' := [(6, .int s0), (0, .ref 274), (1, .int v1), (2, .int v2), (3, .int v3), (4, .int v4), (5, .int v5)]) (st' := [.int v3, .ref 327]) ?_
      refine tk_Ps  1 (pc' := 118) (ls' := [(6, .int s0), (0, .ref 274), (1, .int v1), (2, .int v2), (3, .int v3), (4, .int v4), (5, .int v5)]) (st' := [.ref 274, .int v3, .ref 327]) rfl ?_
      refine tk_HR  rfl rfl ly274 rt274_8 ?_
      refine tk_Ps  1 (pc' := 123) (ls' := [(6, .int s0), (0, .ref 274), (1, .int v1), (2, .int v2), (3, .int v3), (4, .int v4), (5, .int v5)]) (st' := [.int v5, .ref 327, .int v3, .ref 327]) rfl ?_
      obtain ⟨hg5, h⟩ := tk_grd h
      refine tk_HIa  rfl rfl ly327 hg5 ?_
      obtain ⟨hg6, h⟩ := tk_grd h
      refine tk_SIa  rfl rfl ly327 hg6 ?_
      refine tk_Ps  4 (pc' := 131) (ls' := [(8, .int (0 : Int32)), (7, .int (0 : Int32)), (6, .int s0), (0, .ref 274), (1, .int v1), (2, .int v2), (3, .int v3), (4, .int v4), (5, .int v5)]) (st' := []) rfl ?_
      refine tk_Kp  (ls' := [(0, .ref 274), (3, .int v3), (4, .int v4), (5, .int v5), (6, .int s0), (7, .int (0 : Int32)), (8, .int (0 : Int32))]) rfl rfl ?_
      exact ok_fM_plusWide_131 sc tk_F v3 v4 v5 s0 (0 : Int32) (0 : Int32) (tk_u2 m.1 327 (tk_n v3) (m.1 327 (tk_n v5)), m.2.1, m.2.2.1, m.2.2.2) _ h
  · replace h := tk_ifF hc1 h
    refine tk_bF  rfl rfl rfl (c := v4 = 0) hc1 (pc' := 77) (ls' := [(6, .int s0), (0, .ref 274), (1, .int v1), (2, .int v2), (3, .int v3), (4, .int v4), (5, .int v5)]) (st' := [.int v3, .ref 327]) ?_
    refine tk_Ps  1 (pc' := 78) (ls' := [(6, .int s0), (0, .ref 274), (1, .int v1), (2, .int v2), (3, .int v3), (4, .int v4), (5, .int v5)]) (st' := [.ref 274, .int v3, .ref 327]) rfl ?_
    refine tk_HR  rfl rfl ly274 rt274_8 ?_
    refine tk_Ps  1 (pc' := 82) (ls' := [(6, .int s0), (0, .ref 274), (1, .int v1), (2, .int v2), (3, .int v3), (4, .int v4), (5, .int v5)]) (st' := [.int v1, .ref 327, .int v3, .ref 327]) rfl ?_
    obtain ⟨hg7, h⟩ := tk_grd h
    refine tk_HIa  rfl rfl ly327 hg7 ?_
    by_cases hc8 : (m.1 327 (tk_n v1)) = 0
    · replace h := tk_ifT hc8 h
      refine tk_bT  rfl rfl rfl (c := (m.1 327 (tk_n v1)) = 0) hc8 (pc' := 95) (ls' := [(6, .int s0), (0, .ref 274), (1, .int v1), (2, .int v2), (3, .int v3), (4, .int v4), (5, .int v5)]) (st' := [.int v3, .ref 327]) ?_
      refine tk_Ps  1 (pc' := 96) (ls' := [(6, .int s0), (0, .ref 274), (1, .int v1), (2, .int v2), (3, .int v3), (4, .int v4), (5, .int v5)]) (st' := [.ref 274, .int v3, .ref 327]) rfl ?_
      refine tk_HR  rfl rfl ly274 rt274_8 ?_
      refine tk_Ps  1 (pc' := 100) (ls' := [(6, .int s0), (0, .ref 274), (1, .int v1), (2, .int v2), (3, .int v3), (4, .int v4), (5, .int v5)]) (st' := [.int v2, .ref 327, .int v3, .ref 327]) rfl ?_
      obtain ⟨hg9, h⟩ := tk_grd h
      refine tk_HIa  rfl rfl ly327 hg9 ?_
      refine tk_Ps  1 (pc' := 124) (ls' := [(6, .int s0), (0, .ref 274), (1, .int v1), (2, .int v2), (3, .int v3), (4, .int v4), (5, .int v5)]) (st' := [.int (m.1 327 (tk_n v2)), .int v3, .ref 327]) rfl ?_
      obtain ⟨hg10, h⟩ := tk_grd h
      refine tk_SIa  rfl rfl ly327 hg10 ?_
      refine tk_Ps  4 (pc' := 131) (ls' := [(8, .int (0 : Int32)), (7, .int (0 : Int32)), (6, .int s0), (0, .ref 274), (1, .int v1), (2, .int v2), (3, .int v3), (4, .int v4), (5, .int v5)]) (st' := []) rfl ?_
      refine tk_Kp  (ls' := [(0, .ref 274), (3, .int v3), (4, .int v4), (5, .int v5), (6, .int s0), (7, .int (0 : Int32)), (8, .int (0 : Int32))]) rfl rfl ?_
      exact ok_fM_plusWide_131 sc tk_F v3 v4 v5 s0 (0 : Int32) (0 : Int32) (tk_u2 m.1 327 (tk_n v3) (m.1 327 (tk_n v2)), m.2.1, m.2.2.1, m.2.2.2) _ h
    · replace h := tk_ifF hc8 h
      refine tk_bF  rfl rfl rfl (c := (m.1 327 (tk_n v1)) = 0) hc8 (pc' := 86) (ls' := [(6, .int s0), (0, .ref 274), (1, .int v1), (2, .int v2), (3, .int v3), (4, .int v4), (5, .int v5)]) (st' := [.int v3, .ref 327]) ?_
      refine tk_Ps  1 (pc' := 87) (ls' := [(6, .int s0), (0, .ref 274), (1, .int v1), (2, .int v2), (3, .int v3), (4, .int v4), (5, .int v5)]) (st' := [.ref 274, .int v3, .ref 327]) rfl ?_
      refine tk_HR  rfl rfl ly274 rt274_8 ?_
      refine tk_Ps  1 (pc' := 91) (ls' := [(6, .int s0), (0, .ref 274), (1, .int v1), (2, .int v2), (3, .int v3), (4, .int v4), (5, .int v5)]) (st' := [.int v1, .ref 327, .int v3, .ref 327]) rfl ?_
      refine tk_HIa  rfl rfl ly327 hg7 ?_
      refine tk_Ps  1 (pc' := 124) (ls' := [(6, .int s0), (0, .ref 274), (1, .int v1), (2, .int v2), (3, .int v3), (4, .int v4), (5, .int v5)]) (st' := [.int (m.1 327 (tk_n v1)), .int v3, .ref 327]) rfl ?_
      obtain ⟨hg11, h⟩ := tk_grd h
      refine tk_SIa  rfl rfl ly327 hg11 ?_
      refine tk_Ps  4 (pc' := 131) (ls' := [(8, .int (0 : Int32)), (7, .int (0 : Int32)), (6, .int s0), (0, .ref 274), (1, .int v1), (2, .int v2), (3, .int v3), (4, .int v4), (5, .int v5)]) (st' := []) rfl ?_
      refine tk_Kp  (ls' := [(0, .ref 274), (3, .int v3), (4, .int v4), (5, .int v5), (6, .int s0), (7, .int (0 : Int32)), (8, .int (0 : Int32))]) rfl rfl ?_
      exact ok_fM_plusWide_131 sc tk_F v3 v4 v5 s0 (0 : Int32) (0 : Int32) (tk_u2 m.1 327 (tk_n v3) (m.1 327 (tk_n v1)), m.2.1, m.2.2.1, m.2.2.2) _ h
theorem ok_fM_plusWide_36 (sc : tk_X) (v1 : Int32) (v2 : Int32) (v3 : Int32) (s0 : Int32) (m : tk_m) (out : Int32 × tk_m) (h : fM_plusWide_36 v1 v2 v3 s0 m = some out) : tk_Ex sc 1 tk_r239 tk_k239 36 [(0, .ref 274), (1, .int v1), (2, .int v2), (3, .int v3)] [.int s0] (tk_full m) (some (.int out.1), tk_full out.2) := by
  unfold fM_plusWide_36 at h
  refine tk_Ps  4 (pc' := 41) (ls' := [(4, .int s0), (0, .ref 274), (1, .int v1), (2, .int v2), (3, .int v3)]) (st' := [.int v2, .int v1, .ref 274]) rfl ?_
  obtain ⟨o1, ho1, h⟩ := tk_bnd h
  refine tk_cV1  rfl rfl (r := 274) (as := [.int v1, .int v2]) (rest := []) rfl ly274 rfl rfl (ok_fM_compareSizes sc v1 v2 m ho1) ?_
  by_cases hc2 : 0 ≤ o1
  · replace h := tk_ifT hc2 h
    refine tk_bT  rfl rfl rfl (c := 0 ≤ o1) hc2 (pc' := 51) (ls' := [(4, .int s0), (0, .ref 274), (1, .int v1), (2, .int v2), (3, .int v3)]) (st' := []) ?_
    refine tk_Ps  4 (pc' := 57) (ls' := [(5, .int v1), (4, .int s0), (0, .ref 274), (1, .int v1), (2, .int v2), (3, .int v3)]) (st' := [.int v1, .int v1]) rfl ?_
    by_cases hc3 : v1 = v1
    · replace h := tk_ifT hc3 h
      refine tk_bT  rfl rfl rfl (c := v1 = v1) hc3 (pc' := 60) (ls' := [(5, .int v1), (4, .int s0), (0, .ref 274), (1, .int v1), (2, .int v2), (3, .int v3)]) (st' := []) ?_
      refine tk_Ps  2 (pc' := 65) (ls' := [(5, .int v1), (4, .int s0), (0, .ref 274), (1, .int v1), (2, .int v2), (3, .int v3)]) (st' := [.int v2]) rfl ?_
      refine tk_Kp  (ls' := [(0, .ref 274), (1, .int v1), (2, .int v2), (3, .int v3), (4, .int s0), (5, .int v1)]) rfl rfl ?_
      exact ok_fM_plusWide_65 sc v1 v2 v3 s0 v1 v2 m _ h
    · replace h := tk_ifF hc3 h
      refine tk_bF  rfl rfl rfl (c := v1 = v1) hc3 (pc' := 64) (ls' := [(5, .int v1), (4, .int s0), (0, .ref 274), (1, .int v1), (2, .int v2), (3, .int v3)]) (st' := []) ?_
      refine tk_Ps  1 (pc' := 65) (ls' := [(5, .int v1), (4, .int s0), (0, .ref 274), (1, .int v1), (2, .int v2), (3, .int v3)]) (st' := [.int v1]) rfl ?_
      refine tk_Kp  (ls' := [(0, .ref 274), (1, .int v1), (2, .int v2), (3, .int v3), (4, .int s0), (5, .int v1)]) rfl rfl ?_
      exact ok_fM_plusWide_65 sc v1 v2 v3 s0 v1 v1 m _ h
  · replace h := tk_ifF hc2 h
    refine tk_bF  rfl rfl rfl (c := 0 ≤ o1) hc2 (pc' := 47) (ls' := [(4, .int s0), (0, .ref 274), (1, .int v1), (2, .int v2), (3, .int v3)]) (st' := []) ?_
    refine tk_Ps  5 (pc' := 57) (ls' := [(5, .int v2), (4, .int s0), (0, .ref 274), (1, .int v1), (2, .int v2), (3, .int v3)]) (st' := [.int v1, .int v2]) rfl ?_
    by_cases hc4 : v2 = v1
    · replace h := tk_ifT hc4 h
      refine tk_bT  rfl rfl rfl (c := v2 = v1) hc4 (pc' := 60) (ls' := [(5, .int v2), (4, .int s0), (0, .ref 274), (1, .int v1), (2, .int v2), (3, .int v3)]) (st' := []) ?_
      refine tk_Ps  2 (pc' := 65) (ls' := [(5, .int v2), (4, .int s0), (0, .ref 274), (1, .int v1), (2, .int v2), (3, .int v3)]) (st' := [.int v2]) rfl ?_
      refine tk_Kp  (ls' := [(0, .ref 274), (1, .int v1), (2, .int v2), (3, .int v3), (4, .int s0), (5, .int v2)]) rfl rfl ?_
      exact ok_fM_plusWide_65 sc v1 v2 v3 s0 v2 v2 m _ h
    · replace h := tk_ifF hc4 h
      refine tk_bF  rfl rfl rfl (c := v2 = v1) hc4 (pc' := 64) (ls' := [(5, .int v2), (4, .int s0), (0, .ref 274), (1, .int v1), (2, .int v2), (3, .int v3)]) (st' := []) ?_
      refine tk_Ps  1 (pc' := 65) (ls' := [(5, .int v2), (4, .int s0), (0, .ref 274), (1, .int v1), (2, .int v2), (3, .int v3)]) (st' := [.int v1]) rfl ?_
      refine tk_Kp  (ls' := [(0, .ref 274), (1, .int v1), (2, .int v2), (3, .int v3), (4, .int s0), (5, .int v2)]) rfl rfl ?_
      exact ok_fM_plusWide_65 sc v1 v2 v3 s0 v2 v1 m _ h
theorem ok_fM_plusWide (sc : tk_X) (a1 : Int32) (a2 : Int32) (m : tk_m) {out : Int32 × tk_m} (h : fM_plusWide a1 a2 m = some out) : tk_Ru sc 2 239 [.ref 274, .int a1, .int a2] (tk_full m) (some (.int out.1), tk_full out.2) := by
  unfold fM_plusWide at h
  refine tk_Ru0 me239 (ls := [(0, .ref 274), (1, .int a1), (2, .int a2)]) rfl rfl ?_
  refine tk_Ps  1 (pc' := 1) (ls' := [(0, .ref 274), (1, .int a1), (2, .int a2)]) (st' := [.ref 274]) rfl ?_
  refine tk_HI  rfl rfl ly274 ?_
  refine tk_Ps  3 (pc' := 7) (ls' := [(3, .int (m.1 274 9)), (0, .ref 274), (1, .int a1), (2, .int a2)]) (st' := [.ref 274, .ref 274]) rfl ?_
  refine tk_HI  rfl rfl ly274 ?_
  refine tk_Ps  2 (pc' := 12) (ls' := [(3, .int (m.1 274 9)), (0, .ref 274), (1, .int a1), (2, .int a2)]) (st' := [.int ((m.1 274 9) + (1 : Int32)), .ref 274]) rfl ?_
  refine tk_SI  rfl rfl ly274 ?_
  refine tk_Ps  1 (pc' := 16) (ls' := [(3, .int (m.1 274 9)), (0, .ref 274), (1, .int a1), (2, .int a2)]) (st' := [.ref 274]) rfl ?_
  refine tk_HR  rfl rfl ly274 rt274_8 ?_
  refine tk_Ps  1 (pc' := 20) (ls' := [(3, .int (m.1 274 9)), (0, .ref 274), (1, .int a1), (2, .int a2)]) (st' := [.int a1, .ref 327]) rfl ?_
  obtain ⟨hg1, h⟩ := tk_grd h
  refine tk_HIa  rfl rfl ly327 hg1 ?_
  refine tk_Ps  1 (pc' := 22) (ls' := [(3, .int (m.1 274 9)), (0, .ref 274), (1, .int a1), (2, .int a2)]) (st' := [.ref 274, .int (tk_u2 m.1 274 9 ((m.1 274 9) + (1 : Int32)) 327 (tk_n a1))]) rfl ?_
  refine tk_HR  rfl rfl ly274 rt274_8 ?_
  refine tk_Ps  1 (pc' := 26) (ls' := [(3, .int (m.1 274 9)), (0, .ref 274), (1, .int a1), (2, .int a2)]) (st' := [.int a2, .ref 327, .int (tk_u2 m.1 274 9 ((m.1 274 9) + (1 : Int32)) 327 (tk_n a1))]) rfl ?_
  obtain ⟨hg2, h⟩ := tk_grd h
  refine tk_HIa  rfl rfl ly327 hg2 ?_
  refine tk_Ps  1 (pc' := 28) (ls' := [(3, .int (m.1 274 9)), (0, .ref 274), (1, .int a1), (2, .int a2)]) (st' := [.int ((tk_u2 m.1 274 9 ((m.1 274 9) + (1 : Int32)) 327 (tk_n a1)) * (tk_u2 m.1 274 9 ((m.1 274 9) + (1 : Int32)) 327 (tk_n a2)))]) rfl ?_
  by_cases hc3 : ((tk_u2 m.1 274 9 ((m.1 274 9) + (1 : Int32)) 327 (tk_n a1)) * (tk_u2 m.1 274 9 ((m.1 274 9) + (1 : Int32)) 327 (tk_n a2))) < 0
  · replace h := tk_ifT hc3 h
    refine tk_bT  rfl rfl rfl (c := ((tk_u2 m.1 274 9 ((m.1 274 9) + (1 : Int32)) 327 (tk_n a1)) * (tk_u2 m.1 274 9 ((m.1 274 9) + (1 : Int32)) 327 (tk_n a2))) < 0) hc3 (pc' := 35) (ls' := [(3, .int (m.1 274 9)), (0, .ref 274), (1, .int a1), (2, .int a2)]) (st' := []) ?_
    refine tk_Ps  1 (pc' := 36) (ls' := [(3, .int (m.1 274 9)), (0, .ref 274), (1, .int a1), (2, .int a2)]) (st' := [.int (0 : Int32)]) rfl ?_
    refine tk_Kp  (ls' := [(0, .ref 274), (1, .int a1), (2, .int a2), (3, .int (m.1 274 9))]) rfl rfl ?_
    exact ok_fM_plusWide_36 sc a1 a2 (m.1 274 9) (0 : Int32) (tk_u2 m.1 274 9 ((m.1 274 9) + (1 : Int32)), m.2.1, m.2.2.1, m.2.2.2) _ h
  · replace h := tk_ifF hc3 h
    refine tk_bF  rfl rfl rfl (c := ((tk_u2 m.1 274 9 ((m.1 274 9) + (1 : Int32)) 327 (tk_n a1)) * (tk_u2 m.1 274 9 ((m.1 274 9) + (1 : Int32)) 327 (tk_n a2))) < 0) hc3 (pc' := 31) (ls' := [(3, .int (m.1 274 9)), (0, .ref 274), (1, .int a1), (2, .int a2)]) (st' := []) ?_
    refine tk_Ps  2 (pc' := 36) (ls' := [(3, .int (m.1 274 9)), (0, .ref 274), (1, .int a1), (2, .int a2)]) (st' := [.int (1 : Int32)]) rfl ?_
    refine tk_Kp  (ls' := [(0, .ref 274), (1, .int a1), (2, .int a2), (3, .int (m.1 274 9))]) rfl rfl ?_
    exact ok_fM_plusWide_36 sc a1 a2 (m.1 274 9) (1 : Int32) (tk_u2 m.1 274 9 ((m.1 274 9) + (1 : Int32)), m.2.1, m.2.2.1, m.2.2.2) _ h
set_option maxRecDepth 50000 in
theorem ok_fM_compares_218 (sc : tk_X) (v1 : Nat) (v2 : Nat) (v3 : Int32) (v4 : Int32) (v5 : Int32) (v6 : Int32) (v7 : Int32) (s0 : Int32) (m : tk_m) (hv1 : tk_lay[v1]? = some (.inr (1, tk_al v1))) (hv2 : tk_lay[v2]? = some (.inr (1, tk_al v2))) (out : Int32 × tk_m) (h : fM_compares_218 v1 v2 v3 v4 v5 v6 v7 s0 m = some out) : tk_Ex sc 3 tk_r236 tk_k236 218 [(0, .ref 274), (1, .ref v1), (2, .ref v2), (3, .int v3), (4, .int v4), (5, .int v5), (6, .int v6), (7, .int v7)] [.int s0] (tk_full m) (some (.int out.1), tk_full out.2) := by
  unfold fM_compares_218 at h
  refine tk_Ps  2 (pc' := 221) (ls' := [(8, .int s0), (0, .ref 274), (1, .ref v1), (2, .ref v2), (3, .int v3), (4, .int v4), (5, .int v5), (6, .int v6), (7, .int v7)]) (st' := [.ref 274]) rfl ?_
  refine tk_HR  rfl rfl ly274 rt274_8 ?_
  refine tk_Ps  1 (pc' := 225) (ls' := [(8, .int s0), (0, .ref 274), (1, .ref v1), (2, .ref v2), (3, .int v3), (4, .int v4), (5, .int v5), (6, .int v6), (7, .int v7)]) (st' := [.int v3, .ref 327]) rfl ?_
  obtain ⟨hg1, h⟩ := tk_grd h
  refine tk_HIa  rfl rfl ly327 hg1 ?_
  by_cases hc2 : (m.1 327 (tk_n v3)) = 0
  · replace h := tk_ifT hc2 h
    refine tk_bT  rfl rfl rfl (c := (m.1 327 (tk_n v3)) = 0) hc2 (pc' := 240) (ls' := [(8, .int s0), (0, .ref 274), (1, .ref v1), (2, .ref v2), (3, .int v3), (4, .int v4), (5, .int v5), (6, .int v6), (7, .int v7)]) (st' := []) ?_
    refine tk_Ps  1 (pc' := 242) (ls' := [(8, .int s0), (0, .ref 274), (1, .ref v1), (2, .ref v2), (3, .int v3), (4, .int v4), (5, .int v5), (6, .int v6), (7, .int v7)]) (st' := [.int s0]) rfl ?_
    replace h := Option.some.inj h
    subst h
    exact tk_RI  rfl rfl rfl
  · replace h := tk_ifF hc2 h
    refine tk_bF  rfl rfl rfl (c := (m.1 327 (tk_n v3)) = 0) hc2 (pc' := 229) (ls' := [(8, .int s0), (0, .ref 274), (1, .ref v1), (2, .ref v2), (3, .int v3), (4, .int v4), (5, .int v5), (6, .int v6), (7, .int v7)]) (st' := []) ?_
    refine tk_Ps  1 (pc' := 230) (ls' := [(8, .int s0), (0, .ref 274), (1, .ref v1), (2, .ref v2), (3, .int v3), (4, .int v4), (5, .int v5), (6, .int v6), (7, .int v7)]) (st' := [.ref 274]) rfl ?_
    refine tk_HR  rfl rfl ly274 rt274_8 ?_
    refine tk_Ps  1 (pc' := 234) (ls' := [(8, .int s0), (0, .ref 274), (1, .ref v1), (2, .ref v2), (3, .int v3), (4, .int v4), (5, .int v5), (6, .int v6), (7, .int v7)]) (st' := [.int v3, .ref 327]) rfl ?_
    refine tk_HIa  rfl rfl ly327 hg1 ?_
    refine tk_Ps  1 (pc' := 237) (ls' := [(8, .int s0), (0, .ref 274), (1, .ref v1), (2, .ref v2), (3, .int v3), (4, .int v4), (5, .int v5), (6, .int v6), (7, .int v7)]) (st' := [.int s0, .int (m.1 327 (tk_n v3))]) rfl ?_
    by_cases hc3 : (m.1 327 (tk_n v3)) = s0
    · replace h := tk_ifT hc3 h
      refine tk_bT  rfl rfl rfl (c := (m.1 327 (tk_n v3)) = s0) hc3 (pc' := 240) (ls' := [(8, .int s0), (0, .ref 274), (1, .ref v1), (2, .ref v2), (3, .int v3), (4, .int v4), (5, .int v5), (6, .int v6), (7, .int v7)]) (st' := []) ?_
      refine tk_Ps  1 (pc' := 242) (ls' := [(8, .int s0), (0, .ref 274), (1, .ref v1), (2, .ref v2), (3, .int v3), (4, .int v4), (5, .int v5), (6, .int v6), (7, .int v7)]) (st' := [.int s0]) rfl ?_
      replace h := Option.some.inj h
      subst h
      exact tk_RI  rfl rfl rfl
    · replace h := tk_ifF hc3 h
      refine tk_bF  rfl rfl rfl (c := (m.1 327 (tk_n v3)) = s0) hc3 (pc' := 243) (ls' := [(8, .int s0), (0, .ref 274), (1, .ref v1), (2, .ref v2), (3, .int v3), (4, .int v4), (5, .int v5), (6, .int v6), (7, .int v7)]) (st' := []) ?_
      refine tk_Ps  4 (pc' := 247) (ls' := [(8, .int s0), (0, .ref 274), (1, .ref v1), (2, .ref v2), (3, .int v3), (4, .int v4), (5, .int v5), (6, .int v6), (7, .int v7)]) (st' := [.int v3, .int v3, .ref 274, .ref 274]) rfl ?_
      obtain ⟨o4, ho4, h⟩ := tk_bnd h
      refine tk_cV1  rfl rfl (r := 274) (as := [.int v3, .int v3]) (rest := [.ref 274]) rfl ly274 rfl rfl (ok_fM_timesWide_II sc v3 v3 m ho4) ?_
      refine tk_Ps  4 (pc' := 256) (ls' := [(8, .int s0), (0, .ref 274), (1, .ref v1), (2, .ref v2), (3, .int v3), (4, .int v4), (5, .int v5), (6, .int v6), (7, .int v7)]) (st' := [.int v7, .int v6, .ref 274, .ref 274, .int o4.1, .ref 274]) rfl ?_
      obtain ⟨o5, ho5, h⟩ := tk_bnd h
      refine tk_cV1  rfl rfl (r := 274) (as := [.int v6, .int v7]) (rest := [.ref 274, .int o4.1, .ref 274]) rfl ly274 rfl rfl (ok_fM_plusWide sc v6 v7 o4.2 ho5) ?_
      obtain ⟨o6, ho6, h⟩ := tk_bnd h
      refine tk_cV1  rfl rfl (r := 274) (as := [.int o5.1]) (rest := [.int o4.1, .ref 274]) rfl ly274 rfl rfl (ok_fM_turned sc o5.1 o5.2 ho6) ?_
      obtain ⟨o7, ho7, h⟩ := tk_bnd h
      refine tk_cV1  rfl rfl (r := 274) (as := [.int o4.1, .int o6.1]) (rest := []) rfl ly274 rfl rfl (ok_fM_plusWide sc o4.1 o6.1 o6.2 ho7) ?_
      refine tk_Ps  6 (pc' := 274) (ls' := [(9, .int o7.1), (8, .int s0), (0, .ref 274), (1, .ref v1), (2, .ref v2), (3, .int v3), (4, .int v4), (5, .int v5), (6, .int v6), (7, .int v7)]) (st' := [.int v5, .int v4, .ref 274, .ref 274, .ref 274]) rfl ?_
      obtain ⟨o8, ho8, h⟩ := tk_bnd h
      refine tk_cV1  rfl rfl (r := 274) (as := [.int v4, .int v5]) (rest := [.ref 274, .ref 274]) rfl ly274 rfl rfl (ok_fM_timesWide_II sc v4 v5 o7.2 ho8) ?_
      refine tk_Ps  2 (pc' := 281) (ls' := [(9, .int o7.1), (8, .int s0), (0, .ref 274), (1, .ref v1), (2, .ref v2), (3, .int v3), (4, .int v4), (5, .int v5), (6, .int v6), (7, .int v7)]) (st' := [.long (2 : Int64), .ref 274, .int o8.1, .ref 274, .ref 274]) rfl ?_
      obtain ⟨o9, ho9, h⟩ := tk_bnd h
      refine tk_cV1  rfl rfl (r := 274) (as := [.long (2 : Int64)]) (rest := [.int o8.1, .ref 274, .ref 274]) rfl ly274 rfl rfl (ok_fM_widens sc (2 : Int64) o8.2 ho9) ?_
      obtain ⟨o10, ho10, h⟩ := tk_bnd h
      refine tk_cV1  rfl rfl (r := 274) (as := [.int o8.1, .int o9.1]) (rest := [.ref 274]) rfl ly274 rfl rfl (ok_fM_timesWide_II sc o8.1 o9.1 o9.2 ho10) ?_
      obtain ⟨o11, ho11, h⟩ := tk_bnd h
      refine tk_cV1  rfl rfl (r := 274) (as := [.int o10.1]) (rest := []) rfl ly274 rfl rfl (ok_fM_turned sc o10.1 o10.2 ho11) ?_
      refine tk_Ps  6 (pc' := 299) (ls' := [(10, .int o11.1), (9, .int o7.1), (8, .int s0), (0, .ref 274), (1, .ref v1), (2, .ref v2), (3, .int v3), (4, .int v4), (5, .int v5), (6, .int v6), (7, .int v7)]) (st' := [.int (2 : Int32), .ref v1, .int o11.1, .int o7.1, .ref 274]) rfl ?_
      obtain ⟨hg12, h⟩ := tk_grd h
      refine tk_HJa  rfl rfl hv1 hg12 ?_
      refine tk_Ps  2 (pc' := 302) (ls' := [(10, .int o11.1), (9, .int o7.1), (8, .int s0), (0, .ref 274), (1, .ref v1), (2, .ref v2), (3, .int v3), (4, .int v4), (5, .int v5), (6, .int v6), (7, .int v7)]) (st' := [.int (2 : Int32), .ref v2, .long (o11.2.2.1 v1 (tk_n (2 : Int32))), .int o11.1, .int o7.1, .ref 274]) rfl ?_
      obtain ⟨hg13, h⟩ := tk_grd h
      refine tk_HJa  rfl rfl hv2 hg13 ?_
      refine tk_Ps  1 (pc' := 304) (ls' := [(10, .int o11.1), (9, .int o7.1), (8, .int s0), (0, .ref 274), (1, .ref v1), (2, .ref v2), (3, .int v3), (4, .int v4), (5, .int v5), (6, .int v6), (7, .int v7)]) (st' := [.long ((o11.2.2.1 v1 (tk_n (2 : Int32))) * (o11.2.2.1 v2 (tk_n (2 : Int32)))), .int o11.1, .int o7.1, .ref 274]) rfl ?_
      obtain ⟨o14, ho14, h⟩ := tk_bnd h
      refine tk_cV1  rfl rfl (r := 274) (as := [.int o7.1, .int o11.1, .long ((o11.2.2.1 v1 (tk_n (2 : Int32))) * (o11.2.2.1 v2 (tk_n (2 : Int32))))]) (rest := []) rfl ly274 rfl rfl (ok_fM_signOf sc o7.1 o11.1 ((o11.2.2.1 v1 (tk_n (2 : Int32))) * (o11.2.2.1 v2 (tk_n (2 : Int32)))) o11.2 ho14) ?_
      by_cases hc15 : o14.1 ≤ 0
      · replace h := tk_ifT hc15 h
        refine tk_bT  rfl rfl rfl (c := o14.1 ≤ 0) hc15 (pc' := 319) (ls' := [(10, .int o11.1), (9, .int o7.1), (8, .int s0), (0, .ref 274), (1, .ref v1), (2, .ref v2), (3, .int v3), (4, .int v4), (5, .int v5), (6, .int v6), (7, .int v7)]) (st' := []) ?_
        refine tk_Ps  1 (pc' := 321) (ls' := [(10, .int o11.1), (9, .int o7.1), (8, .int s0), (0, .ref 274), (1, .ref v1), (2, .ref v2), (3, .int v3), (4, .int v4), (5, .int v5), (6, .int v6), (7, .int v7)]) (st' := [.int s0]) rfl ?_
        replace h := Option.some.inj h
        subst h
        exact tk_RI  rfl rfl rfl
      · replace h := tk_ifF hc15 h
        refine tk_bF  rfl rfl rfl (c := o14.1 ≤ 0) hc15 (pc' := 310) (ls' := [(10, .int o11.1), (9, .int o7.1), (8, .int s0), (0, .ref 274), (1, .ref v1), (2, .ref v2), (3, .int v3), (4, .int v4), (5, .int v5), (6, .int v6), (7, .int v7)]) (st' := []) ?_
        refine tk_Ps  1 (pc' := 311) (ls' := [(10, .int o11.1), (9, .int o7.1), (8, .int s0), (0, .ref 274), (1, .ref v1), (2, .ref v2), (3, .int v3), (4, .int v4), (5, .int v5), (6, .int v6), (7, .int v7)]) (st' := [.ref 274]) rfl ?_
        refine tk_HR  rfl rfl ly274 rt274_8 ?_
        refine tk_Ps  1 (pc' := 315) (ls' := [(10, .int o11.1), (9, .int o7.1), (8, .int s0), (0, .ref 274), (1, .ref v1), (2, .ref v2), (3, .int v3), (4, .int v4), (5, .int v5), (6, .int v6), (7, .int v7)]) (st' := [.int v3, .ref 327]) rfl ?_
        refine tk_HIa  rfl rfl ly327 hg1 ?_
        refine tk_Ps  1 (pc' := 321) (ls' := [(10, .int o11.1), (9, .int o7.1), (8, .int s0), (0, .ref 274), (1, .ref v1), (2, .ref v2), (3, .int v3), (4, .int v4), (5, .int v5), (6, .int v6), (7, .int v7)]) (st' := [.int (o14.2.1 327 (tk_n v3))]) rfl ?_
        replace h := Option.some.inj h
        subst h
        exact tk_RI  rfl rfl rfl
set_option maxRecDepth 50000 in
theorem ok_fM_compares (sc : tk_X) (a1 : Nat) (a2 : Nat) (m : tk_m) (ha1 : tk_lay[a1]? = some (.inr (1, tk_al a1))) (ha2 : tk_lay[a2]? = some (.inr (1, tk_al a2))) {out : Int32 × tk_m} (h : fM_compares a1 a2 m = some out) : tk_Ru sc 4 236 [.ref 274, .ref a1, .ref a2] (tk_full m) (some (.int out.1), tk_full out.2) := by
  unfold fM_compares at h
  refine tk_Ru0 me236 (ls := [(0, .ref 274), (1, .ref a1), (2, .ref a2)]) rfl rfl ?_
  refine tk_Ps  2 (pc' := 2) (ls' := [(0, .ref 274), (1, .ref a1), (2, .ref a2)]) (st' := [.int (0 : Int32), .ref 274]) rfl ?_
  refine tk_SI  rfl rfl ly274 ?_
  refine tk_Ps  4 (pc' := 9) (ls' := [(0, .ref 274), (1, .ref a1), (2, .ref a2)]) (st' := [.int (0 : Int32), .ref a1, .ref 274, .ref 274]) rfl ?_
  obtain ⟨hg1, h⟩ := tk_grd h
  refine tk_HJa  rfl rfl ha1 hg1 ?_
  refine tk_Ps  2 (pc' := 12) (ls' := [(0, .ref 274), (1, .ref a1), (2, .ref a2)]) (st' := [.int (3 : Int32), .ref a2, .long (m.2.1 a1 (tk_n (0 : Int32))), .ref 274, .ref 274]) rfl ?_
  obtain ⟨hg2, h⟩ := tk_grd h
  refine tk_HJa  rfl rfl ha2 hg2 ?_
  obtain ⟨o3, ho3, h⟩ := tk_bnd h
  refine tk_cV1  rfl rfl (r := 274) (as := [.long (m.2.1 a1 (tk_n (0 : Int32))), .long (m.2.1 a2 (tk_n (3 : Int32)))]) (rest := [.ref 274]) rfl ly274 rfl rfl (ok_fM_timesWide_JJ sc (m.2.1 a1 (tk_n (0 : Int32))) (m.2.1 a2 (tk_n (3 : Int32))) (tk_u2 m.1 274 9 (0 : Int32), m.2.1, m.2.2.1, m.2.2.2) ho3) ?_
  refine tk_Ps  4 (pc' := 20) (ls' := [(0, .ref 274), (1, .ref a1), (2, .ref a2)]) (st' := [.int (0 : Int32), .ref a2, .ref 274, .ref 274, .int o3.1, .ref 274]) rfl ?_
  obtain ⟨hg4, h⟩ := tk_grd h
  refine tk_HJa  rfl rfl ha2 hg4 ?_
  refine tk_Ps  2 (pc' := 23) (ls' := [(0, .ref 274), (1, .ref a1), (2, .ref a2)]) (st' := [.int (3 : Int32), .ref a1, .long (o3.2.2.1 a2 (tk_n (0 : Int32))), .ref 274, .ref 274, .int o3.1, .ref 274]) rfl ?_
  obtain ⟨hg5, h⟩ := tk_grd h
  refine tk_HJa  rfl rfl ha1 hg5 ?_
  obtain ⟨o6, ho6, h⟩ := tk_bnd h
  refine tk_cV1  rfl rfl (r := 274) (as := [.long (o3.2.2.1 a2 (tk_n (0 : Int32))), .long (o3.2.2.1 a1 (tk_n (3 : Int32)))]) (rest := [.ref 274, .int o3.1, .ref 274]) rfl ly274 rfl rfl (ok_fM_timesWide_JJ sc (o3.2.2.1 a2 (tk_n (0 : Int32))) (o3.2.2.1 a1 (tk_n (3 : Int32))) o3.2 ho6) ?_
  obtain ⟨o7, ho7, h⟩ := tk_bnd h
  refine tk_cV1  rfl rfl (r := 274) (as := [.int o6.1]) (rest := [.int o3.1, .ref 274]) rfl ly274 rfl rfl (ok_fM_turned sc o6.1 o6.2 ho7) ?_
  obtain ⟨o8, ho8, h⟩ := tk_bnd h
  refine tk_cV1  rfl rfl (r := 274) (as := [.int o3.1, .int o7.1]) (rest := []) rfl ly274 rfl rfl (ok_fM_plusWide sc o3.1 o7.1 o7.2 ho8) ?_
  refine tk_Ps  4 (pc' := 37) (ls' := [(3, .int o8.1), (0, .ref 274), (1, .ref a1), (2, .ref a2)]) (st' := [.int (1 : Int32), .ref a1, .ref 274]) rfl ?_
  obtain ⟨hg9, h⟩ := tk_grd h
  refine tk_HJa  rfl rfl ha1 hg9 ?_
  refine tk_Ps  2 (pc' := 40) (ls' := [(3, .int o8.1), (0, .ref 274), (1, .ref a1), (2, .ref a2)]) (st' := [.int (3 : Int32), .ref a2, .long (o8.2.2.1 a1 (tk_n (1 : Int32))), .ref 274]) rfl ?_
  refine tk_HJa  rfl rfl ha2 hg2 ?_
  obtain ⟨o10, ho10, h⟩ := tk_bnd h
  refine tk_cV1  rfl rfl (r := 274) (as := [.long (o8.2.2.1 a1 (tk_n (1 : Int32))), .long (o8.2.2.1 a2 (tk_n (3 : Int32)))]) (rest := []) rfl ly274 rfl rfl (ok_fM_timesWide_JJ sc (o8.2.2.1 a1 (tk_n (1 : Int32))) (o8.2.2.1 a2 (tk_n (3 : Int32))) o8.2 ho10) ?_
  refine tk_Ps  5 (pc' := 50) (ls' := [(4, .int o10.1), (3, .int o8.1), (0, .ref 274), (1, .ref a1), (2, .ref a2)]) (st' := [.int (1 : Int32), .ref a2, .ref 274, .ref 274]) rfl ?_
  obtain ⟨hg11, h⟩ := tk_grd h
  refine tk_HJa  rfl rfl ha2 hg11 ?_
  refine tk_Ps  2 (pc' := 53) (ls' := [(4, .int o10.1), (3, .int o8.1), (0, .ref 274), (1, .ref a1), (2, .ref a2)]) (st' := [.int (3 : Int32), .ref a1, .long (o10.2.2.1 a2 (tk_n (1 : Int32))), .ref 274, .ref 274]) rfl ?_
  refine tk_HJa  rfl rfl ha1 hg5 ?_
  obtain ⟨o12, ho12, h⟩ := tk_bnd h
  refine tk_cV1  rfl rfl (r := 274) (as := [.long (o10.2.2.1 a2 (tk_n (1 : Int32))), .long (o10.2.2.1 a1 (tk_n (3 : Int32)))]) (rest := [.ref 274]) rfl ly274 rfl rfl (ok_fM_timesWide_JJ sc (o10.2.2.1 a2 (tk_n (1 : Int32))) (o10.2.2.1 a1 (tk_n (3 : Int32))) o10.2 ho12) ?_
  obtain ⟨o13, ho13, h⟩ := tk_bnd h
  refine tk_cV1  rfl rfl (r := 274) (as := [.int o12.1]) (rest := []) rfl ly274 rfl rfl (ok_fM_turned sc o12.1 o12.2 ho13) ?_
  refine tk_Ps  2 (pc' := 63) (ls' := [(5, .int o13.1), (4, .int o10.1), (3, .int o8.1), (0, .ref 274), (1, .ref a1), (2, .ref a2)]) (st' := [.ref 274]) rfl ?_
  refine tk_HR  rfl rfl ly274 rt274_8 ?_
  refine tk_Ps  1 (pc' := 68) (ls' := [(5, .int o13.1), (4, .int o10.1), (3, .int o8.1), (0, .ref 274), (1, .ref a1), (2, .ref a2)]) (st' := [.int o10.1, .ref 327]) rfl ?_
  obtain ⟨hg14, h⟩ := tk_grd h
  refine tk_HIa  rfl rfl ly327 hg14 ?_
  by_cases hc15 : (o13.2.1 327 (tk_n o10.1)) = 0
  · replace h := tk_ifT hc15 h
    refine tk_bT  rfl rfl rfl (c := (o13.2.1 327 (tk_n o10.1)) = 0) hc15 (pc' := 72) (ls' := [(5, .int o13.1), (4, .int o10.1), (3, .int o8.1), (0, .ref 274), (1, .ref a1), (2, .ref a2)]) (st' := []) ?_
    refine tk_Ps  5 (pc' := 78) (ls' := [(5, .int o13.1), (4, .int o10.1), (3, .int o8.1), (0, .ref 274), (1, .ref a1), (2, .ref a2)]) (st' := [.int (2 : Int32), .ref a2, .int o13.1, .int o8.1, .ref 274]) rfl ?_
    obtain ⟨hg16, h⟩ := tk_grd h
    refine tk_HJa  rfl rfl ha2 hg16 ?_
    obtain ⟨o17, ho17, h⟩ := tk_bnd h
    refine tk_cV1  rfl rfl (r := 274) (as := [.int o8.1, .int o13.1, .long (o13.2.2.1 a2 (tk_n (2 : Int32)))]) (rest := []) rfl ly274 rfl rfl (ok_fM_signOf sc o8.1 o13.1 (o13.2.2.1 a2 (tk_n (2 : Int32))) o13.2 ho17) ?_
    replace h := Option.some.inj h
    subst h
    exact tk_RI  rfl rfl rfl
  · replace h := tk_ifF hc15 h
    refine tk_bF  rfl rfl rfl (c := (o13.2.1 327 (tk_n o10.1)) = 0) hc15 (pc' := 83) (ls' := [(5, .int o13.1), (4, .int o10.1), (3, .int o8.1), (0, .ref 274), (1, .ref a1), (2, .ref a2)]) (st' := []) ?_
    refine tk_Ps  1 (pc' := 84) (ls' := [(5, .int o13.1), (4, .int o10.1), (3, .int o8.1), (0, .ref 274), (1, .ref a1), (2, .ref a2)]) (st' := [.ref 274]) rfl ?_
    refine tk_HR  rfl rfl ly274 rt274_8 ?_
    refine tk_Ps  1 (pc' := 89) (ls' := [(5, .int o13.1), (4, .int o10.1), (3, .int o8.1), (0, .ref 274), (1, .ref a1), (2, .ref a2)]) (st' := [.int o13.1, .ref 327]) rfl ?_
    obtain ⟨hg18, h⟩ := tk_grd h
    refine tk_HIa  rfl rfl ly327 hg18 ?_
    by_cases hc19 : (o13.2.1 327 (tk_n o13.1)) = 0
    · replace h := tk_ifT hc19 h
      refine tk_bT  rfl rfl rfl (c := (o13.2.1 327 (tk_n o13.1)) = 0) hc19 (pc' := 93) (ls' := [(5, .int o13.1), (4, .int o10.1), (3, .int o8.1), (0, .ref 274), (1, .ref a1), (2, .ref a2)]) (st' := []) ?_
      refine tk_Ps  5 (pc' := 99) (ls' := [(5, .int o13.1), (4, .int o10.1), (3, .int o8.1), (0, .ref 274), (1, .ref a1), (2, .ref a2)]) (st' := [.int (2 : Int32), .ref a1, .int o10.1, .int o8.1, .ref 274]) rfl ?_
      obtain ⟨hg20, h⟩ := tk_grd h
      refine tk_HJa  rfl rfl ha1 hg20 ?_
      obtain ⟨o21, ho21, h⟩ := tk_bnd h
      refine tk_cV1  rfl rfl (r := 274) (as := [.int o8.1, .int o10.1, .long (o13.2.2.1 a1 (tk_n (2 : Int32)))]) (rest := []) rfl ly274 rfl rfl (ok_fM_signOf sc o8.1 o10.1 (o13.2.2.1 a1 (tk_n (2 : Int32))) o13.2 ho21) ?_
      replace h := Option.some.inj h
      subst h
      exact tk_RI  rfl rfl rfl
    · replace h := tk_ifF hc19 h
      refine tk_bF  rfl rfl rfl (c := (o13.2.1 327 (tk_n o13.1)) = 0) hc19 (pc' := 104) (ls' := [(5, .int o13.1), (4, .int o10.1), (3, .int o8.1), (0, .ref 274), (1, .ref a1), (2, .ref a2)]) (st' := []) ?_
      refine tk_Ps  2 (pc' := 106) (ls' := [(5, .int o13.1), (4, .int o10.1), (3, .int o8.1), (0, .ref 274), (1, .ref a1), (2, .ref a2)]) (st' := [.int (2 : Int32), .ref a1]) rfl ?_
      obtain ⟨hg22, h⟩ := tk_grd h
      refine tk_HJa  rfl rfl ha1 hg22 ?_
      refine tk_Ps  2 (pc' := 109) (ls' := [(5, .int o13.1), (4, .int o10.1), (3, .int o8.1), (0, .ref 274), (1, .ref a1), (2, .ref a2)]) (st' := [.int (2 : Int32), .ref a2, .long (o13.2.2.1 a1 (tk_n (2 : Int32)))]) rfl ?_
      obtain ⟨hg23, h⟩ := tk_grd h
      refine tk_HJa  rfl rfl ha2 hg23 ?_
      refine tk_Ps  1 (pc' := 111) (ls' := [(5, .int o13.1), (4, .int o10.1), (3, .int o8.1), (0, .ref 274), (1, .ref a1), (2, .ref a2)]) (st' := [.int (lg_cmp (o13.2.2.1 a1 (tk_n (2 : Int32))) (o13.2.2.1 a2 (tk_n (2 : Int32))))]) rfl ?_
      by_cases hc24 : (o13.2.2.1 a1 (tk_n (2 : Int32))) = (o13.2.2.1 a2 (tk_n (2 : Int32)))
      · replace h := tk_ifT hc24 h
        refine tk_bT  rfl rfl tk_eL_ne (c := (o13.2.2.1 a1 (tk_n (2 : Int32))) = (o13.2.2.1 a2 (tk_n (2 : Int32)))) hc24 (pc' := 114) (ls' := [(5, .int o13.1), (4, .int o10.1), (3, .int o8.1), (0, .ref 274), (1, .ref a1), (2, .ref a2)]) (st' := []) ?_
        refine tk_Ps  5 (pc' := 121) (ls' := [(5, .int o13.1), (4, .int o10.1), (3, .int o8.1), (0, .ref 274), (1, .ref a1), (2, .ref a2)]) (st' := [.int o13.1, .int o10.1, .ref 274, .int o8.1, .ref 274]) rfl ?_
        obtain ⟨o25, ho25, h⟩ := tk_bnd h
        refine tk_cV1  rfl rfl (r := 274) (as := [.int o10.1, .int o13.1]) (rest := [.int o8.1, .ref 274]) rfl ly274 rfl rfl (ok_fM_plusWide sc o10.1 o13.1 o13.2 ho25) ?_
        refine tk_Ps  2 (pc' := 126) (ls' := [(5, .int o13.1), (4, .int o10.1), (3, .int o8.1), (0, .ref 274), (1, .ref a1), (2, .ref a2)]) (st' := [.int (2 : Int32), .ref a1, .int o25.1, .int o8.1, .ref 274]) rfl ?_
        refine tk_HJa  rfl rfl ha1 hg22 ?_
        obtain ⟨o26, ho26, h⟩ := tk_bnd h
        refine tk_cV1  rfl rfl (r := 274) (as := [.int o8.1, .int o25.1, .long (o25.2.2.1 a1 (tk_n (2 : Int32)))]) (rest := []) rfl ly274 rfl rfl (ok_fM_signOf sc o8.1 o25.1 (o25.2.2.1 a1 (tk_n (2 : Int32))) o25.2 ho26) ?_
        replace h := Option.some.inj h
        subst h
        exact tk_RI  rfl rfl rfl
      · replace h := tk_ifF hc24 h
        refine tk_bF  rfl rfl tk_eL_ne (c := (o13.2.2.1 a1 (tk_n (2 : Int32))) = (o13.2.2.1 a2 (tk_n (2 : Int32)))) hc24 (pc' := 131) (ls' := [(5, .int o13.1), (4, .int o10.1), (3, .int o8.1), (0, .ref 274), (1, .ref a1), (2, .ref a2)]) (st' := []) ?_
        refine tk_Ps  4 (pc' := 137) (ls' := [(5, .int o13.1), (4, .int o10.1), (3, .int o8.1), (0, .ref 274), (1, .ref a1), (2, .ref a2)]) (st' := [.int o10.1, .int o10.1, .ref 274, .ref 274]) rfl ?_
        obtain ⟨o27, ho27, h⟩ := tk_bnd h
        refine tk_cV1  rfl rfl (r := 274) (as := [.int o10.1, .int o10.1]) (rest := [.ref 274]) rfl ly274 rfl rfl (ok_fM_timesWide_II sc o10.1 o10.1 o13.2 ho27) ?_
        refine tk_Ps  3 (pc' := 143) (ls' := [(5, .int o13.1), (4, .int o10.1), (3, .int o8.1), (0, .ref 274), (1, .ref a1), (2, .ref a2)]) (st' := [.int (2 : Int32), .ref a1, .ref 274, .int o27.1, .ref 274]) rfl ?_
        refine tk_HJa  rfl rfl ha1 hg22 ?_
        obtain ⟨o28, ho28, h⟩ := tk_bnd h
        refine tk_cV1  rfl rfl (r := 274) (as := [.long (o27.2.2.1 a1 (tk_n (2 : Int32)))]) (rest := [.int o27.1, .ref 274]) rfl ly274 rfl rfl (ok_fM_widens sc (o27.2.2.1 a1 (tk_n (2 : Int32))) o27.2 ho28) ?_
        obtain ⟨o29, ho29, h⟩ := tk_bnd h
        refine tk_cV1  rfl rfl (r := 274) (as := [.int o27.1, .int o28.1]) (rest := []) rfl ly274 rfl rfl (ok_fM_timesWide_II sc o27.1 o28.1 o28.2 ho29) ?_
        refine tk_Ps  5 (pc' := 158) (ls' := [(6, .int o29.1), (5, .int o13.1), (4, .int o10.1), (3, .int o8.1), (0, .ref 274), (1, .ref a1), (2, .ref a2)]) (st' := [.int o13.1, .int o13.1, .ref 274, .ref 274]) rfl ?_
        obtain ⟨o30, ho30, h⟩ := tk_bnd h
        refine tk_cV1  rfl rfl (r := 274) (as := [.int o13.1, .int o13.1]) (rest := [.ref 274]) rfl ly274 rfl rfl (ok_fM_timesWide_II sc o13.1 o13.1 o29.2 ho30) ?_
        refine tk_Ps  3 (pc' := 164) (ls' := [(6, .int o29.1), (5, .int o13.1), (4, .int o10.1), (3, .int o8.1), (0, .ref 274), (1, .ref a1), (2, .ref a2)]) (st' := [.int (2 : Int32), .ref a2, .ref 274, .int o30.1, .ref 274]) rfl ?_
        refine tk_HJa  rfl rfl ha2 hg23 ?_
        obtain ⟨o31, ho31, h⟩ := tk_bnd h
        refine tk_cV1  rfl rfl (r := 274) (as := [.long (o30.2.2.1 a2 (tk_n (2 : Int32)))]) (rest := [.int o30.1, .ref 274]) rfl ly274 rfl rfl (ok_fM_widens sc (o30.2.2.1 a2 (tk_n (2 : Int32))) o30.2 ho31) ?_
        obtain ⟨o32, ho32, h⟩ := tk_bnd h
        refine tk_cV1  rfl rfl (r := 274) (as := [.int o30.1, .int o31.1]) (rest := []) rfl ly274 rfl rfl (ok_fM_timesWide_II sc o30.1 o31.1 o31.2 ho32) ?_
        refine tk_Ps  2 (pc' := 174) (ls' := [(7, .int o32.1), (6, .int o29.1), (5, .int o13.1), (4, .int o10.1), (3, .int o8.1), (0, .ref 274), (1, .ref a1), (2, .ref a2)]) (st' := [.ref 274]) rfl ?_
        refine tk_HR  rfl rfl ly274 rt274_8 ?_
        refine tk_Ps  1 (pc' := 179) (ls' := [(7, .int o32.1), (6, .int o29.1), (5, .int o13.1), (4, .int o10.1), (3, .int o8.1), (0, .ref 274), (1, .ref a1), (2, .ref a2)]) (st' := [.int o10.1, .ref 327]) rfl ?_
        refine tk_HIa  rfl rfl ly327 hg14 ?_
        refine tk_Ps  1 (pc' := 181) (ls' := [(7, .int o32.1), (6, .int o29.1), (5, .int o13.1), (4, .int o10.1), (3, .int o8.1), (0, .ref 274), (1, .ref a1), (2, .ref a2)]) (st' := [.ref 274, .int (o32.2.1 327 (tk_n o10.1))]) rfl ?_
        refine tk_HR  rfl rfl ly274 rt274_8 ?_
        refine tk_Ps  1 (pc' := 186) (ls' := [(7, .int o32.1), (6, .int o29.1), (5, .int o13.1), (4, .int o10.1), (3, .int o8.1), (0, .ref 274), (1, .ref a1), (2, .ref a2)]) (st' := [.int o13.1, .ref 327, .int (o32.2.1 327 (tk_n o10.1))]) rfl ?_
        refine tk_HIa  rfl rfl ly327 hg18 ?_
        by_cases hc33 : (o32.2.1 327 (tk_n o10.1)) = (o32.2.1 327 (tk_n o13.1))
        · replace h := tk_ifT hc33 h
          refine tk_bT  rfl rfl rfl (c := (o32.2.1 327 (tk_n o10.1)) = (o32.2.1 327 (tk_n o13.1))) hc33 (pc' := 201) (ls' := [(7, .int o32.1), (6, .int o29.1), (5, .int o13.1), (4, .int o10.1), (3, .int o8.1), (0, .ref 274), (1, .ref a1), (2, .ref a2)]) (st' := []) ?_
          refine tk_Ps  1 (pc' := 202) (ls' := [(7, .int o32.1), (6, .int o29.1), (5, .int o13.1), (4, .int o10.1), (3, .int o8.1), (0, .ref 274), (1, .ref a1), (2, .ref a2)]) (st' := [.ref 274]) rfl ?_
          refine tk_HR  rfl rfl ly274 rt274_8 ?_
          refine tk_Ps  1 (pc' := 207) (ls' := [(7, .int o32.1), (6, .int o29.1), (5, .int o13.1), (4, .int o10.1), (3, .int o8.1), (0, .ref 274), (1, .ref a1), (2, .ref a2)]) (st' := [.int o10.1, .ref 327]) rfl ?_
          refine tk_HIa  rfl rfl ly327 hg14 ?_
          refine tk_Ps  1 (pc' := 218) (ls' := [(7, .int o32.1), (6, .int o29.1), (5, .int o13.1), (4, .int o10.1), (3, .int o8.1), (0, .ref 274), (1, .ref a1), (2, .ref a2)]) (st' := [.int (o32.2.1 327 (tk_n o10.1))]) rfl ?_
          refine tk_Kp  (ls' := [(0, .ref 274), (1, .ref a1), (2, .ref a2), (3, .int o8.1), (4, .int o10.1), (5, .int o13.1), (6, .int o29.1), (7, .int o32.1)]) rfl rfl ?_
          exact ok_fM_compares_218 sc a1 a2 o8.1 o10.1 o13.1 o29.1 o32.1 (o32.2.1 327 (tk_n o10.1)) o32.2 (tk_al_of ha1) (tk_al_of ha2) _ h
        · replace h := tk_ifF hc33 h
          refine tk_bF  rfl rfl rfl (c := (o32.2.1 327 (tk_n o10.1)) = (o32.2.1 327 (tk_n o13.1))) hc33 (pc' := 190) (ls' := [(7, .int o32.1), (6, .int o29.1), (5, .int o13.1), (4, .int o10.1), (3, .int o8.1), (0, .ref 274), (1, .ref a1), (2, .ref a2)]) (st' := []) ?_
          refine tk_Ps  3 (pc' := 195) (ls' := [(7, .int o32.1), (6, .int o29.1), (5, .int o13.1), (4, .int o10.1), (3, .int o8.1), (0, .ref 274), (1, .ref a1), (2, .ref a2)]) (st' := [.int o32.1, .int o29.1, .ref 274]) rfl ?_
          obtain ⟨o34, ho34, h⟩ := tk_bnd h
          refine tk_cV1  rfl rfl (r := 274) (as := [.int o29.1, .int o32.1]) (rest := []) rfl ly274 rfl rfl (ok_fM_compareSizes sc o29.1 o32.1 o32.2 ho34) ?_
          by_cases hc35 : o34 ≤ 0
          · replace h := tk_ifT hc35 h
            refine tk_bT  rfl rfl rfl (c := o34 ≤ 0) hc35 (pc' := 211) (ls' := [(7, .int o32.1), (6, .int o29.1), (5, .int o13.1), (4, .int o10.1), (3, .int o8.1), (0, .ref 274), (1, .ref a1), (2, .ref a2)]) (st' := []) ?_
            refine tk_Ps  1 (pc' := 212) (ls' := [(7, .int o32.1), (6, .int o29.1), (5, .int o13.1), (4, .int o10.1), (3, .int o8.1), (0, .ref 274), (1, .ref a1), (2, .ref a2)]) (st' := [.ref 274]) rfl ?_
            refine tk_HR  rfl rfl ly274 rt274_8 ?_
            refine tk_Ps  1 (pc' := 217) (ls' := [(7, .int o32.1), (6, .int o29.1), (5, .int o13.1), (4, .int o10.1), (3, .int o8.1), (0, .ref 274), (1, .ref a1), (2, .ref a2)]) (st' := [.int o13.1, .ref 327]) rfl ?_
            refine tk_HIa  rfl rfl ly327 hg18 ?_
            refine tk_Kp  (ls' := [(0, .ref 274), (1, .ref a1), (2, .ref a2), (3, .int o8.1), (4, .int o10.1), (5, .int o13.1), (6, .int o29.1), (7, .int o32.1)]) rfl rfl ?_
            exact ok_fM_compares_218 sc a1 a2 o8.1 o10.1 o13.1 o29.1 o32.1 (o32.2.1 327 (tk_n o13.1)) o32.2 (tk_al_of ha1) (tk_al_of ha2) _ h
          · replace h := tk_ifF hc35 h
            refine tk_bF  rfl rfl rfl (c := o34 ≤ 0) hc35 (pc' := 201) (ls' := [(7, .int o32.1), (6, .int o29.1), (5, .int o13.1), (4, .int o10.1), (3, .int o8.1), (0, .ref 274), (1, .ref a1), (2, .ref a2)]) (st' := []) ?_
            refine tk_Ps  1 (pc' := 202) (ls' := [(7, .int o32.1), (6, .int o29.1), (5, .int o13.1), (4, .int o10.1), (3, .int o8.1), (0, .ref 274), (1, .ref a1), (2, .ref a2)]) (st' := [.ref 274]) rfl ?_
            refine tk_HR  rfl rfl ly274 rt274_8 ?_
            refine tk_Ps  1 (pc' := 207) (ls' := [(7, .int o32.1), (6, .int o29.1), (5, .int o13.1), (4, .int o10.1), (3, .int o8.1), (0, .ref 274), (1, .ref a1), (2, .ref a2)]) (st' := [.int o10.1, .ref 327]) rfl ?_
            refine tk_HIa  rfl rfl ly327 hg14 ?_
            refine tk_Ps  1 (pc' := 218) (ls' := [(7, .int o32.1), (6, .int o29.1), (5, .int o13.1), (4, .int o10.1), (3, .int o8.1), (0, .ref 274), (1, .ref a1), (2, .ref a2)]) (st' := [.int (o32.2.1 327 (tk_n o10.1))]) rfl ?_
            refine tk_Kp  (ls' := [(0, .ref 274), (1, .ref a1), (2, .ref a2), (3, .int o8.1), (4, .int o10.1), (5, .int o13.1), (6, .int o29.1), (7, .int o32.1)]) rfl rfl ?_
            exact ok_fM_compares_218 sc a1 a2 o8.1 o10.1 o13.1 o29.1 o32.1 (o32.2.1 327 (tk_n o10.1)) o32.2 (tk_al_of ha1) (tk_al_of ha2) _ h

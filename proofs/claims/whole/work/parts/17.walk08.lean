theorem ok_fM_divisor_10 (sc : tk_X) : ∀ (n : Nat) (v2 : Int32) (v3 : Int32) (m : tk_m) (out : Int32), fM_divisor_10 n v2 v3 = some out → tk_Ex sc 1 tk_r206 tk_k206 10 [(2, .int v2), (3, .int v3)] [] (tk_full m) (some (.int out), tk_full m) := by
  intro n
  induction n with
  | zero =>
    intro v2 v3 m out h
    cases h
  | succ n ih =>
    intro v2 v3 m out h
    unfold fM_divisor_10 at h
    refine tk_Ps  1 (pc' := 11) (ls' := [(2, .int v2), (3, .int v3)]) (st' := [.int v3]) rfl ?_
    by_cases hc1 : v3 = 0
    · replace h := tk_ifT hc1 h
      refine tk_bT  rfl rfl rfl (c := v3 = 0) hc1 (pc' := 27) (ls' := [(2, .int v2), (3, .int v3)]) (st' := []) ?_
      refine tk_Ps  1 (pc' := 28) (ls' := [(2, .int v2), (3, .int v3)]) (st' := [.int v2]) rfl ?_
      replace h := Option.some.inj h
      subst h
      exact tk_RI  rfl rfl rfl
    · replace h := tk_ifF hc1 h
      refine tk_bF  rfl rfl rfl (c := v3 = 0) hc1 (pc' := 14) (ls' := [(2, .int v2), (3, .int v3)]) (st' := []) ?_
      refine tk_Ps  2 (pc' := 16) (ls' := [(2, .int v2), (3, .int v3)]) (st' := [.int v3, .int v2]) rfl ?_
      obtain ⟨hz2, h⟩ := tk_grn h
      refine tk_iremR  rfl rfl hz2 ?_
      refine tk_Ps  6 (pc' := 10) (ls' := [(3, .int (tk_irem v2 v3)), (2, .int v3), (4, .int (tk_irem v2 v3))]) (st' := []) rfl ?_
      refine tk_Kp  (ls' := [(2, .int v3), (3, .int (tk_irem v2 v3))]) rfl rfl ?_
      exact ih v3 (tk_irem v2 v3) m _ h
theorem ok_fM_divisor (sc : tk_X) (a1 : Int32) (a2 : Int32) (m : tk_m) {out : Int32} (h : fM_divisor a1 a2 = some out) : tk_Ru sc 2 206 [.int a1, .int a2] (tk_full m) (some (.int out), tk_full m) := by
  unfold fM_divisor at h
  refine tk_Ru0 me206 (ls := [(0, .int a1), (1, .int a2)]) rfl rfl ?_
  refine tk_Ps  1 (pc' := 1) (ls' := [(0, .int a1), (1, .int a2)]) (st' := [.int a1]) rfl ?_
  refine tk_cS1  rfl rfl (as := [.int a1]) (rest := []) rfl rfl rfl (ok_fZ_abs_I sc a1 m) ?_
  refine tk_Ps  2 (pc' := 6) (ls' := [(2, .int (fZ_abs_I a1)), (0, .int a1), (1, .int a2)]) (st' := [.int a2]) rfl ?_
  refine tk_cS1  rfl rfl (as := [.int a2]) (rest := []) rfl rfl rfl (ok_fZ_abs_I sc a2 m) ?_
  refine tk_Ps  1 (pc' := 10) (ls' := [(3, .int (fZ_abs_I a2)), (2, .int (fZ_abs_I a1)), (0, .int a1), (1, .int a2)]) (st' := []) rfl ?_
  refine tk_Kp  (ls' := [(2, .int (fZ_abs_I a1)), (3, .int (fZ_abs_I a2))]) rfl rfl ?_
  exact ok_fM_divisor_10 sc tk_F (fZ_abs_I a1) (fZ_abs_I a2) m _ h
theorem ok_fM_radical_147 (sc : tk_X) (v3 : Int32) (v4 : Int32) (v5 : Int32) (v6 : Int32) (s0 : Int32) (m : tk_m) (out : Int32 × tk_m) (h : fM_radical_147 v3 v4 v5 v6 s0 m = some out) : tk_Ex sc 3 tk_r205 tk_k205 147 [(3, .int v3), (4, .int v4), (5, .int v5), (6, .int v6)] [.int s0] (tk_full m) (some (.int out.1), tk_full out.2) := by
  unfold fM_radical_147 at h
  refine tk_Ps  2 (pc' := 150) (ls' := [(7, .int s0), (3, .int v3), (4, .int v4), (5, .int v5), (6, .int v6)]) (st' := [.int v3]) rfl ?_
  by_cases hc1 : v3 = 0
  · replace h := tk_ifT hc1 h
    refine tk_bT  rfl rfl rfl (c := v3 = 0) hc1 (pc' := 153) (ls' := [(7, .int s0), (3, .int v3), (4, .int v4), (5, .int v5), (6, .int v6)]) (st' := []) ?_
    refine tk_Ps  3 (pc' := 172) (ls' := [(7, .int s0), (3, .int v3), (4, .int v4), (5, .int v5), (6, .int v6)]) (st' := [.int s0, .int v4]) rfl ?_
    obtain ⟨hz2, h⟩ := tk_grn h
    refine tk_idiv  rfl rfl hz2 ?_
    replace h := Option.some.inj h
    subst h
    exact tk_RI  rfl rfl rfl
  · replace h := tk_ifF hc1 h
    refine tk_bF  rfl rfl rfl (c := v3 = 0) hc1 (pc' := 158) (ls' := [(7, .int s0), (3, .int v3), (4, .int v4), (5, .int v5), (6, .int v6)]) (st' := []) ?_
    refine tk_Ps  2 (pc' := 160) (ls' := [(7, .int s0), (3, .int v3), (4, .int v4), (5, .int v5), (6, .int v6)]) (st' := [.int (1 : Int32), .int v3]) rfl ?_
    by_cases hc3 : v3 = (1 : Int32)
    · replace h := tk_ifT hc3 h
      refine tk_bT  rfl rfl rfl (c := v3 = (1 : Int32)) hc3 (pc' := 163) (ls' := [(7, .int s0), (3, .int v3), (4, .int v4), (5, .int v5), (6, .int v6)]) (st' := []) ?_
      refine tk_Ps  3 (pc' := 172) (ls' := [(7, .int s0), (3, .int v3), (4, .int v4), (5, .int v5), (6, .int v6)]) (st' := [.int s0, .int v5]) rfl ?_
      obtain ⟨hz4, h⟩ := tk_grn h
      refine tk_idiv  rfl rfl hz4 ?_
      replace h := Option.some.inj h
      subst h
      exact tk_RI  rfl rfl rfl
    · replace h := tk_ifF hc3 h
      refine tk_bF  rfl rfl rfl (c := v3 = (1 : Int32)) hc3 (pc' := 168) (ls' := [(7, .int s0), (3, .int v3), (4, .int v4), (5, .int v5), (6, .int v6)]) (st' := []) ?_
      refine tk_Ps  2 (pc' := 172) (ls' := [(7, .int s0), (3, .int v3), (4, .int v4), (5, .int v5), (6, .int v6)]) (st' := [.int s0, .int v6]) rfl ?_
      obtain ⟨hz5, h⟩ := tk_grn h
      refine tk_idiv  rfl rfl hz5 ?_
      replace h := Option.some.inj h
      subst h
      exact tk_RI  rfl rfl rfl
theorem ok_fM_radical_110 (sc : tk_X) (v3 : Int32) (v4 : Int32) (v5 : Int32) (v6 : Int32) (m : tk_m) (out : Int32 × tk_m) (h : fM_radical_110 v3 v4 v5 v6 m = some out) : tk_Ex sc 3 tk_r205 tk_k205 110 [(3, .int v3), (4, .int v4), (5, .int v5), (6, .int v6)] [] (tk_full m) (some (.int out.1), tk_full out.2) := by
  unfold fM_radical_110 at h
  refine tk_Ps  2 (pc' := 114) (ls' := [(3, .int v3), (4, .int v4), (5, .int v5), (6, .int v6)]) (st' := [.int v5, .int v4]) rfl ?_
  obtain ⟨o1, ho1, h⟩ := tk_bnd h
  refine tk_cS1  rfl rfl (as := [.int v4, .int v5]) (rest := []) rfl rfl rfl (ok_fM_divisor sc v4 v5 m ho1) ?_
  refine tk_Ps  1 (pc' := 119) (ls' := [(3, .int v3), (4, .int v4), (5, .int v5), (6, .int v6)]) (st' := [.int v6, .int o1]) rfl ?_
  obtain ⟨o2, ho2, h⟩ := tk_bnd h
  refine tk_cS1  rfl rfl (as := [.int o1, .int v6]) (rest := []) rfl rfl rfl (ok_fM_divisor sc o1 v6 m ho2) ?_
  refine tk_Ps  2 (pc' := 126) (ls' := [(7, .int o2), (3, .int v3), (4, .int v4), (5, .int v5), (6, .int v6)]) (st' := [.int v4]) rfl ?_
  by_cases hc3 : v4 < 0
  · replace h := tk_ifT hc3 h
    refine tk_bT  rfl rfl rfl (c := v4 < 0) hc3 (pc' := 139) (ls' := [(7, .int o2), (3, .int v3), (4, .int v4), (5, .int v5), (6, .int v6)]) (st' := []) ?_
    refine tk_Ps  3 (pc' := 147) (ls' := [(7, .int o2), (3, .int v3), (4, .int v4), (5, .int v5), (6, .int v6)]) (st' := [.int (-o2)]) rfl ?_
    refine tk_Kp  (ls' := [(3, .int v3), (4, .int v4), (5, .int v5), (6, .int v6)]) rfl rfl ?_
    exact ok_fM_radical_147 sc v3 v4 v5 v6 (-o2) m _ h
  · replace h := tk_ifF hc3 h
    refine tk_bF  rfl rfl rfl (c := v4 < 0) hc3 (pc' := 129) (ls' := [(7, .int o2), (3, .int v3), (4, .int v4), (5, .int v5), (6, .int v6)]) (st' := []) ?_
    refine tk_Ps  1 (pc' := 131) (ls' := [(7, .int o2), (3, .int v3), (4, .int v4), (5, .int v5), (6, .int v6)]) (st' := [.int v4]) rfl ?_
    by_cases hc4 : v4 = 0
    · replace h := tk_ifT hc4 h
      refine tk_bT  rfl rfl rfl (c := v4 = 0) hc4 (pc' := 134) (ls' := [(7, .int o2), (3, .int v3), (4, .int v4), (5, .int v5), (6, .int v6)]) (st' := []) ?_
      refine tk_Ps  1 (pc' := 136) (ls' := [(7, .int o2), (3, .int v3), (4, .int v4), (5, .int v5), (6, .int v6)]) (st' := [.int v5]) rfl ?_
      by_cases hc5 : 0 ≤ v5
      · replace h := tk_ifT hc5 h
        refine tk_bT  rfl rfl rfl (c := 0 ≤ v5) hc5 (pc' := 145) (ls' := [(7, .int o2), (3, .int v3), (4, .int v4), (5, .int v5), (6, .int v6)]) (st' := []) ?_
        refine tk_Ps  1 (pc' := 147) (ls' := [(7, .int o2), (3, .int v3), (4, .int v4), (5, .int v5), (6, .int v6)]) (st' := [.int o2]) rfl ?_
        refine tk_Kp  (ls' := [(3, .int v3), (4, .int v4), (5, .int v5), (6, .int v6)]) rfl rfl ?_
        exact ok_fM_radical_147 sc v3 v4 v5 v6 o2 m _ h
      · replace h := tk_ifF hc5 h
        refine tk_bF  rfl rfl rfl (c := 0 ≤ v5) hc5 (pc' := 139) (ls' := [(7, .int o2), (3, .int v3), (4, .int v4), (5, .int v5), (6, .int v6)]) (st' := []) ?_
        refine tk_Ps  3 (pc' := 147) (ls' := [(7, .int o2), (3, .int v3), (4, .int v4), (5, .int v5), (6, .int v6)]) (st' := [.int (-o2)]) rfl ?_
        refine tk_Kp  (ls' := [(3, .int v3), (4, .int v4), (5, .int v5), (6, .int v6)]) rfl rfl ?_
        exact ok_fM_radical_147 sc v3 v4 v5 v6 (-o2) m _ h
    · replace h := tk_ifF hc4 h
      refine tk_bF  rfl rfl rfl (c := v4 = 0) hc4 (pc' := 145) (ls' := [(7, .int o2), (3, .int v3), (4, .int v4), (5, .int v5), (6, .int v6)]) (st' := []) ?_
      refine tk_Ps  1 (pc' := 147) (ls' := [(7, .int o2), (3, .int v3), (4, .int v4), (5, .int v5), (6, .int v6)]) (st' := [.int o2]) rfl ?_
      refine tk_Kp  (ls' := [(3, .int v3), (4, .int v4), (5, .int v5), (6, .int v6)]) rfl rfl ?_
      exact ok_fM_radical_147 sc v3 v4 v5 v6 o2 m _ h
theorem ok_fM_radical (sc : tk_X) (a1 : Int32) (a2 : Int32) (a3 : Int32) (m : tk_m) {out : Int32 × tk_m} (h : fM_radical a1 a2 a3 m = some out) : tk_Ru sc 4 205 [.ref 274, .int a1, .int a2, .int a3] (tk_full m) (some (.int out.1), tk_full out.2) := by
  unfold fM_radical at h
  refine tk_Ru0 me205 (ls := [(0, .ref 274), (1, .int a1), (2, .int a2), (3, .int a3)]) rfl rfl ?_
  refine tk_Ps  3 (pc' := 3) (ls' := [(0, .ref 274), (1, .int a1), (2, .int a2), (3, .int a3)]) (st' := [.int a2, .int a1, .ref 274]) rfl ?_
  refine tk_cV1  rfl rfl (r := 274) (as := [.int a1, .int a2]) (rest := []) rfl ly274 rfl rfl (ok_fM_areTwo sc a1 a2 m) ?_
  by_cases hc1 : (fM_areTwo a1 a2 m) = true
  · replace h := tk_ifT hc1 h
    refine tk_bT  rfl rfl tk_eB_eq (c := (fM_areTwo a1 a2 m) = true) hc1 (pc' := 9) (ls' := [(0, .ref 274), (1, .int a1), (2, .int a2), (3, .int a3)]) (st' := []) ?_
    refine tk_Ps  4 (pc' := 15) (ls' := [(0, .ref 274), (1, .int a1), (2, .int a2), (3, .int a3)]) (st' := [.long (2 : Int64), .long (0 : Int64), .long (Int32.toInt64 a3)]) rfl ?_
    refine tk_cS1  rfl rfl (as := [.long (Int32.toInt64 a3), .long (0 : Int64), .long (2 : Int64)]) (rest := []) rfl rfl rfl (ok_fM_in sc (Int32.toInt64 a3) (0 : Int64) (2 : Int64) m) ?_
    by_cases hc2 : (fM_in (Int32.toInt64 a3) (0 : Int64) (2 : Int64)) = true
    · replace h := tk_ifT hc2 h
      refine tk_bT  rfl rfl tk_eB_ne (c := (fM_in (Int32.toInt64 a3) (0 : Int64) (2 : Int64)) = true) hc2 (pc' := 27) (ls' := [(0, .ref 274), (1, .int a1), (2, .int a2), (3, .int a3)]) (st' := []) ?_
      refine tk_Ps  2 (pc' := 29) (ls' := [(0, .ref 274), (1, .int a1), (2, .int a2), (3, .int a3)]) (st' := [.int a1, .ref 274]) rfl ?_
      obtain ⟨o3, ho3, h⟩ := tk_bnd h
      refine tk_cV1  rfl rfl (r := 274) (as := [.int a1]) (rest := []) rfl ly274 rfl rfl (ok_fM_isRound sc a1 m ho3) ?_
      by_cases hc4 : o3 = true
      · replace h := tk_ifT hc4 h
        refine tk_bT  rfl rfl tk_eB_eq (c := o3 = true) hc4 (pc' := 35) (ls' := [(0, .ref 274), (1, .int a1), (2, .int a2), (3, .int a3)]) (st' := []) ?_
        refine tk_Ps  2 (pc' := 37) (ls' := [(0, .ref 274), (1, .int a1), (2, .int a2), (3, .int a3)]) (st' := [.int a2, .ref 274]) rfl ?_
        obtain ⟨o5, ho5, h⟩ := tk_bnd h
        refine tk_cV1  rfl rfl (r := 274) (as := [.int a2]) (rest := []) rfl ly274 rfl rfl (ok_fM_isRound sc a2 m ho5) ?_
        by_cases hc6 : o5 = true
        · replace h := tk_ifT hc6 h
          refine tk_bT  rfl rfl tk_eB_ne (c := o5 = true) hc6 (pc' := 49) (ls' := [(0, .ref 274), (1, .int a1), (2, .int a2), (3, .int a3)]) (st' := []) ?_
          refine tk_Ps  3 (pc' := 52) (ls' := [(0, .ref 274), (1, .int a1), (2, .int a2), (3, .int a3)]) (st' := [.int (1 : Int32), .int a2, .ref 274]) rfl ?_
          obtain ⟨o7, ho7, h⟩ := tk_bnd h
          refine tk_cV1  rfl rfl (r := 274) (as := [.int a2, .int (1 : Int32)]) (rest := []) rfl ly274 rfl rfl (ok_fM_form sc a2 (1 : Int32) m ho7) ?_
          refine tk_Ps  3 (pc' := 58) (ls' := [(0, .ref 274), (1, .int a1), (2, .int a2), (3, .int a3)]) (st' := [.int (1 : Int32), .int a1, .ref 274, .int o7]) rfl ?_
          obtain ⟨o8, ho8, h⟩ := tk_bnd h
          refine tk_cV1  rfl rfl (r := 274) (as := [.int a1, .int (1 : Int32)]) (rest := [.int o7]) rfl ly274 rfl rfl (ok_fM_form sc a1 (1 : Int32) m ho8) ?_
          refine tk_Ps  5 (pc' := 67) (ls' := [(4, .int (o7 - o8)), (0, .ref 274), (1, .int a1), (2, .int a2), (3, .int a3)]) (st' := [.int (2 : Int32), .int a2, .ref 274]) rfl ?_
          obtain ⟨o9, ho9, h⟩ := tk_bnd h
          refine tk_cV1  rfl rfl (r := 274) (as := [.int a2, .int (2 : Int32)]) (rest := []) rfl ly274 rfl rfl (ok_fM_form sc a2 (2 : Int32) m ho9) ?_
          refine tk_Ps  3 (pc' := 73) (ls' := [(4, .int (o7 - o8)), (0, .ref 274), (1, .int a1), (2, .int a2), (3, .int a3)]) (st' := [.int (2 : Int32), .int a1, .ref 274, .int o9]) rfl ?_
          obtain ⟨o10, ho10, h⟩ := tk_bnd h
          refine tk_cV1  rfl rfl (r := 274) (as := [.int a1, .int (2 : Int32)]) (rest := [.int o9]) rfl ly274 rfl rfl (ok_fM_form sc a1 (2 : Int32) m ho10) ?_
          refine tk_Ps  5 (pc' := 82) (ls' := [(5, .int (o9 - o10)), (4, .int (o7 - o8)), (0, .ref 274), (1, .int a1), (2, .int a2), (3, .int a3)]) (st' := [.int (3 : Int32), .int a1, .ref 274]) rfl ?_
          obtain ⟨o11, ho11, h⟩ := tk_bnd h
          refine tk_cV1  rfl rfl (r := 274) (as := [.int a1, .int (3 : Int32)]) (rest := []) rfl ly274 rfl rfl (ok_fM_form sc a1 (3 : Int32) m ho11) ?_
          refine tk_Ps  3 (pc' := 88) (ls' := [(5, .int (o9 - o10)), (4, .int (o7 - o8)), (0, .ref 274), (1, .int a1), (2, .int a2), (3, .int a3)]) (st' := [.int (3 : Int32), .int a2, .ref 274, .int o11]) rfl ?_
          obtain ⟨o12, ho12, h⟩ := tk_bnd h
          refine tk_cV1  rfl rfl (r := 274) (as := [.int a2, .int (3 : Int32)]) (rest := [.int o11]) rfl ly274 rfl rfl (ok_fM_form sc a2 (3 : Int32) m ho12) ?_
          refine tk_Ps  3 (pc' := 96) (ls' := [(6, .int (o11 - o12)), (5, .int (o9 - o10)), (4, .int (o7 - o8)), (0, .ref 274), (1, .int a1), (2, .int a2), (3, .int a3)]) (st' := [.int (o7 - o8)]) rfl ?_
          by_cases hc13 : (o7 - o8) = 0
          · replace h := tk_ifT hc13 h
            refine tk_bT  rfl rfl rfl (c := (o7 - o8) = 0) hc13 (pc' := 99) (ls' := [(6, .int (o11 - o12)), (5, .int (o9 - o10)), (4, .int (o7 - o8)), (0, .ref 274), (1, .int a1), (2, .int a2), (3, .int a3)]) (st' := []) ?_
            refine tk_Ps  1 (pc' := 101) (ls' := [(6, .int (o11 - o12)), (5, .int (o9 - o10)), (4, .int (o7 - o8)), (0, .ref 274), (1, .int a1), (2, .int a2), (3, .int a3)]) (st' := [.int (o9 - o10)]) rfl ?_
            by_cases hc14 : (o9 - o10) = 0
            · replace h := tk_ifT hc14 h
              refine tk_bT  rfl rfl rfl (c := (o9 - o10) = 0) hc14 (pc' := 104) (ls' := [(6, .int (o11 - o12)), (5, .int (o9 - o10)), (4, .int (o7 - o8)), (0, .ref 274), (1, .int a1), (2, .int a2), (3, .int a3)]) (st' := []) ?_
              refine tk_Ps  2 (pc' := 106) (ls' := [(6, .int (o11 - o12)), (5, .int (o9 - o10)), (4, .int (o7 - o8)), (0, .ref 274), (1, .int a1), (2, .int a2), (3, .int a3)]) (st' := [.int (3 : Int32), .ref 274]) rfl ?_
              obtain ⟨o15, ho15, h⟩ := tk_bnd h
              refine tk_cV1  rfl rfl (r := 274) (as := [.int (3 : Int32)]) (rest := []) rfl ly274 rfl rfl (ok_fM_finds sc (3 : Int32) m ho15) ?_
              replace h := Option.some.inj h
              subst h
              exact tk_RI  rfl rfl rfl
            · replace h := tk_ifF hc14 h
              refine tk_bF  rfl rfl rfl (c := (o9 - o10) = 0) hc14 (pc' := 110) (ls' := [(6, .int (o11 - o12)), (5, .int (o9 - o10)), (4, .int (o7 - o8)), (0, .ref 274), (1, .int a1), (2, .int a2), (3, .int a3)]) (st' := []) ?_
              refine tk_Kp  (ls' := [(3, .int a3), (4, .int (o7 - o8)), (5, .int (o9 - o10)), (6, .int (o11 - o12))]) rfl rfl ?_
              exact ok_fM_radical_110 sc a3 (o7 - o8) (o9 - o10) (o11 - o12) m _ h
          · replace h := tk_ifF hc13 h
            refine tk_bF  rfl rfl rfl (c := (o7 - o8) = 0) hc13 (pc' := 110) (ls' := [(6, .int (o11 - o12)), (5, .int (o9 - o10)), (4, .int (o7 - o8)), (0, .ref 274), (1, .int a1), (2, .int a2), (3, .int a3)]) (st' := []) ?_
            refine tk_Kp  (ls' := [(3, .int a3), (4, .int (o7 - o8)), (5, .int (o9 - o10)), (6, .int (o11 - o12))]) rfl rfl ?_
            exact ok_fM_radical_110 sc a3 (o7 - o8) (o9 - o10) (o11 - o12) m _ h
        · replace h := tk_ifF hc6 h
          refine tk_bF  rfl rfl tk_eB_ne (c := o5 = true) hc6 (pc' := 43) (ls' := [(0, .ref 274), (1, .int a1), (2, .int a2), (3, .int a3)]) (st' := []) ?_
          refine tk_Ps  2 (pc' := 45) (ls' := [(0, .ref 274), (1, .int a1), (2, .int a2), (3, .int a3)]) (st' := [.int (2 : Int32), .ref 274]) rfl ?_
          obtain ⟨o16, ho16, h⟩ := tk_bnd h
          refine tk_cV1  rfl rfl (r := 274) (as := [.int (2 : Int32)]) (rest := []) rfl ly274 rfl rfl (ok_fM_finds sc (2 : Int32) m ho16) ?_
          replace h := Option.some.inj h
          subst h
          exact tk_RI  rfl rfl rfl
      · replace h := tk_ifF hc4 h
        refine tk_bF  rfl rfl tk_eB_eq (c := o3 = true) hc4 (pc' := 43) (ls' := [(0, .ref 274), (1, .int a1), (2, .int a2), (3, .int a3)]) (st' := []) ?_
        refine tk_Ps  2 (pc' := 45) (ls' := [(0, .ref 274), (1, .int a1), (2, .int a2), (3, .int a3)]) (st' := [.int (2 : Int32), .ref 274]) rfl ?_
        obtain ⟨o17, ho17, h⟩ := tk_bnd h
        refine tk_cV1  rfl rfl (r := 274) (as := [.int (2 : Int32)]) (rest := []) rfl ly274 rfl rfl (ok_fM_finds sc (2 : Int32) m ho17) ?_
        replace h := Option.some.inj h
        subst h
        exact tk_RI  rfl rfl rfl
    · replace h := tk_ifF hc2 h
      refine tk_bF  rfl rfl tk_eB_ne (c := (fM_in (Int32.toInt64 a3) (0 : Int64) (2 : Int64)) = true) hc2 (pc' := 21) (ls' := [(0, .ref 274), (1, .int a1), (2, .int a2), (3, .int a3)]) (st' := []) ?_
      refine tk_Ps  2 (pc' := 23) (ls' := [(0, .ref 274), (1, .int a1), (2, .int a2), (3, .int a3)]) (st' := [.int (0 : Int32), .ref 274]) rfl ?_
      obtain ⟨o18, ho18, h⟩ := tk_bnd h
      refine tk_cV1  rfl rfl (r := 274) (as := [.int (0 : Int32)]) (rest := []) rfl ly274 rfl rfl (ok_fM_finds sc (0 : Int32) m ho18) ?_
      replace h := Option.some.inj h
      subst h
      exact tk_RI  rfl rfl rfl
  · replace h := tk_ifF hc1 h
    refine tk_bF  rfl rfl tk_eB_eq (c := (fM_areTwo a1 a2 m) = true) hc1 (pc' := 21) (ls' := [(0, .ref 274), (1, .int a1), (2, .int a2), (3, .int a3)]) (st' := []) ?_
    refine tk_Ps  2 (pc' := 23) (ls' := [(0, .ref 274), (1, .int a1), (2, .int a2), (3, .int a3)]) (st' := [.int (0 : Int32), .ref 274]) rfl ?_
    obtain ⟨o19, ho19, h⟩ := tk_bnd h
    refine tk_cV1  rfl rfl (r := 274) (as := [.int (0 : Int32)]) (rest := []) rfl ly274 rfl rfl (ok_fM_finds sc (0 : Int32) m ho19) ?_
    replace h := Option.some.inj h
    subst h
    exact tk_RI  rfl rfl rfl
theorem ok_fM_ring (sc : tk_X) (a1 : Int32) (a2 : Int32) (m : tk_m) {out : Int32 × tk_m} (h : fM_ring a1 a2 m = some out) : tk_Ru sc 5 207 [.ref 274, .int a1, .int a2] (tk_full m) (some (.int out.1), tk_full out.2) := by
  unfold fM_ring at h
  refine tk_Ru0 me207 (ls := [(0, .ref 274), (1, .int a1), (2, .int a2)]) rfl rfl ?_
  refine tk_Ps  3 (pc' := 3) (ls' := [(0, .ref 274), (1, .int a1), (2, .int a2)]) (st' := [.int a2, .int a1, .ref 274]) rfl ?_
  refine tk_cV1  rfl rfl (r := 274) (as := [.int a1, .int a2]) (rest := []) rfl ly274 rfl rfl (ok_fM_areTwo sc a1 a2 m) ?_
  by_cases hc1 : (fM_areTwo a1 a2 m) = true
  · replace h := tk_ifT hc1 h
    refine tk_bT  rfl rfl tk_eB_ne (c := (fM_areTwo a1 a2 m) = true) hc1 (pc' := 15) (ls' := [(0, .ref 274), (1, .int a1), (2, .int a2)]) (st' := []) ?_
    refine tk_Ps  2 (pc' := 17) (ls' := [(0, .ref 274), (1, .int a1), (2, .int a2)]) (st' := [.int a1, .ref 274]) rfl ?_
    obtain ⟨o2, ho2, h⟩ := tk_bnd h
    refine tk_cV1  rfl rfl (r := 274) (as := [.int a1]) (rest := []) rfl ly274 rfl rfl (ok_fM_kindOf sc a1 m ho2) ?_
    refine tk_Ps  1 (pc' := 21) (ls' := [(0, .ref 274), (1, .int a1), (2, .int a2)]) (st' := [.int (1 : Int32), .int o2]) rfl ?_
    by_cases hc3 : o2 = (1 : Int32)
    · replace h := tk_ifT hc3 h
      refine tk_bT  rfl rfl rfl (c := o2 = (1 : Int32)) hc3 (pc' := 24) (ls' := [(0, .ref 274), (1, .int a1), (2, .int a2)]) (st' := []) ?_
      refine tk_Ps  2 (pc' := 26) (ls' := [(0, .ref 274), (1, .int a1), (2, .int a2)]) (st' := [.int a2, .ref 274]) rfl ?_
      obtain ⟨o4, ho4, h⟩ := tk_bnd h
      refine tk_cV1  rfl rfl (r := 274) (as := [.int a2]) (rest := []) rfl ly274 rfl rfl (ok_fM_kindOf sc a2 m ho4) ?_
      refine tk_Ps  1 (pc' := 30) (ls' := [(0, .ref 274), (1, .int a1), (2, .int a2)]) (st' := [.int (1 : Int32), .int o4]) rfl ?_
      by_cases hc5 : o4 = (1 : Int32)
      · replace h := tk_ifT hc5 h
        refine tk_bT  rfl rfl rfl (c := o4 = (1 : Int32)) hc5 (pc' := 39) (ls' := [(0, .ref 274), (1, .int a1), (2, .int a2)]) (st' := []) ?_
        refine tk_Ps  3 (pc' := 42) (ls' := [(0, .ref 274), (1, .int a1), (2, .int a2)]) (st' := [.int a2, .int a1, .ref 274]) rfl ?_
        obtain ⟨o6, ho6, h⟩ := tk_bnd h
        refine tk_cV1  rfl rfl (r := 274) (as := [.int a1, .int a2]) (rest := []) rfl ly274 rfl rfl (ok_fM_lies sc a1 a2 m ho6) ?_
        by_cases hc7 : o6 = 0
        · replace h := tk_ifT hc7 h
          refine tk_bT  rfl rfl rfl (c := o6 = 0) hc7 (pc' := 54) (ls' := [(0, .ref 274), (1, .int a1), (2, .int a2)]) (st' := []) ?_
          refine tk_Ps  3 (pc' := 57) (ls' := [(0, .ref 274), (1, .int a1), (2, .int a2)]) (st' := [.int (3 : Int32), .int a1, .ref 274]) rfl ?_
          obtain ⟨o8, ho8, h⟩ := tk_bnd h
          refine tk_cV1  rfl rfl (r := 274) (as := [.int a1, .int (3 : Int32)]) (rest := []) rfl ly274 rfl rfl (ok_fM_of0 sc a1 (3 : Int32) m ho8) ?_
          refine tk_Ps  4 (pc' := 64) (ls' := [(3, .int o8), (0, .ref 274), (1, .int a1), (2, .int a2)]) (st' := [.int (3 : Int32), .int a2, .ref 274]) rfl ?_
          obtain ⟨o9, ho9, h⟩ := tk_bnd h
          refine tk_cV1  rfl rfl (r := 274) (as := [.int a2, .int (3 : Int32)]) (rest := []) rfl ly274 rfl rfl (ok_fM_of0 sc a2 (3 : Int32) m ho9) ?_
          refine tk_Ps  11 (pc' := 81) (ls' := [(4, .int o9), (3, .int o8), (0, .ref 274), (1, .int a1), (2, .int a2)]) (st' := [.int a2, .int a1, .ref 274, .int ((o8 * o8) + (o9 * o9))]) rfl ?_
          obtain ⟨o10, ho10, h⟩ := tk_bnd h
          refine tk_cV1  rfl rfl (r := 274) (as := [.int a1, .int a2]) (rest := [.int ((o8 * o8) + (o9 * o9))]) rfl ly274 rfl rfl (ok_fM_apart sc a1 a2 m ho10) ?_
          refine tk_Ps  1 (pc' := 85) (ls' := [(4, .int o9), (3, .int o8), (0, .ref 274), (1, .int a1), (2, .int a2)]) (st' := [.int (((o8 * o8) + (o9 * o9)) - o10)]) rfl ?_
          refine tk_cS1  rfl rfl (as := [.int (((o8 * o8) + (o9 * o9)) - o10)]) (rest := []) rfl rfl rfl (ok_fZ_abs_I sc (((o8 * o8) + (o9 * o9)) - o10) m) ?_
          refine tk_Ps  13 (pc' := 106) (ls' := [(6, .int (((2 : Int32) * o8) * o9)), (5, .int (fZ_abs_I (((o8 * o8) + (o9 * o9)) - o10))), (4, .int o9), (3, .int o8), (0, .ref 274), (1, .int a1), (2, .int a2)]) (st' := [.int ((5 : Int32) * (((2 : Int32) * o8) * o9)), .int ((3 : Int32) * (fZ_abs_I (((o8 * o8) + (o9 * o9)) - o10)))]) rfl ?_
          by_cases hc11 : ((3 : Int32) * (fZ_abs_I (((o8 * o8) + (o9 * o9)) - o10))) = ((5 : Int32) * (((2 : Int32) * o8) * o9))
          · replace h := tk_ifT hc11 h
            refine tk_bT  rfl rfl rfl (c := ((3 : Int32) * (fZ_abs_I (((o8 * o8) + (o9 * o9)) - o10))) = ((5 : Int32) * (((2 : Int32) * o8) * o9))) hc11 (pc' := 109) (ls' := [(6, .int (((2 : Int32) * o8) * o9)), (5, .int (fZ_abs_I (((o8 * o8) + (o9 * o9)) - o10))), (4, .int o9), (3, .int o8), (0, .ref 274), (1, .int a1), (2, .int a2)]) (st' := []) ?_
            refine tk_Ps  2 (pc' := 146) (ls' := [(6, .int (((2 : Int32) * o8) * o9)), (5, .int (fZ_abs_I (((o8 * o8) + (o9 * o9)) - o10))), (4, .int o9), (3, .int o8), (0, .ref 274), (1, .int a1), (2, .int a2)]) (st' := [.int (6 : Int32)]) rfl ?_
            replace h := Option.some.inj h
            subst h
            exact tk_RI  rfl rfl rfl
          · replace h := tk_ifF hc11 h
            refine tk_bF  rfl rfl rfl (c := ((3 : Int32) * (fZ_abs_I (((o8 * o8) + (o9 * o9)) - o10))) = ((5 : Int32) * (((2 : Int32) * o8) * o9))) hc11 (pc' := 114) (ls' := [(6, .int (((2 : Int32) * o8) * o9)), (5, .int (fZ_abs_I (((o8 * o8) + (o9 * o9)) - o10))), (4, .int o9), (3, .int o8), (0, .ref 274), (1, .int a1), (2, .int a2)]) (st' := []) ?_
            refine tk_Ps  4 (pc' := 120) (ls' := [(6, .int (((2 : Int32) * o8) * o9)), (5, .int (fZ_abs_I (((o8 * o8) + (o9 * o9)) - o10))), (4, .int o9), (3, .int o8), (0, .ref 274), (1, .int a1), (2, .int a2)]) (st' := [.int ((3 : Int32) * (((2 : Int32) * o8) * o9)), .int (fZ_abs_I (((o8 * o8) + (o9 * o9)) - o10))]) rfl ?_
            by_cases hc12 : (fZ_abs_I (((o8 * o8) + (o9 * o9)) - o10)) = ((3 : Int32) * (((2 : Int32) * o8) * o9))
            · replace h := tk_ifT hc12 h
              refine tk_bT  rfl rfl rfl (c := (fZ_abs_I (((o8 * o8) + (o9 * o9)) - o10)) = ((3 : Int32) * (((2 : Int32) * o8) * o9))) hc12 (pc' := 123) (ls' := [(6, .int (((2 : Int32) * o8) * o9)), (5, .int (fZ_abs_I (((o8 * o8) + (o9 * o9)) - o10))), (4, .int o9), (3, .int o8), (0, .ref 274), (1, .int a1), (2, .int a2)]) (st' := []) ?_
              refine tk_Ps  2 (pc' := 146) (ls' := [(6, .int (((2 : Int32) * o8) * o9)), (5, .int (fZ_abs_I (((o8 * o8) + (o9 * o9)) - o10))), (4, .int o9), (3, .int o8), (0, .ref 274), (1, .int a1), (2, .int a2)]) (st' := [.int (4 : Int32)]) rfl ?_
              replace h := Option.some.inj h
              subst h
              exact tk_RI  rfl rfl rfl
            · replace h := tk_ifF hc12 h
              refine tk_bF  rfl rfl rfl (c := (fZ_abs_I (((o8 * o8) + (o9 * o9)) - o10)) = ((3 : Int32) * (((2 : Int32) * o8) * o9))) hc12 (pc' := 127) (ls' := [(6, .int (((2 : Int32) * o8) * o9)), (5, .int (fZ_abs_I (((o8 * o8) + (o9 * o9)) - o10))), (4, .int o9), (3, .int o8), (0, .ref 274), (1, .int a1), (2, .int a2)]) (st' := []) ?_
              refine tk_Ps  4 (pc' := 134) (ls' := [(6, .int (((2 : Int32) * o8) * o9)), (5, .int (fZ_abs_I (((o8 * o8) + (o9 * o9)) - o10))), (4, .int o9), (3, .int o8), (0, .ref 274), (1, .int a1), (2, .int a2)]) (st' := [.int ((7 : Int32) * (((2 : Int32) * o8) * o9)), .int (fZ_abs_I (((o8 * o8) + (o9 * o9)) - o10))]) rfl ?_
              by_cases hc13 : (fZ_abs_I (((o8 * o8) + (o9 * o9)) - o10)) = ((7 : Int32) * (((2 : Int32) * o8) * o9))
              · replace h := tk_ifT hc13 h
                refine tk_bT  rfl rfl rfl (c := (fZ_abs_I (((o8 * o8) + (o9 * o9)) - o10)) = ((7 : Int32) * (((2 : Int32) * o8) * o9))) hc13 (pc' := 137) (ls' := [(6, .int (((2 : Int32) * o8) * o9)), (5, .int (fZ_abs_I (((o8 * o8) + (o9 * o9)) - o10))), (4, .int o9), (3, .int o8), (0, .ref 274), (1, .int a1), (2, .int a2)]) (st' := []) ?_
                refine tk_Ps  2 (pc' := 146) (ls' := [(6, .int (((2 : Int32) * o8) * o9)), (5, .int (fZ_abs_I (((o8 * o8) + (o9 * o9)) - o10))), (4, .int o9), (3, .int o8), (0, .ref 274), (1, .int a1), (2, .int a2)]) (st' := [.int (3 : Int32)]) rfl ?_
                replace h := Option.some.inj h
                subst h
                exact tk_RI  rfl rfl rfl
              · replace h := tk_ifF hc13 h
                refine tk_bF  rfl rfl rfl (c := (fZ_abs_I (((o8 * o8) + (o9 * o9)) - o10)) = ((7 : Int32) * (((2 : Int32) * o8) * o9))) hc13 (pc' := 141) (ls' := [(6, .int (((2 : Int32) * o8) * o9)), (5, .int (fZ_abs_I (((o8 * o8) + (o9 * o9)) - o10))), (4, .int o9), (3, .int o8), (0, .ref 274), (1, .int a1), (2, .int a2)]) (st' := []) ?_
                refine tk_Ps  2 (pc' := 143) (ls' := [(6, .int (((2 : Int32) * o8) * o9)), (5, .int (fZ_abs_I (((o8 * o8) + (o9 * o9)) - o10))), (4, .int o9), (3, .int o8), (0, .ref 274), (1, .int a1), (2, .int a2)]) (st' := [.int (3 : Int32), .ref 274]) rfl ?_
                obtain ⟨o14, ho14, h⟩ := tk_bnd h
                refine tk_cV1  rfl rfl (r := 274) (as := [.int (3 : Int32)]) (rest := []) rfl ly274 rfl rfl (ok_fM_finds sc (3 : Int32) m ho14) ?_
                replace h := Option.some.inj h
                subst h
                exact tk_RI  rfl rfl rfl
        · replace h := tk_ifF hc7 h
          refine tk_bF  rfl rfl rfl (c := o6 = 0) hc7 (pc' := 48) (ls' := [(0, .ref 274), (1, .int a1), (2, .int a2)]) (st' := []) ?_
          refine tk_Ps  2 (pc' := 50) (ls' := [(0, .ref 274), (1, .int a1), (2, .int a2)]) (st' := [.int (4 : Int32), .ref 274]) rfl ?_
          obtain ⟨o15, ho15, h⟩ := tk_bnd h
          refine tk_cV1  rfl rfl (r := 274) (as := [.int (4 : Int32)]) (rest := []) rfl ly274 rfl rfl (ok_fM_finds sc (4 : Int32) m ho15) ?_
          replace h := Option.some.inj h
          subst h
          exact tk_RI  rfl rfl rfl
      · replace h := tk_ifF hc5 h
        refine tk_bF  rfl rfl rfl (c := o4 = (1 : Int32)) hc5 (pc' := 33) (ls' := [(0, .ref 274), (1, .int a1), (2, .int a2)]) (st' := []) ?_
        refine tk_Ps  2 (pc' := 35) (ls' := [(0, .ref 274), (1, .int a1), (2, .int a2)]) (st' := [.int (2 : Int32), .ref 274]) rfl ?_
        obtain ⟨o16, ho16, h⟩ := tk_bnd h
        refine tk_cV1  rfl rfl (r := 274) (as := [.int (2 : Int32)]) (rest := []) rfl ly274 rfl rfl (ok_fM_finds sc (2 : Int32) m ho16) ?_
        replace h := Option.some.inj h
        subst h
        exact tk_RI  rfl rfl rfl
    · replace h := tk_ifF hc3 h
      refine tk_bF  rfl rfl rfl (c := o2 = (1 : Int32)) hc3 (pc' := 33) (ls' := [(0, .ref 274), (1, .int a1), (2, .int a2)]) (st' := []) ?_
      refine tk_Ps  2 (pc' := 35) (ls' := [(0, .ref 274), (1, .int a1), (2, .int a2)]) (st' := [.int (2 : Int32), .ref 274]) rfl ?_
      obtain ⟨o17, ho17, h⟩ := tk_bnd h
      refine tk_cV1  rfl rfl (r := 274) (as := [.int (2 : Int32)]) (rest := []) rfl ly274 rfl rfl (ok_fM_finds sc (2 : Int32) m ho17) ?_
      replace h := Option.some.inj h
      subst h
      exact tk_RI  rfl rfl rfl
  · replace h := tk_ifF hc1 h
    refine tk_bF  rfl rfl tk_eB_ne (c := (fM_areTwo a1 a2 m) = true) hc1 (pc' := 9) (ls' := [(0, .ref 274), (1, .int a1), (2, .int a2)]) (st' := []) ?_
    refine tk_Ps  2 (pc' := 11) (ls' := [(0, .ref 274), (1, .int a1), (2, .int a2)]) (st' := [.int (0 : Int32), .ref 274]) rfl ?_
    obtain ⟨o18, ho18, h⟩ := tk_bnd h
    refine tk_cV1  rfl rfl (r := 274) (as := [.int (0 : Int32)]) (rest := []) rfl ly274 rfl rfl (ok_fM_finds sc (0 : Int32) m ho18) ?_
    replace h := Option.some.inj h
    subst h
    exact tk_RI  rfl rfl rfl
theorem ok_fM_three_III (sc : tk_X) (a1 : Int32) (a2 : Int32) (a3 : Int32) (m : tk_m) {out : Int32 × tk_m} (h : fM_three_III a1 a2 a3 m = some out) : tk_Ru sc 4 208 [.ref 274, .int a1, .int a2, .int a3] (tk_full m) (some (.int out.1), tk_full out.2) := by
  unfold fM_three_III at h
  refine tk_Ru0 me208 (ls := [(0, .ref 274), (1, .int a1), (2, .int a2), (3, .int a3)]) rfl rfl ?_
  refine tk_Ps  3 (pc' := 3) (ls' := [(0, .ref 274), (1, .int a1), (2, .int a2), (3, .int a3)]) (st' := [.int a2, .int a1, .ref 274]) rfl ?_
  refine tk_cV1  rfl rfl (r := 274) (as := [.int a1, .int a2]) (rest := []) rfl ly274 rfl rfl (ok_fM_areTwo sc a1 a2 m) ?_
  by_cases hc1 : (fM_areTwo a1 a2 m) = true
  · replace h := tk_ifT hc1 h
    refine tk_bT  rfl rfl tk_eB_eq (c := (fM_areTwo a1 a2 m) = true) hc1 (pc' := 9) (ls' := [(0, .ref 274), (1, .int a1), (2, .int a2), (3, .int a3)]) (st' := []) ?_
    refine tk_Ps  3 (pc' := 12) (ls' := [(0, .ref 274), (1, .int a1), (2, .int a2), (3, .int a3)]) (st' := [.int a3, .int a1, .ref 274]) rfl ?_
    refine tk_cV1  rfl rfl (r := 274) (as := [.int a1, .int a3]) (rest := []) rfl ly274 rfl rfl (ok_fM_areTwo sc a1 a3 m) ?_
    by_cases hc2 : (fM_areTwo a1 a3 m) = true
    · replace h := tk_ifT hc2 h
      refine tk_bT  rfl rfl tk_eB_eq (c := (fM_areTwo a1 a3 m) = true) hc2 (pc' := 18) (ls' := [(0, .ref 274), (1, .int a1), (2, .int a2), (3, .int a3)]) (st' := []) ?_
      refine tk_Ps  3 (pc' := 21) (ls' := [(0, .ref 274), (1, .int a1), (2, .int a2), (3, .int a3)]) (st' := [.int a3, .int a2, .ref 274]) rfl ?_
      refine tk_cV1  rfl rfl (r := 274) (as := [.int a2, .int a3]) (rest := []) rfl ly274 rfl rfl (ok_fM_areTwo sc a2 a3 m) ?_
      by_cases hc3 : (fM_areTwo a2 a3 m) = true
      · replace h := tk_ifT hc3 h
        refine tk_bT  rfl rfl tk_eB_ne (c := (fM_areTwo a2 a3 m) = true) hc3 (pc' := 33) (ls' := [(0, .ref 274), (1, .int a1), (2, .int a2), (3, .int a3)]) (st' := []) ?_
        refine tk_Ps  1 (pc' := 34) (ls' := [(0, .ref 274), (1, .int a1), (2, .int a2), (3, .int a3)]) (st' := [.ref 274]) rfl ?_
        refine tk_HR  rfl rfl ly274 rt274_0 ?_
        refine tk_Ps  2 (pc' := 39) (ls' := [(0, .ref 274), (1, .int a1), (2, .int a2), (3, .int a3)]) (st' := [.int a1, .int (1 : Int32), .ref 275]) rfl ?_
        refine tk_SIa  rfl rfl ly275 (by decide) ?_
        refine tk_Ps  1 (pc' := 41) (ls' := [(0, .ref 274), (1, .int a1), (2, .int a2), (3, .int a3)]) (st' := [.ref 274]) rfl ?_
        refine tk_HR  rfl rfl ly274 rt274_0 ?_
        refine tk_Ps  2 (pc' := 46) (ls' := [(0, .ref 274), (1, .int a1), (2, .int a2), (3, .int a3)]) (st' := [.int a2, .int (2 : Int32), .ref 275]) rfl ?_
        refine tk_SIa  rfl rfl ly275 (by decide) ?_
        refine tk_Ps  1 (pc' := 48) (ls' := [(0, .ref 274), (1, .int a1), (2, .int a2), (3, .int a3)]) (st' := [.ref 274]) rfl ?_
        refine tk_HR  rfl rfl ly274 rt274_0 ?_
        refine tk_Ps  2 (pc' := 53) (ls' := [(0, .ref 274), (1, .int a1), (2, .int a2), (3, .int a3)]) (st' := [.int a3, .int (3 : Int32), .ref 275]) rfl ?_
        refine tk_SIa  rfl rfl ly275 (by decide) ?_
        refine tk_Ps  1 (pc' := 55) (ls' := [(0, .ref 274), (1, .int a1), (2, .int a2), (3, .int a3)]) (st' := [.int (1 : Int32)]) rfl ?_
        replace h := Option.some.inj h
        subst h
        exact tk_RI  rfl rfl rfl
      · replace h := tk_ifF hc3 h
        refine tk_bF  rfl rfl tk_eB_ne (c := (fM_areTwo a2 a3 m) = true) hc3 (pc' := 27) (ls' := [(0, .ref 274), (1, .int a1), (2, .int a2), (3, .int a3)]) (st' := []) ?_
        refine tk_Ps  2 (pc' := 29) (ls' := [(0, .ref 274), (1, .int a1), (2, .int a2), (3, .int a3)]) (st' := [.int (0 : Int32), .ref 274]) rfl ?_
        obtain ⟨o4, ho4, h⟩ := tk_bnd h
        refine tk_cV1  rfl rfl (r := 274) (as := [.int (0 : Int32)]) (rest := []) rfl ly274 rfl rfl (ok_fM_finds sc (0 : Int32) m ho4) ?_
        replace h := Option.some.inj h
        subst h
        exact tk_RI  rfl rfl rfl
    · replace h := tk_ifF hc2 h
      refine tk_bF  rfl rfl tk_eB_eq (c := (fM_areTwo a1 a3 m) = true) hc2 (pc' := 27) (ls' := [(0, .ref 274), (1, .int a1), (2, .int a2), (3, .int a3)]) (st' := []) ?_
      refine tk_Ps  2 (pc' := 29) (ls' := [(0, .ref 274), (1, .int a1), (2, .int a2), (3, .int a3)]) (st' := [.int (0 : Int32), .ref 274]) rfl ?_
      obtain ⟨o5, ho5, h⟩ := tk_bnd h
      refine tk_cV1  rfl rfl (r := 274) (as := [.int (0 : Int32)]) (rest := []) rfl ly274 rfl rfl (ok_fM_finds sc (0 : Int32) m ho5) ?_
      replace h := Option.some.inj h
      subst h
      exact tk_RI  rfl rfl rfl
  · replace h := tk_ifF hc1 h
    refine tk_bF  rfl rfl tk_eB_eq (c := (fM_areTwo a1 a2 m) = true) hc1 (pc' := 27) (ls' := [(0, .ref 274), (1, .int a1), (2, .int a2), (3, .int a3)]) (st' := []) ?_
    refine tk_Ps  2 (pc' := 29) (ls' := [(0, .ref 274), (1, .int a1), (2, .int a2), (3, .int a3)]) (st' := [.int (0 : Int32), .ref 274]) rfl ?_
    obtain ⟨o6, ho6, h⟩ := tk_bnd h
    refine tk_cV1  rfl rfl (r := 274) (as := [.int (0 : Int32)]) (rest := []) rfl ly274 rfl rfl (ok_fM_finds sc (0 : Int32) m ho6) ?_
    replace h := Option.some.inj h
    subst h
    exact tk_RI  rfl rfl rfl
theorem ok_fM_ofThree (sc : tk_X) (a1 : Int32) (m : tk_m) {out : Int32 × tk_m} (h : fM_ofThree a1 m = some out) : tk_Ru sc 2 209 [.ref 274, .int a1] (tk_full m) (some (.int out.1), tk_full out.2) := by
  unfold fM_ofThree at h
  refine tk_Ru0 me209 (ls := [(0, .ref 274), (1, .int a1)]) rfl rfl ?_
  refine tk_Ps  4 (pc' := 6) (ls' := [(0, .ref 274), (1, .int a1)]) (st' := [.long (2 : Int64), .long (0 : Int64), .long (Int32.toInt64 a1)]) rfl ?_
  refine tk_cS1  rfl rfl (as := [.long (Int32.toInt64 a1), .long (0 : Int64), .long (2 : Int64)]) (rest := []) rfl rfl rfl (ok_fM_in sc (Int32.toInt64 a1) (0 : Int64) (2 : Int64) m) ?_
  by_cases hc1 : (fM_in (Int32.toInt64 a1) (0 : Int64) (2 : Int64)) = true
  · replace h := tk_ifT hc1 h
    refine tk_bT  rfl rfl tk_eB_eq (c := (fM_in (Int32.toInt64 a1) (0 : Int64) (2 : Int64)) = true) hc1 (pc' := 12) (ls' := [(0, .ref 274), (1, .int a1)]) (st' := []) ?_
    refine tk_Ps  1 (pc' := 13) (ls' := [(0, .ref 274), (1, .int a1)]) (st' := [.ref 274]) rfl ?_
    refine tk_HR  rfl rfl ly274 rt274_0 ?_
    refine tk_Ps  3 (pc' := 19) (ls' := [(0, .ref 274), (1, .int a1)]) (st' := [.int ((1 : Int32) + a1), .ref 275]) rfl ?_
    obtain ⟨hg2, h⟩ := tk_grd h
    refine tk_HIa  rfl rfl ly275 hg2 ?_
    refine tk_Ps  1 (pc' := 28) (ls' := [(0, .ref 274), (1, .int a1)]) (st' := [.int (m.1 275 (tk_n ((1 : Int32) + a1)))]) rfl ?_
    replace h := Option.some.inj h
    subst h
    exact tk_RI  rfl rfl rfl
  · replace h := tk_ifF hc1 h
    refine tk_bF  rfl rfl tk_eB_eq (c := (fM_in (Int32.toInt64 a1) (0 : Int64) (2 : Int64)) = true) hc1 (pc' := 23) (ls' := [(0, .ref 274), (1, .int a1)]) (st' := []) ?_
    refine tk_Ps  2 (pc' := 25) (ls' := [(0, .ref 274), (1, .int a1)]) (st' := [.int (0 : Int32), .ref 274]) rfl ?_
    obtain ⟨o3, ho3, h⟩ := tk_bnd h
    refine tk_cV1  rfl rfl (r := 274) (as := [.int (0 : Int32)]) (rest := []) rfl ly274 rfl rfl (ok_fM_finds sc (0 : Int32) m ho3) ?_
    replace h := Option.some.inj h
    subst h
    exact tk_RI  rfl rfl rfl
theorem ok_fM_draw_114 (sc : tk_X) (r80 : Int32 → Int32 → Int32 → tk_m → Option (Int32 × tk_m)) (H80 : ∀ (v2 : Int32) (v3 : Int32) (v4 : Int32) (m : tk_m) (out : (Int32 × tk_m)), r80 v2 v3 v4 m = some out → tk_Ex sc 1 tk_r210 tk_k210 80 [(0, .ref 274), (2, .int v2), (3, .int v3), (4, .int v4)] [] (tk_full m) (some (.int out.1), tk_full out.2)) (r97 : Int32 → Int32 → Int32 → Int32 → tk_m → Option (Int32 × tk_m)) (H97 : ∀ (v2 : Int32) (v3 : Int32) (v4 : Int32) (v5 : Int32) (m : tk_m) (out : (Int32 × tk_m)), r97 v2 v3 v4 v5 m = some out → tk_Ex sc 1 tk_r210 tk_k210 97 [(0, .ref 274), (2, .int v2), (3, .int v3), (4, .int v4), (5, .int v5)] [] (tk_full m) (some (.int out.1), tk_full out.2)) : ∀ (n : Nat) (v2 : Int32) (v3 : Int32) (v4 : Int32) (v5 : Int32) (v6 : Int32) (m : tk_m) (out : Int32 × tk_m), fM_draw_114 r80 r97 n v2 v3 v4 v5 v6 m = some out → tk_Ex sc 1 tk_r210 tk_k210 114 [(0, .ref 274), (2, .int v2), (3, .int v3), (4, .int v4), (5, .int v5), (6, .int v6)] [] (tk_full m) (some (.int out.1), tk_full out.2) := by
  intro n
  induction n with
  | zero =>
    intro v2 v3 v4 v5 v6 m out h
    cases h
  | succ n ih =>
    intro v2 v3 v4 v5 v6 m out h
    unfold fM_draw_114 at h
    refine tk_Ps  2 (pc' := 117) (ls' := [(0, .ref 274), (2, .int v2), (3, .int v3), (4, .int v4), (5, .int v5), (6, .int v6)]) (st' := [.ref 274, .int v6]) rfl ?_
    refine tk_HR  rfl rfl ly274 rt274_0 ?_
    refine tk_Ps  1 (pc' := 121) (ls' := [(0, .ref 274), (2, .int v2), (3, .int v3), (4, .int v4), (5, .int v5), (6, .int v6)]) (st' := [.int (0 : Int32), .ref 275, .int v6]) rfl ?_
    refine tk_HIa  rfl rfl ly275 (by decide) ?_
    by_cases hc1 : (m.1 275 0) ≤ v6
    · replace h := tk_ifT hc1 h
      refine tk_bT  rfl rfl rfl (c := (m.1 275 0) ≤ v6) hc1 (pc' := 163) (ls' := [(0, .ref 274), (2, .int v2), (3, .int v3), (4, .int v4), (5, .int v5), (6, .int v6)]) (st' := []) ?_
      refine tk_Ps  2 (pc' := 97) (ls' := [(5, .int (v5 + (1 : Int32))), (0, .ref 274), (2, .int v2), (3, .int v3), (4, .int v4), (6, .int v6)]) (st' := []) rfl ?_
      refine tk_Kp  (ls' := [(0, .ref 274), (2, .int v2), (3, .int v3), (4, .int v4), (5, .int (v5 + (1 : Int32)))]) rfl rfl ?_
      exact H97 v2 v3 v4 (v5 + (1 : Int32)) m _ h
    · replace h := tk_ifF hc1 h
      refine tk_bF  rfl rfl rfl (c := (m.1 275 0) ≤ v6) hc1 (pc' := 125) (ls' := [(0, .ref 274), (2, .int v2), (3, .int v3), (4, .int v4), (5, .int v5), (6, .int v6)]) (st' := []) ?_
      refine tk_Ps  2 (pc' := 127) (ls' := [(0, .ref 274), (2, .int v2), (3, .int v3), (4, .int v4), (5, .int v5), (6, .int v6)]) (st' := [.int v2, .int v3]) rfl ?_
      by_cases hc2 : v3 = v2
      · replace h := tk_ifT hc2 h
        refine tk_bT  rfl rfl rfl (c := v3 = v2) hc2 (pc' := 130) (ls' := [(0, .ref 274), (2, .int v2), (3, .int v3), (4, .int v4), (5, .int v5), (6, .int v6)]) (st' := []) ?_
        refine tk_Ps  1 (pc' := 131) (ls' := [(0, .ref 274), (2, .int v2), (3, .int v3), (4, .int v4), (5, .int v5), (6, .int v6)]) (st' := [.ref 274]) rfl ?_
        refine tk_HR  rfl rfl ly274 rt274_0 ?_
        refine tk_Ps  2 (pc' := 137) (ls' := [(0, .ref 274), (2, .int v2), (3, .int v3), (4, .int v4), (5, .int v5), (6, .int v6)]) (st' := [.int v4, .int (1 : Int32), .ref 275]) rfl ?_
        refine tk_SIa  rfl rfl ly275 (by decide) ?_
        refine tk_Ps  1 (pc' := 139) (ls' := [(0, .ref 274), (2, .int v2), (3, .int v3), (4, .int v4), (5, .int v5), (6, .int v6)]) (st' := [.ref 274]) rfl ?_
        refine tk_HR  rfl rfl ly274 rt274_0 ?_
        refine tk_Ps  2 (pc' := 145) (ls' := [(0, .ref 274), (2, .int v2), (3, .int v3), (4, .int v4), (5, .int v5), (6, .int v6)]) (st' := [.int v5, .int (2 : Int32), .ref 275]) rfl ?_
        refine tk_SIa  rfl rfl ly275 (by decide) ?_
        refine tk_Ps  1 (pc' := 147) (ls' := [(0, .ref 274), (2, .int v2), (3, .int v3), (4, .int v4), (5, .int v5), (6, .int v6)]) (st' := [.ref 274]) rfl ?_
        refine tk_HR  rfl rfl ly274 rt274_0 ?_
        refine tk_Ps  2 (pc' := 153) (ls' := [(0, .ref 274), (2, .int v2), (3, .int v3), (4, .int v4), (5, .int v5), (6, .int v6)]) (st' := [.int v6, .int (3 : Int32), .ref 275]) rfl ?_
        refine tk_SIa  rfl rfl ly275 (by decide) ?_
        refine tk_Ps  3 (pc' := 114) (ls' := [(6, .int (v6 + (1 : Int32))), (3, .int (v3 + (1 : Int32))), (0, .ref 274), (2, .int v2), (4, .int v4), (5, .int v5)]) (st' := []) rfl ?_
        refine tk_Kp  (ls' := [(0, .ref 274), (2, .int v2), (3, .int (v3 + (1 : Int32))), (4, .int v4), (5, .int v5), (6, .int (v6 + (1 : Int32)))]) rfl rfl ?_
        exact ih v2 (v3 + (1 : Int32)) v4 v5 (v6 + (1 : Int32)) (tk_u2 (tk_u2 (tk_u2 m.1 275 1 v4) 275 2 v5) 275 3 v6, m.2.1, m.2.2.1, m.2.2.2) _ h
      · replace h := tk_ifF hc2 h
        refine tk_bF  rfl rfl rfl (c := v3 = v2) hc2 (pc' := 154) (ls' := [(0, .ref 274), (2, .int v2), (3, .int v3), (4, .int v4), (5, .int v5), (6, .int v6)]) (st' := []) ?_
        refine tk_Ps  3 (pc' := 114) (ls' := [(6, .int (v6 + (1 : Int32))), (3, .int (v3 + (1 : Int32))), (0, .ref 274), (2, .int v2), (4, .int v4), (5, .int v5)]) (st' := []) rfl ?_
        refine tk_Kp  (ls' := [(0, .ref 274), (2, .int v2), (3, .int (v3 + (1 : Int32))), (4, .int v4), (5, .int v5), (6, .int (v6 + (1 : Int32)))]) rfl rfl ?_
        exact ih v2 (v3 + (1 : Int32)) v4 v5 (v6 + (1 : Int32)) m _ h
theorem ok_fM_draw_97 (sc : tk_X) (r80 : Int32 → Int32 → Int32 → tk_m → Option (Int32 × tk_m)) (H80 : ∀ (v2 : Int32) (v3 : Int32) (v4 : Int32) (m : tk_m) (out : (Int32 × tk_m)), r80 v2 v3 v4 m = some out → tk_Ex sc 1 tk_r210 tk_k210 80 [(0, .ref 274), (2, .int v2), (3, .int v3), (4, .int v4)] [] (tk_full m) (some (.int out.1), tk_full out.2)) : ∀ (n : Nat) (v2 : Int32) (v3 : Int32) (v4 : Int32) (v5 : Int32) (m : tk_m) (out : Int32 × tk_m), fM_draw_97 r80 n v2 v3 v4 v5 m = some out → tk_Ex sc 1 tk_r210 tk_k210 97 [(0, .ref 274), (2, .int v2), (3, .int v3), (4, .int v4), (5, .int v5)] [] (tk_full m) (some (.int out.1), tk_full out.2) := by
  intro n
  induction n with
  | zero =>
    intro v2 v3 v4 v5 m out h
    cases h
  | succ n ih =>
    intro v2 v3 v4 v5 m out h
    unfold fM_draw_97 at h
    refine tk_Ps  2 (pc' := 100) (ls' := [(0, .ref 274), (2, .int v2), (3, .int v3), (4, .int v4), (5, .int v5)]) (st' := [.ref 274, .int v5]) rfl ?_
    refine tk_HR  rfl rfl ly274 rt274_0 ?_
    refine tk_Ps  1 (pc' := 104) (ls' := [(0, .ref 274), (2, .int v2), (3, .int v3), (4, .int v4), (5, .int v5)]) (st' := [.int (0 : Int32), .ref 275, .int v5]) rfl ?_
    refine tk_HIa  rfl rfl ly275 (by decide) ?_
    by_cases hc1 : (m.1 275 0) ≤ v5
    · replace h := tk_ifT hc1 h
      refine tk_bT  rfl rfl rfl (c := (m.1 275 0) ≤ v5) hc1 (pc' := 169) (ls' := [(0, .ref 274), (2, .int v2), (3, .int v3), (4, .int v4), (5, .int v5)]) (st' := []) ?_
      refine tk_Ps  2 (pc' := 80) (ls' := [(4, .int (v4 + (1 : Int32))), (0, .ref 274), (2, .int v2), (3, .int v3), (5, .int v5)]) (st' := []) rfl ?_
      refine tk_Kp  (ls' := [(0, .ref 274), (2, .int v2), (3, .int v3), (4, .int (v4 + (1 : Int32)))]) rfl rfl ?_
      exact H80 v2 v3 (v4 + (1 : Int32)) m _ h
    · replace h := tk_ifF hc1 h
      refine tk_bF  rfl rfl rfl (c := (m.1 275 0) ≤ v5) hc1 (pc' := 108) (ls' := [(0, .ref 274), (2, .int v2), (3, .int v3), (4, .int v4), (5, .int v5)]) (st' := []) ?_
      refine tk_Ps  4 (pc' := 114) (ls' := [(6, .int (v5 + (1 : Int32))), (0, .ref 274), (2, .int v2), (3, .int v3), (4, .int v4), (5, .int v5)]) (st' := []) rfl ?_
      refine tk_Kp  (ls' := [(0, .ref 274), (2, .int v2), (3, .int v3), (4, .int v4), (5, .int v5), (6, .int (v5 + (1 : Int32)))]) rfl rfl ?_
      exact ok_fM_draw_114 sc r80 H80 (fM_draw_97 r80 n) ih tk_F v2 v3 v4 v5 (v5 + (1 : Int32)) m _ h
theorem ok_fM_draw_80 (sc : tk_X) : ∀ (n : Nat) (v2 : Int32) (v3 : Int32) (v4 : Int32) (m : tk_m) (out : Int32 × tk_m), fM_draw_80 n v2 v3 v4 m = some out → tk_Ex sc 1 tk_r210 tk_k210 80 [(0, .ref 274), (2, .int v2), (3, .int v3), (4, .int v4)] [] (tk_full m) (some (.int out.1), tk_full out.2) := by
  intro n
  induction n with
  | zero =>
    intro v2 v3 v4 m out h
    cases h
  | succ n ih =>
    intro v2 v3 v4 m out h
    unfold fM_draw_80 at h
    refine tk_Ps  2 (pc' := 83) (ls' := [(0, .ref 274), (2, .int v2), (3, .int v3), (4, .int v4)]) (st' := [.ref 274, .int v4]) rfl ?_
    refine tk_HR  rfl rfl ly274 rt274_0 ?_
    refine tk_Ps  1 (pc' := 87) (ls' := [(0, .ref 274), (2, .int v2), (3, .int v3), (4, .int v4)]) (st' := [.int (0 : Int32), .ref 275, .int v4]) rfl ?_
    refine tk_HIa  rfl rfl ly275 (by decide) ?_
    by_cases hc1 : (m.1 275 0) ≤ v4
    · replace h := tk_ifT hc1 h
      refine tk_bT  rfl rfl rfl (c := (m.1 275 0) ≤ v4) hc1 (pc' := 175) (ls' := [(0, .ref 274), (2, .int v2), (3, .int v3), (4, .int v4)]) (st' := []) ?_
      refine tk_Ps  1 (pc' := 176) (ls' := [(0, .ref 274), (2, .int v2), (3, .int v3), (4, .int v4)]) (st' := [.int v2]) rfl ?_
      replace h := Option.some.inj h
      subst h
      exact tk_RI  rfl rfl rfl
    · replace h := tk_ifF hc1 h
      refine tk_bF  rfl rfl rfl (c := (m.1 275 0) ≤ v4) hc1 (pc' := 91) (ls' := [(0, .ref 274), (2, .int v2), (3, .int v3), (4, .int v4)]) (st' := []) ?_
      refine tk_Ps  4 (pc' := 97) (ls' := [(5, .int (v4 + (1 : Int32))), (0, .ref 274), (2, .int v2), (3, .int v3), (4, .int v4)]) (st' := []) rfl ?_
      refine tk_Kp  (ls' := [(0, .ref 274), (2, .int v2), (3, .int v3), (4, .int v4), (5, .int (v4 + (1 : Int32)))]) rfl rfl ?_
      exact ok_fM_draw_97 sc (fM_draw_80 n) ih tk_F v2 v3 v4 (v4 + (1 : Int32)) m _ h
theorem ok_fM_draw (sc : tk_X) (m : tk_m) {out : Int32 × tk_m} (h : fM_draw m = some out) : tk_Ru sc 2 210 [.ref 274] (tk_full m) (some (.int out.1), tk_full out.2) := by
  unfold fM_draw at h
  refine tk_Ru0 me210 (ls := [(0, .ref 274)]) rfl rfl ?_
  refine tk_Ps  1 (pc' := 1) (ls' := [(0, .ref 274)]) (st' := [.ref 274]) rfl ?_
  refine tk_HR  rfl rfl ly274 rt274_0 ?_
  refine tk_Ps  1 (pc' := 5) (ls' := [(0, .ref 274)]) (st' := [.int (0 : Int32), .ref 275]) rfl ?_
  refine tk_HIa  rfl rfl ly275 (by decide) ?_
  refine tk_Ps  1 (pc' := 7) (ls' := [(0, .ref 274)]) (st' := [.int (3 : Int32), .int (m.1 275 0)]) rfl ?_
  by_cases hc1 : (3 : Int32) ≤ (m.1 275 0)
  · replace h := tk_ifT hc1 h
    refine tk_bT  rfl rfl rfl (c := (3 : Int32) ≤ (m.1 275 0)) hc1 (pc' := 16) (ls' := [(0, .ref 274)]) (st' := []) ?_
    refine tk_Ps  1 (pc' := 17) (ls' := [(0, .ref 274)]) (st' := [.ref 274]) rfl ?_
    refine tk_HR  rfl rfl ly274 rt274_0 ?_
    refine tk_Ps  2 (pc' := 22) (ls' := [(0, .ref 274)]) (st' := [.ref 274, .int (4 : Int32), .ref 275]) rfl ?_
    refine tk_HR  rfl rfl ly274 rt274_0 ?_
    refine tk_Ps  1 (pc' := 26) (ls' := [(0, .ref 274)]) (st' := [.int (4 : Int32), .ref 275, .int (4 : Int32), .ref 275]) rfl ?_
    refine tk_HIa  rfl rfl ly275 (by decide) ?_
    refine tk_Ps  4 (pc' := 34) (ls' := [(0, .ref 274)]) (st' := [.int (((m.1 275 4) * (1103515245 : Int32)) + (12345 : Int32)), .int (4 : Int32), .ref 275]) rfl ?_
    refine tk_SIa  rfl rfl ly275 (by decide) ?_
    refine tk_Ps  1 (pc' := 36) (ls' := [(0, .ref 274)]) (st' := [.ref 274]) rfl ?_
    refine tk_HR  rfl rfl ly274 rt274_0 ?_
    refine tk_Ps  1 (pc' := 40) (ls' := [(0, .ref 274)]) (st' := [.int (0 : Int32), .ref 275]) rfl ?_
    refine tk_HIa  rfl rfl ly275 (by decide) ?_
    refine tk_Ps  1 (pc' := 42) (ls' := [(0, .ref 274)]) (st' := [.ref 274, .int (tk_u2 m.1 275 4 (((m.1 275 4) * (1103515245 : Int32)) + (12345 : Int32)) 275 0)]) rfl ?_
    refine tk_HR  rfl rfl ly274 rt274_0 ?_
    refine tk_Ps  1 (pc' := 46) (ls' := [(0, .ref 274)]) (st' := [.int (0 : Int32), .ref 275, .int (tk_u2 m.1 275 4 (((m.1 275 4) * (1103515245 : Int32)) + (12345 : Int32)) 275 0)]) rfl ?_
    refine tk_HIa  rfl rfl ly275 (by decide) ?_
    refine tk_Ps  4 (pc' := 51) (ls' := [(0, .ref 274)]) (st' := [.ref 274, .int ((tk_u2 m.1 275 4 (((m.1 275 4) * (1103515245 : Int32)) + (12345 : Int32)) 275 0) * ((tk_u2 m.1 275 4 (((m.1 275 4) * (1103515245 : Int32)) + (12345 : Int32)) 275 0) - (1 : Int32)))]) rfl ?_
    refine tk_HR  rfl rfl ly274 rt274_0 ?_
    refine tk_Ps  1 (pc' := 55) (ls' := [(0, .ref 274)]) (st' := [.int (0 : Int32), .ref 275, .int ((tk_u2 m.1 275 4 (((m.1 275 4) * (1103515245 : Int32)) + (12345 : Int32)) 275 0) * ((tk_u2 m.1 275 4 (((m.1 275 4) * (1103515245 : Int32)) + (12345 : Int32)) 275 0) - (1 : Int32)))]) rfl ?_
    refine tk_HIa  rfl rfl ly275 (by decide) ?_
    refine tk_Ps  7 (pc' := 64) (ls' := [(1, .int ((((tk_u2 m.1 275 4 (((m.1 275 4) * (1103515245 : Int32)) + (12345 : Int32)) 275 0) * ((tk_u2 m.1 275 4 (((m.1 275 4) * (1103515245 : Int32)) + (12345 : Int32)) 275 0) - (1 : Int32))) * ((tk_u2 m.1 275 4 (((m.1 275 4) * (1103515245 : Int32)) + (12345 : Int32)) 275 0) - (2 : Int32))) / (6 : Int32))), (0, .ref 274)]) (st' := [.ref 274]) rfl ?_
    refine tk_HR  rfl rfl ly274 rt274_0 ?_
    refine tk_Ps  1 (pc' := 68) (ls' := [(1, .int ((((tk_u2 m.1 275 4 (((m.1 275 4) * (1103515245 : Int32)) + (12345 : Int32)) 275 0) * ((tk_u2 m.1 275 4 (((m.1 275 4) * (1103515245 : Int32)) + (12345 : Int32)) 275 0) - (1 : Int32))) * ((tk_u2 m.1 275 4 (((m.1 275 4) * (1103515245 : Int32)) + (12345 : Int32)) 275 0) - (2 : Int32))) / (6 : Int32))), (0, .ref 274)]) (st' := [.int (4 : Int32), .ref 275]) rfl ?_
    refine tk_HIa  rfl rfl ly275 (by decide) ?_
    refine tk_Ps  3 (pc' := 73) (ls' := [(1, .int ((((tk_u2 m.1 275 4 (((m.1 275 4) * (1103515245 : Int32)) + (12345 : Int32)) 275 0) * ((tk_u2 m.1 275 4 (((m.1 275 4) * (1103515245 : Int32)) + (12345 : Int32)) 275 0) - (1 : Int32))) * ((tk_u2 m.1 275 4 (((m.1 275 4) * (1103515245 : Int32)) + (12345 : Int32)) 275 0) - (2 : Int32))) / (6 : Int32))), (0, .ref 274)]) (st' := [.int ((((tk_u2 m.1 275 4 (((m.1 275 4) * (1103515245 : Int32)) + (12345 : Int32)) 275 0) * ((tk_u2 m.1 275 4 (((m.1 275 4) * (1103515245 : Int32)) + (12345 : Int32)) 275 0) - (1 : Int32))) * ((tk_u2 m.1 275 4 (((m.1 275 4) * (1103515245 : Int32)) + (12345 : Int32)) 275 0) - (2 : Int32))) / (6 : Int32)), .int (tk_iushr (tk_u2 m.1 275 4 (((m.1 275 4) * (1103515245 : Int32)) + (12345 : Int32)) 275 4) (8 : Int32))]) rfl ?_
    obtain ⟨hz2, h⟩ := tk_grn h
    refine tk_iremR  rfl rfl hz2 ?_
    refine tk_Ps  5 (pc' := 80) (ls' := [(4, .int (0 : Int32)), (3, .int (0 : Int32)), (2, .int (tk_irem (tk_iushr (tk_u2 m.1 275 4 (((m.1 275 4) * (1103515245 : Int32)) + (12345 : Int32)) 275 4) (8 : Int32)) ((((tk_u2 m.1 275 4 (((m.1 275 4) * (1103515245 : Int32)) + (12345 : Int32)) 275 0) * ((tk_u2 m.1 275 4 (((m.1 275 4) * (1103515245 : Int32)) + (12345 : Int32)) 275 0) - (1 : Int32))) * ((tk_u2 m.1 275 4 (((m.1 275 4) * (1103515245 : Int32)) + (12345 : Int32)) 275 0) - (2 : Int32))) / (6 : Int32)))), (1, .int ((((tk_u2 m.1 275 4 (((m.1 275 4) * (1103515245 : Int32)) + (12345 : Int32)) 275 0) * ((tk_u2 m.1 275 4 (((m.1 275 4) * (1103515245 : Int32)) + (12345 : Int32)) 275 0) - (1 : Int32))) * ((tk_u2 m.1 275 4 (((m.1 275 4) * (1103515245 : Int32)) + (12345 : Int32)) 275 0) - (2 : Int32))) / (6 : Int32))), (0, .ref 274)]) (st' := []) rfl ?_
    refine tk_Kp  (ls' := [(0, .ref 274), (2, .int (tk_irem (tk_iushr (tk_u2 m.1 275 4 (((m.1 275 4) * (1103515245 : Int32)) + (12345 : Int32)) 275 4) (8 : Int32)) ((((tk_u2 m.1 275 4 (((m.1 275 4) * (1103515245 : Int32)) + (12345 : Int32)) 275 0) * ((tk_u2 m.1 275 4 (((m.1 275 4) * (1103515245 : Int32)) + (12345 : Int32)) 275 0) - (1 : Int32))) * ((tk_u2 m.1 275 4 (((m.1 275 4) * (1103515245 : Int32)) + (12345 : Int32)) 275 0) - (2 : Int32))) / (6 : Int32)))), (3, .int (0 : Int32)), (4, .int (0 : Int32))]) rfl rfl ?_
    exact ok_fM_draw_80 sc tk_F (tk_irem (tk_iushr (tk_u2 m.1 275 4 (((m.1 275 4) * (1103515245 : Int32)) + (12345 : Int32)) 275 4) (8 : Int32)) ((((tk_u2 m.1 275 4 (((m.1 275 4) * (1103515245 : Int32)) + (12345 : Int32)) 275 0) * ((tk_u2 m.1 275 4 (((m.1 275 4) * (1103515245 : Int32)) + (12345 : Int32)) 275 0) - (1 : Int32))) * ((tk_u2 m.1 275 4 (((m.1 275 4) * (1103515245 : Int32)) + (12345 : Int32)) 275 0) - (2 : Int32))) / (6 : Int32))) (0 : Int32) (0 : Int32) (tk_u2 m.1 275 4 (((m.1 275 4) * (1103515245 : Int32)) + (12345 : Int32)), m.2.1, m.2.2.1, m.2.2.2) _ h
  · replace h := tk_ifF hc1 h
    refine tk_bF  rfl rfl rfl (c := (3 : Int32) ≤ (m.1 275 0)) hc1 (pc' := 10) (ls' := [(0, .ref 274)]) (st' := []) ?_
    refine tk_Ps  2 (pc' := 12) (ls' := [(0, .ref 274)]) (st' := [.int (4 : Int32), .ref 274]) rfl ?_
    obtain ⟨o3, ho3, h⟩ := tk_bnd h
    refine tk_cV1  rfl rfl (r := 274) (as := [.int (4 : Int32)]) (rest := []) rfl ly274 rfl rfl (ok_fM_finds sc (4 : Int32) m ho3) ?_
    replace h := Option.some.inj h
    subst h
    exact tk_RI  rfl rfl rfl
theorem ok_fM_areThere (sc : tk_X) (m : tk_m) : tk_Ru sc 3 212 [.ref 274] (tk_full m) (some (.int (tk_b (fM_areThere m))), tk_full m) := by
  obtain ⟨out, h⟩ : ∃ out, fM_areThere m = out := ⟨_, rfl⟩
  rw [h]
  unfold fM_areThere at h
  refine tk_Ru0 me212 (ls := [(0, .ref 274)]) rfl rfl ?_
  refine tk_Ps  2 (pc' := 2) (ls' := [(0, .ref 274)]) (st' := [.ref 274, .ref 274]) rfl ?_
  refine tk_HR  rfl rfl ly274 rt274_0 ?_
  refine tk_Ps  1 (pc' := 6) (ls' := [(0, .ref 274)]) (st' := [.int (1 : Int32), .ref 275, .ref 274]) rfl ?_
  refine tk_HIa  rfl rfl ly275 (by decide) ?_
  refine tk_cV1  rfl rfl (r := 274) (as := [.int (m.1 275 1)]) (rest := []) rfl ly274 rfl rfl (ok_fM_isShape sc (m.1 275 1) m) ?_
  by_cases hc1 : (fM_isShape (m.1 275 1) m) = true
  · replace h := tk_ifT hc1 h
    refine tk_bT  rfl rfl tk_eB_eq (c := (fM_isShape (m.1 275 1) m) = true) hc1 (pc' := 13) (ls' := [(0, .ref 274)]) (st' := []) ?_
    refine tk_Ps  2 (pc' := 15) (ls' := [(0, .ref 274)]) (st' := [.ref 274, .ref 274]) rfl ?_
    refine tk_HR  rfl rfl ly274 rt274_0 ?_
    refine tk_Ps  1 (pc' := 19) (ls' := [(0, .ref 274)]) (st' := [.int (2 : Int32), .ref 275, .ref 274]) rfl ?_
    refine tk_HIa  rfl rfl ly275 (by decide) ?_
    refine tk_cV1  rfl rfl (r := 274) (as := [.int (m.1 275 2)]) (rest := []) rfl ly274 rfl rfl (ok_fM_isShape sc (m.1 275 2) m) ?_
    by_cases hc2 : (fM_isShape (m.1 275 2) m) = true
    · replace h := tk_ifT hc2 h
      refine tk_bT  rfl rfl tk_eB_eq (c := (fM_isShape (m.1 275 2) m) = true) hc2 (pc' := 26) (ls' := [(0, .ref 274)]) (st' := []) ?_
      refine tk_Ps  2 (pc' := 28) (ls' := [(0, .ref 274)]) (st' := [.ref 274, .ref 274]) rfl ?_
      refine tk_HR  rfl rfl ly274 rt274_0 ?_
      refine tk_Ps  1 (pc' := 32) (ls' := [(0, .ref 274)]) (st' := [.int (3 : Int32), .ref 275, .ref 274]) rfl ?_
      refine tk_HIa  rfl rfl ly275 (by decide) ?_
      refine tk_cV1  rfl rfl (r := 274) (as := [.int (m.1 275 3)]) (rest := []) rfl ly274 rfl rfl (ok_fM_isShape sc (m.1 275 3) m) ?_
      by_cases hc3 : (fM_isShape (m.1 275 3) m) = true
      · replace h := tk_ifT hc3 h
        refine tk_bT  rfl rfl tk_eB_eq (c := (fM_isShape (m.1 275 3) m) = true) hc3 (pc' := 39) (ls' := [(0, .ref 274)]) (st' := []) ?_
        refine tk_Ps  2 (pc' := 44) (ls' := [(0, .ref 274)]) (st' := [.int (1 : Int32)]) rfl ?_
        subst h
        exact tk_RB (b := true)  rfl rfl rfl
      · replace h := tk_ifF hc3 h
        refine tk_bF  rfl rfl tk_eB_eq (c := (fM_isShape (m.1 275 3) m) = true) hc3 (pc' := 43) (ls' := [(0, .ref 274)]) (st' := []) ?_
        refine tk_Ps  1 (pc' := 44) (ls' := [(0, .ref 274)]) (st' := [.int (0 : Int32)]) rfl ?_
        subst h
        exact tk_RB (b := false)  rfl rfl rfl
    · replace h := tk_ifF hc2 h
      refine tk_bF  rfl rfl tk_eB_eq (c := (fM_isShape (m.1 275 2) m) = true) hc2 (pc' := 43) (ls' := [(0, .ref 274)]) (st' := []) ?_
      refine tk_Ps  1 (pc' := 44) (ls' := [(0, .ref 274)]) (st' := [.int (0 : Int32)]) rfl ?_
      subst h
      exact tk_RB (b := false)  rfl rfl rfl
  · replace h := tk_ifF hc1 h
    refine tk_bF  rfl rfl tk_eB_eq (c := (fM_isShape (m.1 275 1) m) = true) hc1 (pc' := 43) (ls' := [(0, .ref 274)]) (st' := []) ?_
    refine tk_Ps  1 (pc' := 44) (ls' := [(0, .ref 274)]) (st' := [.int (0 : Int32)]) rfl ?_
    subst h
    exact tk_RB (b := false)  rfl rfl rfl
theorem ok_fM_three_I (sc : tk_X) (a1 : Int32) (m : tk_m) {out : Int32} (h : fM_three_I a1 m = some out) : tk_Ru sc 1 215 [.ref 274, .int a1] (tk_full m) (some (.int out), tk_full m) := by
  unfold fM_three_I at h
  refine tk_Ru0 me215 (ls := [(0, .ref 274), (1, .int a1)]) rfl rfl ?_
  refine tk_Ps  1 (pc' := 1) (ls' := [(0, .ref 274), (1, .int a1)]) (st' := [.ref 274]) rfl ?_
  refine tk_HR  rfl rfl ly274 rt274_0 ?_
  refine tk_Ps  3 (pc' := 7) (ls' := [(0, .ref 274), (1, .int a1)]) (st' := [.int ((1 : Int32) + a1), .ref 275]) rfl ?_
  obtain ⟨hg1, h⟩ := tk_grd h
  refine tk_HIa  rfl rfl ly275 hg1 ?_
  replace h := Option.some.inj h
  subst h
  exact tk_RI  rfl rfl rfl
theorem ok_fM_stays_2 (sc : tk_X) : ∀ (n : Nat) (v1 : Int32) (m : tk_m) (out : Int32), fM_stays_2 n v1 m = some out → tk_Ex sc 2 tk_r214 tk_k214 2 [(0, .ref 274), (1, .int v1)] [] (tk_full m) (some (.int out), tk_full m) := by
  intro n
  induction n with
  | zero =>
    intro v1 m out h
    cases h
  | succ n ih =>
    intro v1 m out h
    unfold fM_stays_2 at h
    refine tk_Ps  2 (pc' := 4) (ls' := [(0, .ref 274), (1, .int v1)]) (st' := [.int (3 : Int32), .int v1]) rfl ?_
    by_cases hc1 : (3 : Int32) ≤ v1
    · replace h := tk_ifT hc1 h
      refine tk_bT  rfl rfl rfl (c := (3 : Int32) ≤ v1) hc1 (pc' := 27) (ls' := [(0, .ref 274), (1, .int v1)]) (st' := []) ?_
      refine tk_Ps  1 (pc' := 28) (ls' := [(0, .ref 274), (1, .int v1)]) (st' := [.int (-1 : Int32)]) rfl ?_
      replace h := Option.some.inj h
      subst h
      exact tk_RI  rfl rfl rfl
    · replace h := tk_ifF hc1 h
      refine tk_bF  rfl rfl rfl (c := (3 : Int32) ≤ v1) hc1 (pc' := 7) (ls' := [(0, .ref 274), (1, .int v1)]) (st' := []) ?_
      refine tk_Ps  3 (pc' := 10) (ls' := [(0, .ref 274), (1, .int v1)]) (st' := [.int v1, .ref 274, .ref 274]) rfl ?_
      obtain ⟨o2, ho2, h⟩ := tk_bnd h
      refine tk_cV1  rfl rfl (r := 274) (as := [.int v1]) (rest := [.ref 274]) rfl ly274 rfl rfl (ok_fM_three_I sc v1 m ho2) ?_
      obtain ⟨o3, ho3, h⟩ := tk_bnd h
      refine tk_cV1  rfl rfl (r := 274) (as := [.int o2]) (rest := []) rfl ly274 rfl rfl (ok_fM_isRound sc o2 m ho3) ?_
      by_cases hc4 : o3 = true
      · replace h := tk_ifT hc4 h
        refine tk_bT  rfl rfl tk_eB_eq (c := o3 = true) hc4 (pc' := 19) (ls' := [(0, .ref 274), (1, .int v1)]) (st' := []) ?_
        refine tk_Ps  1 (pc' := 20) (ls' := [(0, .ref 274), (1, .int v1)]) (st' := [.int v1]) rfl ?_
        replace h := Option.some.inj h
        subst h
        exact tk_RI  rfl rfl rfl
      · replace h := tk_ifF hc4 h
        refine tk_bF  rfl rfl tk_eB_eq (c := o3 = true) hc4 (pc' := 21) (ls' := [(0, .ref 274), (1, .int v1)]) (st' := []) ?_
        refine tk_Ps  2 (pc' := 2) (ls' := [(1, .int (v1 + (1 : Int32))), (0, .ref 274)]) (st' := []) rfl ?_
        refine tk_Kp  (ls' := [(0, .ref 274), (1, .int (v1 + (1 : Int32)))]) rfl rfl ?_
        exact ih (v1 + (1 : Int32)) m _ h
theorem ok_fM_stays (sc : tk_X) (m : tk_m) {out : Int32} (h : fM_stays m = some out) : tk_Ru sc 3 214 [.ref 274] (tk_full m) (some (.int out), tk_full m) := by
  unfold fM_stays at h
  refine tk_Ru0 me214 (ls := [(0, .ref 274)]) rfl rfl ?_
  refine tk_Ps  2 (pc' := 2) (ls' := [(1, .int (0 : Int32)), (0, .ref 274)]) (st' := []) rfl ?_
  refine tk_Kp  (ls' := [(0, .ref 274), (1, .int (0 : Int32))]) rfl rfl ?_
  exact ok_fM_stays_2 sc tk_F (0 : Int32) m _ h
theorem ok_fM_bit (sc : tk_X) (a1 : Int32) (a2 : Int32) (m : tk_m) : tk_Ru sc 1 217 [.ref 274, .int a1, .int a2] (tk_full m) (some (.int (fM_bit a1 a2)), tk_full m) := by
  obtain ⟨out, h⟩ : ∃ out, fM_bit a1 a2 = out := ⟨_, rfl⟩
  rw [h]
  unfold fM_bit at h
  refine tk_Ru0 me217 (ls := [(0, .ref 274), (1, .int a1), (2, .int a2)]) rfl rfl ?_
  refine tk_Ps  5 (pc' := 5) (ls' := [(0, .ref 274), (1, .int a1), (2, .int a2)]) (st' := [.int ((tk_ishr a1 a2) &&& (1 : Int32))]) rfl ?_
  by_cases hc1 : ((tk_ishr a1 a2) &&& (1 : Int32)) = 0
  · replace h := tk_ifT hc1 h
    refine tk_bT  rfl rfl rfl (c := ((tk_ishr a1 a2) &&& (1 : Int32)) = 0) hc1 (pc' := 8) (ls' := [(0, .ref 274), (1, .int a1), (2, .int a2)]) (st' := []) ?_
    refine tk_Ps  2 (pc' := 13) (ls' := [(0, .ref 274), (1, .int a1), (2, .int a2)]) (st' := [.int (1 : Int32)]) rfl ?_
    subst h
    exact tk_RI  rfl rfl rfl
  · replace h := tk_ifF hc1 h
    refine tk_bF  rfl rfl rfl (c := ((tk_ishr a1 a2) &&& (1 : Int32)) = 0) hc1 (pc' := 12) (ls' := [(0, .ref 274), (1, .int a1), (2, .int a2)]) (st' := []) ?_
    refine tk_Ps  1 (pc' := 13) (ls' := [(0, .ref 274), (1, .int a1), (2, .int a2)]) (st' := [.int (-1 : Int32)]) rfl ?_
    subst h
    exact tk_RI  rfl rfl rfl
theorem ok_fM_doCount_2 (sc : tk_X) : ∀ (n : Nat) (v1 : Int32) (v2 : Int32) (m : tk_m) (out : Bool), fM_doCount_2 n v1 v2 m = some out → tk_Ex sc 3 tk_r216 tk_k216 2 [(0, .ref 274), (1, .int v1), (2, .int v2)] [] (tk_full m) (some (.int (tk_b out)), tk_full m) := by
  intro n
  induction n with
  | zero =>
    intro v1 v2 m out h
    cases h
  | succ n ih =>
    intro v1 v2 m out h
    unfold fM_doCount_2 at h
    refine tk_Ps  2 (pc' := 4) (ls' := [(0, .ref 274), (1, .int v1), (2, .int v2)]) (st' := [.int (3 : Int32), .int v2]) rfl ?_
    by_cases hc1 : (3 : Int32) ≤ v2
    · replace h := tk_ifT hc1 h
      refine tk_bT  rfl rfl rfl (c := (3 : Int32) ≤ v2) hc1 (pc' := 37) (ls' := [(0, .ref 274), (1, .int v1), (2, .int v2)]) (st' := []) ?_
      refine tk_Ps  1 (pc' := 38) (ls' := [(0, .ref 274), (1, .int v1), (2, .int v2)]) (st' := [.int (1 : Int32)]) rfl ?_
      replace h := Option.some.inj h
      subst h
      exact tk_RB (b := true)  rfl rfl rfl
    · replace h := tk_ifF hc1 h
      refine tk_bF  rfl rfl rfl (c := (3 : Int32) ≤ v2) hc1 (pc' := 7) (ls' := [(0, .ref 274), (1, .int v1), (2, .int v2)]) (st' := []) ?_
      refine tk_Ps  3 (pc' := 10) (ls' := [(0, .ref 274), (1, .int v1), (2, .int v2)]) (st' := [.int v2, .int v1, .ref 274]) rfl ?_
      refine tk_cV1  rfl rfl (r := 274) (as := [.int v1, .int v2]) (rest := []) rfl ly274 rfl rfl (ok_fM_bit sc v1 v2 m) ?_
      by_cases hc2 : 0 ≤ (fM_bit v1 v2)
      · replace h := tk_ifT hc2 h
        refine tk_bT  rfl rfl rfl (c := 0 ≤ (fM_bit v1 v2)) hc2 (pc' := 31) (ls' := [(0, .ref 274), (1, .int v1), (2, .int v2)]) (st' := []) ?_
        refine tk_Ps  2 (pc' := 2) (ls' := [(2, .int (v2 + (1 : Int32))), (0, .ref 274), (1, .int v1)]) (st' := []) rfl ?_
        refine tk_Kp  (ls' := [(0, .ref 274), (1, .int v1), (2, .int (v2 + (1 : Int32)))]) rfl rfl ?_
        exact ih v1 (v2 + (1 : Int32)) m _ h
      · replace h := tk_ifF hc2 h
        refine tk_bF  rfl rfl rfl (c := 0 ≤ (fM_bit v1 v2)) hc2 (pc' := 16) (ls' := [(0, .ref 274), (1, .int v1), (2, .int v2)]) (st' := []) ?_
        refine tk_Ps  3 (pc' := 19) (ls' := [(0, .ref 274), (1, .int v1), (2, .int v2)]) (st' := [.int v2, .ref 274, .ref 274]) rfl ?_
        obtain ⟨o3, ho3, h⟩ := tk_bnd h
        refine tk_cV1  rfl rfl (r := 274) (as := [.int v2]) (rest := [.ref 274]) rfl ly274 rfl rfl (ok_fM_three_I sc v2 m ho3) ?_
        obtain ⟨o4, ho4, h⟩ := tk_bnd h
        refine tk_cV1  rfl rfl (r := 274) (as := [.int o3]) (rest := []) rfl ly274 rfl rfl (ok_fM_kindOf sc o3 m ho4) ?_
        refine tk_Ps  1 (pc' := 26) (ls' := [(0, .ref 274), (1, .int v1), (2, .int v2)]) (st' := [.int (3 : Int32), .int o4]) rfl ?_
        by_cases hc5 : o4 = (3 : Int32)
        · replace h := tk_ifT hc5 h
          refine tk_bT  rfl rfl rfl (c := o4 = (3 : Int32)) hc5 (pc' := 29) (ls' := [(0, .ref 274), (1, .int v1), (2, .int v2)]) (st' := []) ?_
          refine tk_Ps  1 (pc' := 30) (ls' := [(0, .ref 274), (1, .int v1), (2, .int v2)]) (st' := [.int (0 : Int32)]) rfl ?_
          replace h := Option.some.inj h
          subst h
          exact tk_RB (b := false)  rfl rfl rfl
        · replace h := tk_ifF hc5 h
          refine tk_bF  rfl rfl rfl (c := o4 = (3 : Int32)) hc5 (pc' := 31) (ls' := [(0, .ref 274), (1, .int v1), (2, .int v2)]) (st' := []) ?_
          refine tk_Ps  2 (pc' := 2) (ls' := [(2, .int (v2 + (1 : Int32))), (0, .ref 274), (1, .int v1)]) (st' := []) rfl ?_
          refine tk_Kp  (ls' := [(0, .ref 274), (1, .int v1), (2, .int (v2 + (1 : Int32)))]) rfl rfl ?_
          exact ih v1 (v2 + (1 : Int32)) m _ h
theorem ok_fM_doCount (sc : tk_X) (a1 : Int32) (m : tk_m) {out : Bool} (h : fM_doCount a1 m = some out) : tk_Ru sc 4 216 [.ref 274, .int a1] (tk_full m) (some (.int (tk_b out)), tk_full m) := by
  unfold fM_doCount at h
  refine tk_Ru0 me216 (ls := [(0, .ref 274), (1, .int a1)]) rfl rfl ?_
  refine tk_Ps  2 (pc' := 2) (ls' := [(2, .int (0 : Int32)), (0, .ref 274), (1, .int a1)]) (st' := []) rfl ?_
  refine tk_Kp  (ls' := [(0, .ref 274), (1, .int a1), (2, .int (0 : Int32))]) rfl rfl ?_
  exact ok_fM_doCount_2 sc tk_F a1 (0 : Int32) m _ h
theorem ok_fM_takesStraight (sc : tk_X) (a1 : Int32) (a2 : Int32) (m : tk_m) {out : tk_m} (h : fM_takesStraight a1 a2 m = some out) : tk_Ru sc 3 218 [.ref 274, .int a1, .int a2] (tk_full m) (none, tk_full out) := by
  unfold fM_takesStraight at h
  refine tk_Ru0 me218 (ls := [(0, .ref 274), (1, .int a1), (2, .int a2)]) rfl rfl ?_
  refine tk_Ps  2 (pc' := 2) (ls' := [(0, .ref 274), (1, .int a1), (2, .int a2)]) (st' := [.int a2, .ref 274]) rfl ?_
  obtain ⟨o1, ho1, h⟩ := tk_bnd h
  refine tk_cV1  rfl rfl (r := 274) (as := [.int a2]) (rest := []) rfl ly274 rfl rfl (ok_fM_three_I sc a2 m ho1) ?_
  refine tk_Ps  2 (pc' := 7) (ls' := [(3, .int o1), (0, .ref 274), (1, .int a1), (2, .int a2)]) (st' := [.ref 274]) rfl ?_
  refine tk_HR  rfl rfl ly274 rt274_15 ?_
  refine tk_Ps  1 (pc' := 11) (ls' := [(3, .int o1), (0, .ref 274), (1, .int a1), (2, .int a2)]) (st' := [.ref 274, .ref 411]) rfl ?_
  refine tk_HI  rfl rfl ly274 ?_
  obtain ⟨hg2, h⟩ := tk_grd h
  refine tk_HQ  rfl rfl ly411 hg2 (la411 _ (hg2).2).1 ?_
  refine tk_Ps  4 (pc' := 21) (ls' := [(4, .ref (412 + (tk_n (m.1 274 16)))), (3, .int o1), (0, .ref 274), (1, .int a1), (2, .int a2)]) (st' := [.ref 274, .int (0 : Int32), .ref (412 + (tk_n (m.1 274 16)))]) rfl ?_
  refine tk_Hst  rfl rfl ?_
  refine tk_Ps  1 (pc' := 25) (ls' := [(4, .ref (412 + (tk_n (m.1 274 16)))), (3, .int o1), (0, .ref 274), (1, .int a1), (2, .int a2)]) (st' := [.int o1, .ref 1003, .ref 274, .int (0 : Int32), .ref (412 + (tk_n (m.1 274 16)))]) rfl ?_
  obtain ⟨o3, ho3, h⟩ := tk_bnd h
  refine tk_cV1  rfl rfl (r := 274) (as := [.ref 1003, .int o1]) (rest := [.int (0 : Int32), .ref (412 + (tk_n (m.1 274 16)))]) rfl ly274 rfl rfl (ok_fM_slant sc 1003 o1 m (by decide) ho3) ?_
  refine tk_Ps  1 (pc' := 29) (ls' := [(4, .ref (412 + (tk_n (m.1 274 16)))), (3, .int o1), (0, .ref 274), (1, .int a1), (2, .int a2)]) (st' := [.long (Int32.toInt64 o3), .int (0 : Int32), .ref (412 + (tk_n (m.1 274 16)))]) rfl ?_
  refine tk_SJa  rfl rfl ((la411 _ (hg2).2).2) (by decide) ?_
  refine tk_Ps  3 (pc' := 34) (ls' := [(4, .ref (412 + (tk_n (m.1 274 16)))), (3, .int o1), (0, .ref 274), (1, .int a1), (2, .int a2)]) (st' := [.ref 274, .int (1 : Int32), .ref (412 + (tk_n (m.1 274 16)))]) rfl ?_
  refine tk_Hst  rfl rfl ?_
  refine tk_Ps  1 (pc' := 38) (ls' := [(4, .ref (412 + (tk_n (m.1 274 16)))), (3, .int o1), (0, .ref 274), (1, .int a1), (2, .int a2)]) (st' := [.int o1, .ref 1004, .ref 274, .int (1 : Int32), .ref (412 + (tk_n (m.1 274 16)))]) rfl ?_
  obtain ⟨o4, ho4, h⟩ := tk_bnd h
  refine tk_cV1  rfl rfl (r := 274) (as := [.ref 1004, .int o1]) (rest := [.int (1 : Int32), .ref (412 + (tk_n (m.1 274 16)))]) rfl ly274 rfl rfl (ok_fM_slant sc 1004 o1 (m.1, tk_u2 m.2.1 (412 + (tk_n (m.1 274 16))) 0 (Int32.toInt64 o3), m.2.2.1, m.2.2.2) (by decide) ho4) ?_
  refine tk_Ps  1 (pc' := 42) (ls' := [(4, .ref (412 + (tk_n (m.1 274 16)))), (3, .int o1), (0, .ref 274), (1, .int a1), (2, .int a2)]) (st' := [.long (Int32.toInt64 o4), .int (1 : Int32), .ref (412 + (tk_n (m.1 274 16)))]) rfl ?_
  refine tk_SJa  rfl rfl ((la411 _ (hg2).2).2) (by decide) ?_
  refine tk_Ps  5 (pc' := 49) (ls' := [(4, .ref (412 + (tk_n (m.1 274 16)))), (3, .int o1), (0, .ref 274), (1, .int a1), (2, .int a2)]) (st' := [.int a2, .int a1, .ref 274, .int (2 : Int32), .ref (412 + (tk_n (m.1 274 16)))]) rfl ?_
  refine tk_cV1  rfl rfl (r := 274) (as := [.int a1, .int a2]) (rest := [.int (2 : Int32), .ref (412 + (tk_n (m.1 274 16)))]) rfl ly274 rfl rfl (ok_fM_bit sc a1 a2 (m.1, tk_u2 (tk_u2 m.2.1 (412 + (tk_n (m.1 274 16))) 0 (Int32.toInt64 o3)) (412 + (tk_n (m.1 274 16))) 1 (Int32.toInt64 o4), m.2.2.1, m.2.2.2)) ?_
  refine tk_Ps  2 (pc' := 54) (ls' := [(4, .ref (412 + (tk_n (m.1 274 16)))), (3, .int o1), (0, .ref 274), (1, .int a1), (2, .int a2)]) (st' := [.ref 274, .int (-(fM_bit a1 a2)), .int (2 : Int32), .ref (412 + (tk_n (m.1 274 16)))]) rfl ?_
  refine tk_Hst  rfl rfl ?_
  refine tk_Ps  1 (pc' := 58) (ls' := [(4, .ref (412 + (tk_n (m.1 274 16)))), (3, .int o1), (0, .ref 274), (1, .int a1), (2, .int a2)]) (st' := [.int o1, .ref 1005, .ref 274, .int (-(fM_bit a1 a2)), .int (2 : Int32), .ref (412 + (tk_n (m.1 274 16)))]) rfl ?_
  obtain ⟨o5, ho5, h⟩ := tk_bnd h
  refine tk_cV1  rfl rfl (r := 274) (as := [.ref 1005, .int o1]) (rest := [.int (-(fM_bit a1 a2)), .int (2 : Int32), .ref (412 + (tk_n (m.1 274 16)))]) rfl ly274 rfl rfl (ok_fM_slant sc 1005 o1 (m.1, tk_u2 (tk_u2 m.2.1 (412 + (tk_n (m.1 274 16))) 0 (Int32.toInt64 o3)) (412 + (tk_n (m.1 274 16))) 1 (Int32.toInt64 o4), m.2.2.1, m.2.2.2) (by decide) ho5) ?_
  refine tk_Ps  2 (pc' := 63) (ls' := [(4, .ref (412 + (tk_n (m.1 274 16)))), (3, .int o1), (0, .ref 274), (1, .int a1), (2, .int a2)]) (st' := [.long (Int32.toInt64 ((-(fM_bit a1 a2)) * o5)), .int (2 : Int32), .ref (412 + (tk_n (m.1 274 16)))]) rfl ?_
  refine tk_SJa  rfl rfl ((la411 _ (hg2).2).2) (by decide) ?_
  refine tk_Ps  6 (pc' := 71) (ls' := [(4, .ref (412 + (tk_n (m.1 274 16)))), (3, .int o1), (0, .ref 274), (1, .int a1), (2, .int a2)]) (st' := [.int (2 : Int32), .int o1, .ref 274, .int (2 : Int32), .int (3 : Int32), .ref (412 + (tk_n (m.1 274 16)))]) rfl ?_
  obtain ⟨o6, ho6, h⟩ := tk_bnd h
  refine tk_cV1  rfl rfl (r := 274) (as := [.int o1, .int (2 : Int32)]) (rest := [.int (2 : Int32), .int (3 : Int32), .ref (412 + (tk_n (m.1 274 16)))]) rfl ly274 rfl rfl (ok_fM_of0 sc o1 (2 : Int32) (m.1, tk_u2 (tk_u2 (tk_u2 m.2.1 (412 + (tk_n (m.1 274 16))) 0 (Int32.toInt64 o3)) (412 + (tk_n (m.1 274 16))) 1 (Int32.toInt64 o4)) (412 + (tk_n (m.1 274 16))) 2 (Int32.toInt64 ((-(fM_bit a1 a2)) * o5)), m.2.2.1, m.2.2.2) ho6) ?_
  refine tk_Ps  2 (pc' := 76) (ls' := [(4, .ref (412 + (tk_n (m.1 274 16)))), (3, .int o1), (0, .ref 274), (1, .int a1), (2, .int a2)]) (st' := [.long (Int32.toInt64 ((2 : Int32) * o6)), .int (3 : Int32), .ref (412 + (tk_n (m.1 274 16)))]) rfl ?_
  refine tk_SJa  rfl rfl ((la411 _ (hg2).2).2) (by decide) ?_
  refine tk_Ps  2 (pc' := 79) (ls' := [(4, .ref (412 + (tk_n (m.1 274 16)))), (3, .int o1), (0, .ref 274), (1, .int a1), (2, .int a2)]) (st' := [.ref 274, .ref 274]) rfl ?_
  refine tk_HI  rfl rfl ly274 ?_
  refine tk_Ps  2 (pc' := 84) (ls' := [(4, .ref (412 + (tk_n (m.1 274 16)))), (3, .int o1), (0, .ref 274), (1, .int a1), (2, .int a2)]) (st' := [.int ((m.1 274 16) + (1 : Int32)), .ref 274]) rfl ?_
  refine tk_SI  rfl rfl ly274 ?_
  replace h := Option.some.inj h
  subst h
  exact tk_RV  rfl rfl rfl
theorem ok_fM_takesRound (sc : tk_X) (a1 : Int32) (a2 : Int32) (a3 : Int32) (m : tk_m) {out : tk_m} (h : fM_takesRound a1 a2 a3 m = some out) : tk_Ru sc 4 219 [.ref 274, .int a1, .int a2, .int a3] (tk_full m) (none, tk_full out) := by
  unfold fM_takesRound at h
  refine tk_Ru0 me219 (ls := [(0, .ref 274), (1, .int a1), (2, .int a2), (3, .int a3)]) rfl rfl ?_
  refine tk_Ps  2 (pc' := 2) (ls' := [(0, .ref 274), (1, .int a1), (2, .int a2), (3, .int a3)]) (st' := [.int a2, .ref 274]) rfl ?_
  obtain ⟨o1, ho1, h⟩ := tk_bnd h
  refine tk_cV1  rfl rfl (r := 274) (as := [.int a2]) (rest := []) rfl ly274 rfl rfl (ok_fM_three_I sc a2 m ho1) ?_
  refine tk_Ps  3 (pc' := 9) (ls' := [(4, .int o1), (0, .ref 274), (1, .int a1), (2, .int a2), (3, .int a3)]) (st' := [.int a3, .ref 274]) rfl ?_
  obtain ⟨o2, ho2, h⟩ := tk_bnd h
  refine tk_cV1  rfl rfl (r := 274) (as := [.int a3]) (rest := []) rfl ly274 rfl rfl (ok_fM_three_I sc a3 m ho2) ?_
  refine tk_Ps  2 (pc' := 15) (ls' := [(5, .int o2), (4, .int o1), (0, .ref 274), (1, .int a1), (2, .int a2), (3, .int a3)]) (st' := [.ref 274]) rfl ?_
  refine tk_HR  rfl rfl ly274 rt274_15 ?_
  refine tk_Ps  1 (pc' := 19) (ls' := [(5, .int o2), (4, .int o1), (0, .ref 274), (1, .int a1), (2, .int a2), (3, .int a3)]) (st' := [.ref 274, .ref 411]) rfl ?_
  refine tk_HI  rfl rfl ly274 ?_
  obtain ⟨hg3, h⟩ := tk_grd h
  refine tk_HQ  rfl rfl ly411 hg3 (la411 _ (hg3).2).1 ?_
  refine tk_Ps  6 (pc' := 32) (ls' := [(6, .ref (412 + (tk_n (m.1 274 16)))), (5, .int o2), (4, .int o1), (0, .ref 274), (1, .int a1), (2, .int a2), (3, .int a3)]) (st' := [.int (1 : Int32), .int o1, .ref 274, .int (0 : Int32), .ref (412 + (tk_n (m.1 274 16)))]) rfl ?_
  obtain ⟨o4, ho4, h⟩ := tk_bnd h
  refine tk_cV1  rfl rfl (r := 274) (as := [.int o1, .int (1 : Int32)]) (rest := [.int (0 : Int32), .ref (412 + (tk_n (m.1 274 16)))]) rfl ly274 rfl rfl (ok_fM_of0 sc o1 (1 : Int32) m ho4) ?_
  refine tk_Ps  3 (pc' := 39) (ls' := [(6, .ref (412 + (tk_n (m.1 274 16)))), (5, .int o2), (4, .int o1), (0, .ref 274), (1, .int a1), (2, .int a2), (3, .int a3)]) (st' := [.int (1 : Int32), .int o2, .ref 274, .int o4, .int (0 : Int32), .ref (412 + (tk_n (m.1 274 16)))]) rfl ?_
  obtain ⟨o5, ho5, h⟩ := tk_bnd h
  refine tk_cV1  rfl rfl (r := 274) (as := [.int o2, .int (1 : Int32)]) (rest := [.int o4, .int (0 : Int32), .ref (412 + (tk_n (m.1 274 16)))]) rfl ly274 rfl rfl (ok_fM_of0 sc o2 (1 : Int32) m ho5) ?_
  refine tk_Ps  2 (pc' := 44) (ls' := [(6, .ref (412 + (tk_n (m.1 274 16)))), (5, .int o2), (4, .int o1), (0, .ref 274), (1, .int a1), (2, .int a2), (3, .int a3)]) (st' := [.long (Int32.toInt64 (o4 - o5)), .int (0 : Int32), .ref (412 + (tk_n (m.1 274 16)))]) rfl ?_
  refine tk_SJa  rfl rfl ((la411 _ (hg3).2).2) (by decide) ?_
  refine tk_Ps  5 (pc' := 52) (ls' := [(6, .ref (412 + (tk_n (m.1 274 16)))), (5, .int o2), (4, .int o1), (0, .ref 274), (1, .int a1), (2, .int a2), (3, .int a3)]) (st' := [.int (2 : Int32), .int o1, .ref 274, .int (1 : Int32), .ref (412 + (tk_n (m.1 274 16)))]) rfl ?_
  obtain ⟨o6, ho6, h⟩ := tk_bnd h
  refine tk_cV1  rfl rfl (r := 274) (as := [.int o1, .int (2 : Int32)]) (rest := [.int (1 : Int32), .ref (412 + (tk_n (m.1 274 16)))]) rfl ly274 rfl rfl (ok_fM_of0 sc o1 (2 : Int32) (m.1, tk_u2 m.2.1 (412 + (tk_n (m.1 274 16))) 0 (Int32.toInt64 (o4 - o5)), m.2.2.1, m.2.2.2) ho6) ?_
  refine tk_Ps  3 (pc' := 59) (ls' := [(6, .ref (412 + (tk_n (m.1 274 16)))), (5, .int o2), (4, .int o1), (0, .ref 274), (1, .int a1), (2, .int a2), (3, .int a3)]) (st' := [.int (2 : Int32), .int o2, .ref 274, .int o6, .int (1 : Int32), .ref (412 + (tk_n (m.1 274 16)))]) rfl ?_
  obtain ⟨o7, ho7, h⟩ := tk_bnd h
  refine tk_cV1  rfl rfl (r := 274) (as := [.int o2, .int (2 : Int32)]) (rest := [.int o6, .int (1 : Int32), .ref (412 + (tk_n (m.1 274 16)))]) rfl ly274 rfl rfl (ok_fM_of0 sc o2 (2 : Int32) (m.1, tk_u2 m.2.1 (412 + (tk_n (m.1 274 16))) 0 (Int32.toInt64 (o4 - o5)), m.2.2.1, m.2.2.2) ho7) ?_
  refine tk_Ps  2 (pc' := 64) (ls' := [(6, .ref (412 + (tk_n (m.1 274 16)))), (5, .int o2), (4, .int o1), (0, .ref 274), (1, .int a1), (2, .int a2), (3, .int a3)]) (st' := [.long (Int32.toInt64 (o6 - o7)), .int (1 : Int32), .ref (412 + (tk_n (m.1 274 16)))]) rfl ?_
  refine tk_SJa  rfl rfl ((la411 _ (hg3).2).2) (by decide) ?_
  refine tk_Ps  5 (pc' := 71) (ls' := [(6, .ref (412 + (tk_n (m.1 274 16)))), (5, .int o2), (4, .int o1), (0, .ref 274), (1, .int a1), (2, .int a2), (3, .int a3)]) (st' := [.int a3, .int a1, .ref 274, .int (2 : Int32), .ref (412 + (tk_n (m.1 274 16)))]) rfl ?_
  refine tk_cV1  rfl rfl (r := 274) (as := [.int a1, .int a3]) (rest := [.int (2 : Int32), .ref (412 + (tk_n (m.1 274 16)))]) rfl ly274 rfl rfl (ok_fM_bit sc a1 a3 (m.1, tk_u2 (tk_u2 m.2.1 (412 + (tk_n (m.1 274 16))) 0 (Int32.toInt64 (o4 - o5))) (412 + (tk_n (m.1 274 16))) 1 (Int32.toInt64 (o6 - o7)), m.2.2.1, m.2.2.2)) ?_
  refine tk_Ps  3 (pc' := 78) (ls' := [(6, .ref (412 + (tk_n (m.1 274 16)))), (5, .int o2), (4, .int o1), (0, .ref 274), (1, .int a1), (2, .int a2), (3, .int a3)]) (st' := [.int (3 : Int32), .int o2, .ref 274, .int (fM_bit a1 a3), .int (2 : Int32), .ref (412 + (tk_n (m.1 274 16)))]) rfl ?_
  obtain ⟨o8, ho8, h⟩ := tk_bnd h
  refine tk_cV1  rfl rfl (r := 274) (as := [.int o2, .int (3 : Int32)]) (rest := [.int (fM_bit a1 a3), .int (2 : Int32), .ref (412 + (tk_n (m.1 274 16)))]) rfl ly274 rfl rfl (ok_fM_of0 sc o2 (3 : Int32) (m.1, tk_u2 (tk_u2 m.2.1 (412 + (tk_n (m.1 274 16))) 0 (Int32.toInt64 (o4 - o5))) (412 + (tk_n (m.1 274 16))) 1 (Int32.toInt64 (o6 - o7)), m.2.2.1, m.2.2.2) ho8) ?_
  refine tk_Ps  4 (pc' := 85) (ls' := [(6, .ref (412 + (tk_n (m.1 274 16)))), (5, .int o2), (4, .int o1), (0, .ref 274), (1, .int a1), (2, .int a2), (3, .int a3)]) (st' := [.int a2, .int a1, .ref 274, .int ((fM_bit a1 a3) * o8), .int (2 : Int32), .ref (412 + (tk_n (m.1 274 16)))]) rfl ?_
  refine tk_cV1  rfl rfl (r := 274) (as := [.int a1, .int a2]) (rest := [.int ((fM_bit a1 a3) * o8), .int (2 : Int32), .ref (412 + (tk_n (m.1 274 16)))]) rfl ly274 rfl rfl (ok_fM_bit sc a1 a2 (m.1, tk_u2 (tk_u2 m.2.1 (412 + (tk_n (m.1 274 16))) 0 (Int32.toInt64 (o4 - o5))) (412 + (tk_n (m.1 274 16))) 1 (Int32.toInt64 (o6 - o7)), m.2.2.1, m.2.2.2)) ?_
  refine tk_Ps  3 (pc' := 92) (ls' := [(6, .ref (412 + (tk_n (m.1 274 16)))), (5, .int o2), (4, .int o1), (0, .ref 274), (1, .int a1), (2, .int a2), (3, .int a3)]) (st' := [.int (3 : Int32), .int o1, .ref 274, .int (fM_bit a1 a2), .int ((fM_bit a1 a3) * o8), .int (2 : Int32), .ref (412 + (tk_n (m.1 274 16)))]) rfl ?_
  obtain ⟨o9, ho9, h⟩ := tk_bnd h
  refine tk_cV1  rfl rfl (r := 274) (as := [.int o1, .int (3 : Int32)]) (rest := [.int (fM_bit a1 a2), .int ((fM_bit a1 a3) * o8), .int (2 : Int32), .ref (412 + (tk_n (m.1 274 16)))]) rfl ly274 rfl rfl (ok_fM_of0 sc o1 (3 : Int32) (m.1, tk_u2 (tk_u2 m.2.1 (412 + (tk_n (m.1 274 16))) 0 (Int32.toInt64 (o4 - o5))) (412 + (tk_n (m.1 274 16))) 1 (Int32.toInt64 (o6 - o7)), m.2.2.1, m.2.2.2) ho9) ?_
  refine tk_Ps  3 (pc' := 98) (ls' := [(6, .ref (412 + (tk_n (m.1 274 16)))), (5, .int o2), (4, .int o1), (0, .ref 274), (1, .int a1), (2, .int a2), (3, .int a3)]) (st' := [.long (Int32.toInt64 (((fM_bit a1 a3) * o8) - ((fM_bit a1 a2) * o9))), .int (2 : Int32), .ref (412 + (tk_n (m.1 274 16)))]) rfl ?_
  refine tk_SJa  rfl rfl ((la411 _ (hg3).2).2) (by decide) ?_
  refine tk_Ps  5 (pc' := 106) (ls' := [(6, .ref (412 + (tk_n (m.1 274 16)))), (5, .int o2), (4, .int o1), (0, .ref 274), (1, .int a1), (2, .int a2), (3, .int a3)]) (st' := [.int (3 : Int32), .int o1, .ref 274, .int (3 : Int32), .ref (412 + (tk_n (m.1 274 16)))]) rfl ?_
  obtain ⟨o10, ho10, h⟩ := tk_bnd h
  refine tk_cV1  rfl rfl (r := 274) (as := [.int o1, .int (3 : Int32)]) (rest := [.int (3 : Int32), .ref (412 + (tk_n (m.1 274 16)))]) rfl ly274 rfl rfl (ok_fM_form sc o1 (3 : Int32) (m.1, tk_u2 (tk_u2 (tk_u2 m.2.1 (412 + (tk_n (m.1 274 16))) 0 (Int32.toInt64 (o4 - o5))) (412 + (tk_n (m.1 274 16))) 1 (Int32.toInt64 (o6 - o7))) (412 + (tk_n (m.1 274 16))) 2 (Int32.toInt64 (((fM_bit a1 a3) * o8) - ((fM_bit a1 a2) * o9))), m.2.2.1, m.2.2.2) ho10) ?_
  refine tk_Ps  3 (pc' := 113) (ls' := [(6, .ref (412 + (tk_n (m.1 274 16)))), (5, .int o2), (4, .int o1), (0, .ref 274), (1, .int a1), (2, .int a2), (3, .int a3)]) (st' := [.int (3 : Int32), .int o2, .ref 274, .int o10, .int (3 : Int32), .ref (412 + (tk_n (m.1 274 16)))]) rfl ?_
  obtain ⟨o11, ho11, h⟩ := tk_bnd h
  refine tk_cV1  rfl rfl (r := 274) (as := [.int o2, .int (3 : Int32)]) (rest := [.int o10, .int (3 : Int32), .ref (412 + (tk_n (m.1 274 16)))]) rfl ly274 rfl rfl (ok_fM_form sc o2 (3 : Int32) (m.1, tk_u2 (tk_u2 (tk_u2 m.2.1 (412 + (tk_n (m.1 274 16))) 0 (Int32.toInt64 (o4 - o5))) (412 + (tk_n (m.1 274 16))) 1 (Int32.toInt64 (o6 - o7))) (412 + (tk_n (m.1 274 16))) 2 (Int32.toInt64 (((fM_bit a1 a3) * o8) - ((fM_bit a1 a2) * o9))), m.2.2.1, m.2.2.2) ho11) ?_
  refine tk_Ps  2 (pc' := 118) (ls' := [(6, .ref (412 + (tk_n (m.1 274 16)))), (5, .int o2), (4, .int o1), (0, .ref 274), (1, .int a1), (2, .int a2), (3, .int a3)]) (st' := [.long (Int32.toInt64 (o10 - o11)), .int (3 : Int32), .ref (412 + (tk_n (m.1 274 16)))]) rfl ?_
  refine tk_SJa  rfl rfl ((la411 _ (hg3).2).2) (by decide) ?_
  refine tk_Ps  2 (pc' := 121) (ls' := [(6, .ref (412 + (tk_n (m.1 274 16)))), (5, .int o2), (4, .int o1), (0, .ref 274), (1, .int a1), (2, .int a2), (3, .int a3)]) (st' := [.ref 274, .ref 274]) rfl ?_
  refine tk_HI  rfl rfl ly274 ?_
  refine tk_Ps  2 (pc' := 126) (ls' := [(6, .ref (412 + (tk_n (m.1 274 16)))), (5, .int o2), (4, .int o1), (0, .ref 274), (1, .int a1), (2, .int a2), (3, .int a3)]) (st' := [.int ((m.1 274 16) + (1 : Int32)), .ref 274]) rfl ?_
  refine tk_SI  rfl rfl ly274 ?_
  replace h := Option.some.inj h
  subst h
  exact tk_RV  rfl rfl rfl
theorem ok_fM_crosses_2 (sc : tk_X) : ∀ (n : Nat) (v0 : Nat) (v1 : Nat) (v2 : Nat) (v3 : Int32) (m : tk_m) (hv0 : tk_lay[v0]? = some (.inr (1, tk_al v0))) (hv1 : tk_lay[v1]? = some (.inr (1, tk_al v1))) (hv2 : tk_lay[v2]? = some (.inr (1, tk_al v2))) (out : tk_m), fM_crosses_2 n v0 v1 v2 v3 m = some out → tk_Ex sc 0 tk_r221 tk_k221 2 [(0, .ref v0), (1, .ref v1), (2, .ref v2), (3, .int v3)] [] (tk_full m) (none, tk_full out) := by
  intro n
  induction n with
  | zero =>
    intro v0 v1 v2 v3 m hv0 hv1 hv2 out h
    cases h
  | succ n ih =>
    intro v0 v1 v2 v3 m hv0 hv1 hv2 out h
    unfold fM_crosses_2 at h
    refine tk_Ps  2 (pc' := 4) (ls' := [(0, .ref v0), (1, .ref v1), (2, .ref v2), (3, .int v3)]) (st' := [.int (3 : Int32), .int v3]) rfl ?_
    by_cases hc1 : (3 : Int32) ≤ v3
    · replace h := tk_ifT hc1 h
      refine tk_bT  rfl rfl rfl (c := (3 : Int32) ≤ v3) hc1 (pc' := 47) (ls' := [(0, .ref v0), (1, .ref v1), (2, .ref v2), (3, .int v3)]) (st' := []) ?_
      replace h := Option.some.inj h
      subst h
      exact tk_RV  rfl rfl rfl
    · replace h := tk_ifF hc1 h
      refine tk_bF  rfl rfl rfl (c := (3 : Int32) ≤ v3) hc1 (pc' := 7) (ls' := [(0, .ref v0), (1, .ref v1), (2, .ref v2), (3, .int v3)]) (st' := []) ?_
      refine tk_Ps  8 (pc' := 15) (ls' := [(0, .ref v0), (1, .ref v1), (2, .ref v2), (3, .int v3)]) (st' := [.int (tk_irem (v3 + (1 : Int32)) (3 : Int32)), .ref v0, .int v3, .ref v2]) rfl ?_
      obtain ⟨hg2, h⟩ := tk_grd h
      refine tk_HJa  rfl rfl hv0 hg2 ?_
      refine tk_Ps  6 (pc' := 22) (ls' := [(0, .ref v0), (1, .ref v1), (2, .ref v2), (3, .int v3)]) (st' := [.int (tk_irem (v3 + (2 : Int32)) (3 : Int32)), .ref v1, .long (m.2.1 v0 (tk_n (tk_irem (v3 + (1 : Int32)) (3 : Int32)))), .int v3, .ref v2]) rfl ?_
      obtain ⟨hg3, h⟩ := tk_grd h
      refine tk_HJa  rfl rfl hv1 hg3 ?_
      refine tk_Ps  7 (pc' := 30) (ls' := [(0, .ref v0), (1, .ref v1), (2, .ref v2), (3, .int v3)]) (st' := [.int (tk_irem (v3 + (2 : Int32)) (3 : Int32)), .ref v0, .long ((m.2.1 v0 (tk_n (tk_irem (v3 + (1 : Int32)) (3 : Int32)))) * (m.2.1 v1 (tk_n (tk_irem (v3 + (2 : Int32)) (3 : Int32))))), .int v3, .ref v2]) rfl ?_
      obtain ⟨hg4, h⟩ := tk_grd h
      refine tk_HJa  rfl rfl hv0 hg4 ?_
      refine tk_Ps  6 (pc' := 37) (ls' := [(0, .ref v0), (1, .ref v1), (2, .ref v2), (3, .int v3)]) (st' := [.int (tk_irem (v3 + (1 : Int32)) (3 : Int32)), .ref v1, .long (m.2.1 v0 (tk_n (tk_irem (v3 + (2 : Int32)) (3 : Int32)))), .long ((m.2.1 v0 (tk_n (tk_irem (v3 + (1 : Int32)) (3 : Int32)))) * (m.2.1 v1 (tk_n (tk_irem (v3 + (2 : Int32)) (3 : Int32))))), .int v3, .ref v2]) rfl ?_
      obtain ⟨hg5, h⟩ := tk_grd h
      refine tk_HJa  rfl rfl hv1 hg5 ?_
      refine tk_Ps  2 (pc' := 40) (ls' := [(0, .ref v0), (1, .ref v1), (2, .ref v2), (3, .int v3)]) (st' := [.long (((m.2.1 v0 (tk_n (tk_irem (v3 + (1 : Int32)) (3 : Int32)))) * (m.2.1 v1 (tk_n (tk_irem (v3 + (2 : Int32)) (3 : Int32))))) - ((m.2.1 v0 (tk_n (tk_irem (v3 + (2 : Int32)) (3 : Int32)))) * (m.2.1 v1 (tk_n (tk_irem (v3 + (1 : Int32)) (3 : Int32)))))), .int v3, .ref v2]) rfl ?_
      obtain ⟨hg6, h⟩ := tk_grd h
      refine tk_SJa  rfl rfl hv2 hg6 ?_
      refine tk_Ps  2 (pc' := 2) (ls' := [(3, .int (v3 + (1 : Int32))), (0, .ref v0), (1, .ref v1), (2, .ref v2)]) (st' := []) rfl ?_
      refine tk_Kp  (ls' := [(0, .ref v0), (1, .ref v1), (2, .ref v2), (3, .int (v3 + (1 : Int32)))]) rfl rfl ?_
      exact ih v0 v1 v2 (v3 + (1 : Int32)) (m.1, tk_u2 m.2.1 v2 (tk_n v3) (((m.2.1 v0 (tk_n (tk_irem (v3 + (1 : Int32)) (3 : Int32)))) * (m.2.1 v1 (tk_n (tk_irem (v3 + (2 : Int32)) (3 : Int32))))) - ((m.2.1 v0 (tk_n (tk_irem (v3 + (2 : Int32)) (3 : Int32)))) * (m.2.1 v1 (tk_n (tk_irem (v3 + (1 : Int32)) (3 : Int32)))))), m.2.2.1, m.2.2.2) (tk_al_of hv0) (tk_al_of hv1) (tk_al_of hv2) _ h
theorem ok_fM_crosses (sc : tk_X) (a1 : Nat) (a2 : Nat) (a3 : Nat) (m : tk_m) (ha1 : tk_lay[a1]? = some (.inr (1, tk_al a1))) (ha2 : tk_lay[a2]? = some (.inr (1, tk_al a2))) (ha3 : tk_lay[a3]? = some (.inr (1, tk_al a3))) {out : tk_m} (h : fM_crosses a1 a2 a3 m = some out) : tk_Ru sc 1 221 [.ref a1, .ref a2, .ref a3] (tk_full m) (none, tk_full out) := by
  unfold fM_crosses at h
  refine tk_Ru0 me221 (ls := [(0, .ref a1), (1, .ref a2), (2, .ref a3)]) rfl rfl ?_
  refine tk_Ps  2 (pc' := 2) (ls' := [(3, .int (0 : Int32)), (0, .ref a1), (1, .ref a2), (2, .ref a3)]) (st' := []) rfl ?_
  refine tk_Kp  (ls' := [(0, .ref a1), (1, .ref a2), (2, .ref a3), (3, .int (0 : Int32))]) rfl rfl ?_
  exact ok_fM_crosses_2 sc tk_F a1 a2 a3 (0 : Int32) m (tk_al_of ha1) (tk_al_of ha2) (tk_al_of ha3) _ h
theorem ok_fM_below_28 (sc : tk_X) : ∀ (n : Nat) (v4 : Int64) (v6 : Int64) (m : tk_m) (out : Int64), fM_below_28 n v4 v6 = some out → tk_Ex sc 0 tk_r223 tk_k223 28 [(4, .long v4), (6, .long v6)] [] (tk_full m) (some (.long out), tk_full m) := by
  intro n
  induction n with
  | zero =>
    intro v4 v6 m out h
    cases h
  | succ n ih =>
    intro v4 v6 m out h
    unfold fM_below_28 at h
    refine tk_Ps  3 (pc' := 32) (ls' := [(4, .long v4), (6, .long v6)]) (st' := [.int (lg_cmp v6 (0 : Int64))]) rfl ?_
    by_cases hc1 : v6 = (0 : Int64)
    · replace h := tk_ifT hc1 h
      refine tk_bT  rfl rfl tk_eL_eq (c := v6 = (0 : Int64)) hc1 (pc' := 53) (ls' := [(4, .long v4), (6, .long v6)]) (st' := []) ?_
      refine tk_Ps  1 (pc' := 55) (ls' := [(4, .long v4), (6, .long v6)]) (st' := [.long v4]) rfl ?_
      replace h := Option.some.inj h
      subst h
      exact tk_RJ  rfl rfl rfl
    · replace h := tk_ifF hc1 h
      refine tk_bF  rfl rfl tk_eL_eq (c := v6 = (0 : Int64)) hc1 (pc' := 35) (ls' := [(4, .long v4), (6, .long v6)]) (st' := []) ?_
      refine tk_Ps  2 (pc' := 39) (ls' := [(4, .long v4), (6, .long v6)]) (st' := [.long v6, .long v4]) rfl ?_
      obtain ⟨hz2, h⟩ := tk_grn h
      refine tk_lremR  rfl rfl hz2 ?_
      refine tk_Ps  6 (pc' := 28) (ls' := [(6, .long (tk_lrem v4 v6)), (4, .long v6), (8, .long (tk_lrem v4 v6))]) (st' := []) rfl ?_
      refine tk_Kp  (ls' := [(4, .long v6), (6, .long (tk_lrem v4 v6))]) rfl rfl ?_
      exact ih v6 (tk_lrem v4 v6) m _ h
theorem ok_fM_below (sc : tk_X) (a1 : Int64) (a2 : Int64) (m : tk_m) {out : Int64} (h : fM_below a1 a2 = some out) : tk_Ru sc 1 223 [.long a1, .long a2] (tk_full m) (some (.long out), tk_full m) := by
  unfold fM_below at h
  refine tk_Ru0 me223 (ls := [(0, .long a1), (2, .long a2)]) rfl rfl ?_
  refine tk_Ps  3 (pc' := 3) (ls' := [(0, .long a1), (2, .long a2)]) (st' := [.int (lg_cmp a1 (0 : Int64))]) rfl ?_
  by_cases hc1 : (0 : Int64) ≤ a1
  · replace h := tk_ifT hc1 h
    refine tk_bT  rfl rfl tk_eL_ge (c := (0 : Int64) ≤ a1) hc1 (pc' := 10) (ls' := [(0, .long a1), (2, .long a2)]) (st' := []) ?_
    refine tk_Ps  6 (pc' := 17) (ls' := [(4, .long (-a1)), (0, .long a1), (2, .long a2)]) (st' := [.int (lg_cmp a2 (0 : Int64))]) rfl ?_
    by_cases hc2 : (0 : Int64) ≤ a2
    · replace h := tk_ifT hc2 h
      refine tk_bT  rfl rfl tk_eL_ge (c := (0 : Int64) ≤ a2) hc2 (pc' := 24) (ls' := [(4, .long (-a1)), (0, .long a1), (2, .long a2)]) (st' := []) ?_
      refine tk_Ps  3 (pc' := 28) (ls' := [(6, .long (-a2)), (4, .long (-a1)), (0, .long a1), (2, .long a2)]) (st' := []) rfl ?_
      refine tk_Kp  (ls' := [(4, .long (-a1)), (6, .long (-a2))]) rfl rfl ?_
      exact ok_fM_below_28 sc tk_F (-a1) (-a2) m _ h
    · replace h := tk_ifF hc2 h
      refine tk_bF  rfl rfl tk_eL_ge (c := (0 : Int64) ≤ a2) hc2 (pc' := 20) (ls' := [(4, .long (-a1)), (0, .long a1), (2, .long a2)]) (st' := []) ?_
      refine tk_Ps  3 (pc' := 28) (ls' := [(6, .long a2), (4, .long (-a1)), (0, .long a1), (2, .long a2)]) (st' := []) rfl ?_
      refine tk_Kp  (ls' := [(4, .long (-a1)), (6, .long a2)]) rfl rfl ?_
      exact ok_fM_below_28 sc tk_F (-a1) a2 m _ h
  · replace h := tk_ifF hc1 h
    refine tk_bF  rfl rfl tk_eL_ge (c := (0 : Int64) ≤ a1) hc1 (pc' := 6) (ls' := [(0, .long a1), (2, .long a2)]) (st' := []) ?_
    refine tk_Ps  6 (pc' := 17) (ls' := [(4, .long a1), (0, .long a1), (2, .long a2)]) (st' := [.int (lg_cmp a2 (0 : Int64))]) rfl ?_
    by_cases hc3 : (0 : Int64) ≤ a2
    · replace h := tk_ifT hc3 h
      refine tk_bT  rfl rfl tk_eL_ge (c := (0 : Int64) ≤ a2) hc3 (pc' := 24) (ls' := [(4, .long a1), (0, .long a1), (2, .long a2)]) (st' := []) ?_
      refine tk_Ps  3 (pc' := 28) (ls' := [(6, .long (-a2)), (4, .long a1), (0, .long a1), (2, .long a2)]) (st' := []) rfl ?_
      refine tk_Kp  (ls' := [(4, .long a1), (6, .long (-a2))]) rfl rfl ?_
      exact ok_fM_below_28 sc tk_F a1 (-a2) m _ h
    · replace h := tk_ifF hc3 h
      refine tk_bF  rfl rfl tk_eL_ge (c := (0 : Int64) ≤ a2) hc3 (pc' := 20) (ls' := [(4, .long a1), (0, .long a1), (2, .long a2)]) (st' := []) ?_
      refine tk_Ps  3 (pc' := 28) (ls' := [(6, .long a2), (4, .long a1), (0, .long a1), (2, .long a2)]) (st' := []) rfl ?_
      refine tk_Kp  (ls' := [(4, .long a1), (6, .long a2)]) rfl rfl ?_
      exact ok_fM_below_28 sc tk_F a1 a2 m _ h
theorem ok_fM_by (sc : tk_X) (a1 : Int64) (a2 : Int64) (m : tk_m) {out : Int64 × tk_m} (h : fM_by a1 a2 m = some out) : tk_Ru sc 1 225 [.ref 274, .long a1, .long a2] (tk_full m) (some (.long out.1), tk_full out.2) := by
  unfold fM_by at h
  refine tk_Ru0 me225 (ls := [(0, .ref 274), (1, .long a1), (3, .long a2)]) rfl rfl ?_
  refine tk_Ps  2 (pc' := 2) (ls' := [(0, .ref 274), (1, .long a1), (3, .long a2)]) (st' := [.ref 274, .ref 274]) rfl ?_
  refine tk_HB  rfl rfl ly274 ?_
  refine tk_Ps  3 (pc' := 10) (ls' := [(0, .ref 274), (1, .long a1), (3, .long a2)]) (st' := [.int (lg_cmp a1 (-9223372036854775808 : Int64)), .int (tk_b (m.2.2.1 274 4)), .ref 274]) rfl ?_
  by_cases hc1 : a1 = (-9223372036854775808 : Int64)
  · replace h := tk_ifT hc1 h
    refine tk_bT  rfl rfl tk_eL_ne (c := a1 = (-9223372036854775808 : Int64)) hc1 (pc' := 13) (ls' := [(0, .ref 274), (1, .long a1), (3, .long a2)]) (st' := [.int (tk_b (m.2.2.1 274 4)), .ref 274]) ?_
    refine tk_Ps  3 (pc' := 18) (ls' := [(0, .ref 274), (1, .long a1), (3, .long a2)]) (st' := [.int (lg_cmp a2 (-1 : Int64)), .int (tk_b (m.2.2.1 274 4)), .ref 274]) rfl ?_
    by_cases hc2 : a2 = (-1 : Int64)
    · replace h := tk_ifT hc2 h
      refine tk_bT  rfl rfl tk_eL_ne (c := a2 = (-1 : Int64)) hc2 (pc' := 21) (ls' := [(0, .ref 274), (1, .long a1), (3, .long a2)]) (st' := [.int (tk_b (m.2.2.1 274 4)), .ref 274]) ?_
      refine tk_Ps  2 (pc' := 26) (ls' := [(0, .ref 274), (1, .long a1), (3, .long a2)]) (st' := [.int (1 : Int32), .int (tk_b (m.2.2.1 274 4)), .ref 274]) rfl ?_
      refine tk_iorB  rfl rfl (b := (m.2.2.1 274 4)) (b2 := true) ?_
      refine tk_SB (b := (m.2.2.1 274 4) || true)  rfl rfl ly274 ?_
      refine tk_Ps  2 (pc' := 32) (ls' := [(0, .ref 274), (1, .long a1), (3, .long a2)]) (st' := [.long a2, .long a1]) rfl ?_
      obtain ⟨hz3, h⟩ := tk_grn h
      refine tk_ldiv  rfl rfl hz3 ?_
      replace h := Option.some.inj h
      subst h
      exact tk_RJ  rfl rfl rfl
    · replace h := tk_ifF hc2 h
      refine tk_bF  rfl rfl tk_eL_ne (c := a2 = (-1 : Int64)) hc2 (pc' := 25) (ls' := [(0, .ref 274), (1, .long a1), (3, .long a2)]) (st' := [.int (tk_b (m.2.2.1 274 4)), .ref 274]) ?_
      refine tk_Ps  1 (pc' := 26) (ls' := [(0, .ref 274), (1, .long a1), (3, .long a2)]) (st' := [.int (0 : Int32), .int (tk_b (m.2.2.1 274 4)), .ref 274]) rfl ?_
      refine tk_iorB  rfl rfl (b := (m.2.2.1 274 4)) (b2 := false) ?_
      refine tk_SB (b := (m.2.2.1 274 4) || false)  rfl rfl ly274 ?_
      refine tk_Ps  2 (pc' := 32) (ls' := [(0, .ref 274), (1, .long a1), (3, .long a2)]) (st' := [.long a2, .long a1]) rfl ?_
      obtain ⟨hz4, h⟩ := tk_grn h
      refine tk_ldiv  rfl rfl hz4 ?_
      replace h := Option.some.inj h
      subst h
      exact tk_RJ  rfl rfl rfl
  · replace h := tk_ifF hc1 h
    refine tk_bF  rfl rfl tk_eL_ne (c := a1 = (-9223372036854775808 : Int64)) hc1 (pc' := 25) (ls' := [(0, .ref 274), (1, .long a1), (3, .long a2)]) (st' := [.int (tk_b (m.2.2.1 274 4)), .ref 274]) ?_
    refine tk_Ps  1 (pc' := 26) (ls' := [(0, .ref 274), (1, .long a1), (3, .long a2)]) (st' := [.int (0 : Int32), .int (tk_b (m.2.2.1 274 4)), .ref 274]) rfl ?_
    refine tk_iorB  rfl rfl (b := (m.2.2.1 274 4)) (b2 := false) ?_
    refine tk_SB (b := (m.2.2.1 274 4) || false)  rfl rfl ly274 ?_
    refine tk_Ps  2 (pc' := 32) (ls' := [(0, .ref 274), (1, .long a1), (3, .long a2)]) (st' := [.long a2, .long a1]) rfl ?_
    obtain ⟨hz5, h⟩ := tk_grn h
    refine tk_ldiv  rfl rfl hz5 ?_
    replace h := Option.some.inj h
    subst h
    exact tk_RJ  rfl rfl rfl
theorem ok_fM_lowest_24 (sc : tk_X) (v1 : Int64) (v3 : Int64) (v5 : Int64) (v7 : Int64) (v9 : Nat) (v10 : Int64) (m : tk_m) (hv9 : tk_lay[v9]? = some (.inr (1, tk_al v9))) (out : tk_m) (h : fM_lowest_24 v1 v3 v5 v7 v9 v10 m = some out) : tk_Ex sc 1 tk_r224 tk_k224 24 [(0, .ref 274), (1, .long v1), (3, .long v3), (5, .long v5), (7, .long v7), (9, .ref v9), (10, .long v10)] [] (tk_full m) (none, tk_full out) := by
  unfold fM_lowest_24 at h
  refine tk_Ps  5 (pc' := 31) (ls' := [(0, .ref 274), (1, .long v1), (3, .long v3), (5, .long v5), (7, .long v7), (9, .ref v9), (10, .long v10)]) (st' := [.long v10, .long v1, .ref 274, .int (0 : Int32), .ref v9]) rfl ?_
  obtain ⟨o1, ho1, h⟩ := tk_bnd h
  refine tk_cV1  rfl rfl (r := 274) (as := [.long v1, .long v10]) (rest := [.int (0 : Int32), .ref v9]) rfl ly274 rfl rfl (ok_fM_by sc v1 v10 m ho1) ?_
  obtain ⟨hg2, h⟩ := tk_grd h
  refine tk_SJa  rfl rfl hv9 hg2 ?_
  refine tk_Ps  5 (pc' := 42) (ls' := [(0, .ref 274), (1, .long v1), (3, .long v3), (5, .long v5), (7, .long v7), (9, .ref v9), (10, .long v10)]) (st' := [.long v10, .long v3, .ref 274, .int (1 : Int32), .ref v9]) rfl ?_
  obtain ⟨o3, ho3, h⟩ := tk_bnd h
  refine tk_cV1  rfl rfl (r := 274) (as := [.long v3, .long v10]) (rest := [.int (1 : Int32), .ref v9]) rfl ly274 rfl rfl (ok_fM_by sc v3 v10 (o1.2.1, tk_u2 o1.2.2.1 v9 (tk_n (0 : Int32)) o1.1, o1.2.2.2.1, o1.2.2.2.2) ho3) ?_
  obtain ⟨hg4, h⟩ := tk_grd h
  refine tk_SJa  rfl rfl hv9 hg4 ?_
  refine tk_Ps  5 (pc' := 52) (ls' := [(0, .ref 274), (1, .long v1), (3, .long v3), (5, .long v5), (7, .long v7), (9, .ref v9), (10, .long v10)]) (st' := [.int (lg_cmp v3 (0 : Int64)), .int (2 : Int32), .ref v9]) rfl ?_
  by_cases hc5 : v3 = (0 : Int64)
  · replace h := tk_ifT hc5 h
    refine tk_bT  rfl rfl tk_eL_ne (c := v3 = (0 : Int64)) hc5 (pc' := 55) (ls' := [(0, .ref 274), (1, .long v1), (3, .long v3), (5, .long v5), (7, .long v7), (9, .ref v9), (10, .long v10)]) (st' := [.int (2 : Int32), .ref v9]) ?_
    refine tk_Ps  2 (pc' := 61) (ls' := [(0, .ref 274), (1, .long v1), (3, .long v3), (5, .long v5), (7, .long v7), (9, .ref v9), (10, .long v10)]) (st' := [.long (0 : Int64), .int (2 : Int32), .ref v9]) rfl ?_
    obtain ⟨hg6, h⟩ := tk_grd h
    refine tk_SJa  rfl rfl hv9 hg6 ?_
    refine tk_Ps  5 (pc' := 70) (ls' := [(0, .ref 274), (1, .long v1), (3, .long v3), (5, .long v5), (7, .long v7), (9, .ref v9), (10, .long v10)]) (st' := [.long v10, .long v7, .ref 274, .int (3 : Int32), .ref v9]) rfl ?_
    obtain ⟨o7, ho7, h⟩ := tk_bnd h
    refine tk_cV1  rfl rfl (r := 274) (as := [.long v7, .long v10]) (rest := [.int (3 : Int32), .ref v9]) rfl ly274 rfl rfl (ok_fM_by sc v7 v10 (o3.2.1, tk_u2 (tk_u2 o3.2.2.1 v9 (tk_n (1 : Int32)) o3.1) v9 (tk_n (2 : Int32)) (0 : Int64), o3.2.2.2.1, o3.2.2.2.2) ho7) ?_
    obtain ⟨hg8, h⟩ := tk_grd h
    refine tk_SJa  rfl rfl hv9 hg8 ?_
    replace h := Option.some.inj h
    subst h
    exact tk_RV  rfl rfl rfl
  · replace h := tk_ifF hc5 h
    refine tk_bF  rfl rfl tk_eL_ne (c := v3 = (0 : Int64)) hc5 (pc' := 59) (ls' := [(0, .ref 274), (1, .long v1), (3, .long v3), (5, .long v5), (7, .long v7), (9, .ref v9), (10, .long v10)]) (st' := [.int (2 : Int32), .ref v9]) ?_
    refine tk_Ps  1 (pc' := 61) (ls' := [(0, .ref 274), (1, .long v1), (3, .long v3), (5, .long v5), (7, .long v7), (9, .ref v9), (10, .long v10)]) (st' := [.long v5, .int (2 : Int32), .ref v9]) rfl ?_
    obtain ⟨hg9, h⟩ := tk_grd h
    refine tk_SJa  rfl rfl hv9 hg9 ?_
    refine tk_Ps  5 (pc' := 70) (ls' := [(0, .ref 274), (1, .long v1), (3, .long v3), (5, .long v5), (7, .long v7), (9, .ref v9), (10, .long v10)]) (st' := [.long v10, .long v7, .ref 274, .int (3 : Int32), .ref v9]) rfl ?_
    obtain ⟨o10, ho10, h⟩ := tk_bnd h
    refine tk_cV1  rfl rfl (r := 274) (as := [.long v7, .long v10]) (rest := [.int (3 : Int32), .ref v9]) rfl ly274 rfl rfl (ok_fM_by sc v7 v10 (o3.2.1, tk_u2 (tk_u2 o3.2.2.1 v9 (tk_n (1 : Int32)) o3.1) v9 (tk_n (2 : Int32)) v5, o3.2.2.2.1, o3.2.2.2.2) ho10) ?_
    obtain ⟨hg11, h⟩ := tk_grd h
    refine tk_SJa  rfl rfl hv9 hg11 ?_
    replace h := Option.some.inj h
    subst h
    exact tk_RV  rfl rfl rfl
theorem ok_fM_lowest (sc : tk_X) (a1 : Int64) (a2 : Int64) (a3 : Int64) (a4 : Int64) (a5 : Nat) (m : tk_m) (ha5 : tk_lay[a5]? = some (.inr (1, tk_al a5))) {out : tk_m} (h : fM_lowest a1 a2 a3 a4 a5 m = some out) : tk_Ru sc 2 224 [.ref 274, .long a1, .long a2, .long a3, .long a4, .ref a5] (tk_full m) (none, tk_full out) := by
  unfold fM_lowest at h
  refine tk_Ru0 me224 (ls := [(0, .ref 274), (1, .long a1), (3, .long a2), (5, .long a3), (7, .long a4), (9, .ref a5)]) rfl rfl ?_
  refine tk_Ps  2 (pc' := 2) (ls' := [(0, .ref 274), (1, .long a1), (3, .long a2), (5, .long a3), (7, .long a4), (9, .ref a5)]) (st' := [.long a2, .long a1]) rfl ?_
  obtain ⟨o1, ho1, h⟩ := tk_bnd h
  refine tk_cS1  rfl rfl (as := [.long a1, .long a2]) (rest := []) rfl rfl rfl (ok_fM_below sc a1 a2 m ho1) ?_
  refine tk_Ps  1 (pc' := 7) (ls' := [(0, .ref 274), (1, .long a1), (3, .long a2), (5, .long a3), (7, .long a4), (9, .ref a5)]) (st' := [.long a4, .long o1]) rfl ?_
  obtain ⟨o2, ho2, h⟩ := tk_bnd h
  refine tk_cS1  rfl rfl (as := [.long o1, .long a4]) (rest := []) rfl rfl rfl (ok_fM_below sc o1 a4 m ho2) ?_
  refine tk_Ps  4 (pc' := 16) (ls' := [(10, .long o2), (0, .ref 274), (1, .long a1), (3, .long a2), (5, .long a3), (7, .long a4), (9, .ref a5)]) (st' := [.int (lg_cmp a4 (0 : Int64))]) rfl ?_
  by_cases hc3 : a4 ≤ (0 : Int64)
  · replace h := tk_ifT hc3 h
    refine tk_bT  rfl rfl tk_eL_le (c := a4 ≤ (0 : Int64)) hc3 (pc' := 24) (ls' := [(10, .long o2), (0, .ref 274), (1, .long a1), (3, .long a2), (5, .long a3), (7, .long a4), (9, .ref a5)]) (st' := []) ?_
    refine tk_Kp  (ls' := [(0, .ref 274), (1, .long a1), (3, .long a2), (5, .long a3), (7, .long a4), (9, .ref a5), (10, .long o2)]) rfl rfl ?_
    exact ok_fM_lowest_24 sc a1 a2 a3 a4 a5 o2 m (tk_al_of ha5) _ h
  · replace h := tk_ifF hc3 h
    refine tk_bF  rfl rfl tk_eL_le (c := a4 ≤ (0 : Int64)) hc3 (pc' := 19) (ls' := [(10, .long o2), (0, .ref 274), (1, .long a1), (3, .long a2), (5, .long a3), (7, .long a4), (9, .ref a5)]) (st' := []) ?_
    refine tk_Ps  3 (pc' := 24) (ls' := [(10, .long (-o2)), (0, .ref 274), (1, .long a1), (3, .long a2), (5, .long a3), (7, .long a4), (9, .ref a5)]) (st' := []) rfl ?_
    refine tk_Kp  (ls' := [(0, .ref 274), (1, .long a1), (3, .long a2), (5, .long a3), (7, .long a4), (9, .ref a5), (10, .long (-o2))]) rfl rfl ?_
    exact ok_fM_lowest_24 sc a1 a2 a3 a4 a5 (-o2) m (tk_al_of ha5) _ h
theorem ok_fZ_signum_J (sc : tk_X) (a1 : Int64) (m : tk_m) : tk_Ru sc 1 227 [.long a1] (tk_full m) (some (.int (fZ_signum_J a1)), tk_full m) := by
  obtain ⟨out, h⟩ : ∃ out, fZ_signum_J a1 = out := ⟨_, rfl⟩
  rw [h]
  unfold fZ_signum_J at h
  refine tk_Ru0 me227 (ls := [(0, .long a1)]) rfl rfl ?_
  refine tk_Ps  9 (pc' := 11) (ls' := [(0, .long a1)]) (st' := [.int (Int64.toInt32 ((tk_lshr a1 (63 : Int32)) ||| (tk_lushr (-a1) (63 : Int32))))]) rfl ?_
  subst h
  exact tk_RI  rfl rfl rfl
theorem ok_fM_widens_31 (sc : tk_X) : ∀ (n : Nat) (v3 : Int32) (v4 : Int64) (v6 : Int32) (m : tk_m) (out : Int32 × tk_m), fM_widens_31 n v3 v4 v6 m = some out → tk_Ex sc 1 tk_r226 tk_k226 31 [(0, .ref 274), (3, .int v3), (4, .long v4), (6, .int v6)] [] (tk_full m) (some (.int out.1), tk_full out.2) := by
  intro n
  induction n with
  | zero =>
    intro v3 v4 v6 m out h
    cases h
  | succ n ih =>
    intro v3 v4 v6 m out h
    unfold fM_widens_31 at h
    refine tk_Ps  2 (pc' := 35) (ls' := [(0, .ref 274), (3, .int v3), (4, .long v4), (6, .int v6)]) (st' := [.int (60 : Int32), .int v6]) rfl ?_
    by_cases hc1 : (60 : Int32) ≤ v6
    · replace h := tk_ifT hc1 h
      refine tk_bT  rfl rfl rfl (c := (60 : Int32) ≤ v6) hc1 (pc' := 71) (ls' := [(0, .ref 274), (3, .int v3), (4, .long v4), (6, .int v6)]) (st' := []) ?_
      refine tk_Ps  1 (pc' := 72) (ls' := [(0, .ref 274), (3, .int v3), (4, .long v4), (6, .int v6)]) (st' := [.int v3]) rfl ?_
      replace h := Option.some.inj h
      subst h
      exact tk_RI  rfl rfl rfl
    · replace h := tk_ifF hc1 h
      refine tk_bF  rfl rfl rfl (c := (60 : Int32) ≤ v6) hc1 (pc' := 38) (ls' := [(0, .ref 274), (3, .int v3), (4, .long v4), (6, .int v6)]) (st' := []) ?_
      refine tk_Ps  1 (pc' := 39) (ls' := [(0, .ref 274), (3, .int v3), (4, .long v4), (6, .int v6)]) (st' := [.ref 274]) rfl ?_
      refine tk_HR  rfl rfl ly274 rt274_7 ?_
      refine tk_Ps  1 (pc' := 43) (ls' := [(0, .ref 274), (3, .int v3), (4, .long v4), (6, .int v6)]) (st' := [.int v3, .ref 286]) rfl ?_
      obtain ⟨hg2, h⟩ := tk_grd h
      refine tk_HQ  rfl rfl ly286 hg2 (la286 _ (hg2).2).1 ?_
      refine tk_Ps  4 (pc' := 52) (ls' := [(0, .ref 274), (3, .int v3), (4, .long v4), (6, .int v6)]) (st' := [.long (tk_lrem v4 (10000 : Int64)), .int v6, .ref (287 + (tk_n v3))]) rfl ?_
      refine tk_cS1  rfl rfl (as := [.long (tk_lrem v4 (10000 : Int64))]) (rest := [.int v6, .ref (287 + (tk_n v3))]) rfl rfl rfl (ok_fZ_abs_J sc (tk_lrem v4 (10000 : Int64)) m) ?_
      refine tk_Ps  1 (pc' := 56) (ls' := [(0, .ref 274), (3, .int v3), (4, .long v4), (6, .int v6)]) (st' := [.int (Int64.toInt32 (fZ_abs_J (tk_lrem v4 (10000 : Int64)))), .int v6, .ref (287 + (tk_n v3))]) rfl ?_
      obtain ⟨hg3, h⟩ := tk_grd h
      refine tk_SIa  rfl rfl ((la286 _ (hg2).2).2) hg3 ?_
      refine tk_Ps  6 (pc' := 31) (ls' := [(6, .int (v6 + (1 : Int32))), (4, .long (v4 / (10000 : Int64))), (0, .ref 274), (3, .int v3)]) (st' := []) rfl ?_
      refine tk_Kp  (ls' := [(0, .ref 274), (3, .int v3), (4, .long (v4 / (10000 : Int64))), (6, .int (v6 + (1 : Int32)))]) rfl rfl ?_
      exact ih v3 (v4 / (10000 : Int64)) (v6 + (1 : Int32)) (tk_u2 m.1 (287 + (tk_n v3)) (tk_n v6) (Int64.toInt32 (fZ_abs_J (tk_lrem v4 (10000 : Int64)))), m.2.1, m.2.2.1, m.2.2.2) _ h
theorem ok_fM_widens (sc : tk_X) (a1 : Int64) (m : tk_m) {out : Int32 × tk_m} (h : fM_widens a1 m = some out) : tk_Ru sc 2 226 [.ref 274, .long a1] (tk_full m) (some (.int out.1), tk_full out.2) := by
  unfold fM_widens at h
  refine tk_Ru0 me226 (ls := [(0, .ref 274), (1, .long a1)]) rfl rfl ?_
  refine tk_Ps  1 (pc' := 1) (ls' := [(0, .ref 274), (1, .long a1)]) (st' := [.ref 274]) rfl ?_
  refine tk_HI  rfl rfl ly274 ?_
  refine tk_Ps  3 (pc' := 7) (ls' := [(3, .int (m.1 274 9)), (0, .ref 274), (1, .long a1)]) (st' := [.ref 274, .ref 274]) rfl ?_
  refine tk_HI  rfl rfl ly274 ?_
  refine tk_Ps  2 (pc' := 12) (ls' := [(3, .int (m.1 274 9)), (0, .ref 274), (1, .long a1)]) (st' := [.int ((m.1 274 9) + (1 : Int32)), .ref 274]) rfl ?_
  refine tk_SI  rfl rfl ly274 ?_
  refine tk_Ps  1 (pc' := 16) (ls' := [(3, .int (m.1 274 9)), (0, .ref 274), (1, .long a1)]) (st' := [.ref 274]) rfl ?_
  refine tk_HR  rfl rfl ly274 rt274_8 ?_
  refine tk_Ps  2 (pc' := 21) (ls' := [(3, .int (m.1 274 9)), (0, .ref 274), (1, .long a1)]) (st' := [.long a1, .int (m.1 274 9), .ref 327]) rfl ?_
  refine tk_cS1  rfl rfl (as := [.long a1]) (rest := [.int (m.1 274 9), .ref 327]) rfl rfl rfl (ok_fZ_signum_J sc a1 (tk_u2 m.1 274 9 ((m.1 274 9) + (1 : Int32)), m.2.1, m.2.2.1, m.2.2.2)) ?_
  obtain ⟨hg1, h⟩ := tk_grd h
  refine tk_SIa  rfl rfl ly327 hg1 ?_
  refine tk_Ps  4 (pc' := 31) (ls' := [(6, .int (0 : Int32)), (4, .long a1), (3, .int (m.1 274 9)), (0, .ref 274), (1, .long a1)]) (st' := []) rfl ?_
  refine tk_Kp  (ls' := [(0, .ref 274), (3, .int (m.1 274 9)), (4, .long a1), (6, .int (0 : Int32))]) rfl rfl ?_
  exact ok_fM_widens_31 sc tk_F (m.1 274 9) a1 (0 : Int32) (tk_u2 (tk_u2 m.1 274 9 ((m.1 274 9) + (1 : Int32))) 327 (tk_n (m.1 274 9)) (fZ_signum_J a1), m.2.1, m.2.2.1, m.2.2.2) _ h
theorem ok_fM_timesWide_II_92 (sc : tk_X) (r40 : Int32 → Int32 → Int32 → Int64 → Int32 → tk_m → Option (Int32 × tk_m)) (H40 : ∀ (v1 : Int32) (v2 : Int32) (v3 : Int32) (v4 : Int64) (v6 : Int32) (m : tk_m) (out : (Int32 × tk_m)), r40 v1 v2 v3 v4 v6 m = some out → tk_Ex sc 0 tk_r229 tk_k229 40 [(0, .ref 274), (1, .int v1), (2, .int v2), (3, .int v3), (4, .long v4), (6, .int v6)] [] (tk_full m) (some (.int out.1), tk_full out.2)) (v1 : Int32) (v2 : Int32) (v3 : Int32) (v4 : Int64) (v6 : Int32) (m : tk_m) (out : Int32 × tk_m) (h : fM_timesWide_II_92 r40 v1 v2 v3 v4 v6 m = some out) : tk_Ex sc 0 tk_r229 tk_k229 92 [(0, .ref 274), (1, .int v1), (2, .int v2), (3, .int v3), (4, .long v4), (6, .int v6)] [] (tk_full m) (some (.int out.1), tk_full out.2) := by
  unfold fM_timesWide_II_92 at h
  refine tk_Ps  1 (pc' := 93) (ls' := [(0, .ref 274), (1, .int v1), (2, .int v2), (3, .int v3), (4, .long v4), (6, .int v6)]) (st' := [.ref 274]) rfl ?_
  refine tk_HR  rfl rfl ly274 rt274_7 ?_
  refine tk_Ps  1 (pc' := 97) (ls' := [(0, .ref 274), (1, .int v1), (2, .int v2), (3, .int v3), (4, .long v4), (6, .int v6)]) (st' := [.int v3, .ref 286]) rfl ?_
  obtain ⟨hg1, h⟩ := tk_grd h
  refine tk_HQ  rfl rfl ly286 hg1 (la286 _ (hg1).2).1 ?_
  refine tk_Ps  5 (pc' := 107) (ls' := [(0, .ref 274), (1, .int v1), (2, .int v2), (3, .int v3), (4, .long v4), (6, .int v6)]) (st' := [.int (Int64.toInt32 (tk_lrem v4 (10000 : Int64))), .int v6, .ref (287 + (tk_n v3))]) rfl ?_
  obtain ⟨hg2, h⟩ := tk_grd h
  refine tk_SIa  rfl rfl ((la286 _ (hg1).2).2) hg2 ?_
  refine tk_Ps  6 (pc' := 40) (ls' := [(6, .int (v6 + (1 : Int32))), (4, .long (v4 / (10000 : Int64))), (0, .ref 274), (1, .int v1), (2, .int v2), (3, .int v3)]) (st' := []) rfl ?_
  refine tk_Kp  (ls' := [(0, .ref 274), (1, .int v1), (2, .int v2), (3, .int v3), (4, .long (v4 / (10000 : Int64))), (6, .int (v6 + (1 : Int32)))]) rfl rfl ?_
  exact H40 v1 v2 v3 (v4 / (10000 : Int64)) (v6 + (1 : Int32)) (tk_u2 m.1 (287 + (tk_n v3)) (tk_n v6) (Int64.toInt32 (tk_lrem v4 (10000 : Int64))), m.2.1, m.2.2.1, m.2.2.2) _ h
theorem ok_fM_timesWide_II_50 (sc : tk_X) (r40 : Int32 → Int32 → Int32 → Int64 → Int32 → tk_m → Option (Int32 × tk_m)) (H40 : ∀ (v1 : Int32) (v2 : Int32) (v3 : Int32) (v4 : Int64) (v6 : Int32) (m : tk_m) (out : (Int32 × tk_m)), r40 v1 v2 v3 v4 v6 m = some out → tk_Ex sc 0 tk_r229 tk_k229 40 [(0, .ref 274), (1, .int v1), (2, .int v2), (3, .int v3), (4, .long v4), (6, .int v6)] [] (tk_full m) (some (.int out.1), tk_full out.2)) : ∀ (n : Nat) (v1 : Int32) (v2 : Int32) (v3 : Int32) (v4 : Int64) (v6 : Int32) (v7 : Int32) (m : tk_m) (out : Int32 × tk_m), fM_timesWide_II_50 r40 n v1 v2 v3 v4 v6 v7 m = some out → tk_Ex sc 0 tk_r229 tk_k229 50 [(0, .ref 274), (1, .int v1), (2, .int v2), (3, .int v3), (4, .long v4), (6, .int v6), (7, .int v7)] [] (tk_full m) (some (.int out.1), tk_full out.2) := by
  intro n
  induction n with
  | zero =>
    intro v1 v2 v3 v4 v6 v7 m out h
    cases h
  | succ n ih =>
    intro v1 v2 v3 v4 v6 v7 m out h
    unfold fM_timesWide_II_50 at h
    refine tk_Ps  2 (pc' := 54) (ls' := [(0, .ref 274), (1, .int v1), (2, .int v2), (3, .int v3), (4, .long v4), (6, .int v6), (7, .int v7)]) (st' := [.int v6, .int v7]) rfl ?_
    by_cases hc1 : v6 < v7
    · replace h := tk_ifT hc1 h
      refine tk_bT  rfl rfl rfl (c := v6 < v7) hc1 (pc' := 92) (ls' := [(0, .ref 274), (1, .int v1), (2, .int v2), (3, .int v3), (4, .long v4), (6, .int v6), (7, .int v7)]) (st' := []) ?_
      refine tk_Kp  (ls' := [(0, .ref 274), (1, .int v1), (2, .int v2), (3, .int v3), (4, .long v4), (6, .int v6)]) rfl rfl ?_
      exact ok_fM_timesWide_II_92 sc r40 H40 v1 v2 v3 v4 v6 m _ h
    · replace h := tk_ifF hc1 h
      refine tk_bF  rfl rfl rfl (c := v6 < v7) hc1 (pc' := 57) (ls' := [(0, .ref 274), (1, .int v1), (2, .int v2), (3, .int v3), (4, .long v4), (6, .int v6), (7, .int v7)]) (st' := []) ?_
      refine tk_Ps  2 (pc' := 60) (ls' := [(0, .ref 274), (1, .int v1), (2, .int v2), (3, .int v3), (4, .long v4), (6, .int v6), (7, .int v7)]) (st' := [.ref 274, .long v4]) rfl ?_
      refine tk_HR  rfl rfl ly274 rt274_7 ?_
      refine tk_Ps  1 (pc' := 64) (ls' := [(0, .ref 274), (1, .int v1), (2, .int v2), (3, .int v3), (4, .long v4), (6, .int v6), (7, .int v7)]) (st' := [.int v1, .ref 286, .long v4]) rfl ?_
      obtain ⟨hg2, h⟩ := tk_grd h
      refine tk_HQ  rfl rfl ly286 hg2 (la286 _ (hg2).2).1 ?_
      refine tk_Ps  1 (pc' := 67) (ls' := [(0, .ref 274), (1, .int v1), (2, .int v2), (3, .int v3), (4, .long v4), (6, .int v6), (7, .int v7)]) (st' := [.int v7, .ref (287 + (tk_n v1)), .long v4]) rfl ?_
      obtain ⟨hg3, h⟩ := tk_grd h
      refine tk_HIa  rfl rfl ((la286 _ (hg2).2).2) hg3 ?_
      refine tk_Ps  2 (pc' := 70) (ls' := [(0, .ref 274), (1, .int v1), (2, .int v2), (3, .int v3), (4, .long v4), (6, .int v6), (7, .int v7)]) (st' := [.ref 274, .long (Int32.toInt64 (m.1 (287 + (tk_n v1)) (tk_n v7))), .long v4]) rfl ?_
      refine tk_HR  rfl rfl ly274 rt274_7 ?_
      refine tk_Ps  1 (pc' := 74) (ls' := [(0, .ref 274), (1, .int v1), (2, .int v2), (3, .int v3), (4, .long v4), (6, .int v6), (7, .int v7)]) (st' := [.int v2, .ref 286, .long (Int32.toInt64 (m.1 (287 + (tk_n v1)) (tk_n v7))), .long v4]) rfl ?_
      obtain ⟨hg4, h⟩ := tk_grd h
      refine tk_HQ  rfl rfl ly286 hg4 (la286 _ (hg4).2).1 ?_
      refine tk_Ps  3 (pc' := 80) (ls' := [(0, .ref 274), (1, .int v1), (2, .int v2), (3, .int v3), (4, .long v4), (6, .int v6), (7, .int v7)]) (st' := [.int (v6 - v7), .ref (287 + (tk_n v2)), .long (Int32.toInt64 (m.1 (287 + (tk_n v1)) (tk_n v7))), .long v4]) rfl ?_
      obtain ⟨hg5, h⟩ := tk_grd h
      refine tk_HIa  rfl rfl ((la286 _ (hg4).2).2) hg5 ?_
      refine tk_Ps  6 (pc' := 50) (ls' := [(7, .int (v7 + (1 : Int32))), (4, .long (v4 + ((Int32.toInt64 (m.1 (287 + (tk_n v1)) (tk_n v7))) * (Int32.toInt64 (m.1 (287 + (tk_n v2)) (tk_n (v6 - v7))))))), (0, .ref 274), (1, .int v1), (2, .int v2), (3, .int v3), (6, .int v6)]) (st' := []) rfl ?_
      refine tk_Kp  (ls' := [(0, .ref 274), (1, .int v1), (2, .int v2), (3, .int v3), (4, .long (v4 + ((Int32.toInt64 (m.1 (287 + (tk_n v1)) (tk_n v7))) * (Int32.toInt64 (m.1 (287 + (tk_n v2)) (tk_n (v6 - v7))))))), (6, .int v6), (7, .int (v7 + (1 : Int32)))]) rfl rfl ?_
      exact ih v1 v2 v3 (v4 + ((Int32.toInt64 (m.1 (287 + (tk_n v1)) (tk_n v7))) * (Int32.toInt64 (m.1 (287 + (tk_n v2)) (tk_n (v6 - v7)))))) v6 (v7 + (1 : Int32)) m _ h
theorem ok_fM_timesWide_II_40 (sc : tk_X) : ∀ (n : Nat) (v1 : Int32) (v2 : Int32) (v3 : Int32) (v4 : Int64) (v6 : Int32) (m : tk_m) (out : Int32 × tk_m), fM_timesWide_II_40 n v1 v2 v3 v4 v6 m = some out → tk_Ex sc 0 tk_r229 tk_k229 40 [(0, .ref 274), (1, .int v1), (2, .int v2), (3, .int v3), (4, .long v4), (6, .int v6)] [] (tk_full m) (some (.int out.1), tk_full out.2) := by
  intro n
  induction n with
  | zero =>
    intro v1 v2 v3 v4 v6 m out h
    cases h
  | succ n ih =>
    intro v1 v2 v3 v4 v6 m out h
    unfold fM_timesWide_II_40 at h
    refine tk_Ps  2 (pc' := 44) (ls' := [(0, .ref 274), (1, .int v1), (2, .int v2), (3, .int v3), (4, .long v4), (6, .int v6)]) (st' := [.int (60 : Int32), .int v6]) rfl ?_
    by_cases hc1 : (60 : Int32) ≤ v6
    · replace h := tk_ifT hc1 h
      refine tk_bT  rfl rfl rfl (c := (60 : Int32) ≤ v6) hc1 (pc' := 122) (ls' := [(0, .ref 274), (1, .int v1), (2, .int v2), (3, .int v3), (4, .long v4), (6, .int v6)]) (st' := []) ?_
      refine tk_Ps  1 (pc' := 123) (ls' := [(0, .ref 274), (1, .int v1), (2, .int v2), (3, .int v3), (4, .long v4), (6, .int v6)]) (st' := [.int v3]) rfl ?_
      replace h := Option.some.inj h
      subst h
      exact tk_RI  rfl rfl rfl
    · replace h := tk_ifF hc1 h
      refine tk_bF  rfl rfl rfl (c := (60 : Int32) ≤ v6) hc1 (pc' := 47) (ls' := [(0, .ref 274), (1, .int v1), (2, .int v2), (3, .int v3), (4, .long v4), (6, .int v6)]) (st' := []) ?_
      refine tk_Ps  2 (pc' := 50) (ls' := [(7, .int (0 : Int32)), (0, .ref 274), (1, .int v1), (2, .int v2), (3, .int v3), (4, .long v4), (6, .int v6)]) (st' := []) rfl ?_
      refine tk_Kp  (ls' := [(0, .ref 274), (1, .int v1), (2, .int v2), (3, .int v3), (4, .long v4), (6, .int v6), (7, .int (0 : Int32))]) rfl rfl ?_
      exact ok_fM_timesWide_II_50 sc (fM_timesWide_II_40 n) ih tk_F v1 v2 v3 v4 v6 (0 : Int32) m _ h
theorem ok_fM_timesWide_II (sc : tk_X) (a1 : Int32) (a2 : Int32) (m : tk_m) {out : Int32 × tk_m} (h : fM_timesWide_II a1 a2 m = some out) : tk_Ru sc 1 229 [.ref 274, .int a1, .int a2] (tk_full m) (some (.int out.1), tk_full out.2) := by
  unfold fM_timesWide_II at h
  refine tk_Ru0 me229 (ls := [(0, .ref 274), (1, .int a1), (2, .int a2)]) rfl rfl ?_
  refine tk_Ps  1 (pc' := 1) (ls' := [(0, .ref 274), (1, .int a1), (2, .int a2)]) (st' := [.ref 274]) rfl ?_
  refine tk_HI  rfl rfl ly274 ?_
  refine tk_Ps  3 (pc' := 7) (ls' := [(3, .int (m.1 274 9)), (0, .ref 274), (1, .int a1), (2, .int a2)]) (st' := [.ref 274, .ref 274]) rfl ?_
  refine tk_HI  rfl rfl ly274 ?_
  refine tk_Ps  2 (pc' := 12) (ls' := [(3, .int (m.1 274 9)), (0, .ref 274), (1, .int a1), (2, .int a2)]) (st' := [.int ((m.1 274 9) + (1 : Int32)), .ref 274]) rfl ?_
  refine tk_SI  rfl rfl ly274 ?_
  refine tk_Ps  1 (pc' := 16) (ls' := [(3, .int (m.1 274 9)), (0, .ref 274), (1, .int a1), (2, .int a2)]) (st' := [.ref 274]) rfl ?_
  refine tk_HR  rfl rfl ly274 rt274_8 ?_
  refine tk_Ps  2 (pc' := 21) (ls' := [(3, .int (m.1 274 9)), (0, .ref 274), (1, .int a1), (2, .int a2)]) (st' := [.ref 274, .int (m.1 274 9), .ref 327]) rfl ?_
  refine tk_HR  rfl rfl ly274 rt274_8 ?_
  refine tk_Ps  1 (pc' := 25) (ls' := [(3, .int (m.1 274 9)), (0, .ref 274), (1, .int a1), (2, .int a2)]) (st' := [.int a1, .ref 327, .int (m.1 274 9), .ref 327]) rfl ?_
  obtain ⟨hg1, h⟩ := tk_grd h
  refine tk_HIa  rfl rfl ly327 hg1 ?_
  refine tk_Ps  1 (pc' := 27) (ls' := [(3, .int (m.1 274 9)), (0, .ref 274), (1, .int a1), (2, .int a2)]) (st' := [.ref 274, .int (tk_u2 m.1 274 9 ((m.1 274 9) + (1 : Int32)) 327 (tk_n a1)), .int (m.1 274 9), .ref 327]) rfl ?_
  refine tk_HR  rfl rfl ly274 rt274_8 ?_
  refine tk_Ps  1 (pc' := 31) (ls' := [(3, .int (m.1 274 9)), (0, .ref 274), (1, .int a1), (2, .int a2)]) (st' := [.int a2, .ref 327, .int (tk_u2 m.1 274 9 ((m.1 274 9) + (1 : Int32)) 327 (tk_n a1)), .int (m.1 274 9), .ref 327]) rfl ?_
  obtain ⟨hg2, h⟩ := tk_grd h
  refine tk_HIa  rfl rfl ly327 hg2 ?_
  refine tk_Ps  1 (pc' := 33) (ls' := [(3, .int (m.1 274 9)), (0, .ref 274), (1, .int a1), (2, .int a2)]) (st' := [.int ((tk_u2 m.1 274 9 ((m.1 274 9) + (1 : Int32)) 327 (tk_n a1)) * (tk_u2 m.1 274 9 ((m.1 274 9) + (1 : Int32)) 327 (tk_n a2))), .int (m.1 274 9), .ref 327]) rfl ?_
  obtain ⟨hg3, h⟩ := tk_grd h
  refine tk_SIa  rfl rfl ly327 hg3 ?_
  refine tk_Ps  4 (pc' := 40) (ls' := [(6, .int (0 : Int32)), (4, .long (0 : Int64)), (3, .int (m.1 274 9)), (0, .ref 274), (1, .int a1), (2, .int a2)]) (st' := []) rfl ?_
  refine tk_Kp  (ls' := [(0, .ref 274), (1, .int a1), (2, .int a2), (3, .int (m.1 274 9)), (4, .long (0 : Int64)), (6, .int (0 : Int32))]) rfl rfl ?_
  exact ok_fM_timesWide_II_40 sc tk_F a1 a2 (m.1 274 9) (0 : Int64) (0 : Int32) (tk_u2 (tk_u2 m.1 274 9 ((m.1 274 9) + (1 : Int32))) 327 (tk_n (m.1 274 9)) ((tk_u2 m.1 274 9 ((m.1 274 9) + (1 : Int32)) 327 (tk_n a1)) * (tk_u2 m.1 274 9 ((m.1 274 9) + (1 : Int32)) 327 (tk_n a2))), m.2.1, m.2.2.1, m.2.2.2) _ h

theorem ok_fM_of0 (sc : tk_X) (a1 : Int32) (a2 : Int32) (m : tk_m) {out : Int32} (h : fM_of0 a1 a2 m = some out) : tk_Ru sc 1 187 [.ref 274, .int a1, .int a2] (tk_full m) (some (.int out), tk_full m) := by
  unfold fM_of0 at h
  refine tk_Ru0 me187 (ls := [(0, .ref 274), (1, .int a1), (2, .int a2)]) rfl rfl ?_
  refine tk_Ps  1 (pc' := 1) (ls' := [(0, .ref 274), (1, .int a1), (2, .int a2)]) (st' := [.ref 274]) rfl ?_
  refine tk_HR  rfl rfl ly274 rt274_0 ?_
  refine tk_Ps  7 (pc' := 11) (ls' := [(0, .ref 274), (1, .int a1), (2, .int a2)]) (st' := [.int (((5 : Int32) + ((4 : Int32) * a1)) + a2), .ref 275]) rfl ?_
  obtain ⟨hg1, h⟩ := tk_grd h
  refine tk_HIa  rfl rfl ly275 hg1 ?_
  replace h := Option.some.inj h
  subst h
  exact tk_RI  rfl rfl rfl
theorem ok_fM_isRound (sc : tk_X) (a1 : Int32) (m : tk_m) {out : Bool} (h : fM_isRound a1 m = some out) : tk_Ru sc 2 186 [.ref 274, .int a1] (tk_full m) (some (.int (tk_b out)), tk_full m) := by
  unfold fM_isRound at h
  refine tk_Ru0 me186 (ls := [(0, .ref 274), (1, .int a1)]) rfl rfl ?_
  refine tk_Ps  3 (pc' := 3) (ls' := [(0, .ref 274), (1, .int a1)]) (st' := [.int (0 : Int32), .int a1, .ref 274]) rfl ?_
  obtain ⟨o1, ho1, h⟩ := tk_bnd h
  refine tk_cV1  rfl rfl (r := 274) (as := [.int a1, .int (0 : Int32)]) (rest := []) rfl ly274 rfl rfl (ok_fM_of0 sc a1 (0 : Int32) m ho1) ?_
  by_cases hc2 : o1 = 0
  · replace h := tk_ifT hc2 h
    refine tk_bT  rfl rfl rfl (c := o1 = 0) hc2 (pc' := 9) (ls' := [(0, .ref 274), (1, .int a1)]) (st' := []) ?_
    refine tk_Ps  2 (pc' := 14) (ls' := [(0, .ref 274), (1, .int a1)]) (st' := [.int (1 : Int32)]) rfl ?_
    replace h := Option.some.inj h
    subst h
    exact tk_RB (b := true)  rfl rfl rfl
  · replace h := tk_ifF hc2 h
    refine tk_bF  rfl rfl rfl (c := o1 = 0) hc2 (pc' := 13) (ls' := [(0, .ref 274), (1, .int a1)]) (st' := []) ?_
    refine tk_Ps  1 (pc' := 14) (ls' := [(0, .ref 274), (1, .int a1)]) (st' := [.int (0 : Int32)]) rfl ?_
    replace h := Option.some.inj h
    subst h
    exact tk_RB (b := false)  rfl rfl rfl
theorem ok_fM_kindOf (sc : tk_X) (a1 : Int32) (m : tk_m) {out : Int32} (h : fM_kindOf a1 m = some out) : tk_Ru sc 3 185 [.ref 274, .int a1] (tk_full m) (some (.int out), tk_full m) := by
  unfold fM_kindOf at h
  refine tk_Ru0 me185 (ls := [(0, .ref 274), (1, .int a1)]) rfl rfl ?_
  refine tk_Ps  2 (pc' := 2) (ls' := [(0, .ref 274), (1, .int a1)]) (st' := [.int a1, .ref 274]) rfl ?_
  obtain ⟨o1, ho1, h⟩ := tk_bnd h
  refine tk_cV1  rfl rfl (r := 274) (as := [.int a1]) (rest := []) rfl ly274 rfl rfl (ok_fM_isRound sc a1 m ho1) ?_
  by_cases hc2 : o1 = true
  · replace h := tk_ifT hc2 h
    refine tk_bT  rfl rfl tk_eB_eq (c := o1 = true) hc2 (pc' := 8) (ls' := [(0, .ref 274), (1, .int a1)]) (st' := []) ?_
    refine tk_Ps  3 (pc' := 11) (ls' := [(0, .ref 274), (1, .int a1)]) (st' := [.int (3 : Int32), .int a1, .ref 274]) rfl ?_
    obtain ⟨o3, ho3, h⟩ := tk_bnd h
    refine tk_cV1  rfl rfl (r := 274) (as := [.int a1, .int (3 : Int32)]) (rest := []) rfl ly274 rfl rfl (ok_fM_of0 sc a1 (3 : Int32) m ho3) ?_
    by_cases hc4 : o3 = 0
    · replace h := tk_ifT hc4 h
      refine tk_bT  rfl rfl rfl (c := o3 = 0) hc4 (pc' := 17) (ls' := [(0, .ref 274), (1, .int a1)]) (st' := []) ?_
      refine tk_Ps  2 (pc' := 40) (ls' := [(0, .ref 274), (1, .int a1)]) (st' := [.int (3 : Int32)]) rfl ?_
      replace h := Option.some.inj h
      subst h
      exact tk_RI  rfl rfl rfl
    · replace h := tk_ifF hc4 h
      refine tk_bF  rfl rfl rfl (c := o3 = 0) hc4 (pc' := 21) (ls' := [(0, .ref 274), (1, .int a1)]) (st' := []) ?_
      refine tk_Ps  2 (pc' := 40) (ls' := [(0, .ref 274), (1, .int a1)]) (st' := [.int (1 : Int32)]) rfl ?_
      replace h := Option.some.inj h
      subst h
      exact tk_RI  rfl rfl rfl
  · replace h := tk_ifF hc2 h
    refine tk_bF  rfl rfl tk_eB_eq (c := o1 = true) hc2 (pc' := 25) (ls' := [(0, .ref 274), (1, .int a1)]) (st' := []) ?_
    refine tk_Ps  3 (pc' := 28) (ls' := [(0, .ref 274), (1, .int a1)]) (st' := [.int (1 : Int32), .int a1, .ref 274]) rfl ?_
    obtain ⟨o5, ho5, h⟩ := tk_bnd h
    refine tk_cV1  rfl rfl (r := 274) (as := [.int a1, .int (1 : Int32)]) (rest := []) rfl ly274 rfl rfl (ok_fM_of0 sc a1 (1 : Int32) m ho5) ?_
    refine tk_Ps  1 (pc' := 32) (ls' := [(0, .ref 274), (1, .int a1)]) (st' := [.int (2 : Int32), .int o5]) rfl ?_
    by_cases hc6 : (2 : Int32) ≤ o5
    · replace h := tk_ifT hc6 h
      refine tk_bT  rfl rfl rfl (c := (2 : Int32) ≤ o5) hc6 (pc' := 39) (ls' := [(0, .ref 274), (1, .int a1)]) (st' := []) ?_
      refine tk_Ps  1 (pc' := 40) (ls' := [(0, .ref 274), (1, .int a1)]) (st' := [.int (2 : Int32)]) rfl ?_
      replace h := Option.some.inj h
      subst h
      exact tk_RI  rfl rfl rfl
    · replace h := tk_ifF hc6 h
      refine tk_bF  rfl rfl rfl (c := (2 : Int32) ≤ o5) hc6 (pc' := 35) (ls' := [(0, .ref 274), (1, .int a1)]) (st' := []) ?_
      refine tk_Ps  2 (pc' := 40) (ls' := [(0, .ref 274), (1, .int a1)]) (st' := [.int (4 : Int32)]) rfl ?_
      replace h := Option.some.inj h
      subst h
      exact tk_RI  rfl rfl rfl
theorem ok_fM_slant (sc : tk_X) (a1 : Nat) (a2 : Int32) (m : tk_m) (ha1 : 1000 ≤ a1 ∧ a1 < 1006) {out : Int32} (h : fM_slant a1 a2 m = some out) : tk_Ru sc 2 189 [.ref 274, .ref a1, .int a2] (tk_full m) (some (.int out), tk_full m) := by
  unfold fM_slant at h
  refine tk_Ru0 me189 (ls := [(0, .ref 274), (1, .ref a1), (2, .int a2)]) rfl rfl ?_
  refine tk_Ps  4 (pc' := 4) (ls' := [(0, .ref 274), (1, .ref a1), (2, .int a2)]) (st' := [.int (1 : Int32), .int a2, .ref 274, .ref a1]) rfl ?_
  obtain ⟨o1, ho1, h⟩ := tk_bnd h
  refine tk_cV1  rfl rfl (r := 274) (as := [.int a2, .int (1 : Int32)]) (rest := [.ref a1]) rfl ly274 rfl rfl (ok_fM_of0 sc a2 (1 : Int32) m ho1) ?_
  obtain ⟨hg2, h⟩ := tk_grd h
  refine tk_Hxv  rfl rfl ha1 hg2 ?_
  replace h := Option.some.inj h
  subst h
  exact tk_RI  rfl rfl rfl
theorem ok_fM_form (sc : tk_X) (a1 : Int32) (a2 : Int32) (m : tk_m) {out : Int32} (h : fM_form a1 a2 m = some out) : tk_Ru sc 3 188 [.ref 274, .int a1, .int a2] (tk_full m) (some (.int out), tk_full m) := by
  unfold fM_form at h
  refine tk_Ru0 me188 (ls := [(0, .ref 274), (1, .int a1), (2, .int a2)]) rfl rfl ?_
  refine tk_Ps  3 (pc' := 3) (ls' := [(0, .ref 274), (1, .int a1), (2, .int a2)]) (st' := [.int (1 : Int32), .int a1, .ref 274]) rfl ?_
  obtain ⟨o1, ho1, h⟩ := tk_bnd h
  refine tk_cV1  rfl rfl (r := 274) (as := [.int a1, .int (1 : Int32)]) (rest := []) rfl ly274 rfl rfl (ok_fM_of0 sc a1 (1 : Int32) m ho1) ?_
  refine tk_Ps  4 (pc' := 10) (ls' := [(3, .int o1), (0, .ref 274), (1, .int a1), (2, .int a2)]) (st' := [.int (2 : Int32), .int a1, .ref 274]) rfl ?_
  obtain ⟨o2, ho2, h⟩ := tk_bnd h
  refine tk_cV1  rfl rfl (r := 274) (as := [.int a1, .int (2 : Int32)]) (rest := []) rfl ly274 rfl rfl (ok_fM_of0 sc a1 (2 : Int32) m ho2) ?_
  refine tk_Ps  4 (pc' := 18) (ls' := [(4, .int o2), (3, .int o1), (0, .ref 274), (1, .int a1), (2, .int a2)]) (st' := [.int (3 : Int32), .int a1, .ref 274]) rfl ?_
  obtain ⟨o3, ho3, h⟩ := tk_bnd h
  refine tk_cV1  rfl rfl (r := 274) (as := [.int a1, .int (3 : Int32)]) (rest := []) rfl ly274 rfl rfl (ok_fM_of0 sc a1 (3 : Int32) m ho3) ?_
  refine tk_Ps  3 (pc' := 25) (ls' := [(5, .int o3), (4, .int o2), (3, .int o1), (0, .ref 274), (1, .int a1), (2, .int a2)]) (st' := [.int a1, .ref 274]) rfl ?_
  obtain ⟨o4, ho4, h⟩ := tk_bnd h
  refine tk_cV1  rfl rfl (r := 274) (as := [.int a1]) (rest := []) rfl ly274 rfl rfl (ok_fM_isRound sc a1 m ho4) ?_
  by_cases hc5 : o4 = true
  · replace h := tk_ifT hc5 h
    refine tk_bT  rfl rfl tk_eB_eq (c := o4 = true) hc5 (pc' := 31) (ls' := [(5, .int o3), (4, .int o2), (3, .int o1), (0, .ref 274), (1, .int a1), (2, .int a2)]) (st' := []) ?_
    refine tk_Ps  1 (pc' := 32) (ls' := [(5, .int o3), (4, .int o2), (3, .int o1), (0, .ref 274), (1, .int a1), (2, .int a2)]) (st' := [.int a2]) rfl ?_
    by_cases hc6 : a2 = 0
    · replace h := tk_ifT hc6 h
      refine tk_bT  rfl rfl rfl (c := a2 = 0) hc6 (pc' := 35) (ls' := [(5, .int o3), (4, .int o2), (3, .int o1), (0, .ref 274), (1, .int a1), (2, .int a2)]) (st' := []) ?_
      refine tk_Ps  2 (pc' := 79) (ls' := [(5, .int o3), (4, .int o2), (3, .int o1), (0, .ref 274), (1, .int a1), (2, .int a2)]) (st' := [.int (1 : Int32)]) rfl ?_
      replace h := Option.some.inj h
      subst h
      exact tk_RI  rfl rfl rfl
    · replace h := tk_ifF hc6 h
      refine tk_bF  rfl rfl rfl (c := a2 = 0) hc6 (pc' := 39) (ls' := [(5, .int o3), (4, .int o2), (3, .int o1), (0, .ref 274), (1, .int a1), (2, .int a2)]) (st' := []) ?_
      refine tk_Ps  2 (pc' := 41) (ls' := [(5, .int o3), (4, .int o2), (3, .int o1), (0, .ref 274), (1, .int a1), (2, .int a2)]) (st' := [.int (1 : Int32), .int a2]) rfl ?_
      by_cases hc7 : a2 = (1 : Int32)
      · replace h := tk_ifT hc7 h
        refine tk_bT  rfl rfl rfl (c := a2 = (1 : Int32)) hc7 (pc' := 44) (ls' := [(5, .int o3), (4, .int o2), (3, .int o1), (0, .ref 274), (1, .int a1), (2, .int a2)]) (st' := []) ?_
        refine tk_Ps  4 (pc' := 79) (ls' := [(5, .int o3), (4, .int o2), (3, .int o1), (0, .ref 274), (1, .int a1), (2, .int a2)]) (st' := [.int ((-2 : Int32) * o1)]) rfl ?_
        replace h := Option.some.inj h
        subst h
        exact tk_RI  rfl rfl rfl
      · replace h := tk_ifF hc7 h
        refine tk_bF  rfl rfl rfl (c := a2 = (1 : Int32)) hc7 (pc' := 51) (ls' := [(5, .int o3), (4, .int o2), (3, .int o1), (0, .ref 274), (1, .int a1), (2, .int a2)]) (st' := []) ?_
        refine tk_Ps  2 (pc' := 53) (ls' := [(5, .int o3), (4, .int o2), (3, .int o1), (0, .ref 274), (1, .int a1), (2, .int a2)]) (st' := [.int (2 : Int32), .int a2]) rfl ?_
        by_cases hc8 : a2 = (2 : Int32)
        · replace h := tk_ifT hc8 h
          refine tk_bT  rfl rfl rfl (c := a2 = (2 : Int32)) hc8 (pc' := 56) (ls' := [(5, .int o3), (4, .int o2), (3, .int o1), (0, .ref 274), (1, .int a1), (2, .int a2)]) (st' := []) ?_
          refine tk_Ps  4 (pc' := 79) (ls' := [(5, .int o3), (4, .int o2), (3, .int o1), (0, .ref 274), (1, .int a1), (2, .int a2)]) (st' := [.int ((-2 : Int32) * o2)]) rfl ?_
          replace h := Option.some.inj h
          subst h
          exact tk_RI  rfl rfl rfl
        · replace h := tk_ifF hc8 h
          refine tk_bF  rfl rfl rfl (c := a2 = (2 : Int32)) hc8 (pc' := 64) (ls' := [(5, .int o3), (4, .int o2), (3, .int o1), (0, .ref 274), (1, .int a1), (2, .int a2)]) (st' := []) ?_
          refine tk_Ps  11 (pc' := 79) (ls' := [(5, .int o3), (4, .int o2), (3, .int o1), (0, .ref 274), (1, .int a1), (2, .int a2)]) (st' := [.int (((o1 * o1) + (o2 * o2)) - (o3 * o3))]) rfl ?_
          replace h := Option.some.inj h
          subst h
          exact tk_RI  rfl rfl rfl
  · replace h := tk_ifF hc5 h
    refine tk_bF  rfl rfl tk_eB_eq (c := o4 = true) hc5 (pc' := 80) (ls' := [(5, .int o3), (4, .int o2), (3, .int o1), (0, .ref 274), (1, .int a1), (2, .int a2)]) (st' := []) ?_
    refine tk_Ps  1 (pc' := 81) (ls' := [(5, .int o3), (4, .int o2), (3, .int o1), (0, .ref 274), (1, .int a1), (2, .int a2)]) (st' := [.int a2]) rfl ?_
    by_cases hc9 : a2 = 0
    · replace h := tk_ifT hc9 h
      refine tk_bT  rfl rfl rfl (c := a2 = 0) hc9 (pc' := 84) (ls' := [(5, .int o3), (4, .int o2), (3, .int o1), (0, .ref 274), (1, .int a1), (2, .int a2)]) (st' := []) ?_
      refine tk_Ps  2 (pc' := 123) (ls' := [(5, .int o3), (4, .int o2), (3, .int o1), (0, .ref 274), (1, .int a1), (2, .int a2)]) (st' := [.int (0 : Int32)]) rfl ?_
      replace h := Option.some.inj h
      subst h
      exact tk_RI  rfl rfl rfl
    · replace h := tk_ifF hc9 h
      refine tk_bF  rfl rfl rfl (c := a2 = 0) hc9 (pc' := 88) (ls' := [(5, .int o3), (4, .int o2), (3, .int o1), (0, .ref 274), (1, .int a1), (2, .int a2)]) (st' := []) ?_
      refine tk_Ps  2 (pc' := 90) (ls' := [(5, .int o3), (4, .int o2), (3, .int o1), (0, .ref 274), (1, .int a1), (2, .int a2)]) (st' := [.int (1 : Int32), .int a2]) rfl ?_
      by_cases hc10 : a2 = (1 : Int32)
      · replace h := tk_ifT hc10 h
        refine tk_bT  rfl rfl rfl (c := a2 = (1 : Int32)) hc10 (pc' := 93) (ls' := [(5, .int o3), (4, .int o2), (3, .int o1), (0, .ref 274), (1, .int a1), (2, .int a2)]) (st' := []) ?_
        refine tk_Ps  1 (pc' := 94) (ls' := [(5, .int o3), (4, .int o2), (3, .int o1), (0, .ref 274), (1, .int a1), (2, .int a2)]) (st' := [.ref 274]) rfl ?_
        refine tk_Hst  rfl rfl ?_
        refine tk_Ps  1 (pc' := 98) (ls' := [(5, .int o3), (4, .int o2), (3, .int o1), (0, .ref 274), (1, .int a1), (2, .int a2)]) (st' := [.int a1, .ref 1003, .ref 274]) rfl ?_
        obtain ⟨o11, ho11, h⟩ := tk_bnd h
        refine tk_cV1  rfl rfl (r := 274) (as := [.ref 1003, .int a1]) (rest := []) rfl ly274 rfl rfl (ok_fM_slant sc 1003 a1 m (by decide) ho11) ?_
        refine tk_Ps  1 (pc' := 123) (ls' := [(5, .int o3), (4, .int o2), (3, .int o1), (0, .ref 274), (1, .int a1), (2, .int a2)]) (st' := [.int o11]) rfl ?_
        replace h := Option.some.inj h
        subst h
        exact tk_RI  rfl rfl rfl
      · replace h := tk_ifF hc10 h
        refine tk_bF  rfl rfl rfl (c := a2 = (1 : Int32)) hc10 (pc' := 104) (ls' := [(5, .int o3), (4, .int o2), (3, .int o1), (0, .ref 274), (1, .int a1), (2, .int a2)]) (st' := []) ?_
        refine tk_Ps  2 (pc' := 106) (ls' := [(5, .int o3), (4, .int o2), (3, .int o1), (0, .ref 274), (1, .int a1), (2, .int a2)]) (st' := [.int (2 : Int32), .int a2]) rfl ?_
        by_cases hc12 : a2 = (2 : Int32)
        · replace h := tk_ifT hc12 h
          refine tk_bT  rfl rfl rfl (c := a2 = (2 : Int32)) hc12 (pc' := 109) (ls' := [(5, .int o3), (4, .int o2), (3, .int o1), (0, .ref 274), (1, .int a1), (2, .int a2)]) (st' := []) ?_
          refine tk_Ps  1 (pc' := 110) (ls' := [(5, .int o3), (4, .int o2), (3, .int o1), (0, .ref 274), (1, .int a1), (2, .int a2)]) (st' := [.ref 274]) rfl ?_
          refine tk_Hst  rfl rfl ?_
          refine tk_Ps  1 (pc' := 114) (ls' := [(5, .int o3), (4, .int o2), (3, .int o1), (0, .ref 274), (1, .int a1), (2, .int a2)]) (st' := [.int a1, .ref 1004, .ref 274]) rfl ?_
          obtain ⟨o13, ho13, h⟩ := tk_bnd h
          refine tk_cV1  rfl rfl (r := 274) (as := [.ref 1004, .int a1]) (rest := []) rfl ly274 rfl rfl (ok_fM_slant sc 1004 a1 m (by decide) ho13) ?_
          refine tk_Ps  1 (pc' := 123) (ls' := [(5, .int o3), (4, .int o2), (3, .int o1), (0, .ref 274), (1, .int a1), (2, .int a2)]) (st' := [.int o13]) rfl ?_
          replace h := Option.some.inj h
          subst h
          exact tk_RI  rfl rfl rfl
        · replace h := tk_ifF hc12 h
          refine tk_bF  rfl rfl rfl (c := a2 = (2 : Int32)) hc12 (pc' := 120) (ls' := [(5, .int o3), (4, .int o2), (3, .int o1), (0, .ref 274), (1, .int a1), (2, .int a2)]) (st' := []) ?_
          refine tk_Ps  2 (pc' := 123) (ls' := [(5, .int o3), (4, .int o2), (3, .int o1), (0, .ref 274), (1, .int a1), (2, .int a2)]) (st' := [.int (-o2)]) rfl ?_
          replace h := Option.some.inj h
          subst h
          exact tk_RI  rfl rfl rfl
theorem ok_fM_of_61 (sc : tk_X) (v1 : Int32) (v2 : Int32) (s0 : Int32) (m : tk_m) (out : Int32 × tk_m) (h : fM_of_61 v1 v2 s0 m = some out) : tk_Ex sc 3 tk_r183 tk_k183 61 [(0, .ref 274), (1, .int v1), (2, .int v2)] [.int s0] (tk_full m) (some (.int out.1), tk_full out.2) := by
  unfold fM_of_61 at h
  refine tk_Ps  2 (pc' := 63) (ls' := [(0, .ref 274), (1, .int v1), (2, .int v2)]) (st' := [.int v1, .ref 274, .int s0]) rfl ?_
  obtain ⟨o1, ho1, h⟩ := tk_bnd h
  refine tk_cV1  rfl rfl (r := 274) (as := [.int v1]) (rest := [.int s0]) rfl ly274 rfl rfl (ok_fM_isRound sc v1 m ho1) ?_
  by_cases hc2 : s0 = (tk_b o1)
  · replace h := tk_ifT hc2 h
    refine tk_bT  rfl rfl rfl (c := s0 = (tk_b o1)) hc2 (pc' := 75) (ls' := [(0, .ref 274), (1, .int v1), (2, .int v2)]) (st' := []) ?_
    refine tk_Ps  2 (pc' := 77) (ls' := [(0, .ref 274), (1, .int v1), (2, .int v2)]) (st' := [.int (4 : Int32), .int v2]) rfl ?_
    by_cases hc3 : (4 : Int32) ≤ v2
    · replace h := tk_ifT hc3 h
      refine tk_bT  rfl rfl rfl (c := (4 : Int32) ≤ v2) hc3 (pc' := 89) (ls' := [(0, .ref 274), (1, .int v1), (2, .int v2)]) (st' := []) ?_
      refine tk_Ps  5 (pc' := 94) (ls' := [(0, .ref 274), (1, .int v1), (2, .int v2)]) (st' := [.int (v2 - (3 : Int32)), .int v1, .ref 274]) rfl ?_
      obtain ⟨o4, ho4, h⟩ := tk_bnd h
      refine tk_cV1  rfl rfl (r := 274) (as := [.int v1, .int (v2 - (3 : Int32))]) (rest := []) rfl ly274 rfl rfl (ok_fM_of0 sc v1 (v2 - (3 : Int32)) m ho4) ?_
      replace h := Option.some.inj h
      subst h
      exact tk_RI  rfl rfl rfl
    · replace h := tk_ifF hc3 h
      refine tk_bF  rfl rfl rfl (c := (4 : Int32) ≤ v2) hc3 (pc' := 80) (ls' := [(0, .ref 274), (1, .int v1), (2, .int v2)]) (st' := []) ?_
      refine tk_Ps  3 (pc' := 83) (ls' := [(0, .ref 274), (1, .int v1), (2, .int v2)]) (st' := [.int v2, .int v1, .ref 274]) rfl ?_
      obtain ⟨o5, ho5, h⟩ := tk_bnd h
      refine tk_cV1  rfl rfl (r := 274) (as := [.int v1, .int v2]) (rest := []) rfl ly274 rfl rfl (ok_fM_of0 sc v1 v2 m ho5) ?_
      refine tk_Ps  1 (pc' := 97) (ls' := [(0, .ref 274), (1, .int v1), (2, .int v2)]) (st' := [.int o5]) rfl ?_
      replace h := Option.some.inj h
      subst h
      exact tk_RI  rfl rfl rfl
  · replace h := tk_ifF hc2 h
    refine tk_bF  rfl rfl rfl (c := s0 = (tk_b o1)) hc2 (pc' := 69) (ls' := [(0, .ref 274), (1, .int v1), (2, .int v2)]) (st' := []) ?_
    refine tk_Ps  2 (pc' := 71) (ls' := [(0, .ref 274), (1, .int v1), (2, .int v2)]) (st' := [.int (2 : Int32), .ref 274]) rfl ?_
    obtain ⟨o6, ho6, h⟩ := tk_bnd h
    refine tk_cV1  rfl rfl (r := 274) (as := [.int (2 : Int32)]) (rest := []) rfl ly274 rfl rfl (ok_fM_finds sc (2 : Int32) m ho6) ?_
    replace h := Option.some.inj h
    subst h
    exact tk_RI  rfl rfl rfl
theorem ok_fM_of (sc : tk_X) (a1 : Int32) (a2 : Int32) (m : tk_m) {out : Int32 × tk_m} (h : fM_of a1 a2 m = some out) : tk_Ru sc 4 183 [.ref 274, .int a1, .int a2] (tk_full m) (some (.int out.1), tk_full out.2) := by
  unfold fM_of at h
  refine tk_Ru0 me183 (ls := [(0, .ref 274), (1, .int a1), (2, .int a2)]) rfl rfl ?_
  refine tk_Ps  2 (pc' := 2) (ls' := [(0, .ref 274), (1, .int a1), (2, .int a2)]) (st' := [.int a1, .ref 274]) rfl ?_
  refine tk_cV1  rfl rfl (r := 274) (as := [.int a1]) (rest := []) rfl ly274 rfl rfl (ok_fM_isShape sc a1 m) ?_
  by_cases hc1 : (fM_isShape a1 m) = true
  · replace h := tk_ifT hc1 h
    refine tk_bT  rfl rfl tk_eB_eq (c := (fM_isShape a1 m) = true) hc1 (pc' := 8) (ls' := [(0, .ref 274), (1, .int a1), (2, .int a2)]) (st' := []) ?_
    refine tk_Ps  4 (pc' := 14) (ls' := [(0, .ref 274), (1, .int a1), (2, .int a2)]) (st' := [.long (9 : Int64), .long (0 : Int64), .long (Int32.toInt64 a2)]) rfl ?_
    refine tk_cS1  rfl rfl (as := [.long (Int32.toInt64 a2), .long (0 : Int64), .long (9 : Int64)]) (rest := []) rfl rfl rfl (ok_fM_in sc (Int32.toInt64 a2) (0 : Int64) (9 : Int64) m) ?_
    by_cases hc2 : (fM_in (Int32.toInt64 a2) (0 : Int64) (9 : Int64)) = true
    · replace h := tk_ifT hc2 h
      refine tk_bT  rfl rfl tk_eB_ne (c := (fM_in (Int32.toInt64 a2) (0 : Int64) (9 : Int64)) = true) hc2 (pc' := 26) (ls' := [(0, .ref 274), (1, .int a1), (2, .int a2)]) (st' := []) ?_
      refine tk_Ps  1 (pc' := 27) (ls' := [(0, .ref 274), (1, .int a1), (2, .int a2)]) (st' := [.int a2]) rfl ?_
      by_cases hc3 : a2 = 0
      · replace h := tk_ifT hc3 h
        refine tk_bT  rfl rfl rfl (c := a2 = 0) hc3 (pc' := 30) (ls' := [(0, .ref 274), (1, .int a1), (2, .int a2)]) (st' := []) ?_
        refine tk_Ps  2 (pc' := 32) (ls' := [(0, .ref 274), (1, .int a1), (2, .int a2)]) (st' := [.int a1, .ref 274]) rfl ?_
        obtain ⟨o4, ho4, h⟩ := tk_bnd h
        refine tk_cV1  rfl rfl (r := 274) (as := [.int a1]) (rest := []) rfl ly274 rfl rfl (ok_fM_kindOf sc a1 m ho4) ?_
        replace h := Option.some.inj h
        subst h
        exact tk_RI  rfl rfl rfl
      · replace h := tk_ifF hc3 h
        refine tk_bF  rfl rfl rfl (c := a2 = 0) hc3 (pc' := 36) (ls' := [(0, .ref 274), (1, .int a1), (2, .int a2)]) (st' := []) ?_
        refine tk_Ps  2 (pc' := 38) (ls' := [(0, .ref 274), (1, .int a1), (2, .int a2)]) (st' := [.int (5 : Int32), .int a2]) rfl ?_
        by_cases hc5 : a2 ≤ (5 : Int32)
        · replace h := tk_ifT hc5 h
          refine tk_bT  rfl rfl rfl (c := a2 ≤ (5 : Int32)) hc5 (pc' := 51) (ls' := [(0, .ref 274), (1, .int a1), (2, .int a2)]) (st' := []) ?_
          refine tk_Ps  2 (pc' := 53) (ls' := [(0, .ref 274), (1, .int a1), (2, .int a2)]) (st' := [.int (4 : Int32), .int a2]) rfl ?_
          by_cases hc6 : (4 : Int32) ≤ a2
          · replace h := tk_ifT hc6 h
            refine tk_bT  rfl rfl rfl (c := (4 : Int32) ≤ a2) hc6 (pc' := 60) (ls' := [(0, .ref 274), (1, .int a1), (2, .int a2)]) (st' := []) ?_
            refine tk_Ps  1 (pc' := 61) (ls' := [(0, .ref 274), (1, .int a1), (2, .int a2)]) (st' := [.int (0 : Int32)]) rfl ?_
            refine tk_Kp  (ls' := [(0, .ref 274), (1, .int a1), (2, .int a2)]) rfl rfl ?_
            exact ok_fM_of_61 sc a1 a2 (0 : Int32) m _ h
          · replace h := tk_ifF hc6 h
            refine tk_bF  rfl rfl rfl (c := (4 : Int32) ≤ a2) hc6 (pc' := 56) (ls' := [(0, .ref 274), (1, .int a1), (2, .int a2)]) (st' := []) ?_
            refine tk_Ps  2 (pc' := 61) (ls' := [(0, .ref 274), (1, .int a1), (2, .int a2)]) (st' := [.int (1 : Int32)]) rfl ?_
            refine tk_Kp  (ls' := [(0, .ref 274), (1, .int a1), (2, .int a2)]) rfl rfl ?_
            exact ok_fM_of_61 sc a1 a2 (1 : Int32) m _ h
        · replace h := tk_ifF hc5 h
          refine tk_bF  rfl rfl rfl (c := a2 ≤ (5 : Int32)) hc5 (pc' := 41) (ls' := [(0, .ref 274), (1, .int a1), (2, .int a2)]) (st' := []) ?_
          refine tk_Ps  5 (pc' := 47) (ls' := [(0, .ref 274), (1, .int a1), (2, .int a2)]) (st' := [.int (a2 - (6 : Int32)), .int a1, .ref 274]) rfl ?_
          obtain ⟨o7, ho7, h⟩ := tk_bnd h
          refine tk_cV1  rfl rfl (r := 274) (as := [.int a1, .int (a2 - (6 : Int32))]) (rest := []) rfl ly274 rfl rfl (ok_fM_form sc a1 (a2 - (6 : Int32)) m ho7) ?_
          replace h := Option.some.inj h
          subst h
          exact tk_RI  rfl rfl rfl
    · replace h := tk_ifF hc2 h
      refine tk_bF  rfl rfl tk_eB_ne (c := (fM_in (Int32.toInt64 a2) (0 : Int64) (9 : Int64)) = true) hc2 (pc' := 20) (ls' := [(0, .ref 274), (1, .int a1), (2, .int a2)]) (st' := []) ?_
      refine tk_Ps  2 (pc' := 22) (ls' := [(0, .ref 274), (1, .int a1), (2, .int a2)]) (st' := [.int (0 : Int32), .ref 274]) rfl ?_
      obtain ⟨o8, ho8, h⟩ := tk_bnd h
      refine tk_cV1  rfl rfl (r := 274) (as := [.int (0 : Int32)]) (rest := []) rfl ly274 rfl rfl (ok_fM_finds sc (0 : Int32) m ho8) ?_
      replace h := Option.some.inj h
      subst h
      exact tk_RI  rfl rfl rfl
  · replace h := tk_ifF hc1 h
    refine tk_bF  rfl rfl tk_eB_eq (c := (fM_isShape a1 m) = true) hc1 (pc' := 20) (ls' := [(0, .ref 274), (1, .int a1), (2, .int a2)]) (st' := []) ?_
    refine tk_Ps  2 (pc' := 22) (ls' := [(0, .ref 274), (1, .int a1), (2, .int a2)]) (st' := [.int (0 : Int32), .ref 274]) rfl ?_
    obtain ⟨o9, ho9, h⟩ := tk_bnd h
    refine tk_cV1  rfl rfl (r := 274) (as := [.int (0 : Int32)]) (rest := []) rfl ly274 rfl rfl (ok_fM_finds sc (0 : Int32) m ho9) ?_
    replace h := Option.some.inj h
    subst h
    exact tk_RI  rfl rfl rfl
theorem ok_fM_change_97 (sc : tk_X) (v1 : Int32) (v2 : Int32) (v3 : Int32) (s0 : Bool) (m : tk_m) (out : Int32 × tk_m) (h : fM_change_97 v1 v2 v3 s0 m = some out) : tk_Ex sc 2 tk_r190 tk_k190 97 [(0, .ref 274), (1, .int v1), (2, .int v2), (3, .int v3)] [.int (tk_b s0)] (tk_full m) (some (.int out.1), tk_full out.2) := by
  unfold fM_change_97 at h
  refine tk_Ps  2 (pc' := 101) (ls' := [(4, .int (tk_b s0)), (0, .ref 274), (1, .int v1), (2, .int v2), (3, .int v3)]) (st' := [.int (tk_b s0)]) rfl ?_
  by_cases hc1 : s0 = true
  · replace h := tk_ifT hc1 h
    refine tk_bT  rfl rfl tk_eB_ne (c := s0 = true) hc1 (pc' := 110) (ls' := [(4, .int (tk_b s0)), (0, .ref 274), (1, .int v1), (2, .int v2), (3, .int v3)]) (st' := []) ?_
    refine tk_Ps  7 (pc' := 117) (ls' := [(4, .int (tk_b s0)), (0, .ref 274), (1, .int v1), (2, .int v2), (3, .int v3)]) (st' := [.int (4 : Int32), .int v2, .int ((5 : Int32) + ((4 : Int32) * v1))]) rfl ?_
    by_cases hc2 : (4 : Int32) ≤ v2
    · replace h := tk_ifT hc2 h
      refine tk_bT  rfl rfl rfl (c := (4 : Int32) ≤ v2) hc2 (pc' := 124) (ls' := [(4, .int (tk_b s0)), (0, .ref 274), (1, .int v1), (2, .int v2), (3, .int v3)]) (st' := [.int ((5 : Int32) + ((4 : Int32) * v1))]) ?_
      refine tk_Ps  6 (pc' := 131) (ls' := [(5, .int (((5 : Int32) + ((4 : Int32) * v1)) + (v2 - (3 : Int32)))), (4, .int (tk_b s0)), (0, .ref 274), (1, .int v1), (2, .int v2), (3, .int v3)]) (st' := [.ref 274]) rfl ?_
      refine tk_HR  rfl rfl ly274 rt274_0 ?_
      refine tk_Ps  1 (pc' := 136) (ls' := [(5, .int (((5 : Int32) + ((4 : Int32) * v1)) + (v2 - (3 : Int32)))), (4, .int (tk_b s0)), (0, .ref 274), (1, .int v1), (2, .int v2), (3, .int v3)]) (st' := [.int (((5 : Int32) + ((4 : Int32) * v1)) + (v2 - (3 : Int32))), .ref 275]) rfl ?_
      obtain ⟨hg3, h⟩ := tk_grd h
      refine tk_HIa  rfl rfl ly275 hg3 ?_
      refine tk_Ps  2 (pc' := 140) (ls' := [(6, .int (m.1 275 (tk_n (((5 : Int32) + ((4 : Int32) * v1)) + (v2 - (3 : Int32)))))), (5, .int (((5 : Int32) + ((4 : Int32) * v1)) + (v2 - (3 : Int32)))), (4, .int (tk_b s0)), (0, .ref 274), (1, .int v1), (2, .int v2), (3, .int v3)]) (st' := [.ref 274]) rfl ?_
      refine tk_HR  rfl rfl ly274 rt274_0 ?_
      refine tk_Ps  2 (pc' := 146) (ls' := [(6, .int (m.1 275 (tk_n (((5 : Int32) + ((4 : Int32) * v1)) + (v2 - (3 : Int32)))))), (5, .int (((5 : Int32) + ((4 : Int32) * v1)) + (v2 - (3 : Int32)))), (4, .int (tk_b s0)), (0, .ref 274), (1, .int v1), (2, .int v2), (3, .int v3)]) (st' := [.int v3, .int (((5 : Int32) + ((4 : Int32) * v1)) + (v2 - (3 : Int32))), .ref 275]) rfl ?_
      refine tk_SIa  rfl rfl ly275 hg3 ?_
      refine tk_Ps  1 (pc' := 149) (ls' := [(6, .int (m.1 275 (tk_n (((5 : Int32) + ((4 : Int32) * v1)) + (v2 - (3 : Int32)))))), (5, .int (((5 : Int32) + ((4 : Int32) * v1)) + (v2 - (3 : Int32)))), (4, .int (tk_b s0)), (0, .ref 274), (1, .int v1), (2, .int v2), (3, .int v3)]) (st' := [.int (m.1 275 (tk_n (((5 : Int32) + ((4 : Int32) * v1)) + (v2 - (3 : Int32)))))]) rfl ?_
      replace h := Option.some.inj h
      subst h
      exact tk_RI  rfl rfl rfl
    · replace h := tk_ifF hc2 h
      refine tk_bF  rfl rfl rfl (c := (4 : Int32) ≤ v2) hc2 (pc' := 120) (ls' := [(4, .int (tk_b s0)), (0, .ref 274), (1, .int v1), (2, .int v2), (3, .int v3)]) (st' := [.int ((5 : Int32) + ((4 : Int32) * v1))]) ?_
      refine tk_Ps  5 (pc' := 131) (ls' := [(5, .int (((5 : Int32) + ((4 : Int32) * v1)) + v2)), (4, .int (tk_b s0)), (0, .ref 274), (1, .int v1), (2, .int v2), (3, .int v3)]) (st' := [.ref 274]) rfl ?_
      refine tk_HR  rfl rfl ly274 rt274_0 ?_
      refine tk_Ps  1 (pc' := 136) (ls' := [(5, .int (((5 : Int32) + ((4 : Int32) * v1)) + v2)), (4, .int (tk_b s0)), (0, .ref 274), (1, .int v1), (2, .int v2), (3, .int v3)]) (st' := [.int (((5 : Int32) + ((4 : Int32) * v1)) + v2), .ref 275]) rfl ?_
      obtain ⟨hg4, h⟩ := tk_grd h
      refine tk_HIa  rfl rfl ly275 hg4 ?_
      refine tk_Ps  2 (pc' := 140) (ls' := [(6, .int (m.1 275 (tk_n (((5 : Int32) + ((4 : Int32) * v1)) + v2)))), (5, .int (((5 : Int32) + ((4 : Int32) * v1)) + v2)), (4, .int (tk_b s0)), (0, .ref 274), (1, .int v1), (2, .int v2), (3, .int v3)]) (st' := [.ref 274]) rfl ?_
      refine tk_HR  rfl rfl ly274 rt274_0 ?_
      refine tk_Ps  2 (pc' := 146) (ls' := [(6, .int (m.1 275 (tk_n (((5 : Int32) + ((4 : Int32) * v1)) + v2)))), (5, .int (((5 : Int32) + ((4 : Int32) * v1)) + v2)), (4, .int (tk_b s0)), (0, .ref 274), (1, .int v1), (2, .int v2), (3, .int v3)]) (st' := [.int v3, .int (((5 : Int32) + ((4 : Int32) * v1)) + v2), .ref 275]) rfl ?_
      refine tk_SIa  rfl rfl ly275 hg4 ?_
      refine tk_Ps  1 (pc' := 149) (ls' := [(6, .int (m.1 275 (tk_n (((5 : Int32) + ((4 : Int32) * v1)) + v2)))), (5, .int (((5 : Int32) + ((4 : Int32) * v1)) + v2)), (4, .int (tk_b s0)), (0, .ref 274), (1, .int v1), (2, .int v2), (3, .int v3)]) (st' := [.int (m.1 275 (tk_n (((5 : Int32) + ((4 : Int32) * v1)) + v2)))]) rfl ?_
      replace h := Option.some.inj h
      subst h
      exact tk_RI  rfl rfl rfl
  · replace h := tk_ifF hc1 h
    refine tk_bF  rfl rfl tk_eB_ne (c := s0 = true) hc1 (pc' := 104) (ls' := [(4, .int (tk_b s0)), (0, .ref 274), (1, .int v1), (2, .int v2), (3, .int v3)]) (st' := []) ?_
    refine tk_Ps  2 (pc' := 106) (ls' := [(4, .int (tk_b s0)), (0, .ref 274), (1, .int v1), (2, .int v2), (3, .int v3)]) (st' := [.int (0 : Int32), .ref 274]) rfl ?_
    obtain ⟨o5, ho5, h⟩ := tk_bnd h
    refine tk_cV1  rfl rfl (r := 274) (as := [.int (0 : Int32)]) (rest := []) rfl ly274 rfl rfl (ok_fM_finds sc (0 : Int32) m ho5) ?_
    replace h := Option.some.inj h
    subst h
    exact tk_RI  rfl rfl rfl
theorem ok_fM_change_36 (sc : tk_X) (v1 : Int32) (v2 : Int32) (v3 : Int32) (s0 : Int32) (m : tk_m) (out : Int32 × tk_m) (h : fM_change_36 v1 v2 v3 s0 m = some out) : tk_Ex sc 2 tk_r190 tk_k190 36 [(0, .ref 274), (1, .int v1), (2, .int v2), (3, .int v3)] [.int s0] (tk_full m) (some (.int out.1), tk_full out.2) := by
  unfold fM_change_36 at h
  refine tk_Ps  2 (pc' := 38) (ls' := [(0, .ref 274), (1, .int v1), (2, .int v2), (3, .int v3)]) (st' := [.int v1, .ref 274, .int s0]) rfl ?_
  obtain ⟨o1, ho1, h⟩ := tk_bnd h
  refine tk_cV1  rfl rfl (r := 274) (as := [.int v1]) (rest := [.int s0]) rfl ly274 rfl rfl (ok_fM_isRound sc v1 m ho1) ?_
  by_cases hc2 : s0 = (tk_b o1)
  · replace h := tk_ifT hc2 h
    refine tk_bT  rfl rfl rfl (c := s0 = (tk_b o1)) hc2 (pc' := 50) (ls' := [(0, .ref 274), (1, .int v1), (2, .int v2), (3, .int v3)]) (st' := []) ?_
    refine tk_Ps  2 (pc' := 52) (ls' := [(0, .ref 274), (1, .int v1), (2, .int v2), (3, .int v3)]) (st' := [.int (3 : Int32), .int v2]) rfl ?_
    by_cases hc3 : (3 : Int32) ≤ v2
    · replace h := tk_ifT hc3 h
      refine tk_bT  rfl rfl rfl (c := (3 : Int32) ≤ v2) hc3 (pc' := 69) (ls' := [(0, .ref 274), (1, .int v1), (2, .int v2), (3, .int v3)]) (st' := []) ?_
      refine tk_Ps  2 (pc' := 71) (ls' := [(0, .ref 274), (1, .int v1), (2, .int v2), (3, .int v3)]) (st' := [.int (5 : Int32), .int v2]) rfl ?_
      by_cases hc4 : (5 : Int32) ≤ v2
      · replace h := tk_ifT hc4 h
        refine tk_bT  rfl rfl rfl (c := (5 : Int32) ≤ v2) hc4 (pc' := 86) (ls' := [(0, .ref 274), (1, .int v1), (2, .int v2), (3, .int v3)]) (st' := []) ?_
        refine tk_Ps  4 (pc' := 94) (ls' := [(0, .ref 274), (1, .int v1), (2, .int v2), (3, .int v3)]) (st' := [.long (30 : Int64), .long (-30 : Int64), .long (Int32.toInt64 v3)]) rfl ?_
        refine tk_cS1  rfl rfl (as := [.long (Int32.toInt64 v3), .long (-30 : Int64), .long (30 : Int64)]) (rest := []) rfl rfl rfl (ok_fM_in sc (Int32.toInt64 v3) (-30 : Int64) (30 : Int64) m) ?_
        refine tk_Kp  (ls' := [(0, .ref 274), (1, .int v1), (2, .int v2), (3, .int v3)]) rfl rfl ?_
        exact ok_fM_change_97 sc v1 v2 v3 (fM_in (Int32.toInt64 v3) (-30 : Int64) (30 : Int64)) m _ h
      · replace h := tk_ifF hc4 h
        refine tk_bF  rfl rfl rfl (c := (5 : Int32) ≤ v2) hc4 (pc' := 74) (ls' := [(0, .ref 274), (1, .int v1), (2, .int v2), (3, .int v3)]) (st' := []) ?_
        refine tk_Ps  4 (pc' := 80) (ls' := [(0, .ref 274), (1, .int v1), (2, .int v2), (3, .int v3)]) (st' := [.long (5 : Int64), .long (0 : Int64), .long (Int32.toInt64 v3)]) rfl ?_
        refine tk_cS1  rfl rfl (as := [.long (Int32.toInt64 v3), .long (0 : Int64), .long (5 : Int64)]) (rest := []) rfl rfl rfl (ok_fM_in sc (Int32.toInt64 v3) (0 : Int64) (5 : Int64) m) ?_
        refine tk_Ps  1 (pc' := 97) (ls' := [(0, .ref 274), (1, .int v1), (2, .int v2), (3, .int v3)]) (st' := [.int (tk_b (fM_in (Int32.toInt64 v3) (0 : Int64) (5 : Int64)))]) rfl ?_
        refine tk_Kp  (ls' := [(0, .ref 274), (1, .int v1), (2, .int v2), (3, .int v3)]) rfl rfl ?_
        exact ok_fM_change_97 sc v1 v2 v3 (fM_in (Int32.toInt64 v3) (0 : Int64) (5 : Int64)) m _ h
    · replace h := tk_ifF hc3 h
      refine tk_bF  rfl rfl rfl (c := (3 : Int32) ≤ v2) hc3 (pc' := 55) (ls' := [(0, .ref 274), (1, .int v1), (2, .int v2), (3, .int v3)]) (st' := []) ?_
      refine tk_Ps  4 (pc' := 63) (ls' := [(0, .ref 274), (1, .int v1), (2, .int v2), (3, .int v3)]) (st' := [.long (5 : Int64), .long (-5 : Int64), .long (Int32.toInt64 v3)]) rfl ?_
      refine tk_cS1  rfl rfl (as := [.long (Int32.toInt64 v3), .long (-5 : Int64), .long (5 : Int64)]) (rest := []) rfl rfl rfl (ok_fM_in sc (Int32.toInt64 v3) (-5 : Int64) (5 : Int64) m) ?_
      refine tk_Ps  1 (pc' := 97) (ls' := [(0, .ref 274), (1, .int v1), (2, .int v2), (3, .int v3)]) (st' := [.int (tk_b (fM_in (Int32.toInt64 v3) (-5 : Int64) (5 : Int64)))]) rfl ?_
      refine tk_Kp  (ls' := [(0, .ref 274), (1, .int v1), (2, .int v2), (3, .int v3)]) rfl rfl ?_
      exact ok_fM_change_97 sc v1 v2 v3 (fM_in (Int32.toInt64 v3) (-5 : Int64) (5 : Int64)) m _ h
  · replace h := tk_ifF hc2 h
    refine tk_bF  rfl rfl rfl (c := s0 = (tk_b o1)) hc2 (pc' := 44) (ls' := [(0, .ref 274), (1, .int v1), (2, .int v2), (3, .int v3)]) (st' := []) ?_
    refine tk_Ps  2 (pc' := 46) (ls' := [(0, .ref 274), (1, .int v1), (2, .int v2), (3, .int v3)]) (st' := [.int (2 : Int32), .ref 274]) rfl ?_
    obtain ⟨o5, ho5, h⟩ := tk_bnd h
    refine tk_cV1  rfl rfl (r := 274) (as := [.int (2 : Int32)]) (rest := []) rfl ly274 rfl rfl (ok_fM_finds sc (2 : Int32) m ho5) ?_
    replace h := Option.some.inj h
    subst h
    exact tk_RI  rfl rfl rfl
theorem ok_fM_change (sc : tk_X) (a1 : Int32) (a2 : Int32) (a3 : Int32) (m : tk_m) {out : Int32 × tk_m} (h : fM_change a1 a2 a3 m = some out) : tk_Ru sc 3 190 [.ref 274, .int a1, .int a2, .int a3] (tk_full m) (some (.int out.1), tk_full out.2) := by
  unfold fM_change at h
  refine tk_Ru0 me190 (ls := [(0, .ref 274), (1, .int a1), (2, .int a2), (3, .int a3)]) rfl rfl ?_
  refine tk_Ps  2 (pc' := 2) (ls' := [(0, .ref 274), (1, .int a1), (2, .int a2), (3, .int a3)]) (st' := [.int a1, .ref 274]) rfl ?_
  refine tk_cV1  rfl rfl (r := 274) (as := [.int a1]) (rest := []) rfl ly274 rfl rfl (ok_fM_isShape sc a1 m) ?_
  by_cases hc1 : (fM_isShape a1 m) = true
  · replace h := tk_ifT hc1 h
    refine tk_bT  rfl rfl tk_eB_eq (c := (fM_isShape a1 m) = true) hc1 (pc' := 8) (ls' := [(0, .ref 274), (1, .int a1), (2, .int a2), (3, .int a3)]) (st' := []) ?_
    refine tk_Ps  4 (pc' := 14) (ls' := [(0, .ref 274), (1, .int a1), (2, .int a2), (3, .int a3)]) (st' := [.long (5 : Int64), .long (1 : Int64), .long (Int32.toInt64 a2)]) rfl ?_
    refine tk_cS1  rfl rfl (as := [.long (Int32.toInt64 a2), .long (1 : Int64), .long (5 : Int64)]) (rest := []) rfl rfl rfl (ok_fM_in sc (Int32.toInt64 a2) (1 : Int64) (5 : Int64) m) ?_
    by_cases hc2 : (fM_in (Int32.toInt64 a2) (1 : Int64) (5 : Int64)) = true
    · replace h := tk_ifT hc2 h
      refine tk_bT  rfl rfl tk_eB_ne (c := (fM_in (Int32.toInt64 a2) (1 : Int64) (5 : Int64)) = true) hc2 (pc' := 26) (ls' := [(0, .ref 274), (1, .int a1), (2, .int a2), (3, .int a3)]) (st' := []) ?_
      refine tk_Ps  2 (pc' := 28) (ls' := [(0, .ref 274), (1, .int a1), (2, .int a2), (3, .int a3)]) (st' := [.int (4 : Int32), .int a2]) rfl ?_
      by_cases hc3 : (4 : Int32) ≤ a2
      · replace h := tk_ifT hc3 h
        refine tk_bT  rfl rfl rfl (c := (4 : Int32) ≤ a2) hc3 (pc' := 35) (ls' := [(0, .ref 274), (1, .int a1), (2, .int a2), (3, .int a3)]) (st' := []) ?_
        refine tk_Ps  1 (pc' := 36) (ls' := [(0, .ref 274), (1, .int a1), (2, .int a2), (3, .int a3)]) (st' := [.int (0 : Int32)]) rfl ?_
        refine tk_Kp  (ls' := [(0, .ref 274), (1, .int a1), (2, .int a2), (3, .int a3)]) rfl rfl ?_
        exact ok_fM_change_36 sc a1 a2 a3 (0 : Int32) m _ h
      · replace h := tk_ifF hc3 h
        refine tk_bF  rfl rfl rfl (c := (4 : Int32) ≤ a2) hc3 (pc' := 31) (ls' := [(0, .ref 274), (1, .int a1), (2, .int a2), (3, .int a3)]) (st' := []) ?_
        refine tk_Ps  2 (pc' := 36) (ls' := [(0, .ref 274), (1, .int a1), (2, .int a2), (3, .int a3)]) (st' := [.int (1 : Int32)]) rfl ?_
        refine tk_Kp  (ls' := [(0, .ref 274), (1, .int a1), (2, .int a2), (3, .int a3)]) rfl rfl ?_
        exact ok_fM_change_36 sc a1 a2 a3 (1 : Int32) m _ h
    · replace h := tk_ifF hc2 h
      refine tk_bF  rfl rfl tk_eB_ne (c := (fM_in (Int32.toInt64 a2) (1 : Int64) (5 : Int64)) = true) hc2 (pc' := 20) (ls' := [(0, .ref 274), (1, .int a1), (2, .int a2), (3, .int a3)]) (st' := []) ?_
      refine tk_Ps  2 (pc' := 22) (ls' := [(0, .ref 274), (1, .int a1), (2, .int a2), (3, .int a3)]) (st' := [.int (0 : Int32), .ref 274]) rfl ?_
      obtain ⟨o4, ho4, h⟩ := tk_bnd h
      refine tk_cV1  rfl rfl (r := 274) (as := [.int (0 : Int32)]) (rest := []) rfl ly274 rfl rfl (ok_fM_finds sc (0 : Int32) m ho4) ?_
      replace h := Option.some.inj h
      subst h
      exact tk_RI  rfl rfl rfl
  · replace h := tk_ifF hc1 h
    refine tk_bF  rfl rfl tk_eB_eq (c := (fM_isShape a1 m) = true) hc1 (pc' := 20) (ls' := [(0, .ref 274), (1, .int a1), (2, .int a2), (3, .int a3)]) (st' := []) ?_
    refine tk_Ps  2 (pc' := 22) (ls' := [(0, .ref 274), (1, .int a1), (2, .int a2), (3, .int a3)]) (st' := [.int (0 : Int32), .ref 274]) rfl ?_
    obtain ⟨o5, ho5, h⟩ := tk_bnd h
    refine tk_cV1  rfl rfl (r := 274) (as := [.int (0 : Int32)]) (rest := []) rfl ly274 rfl rfl (ok_fM_finds sc (0 : Int32) m ho5) ?_
    replace h := Option.some.inj h
    subst h
    exact tk_RI  rfl rfl rfl
theorem ok_fM_isUnder (sc : tk_X) (a1 : Int32) (a2 : Int32) (m : tk_m) : tk_Ru sc 1 192 [.int a1, .int a2] (tk_full m) (some (.int (tk_b (fM_isUnder a1 a2))), tk_full m) := by
  obtain ⟨out, h⟩ : ∃ out, fM_isUnder a1 a2 = out := ⟨_, rfl⟩
  rw [h]
  unfold fM_isUnder at h
  refine tk_Ru0 me192 (ls := [(0, .int a1), (1, .int a2)]) rfl rfl ?_
  refine tk_Ps  1 (pc' := 1) (ls' := [(0, .int a1), (1, .int a2)]) (st' := [.int a2]) rfl ?_
  by_cases hc1 : a2 = 0
  · replace h := tk_ifT hc1 h
    refine tk_bT  rfl rfl rfl (c := a2 = 0) hc1 (pc' := 29) (ls' := [(0, .int a1), (1, .int a2)]) (st' := []) ?_
    refine tk_Ps  2 (pc' := 34) (ls' := [(0, .int a1), (1, .int a2)]) (st' := [.int (1 : Int32)]) rfl ?_
    subst h
    exact tk_RB (b := true)  rfl rfl rfl
  · replace h := tk_ifF hc1 h
    refine tk_bF  rfl rfl rfl (c := a2 = 0) hc1 (pc' := 4) (ls' := [(0, .int a1), (1, .int a2)]) (st' := []) ?_
    refine tk_Ps  2 (pc' := 6) (ls' := [(0, .int a1), (1, .int a2)]) (st' := [.int a1, .int a2]) rfl ?_
    by_cases hc2 : a2 = a1
    · replace h := tk_ifT hc2 h
      refine tk_bT  rfl rfl rfl (c := a2 = a1) hc2 (pc' := 29) (ls' := [(0, .int a1), (1, .int a2)]) (st' := []) ?_
      refine tk_Ps  2 (pc' := 34) (ls' := [(0, .int a1), (1, .int a2)]) (st' := [.int (1 : Int32)]) rfl ?_
      subst h
      exact tk_RB (b := true)  rfl rfl rfl
    · replace h := tk_ifF hc2 h
      refine tk_bF  rfl rfl rfl (c := a2 = a1) hc2 (pc' := 9) (ls' := [(0, .int a1), (1, .int a2)]) (st' := []) ?_
      refine tk_Ps  2 (pc' := 11) (ls' := [(0, .int a1), (1, .int a2)]) (st' := [.int (3 : Int32), .int a1]) rfl ?_
      by_cases hc3 : a1 = (3 : Int32)
      · replace h := tk_ifT hc3 h
        refine tk_bT  rfl rfl rfl (c := a1 = (3 : Int32)) hc3 (pc' := 14) (ls' := [(0, .int a1), (1, .int a2)]) (st' := []) ?_
        refine tk_Ps  2 (pc' := 16) (ls' := [(0, .int a1), (1, .int a2)]) (st' := [.int (1 : Int32), .int a2]) rfl ?_
        by_cases hc4 : a2 = (1 : Int32)
        · replace h := tk_ifT hc4 h
          refine tk_bT  rfl rfl rfl (c := a2 = (1 : Int32)) hc4 (pc' := 29) (ls' := [(0, .int a1), (1, .int a2)]) (st' := []) ?_
          refine tk_Ps  2 (pc' := 34) (ls' := [(0, .int a1), (1, .int a2)]) (st' := [.int (1 : Int32)]) rfl ?_
          subst h
          exact tk_RB (b := true)  rfl rfl rfl
        · replace h := tk_ifF hc4 h
          refine tk_bF  rfl rfl rfl (c := a2 = (1 : Int32)) hc4 (pc' := 19) (ls' := [(0, .int a1), (1, .int a2)]) (st' := []) ?_
          refine tk_Ps  2 (pc' := 21) (ls' := [(0, .int a1), (1, .int a2)]) (st' := [.int (4 : Int32), .int a1]) rfl ?_
          by_cases hc5 : a1 = (4 : Int32)
          · replace h := tk_ifT hc5 h
            refine tk_bT  rfl rfl rfl (c := a1 = (4 : Int32)) hc5 (pc' := 24) (ls' := [(0, .int a1), (1, .int a2)]) (st' := []) ?_
            refine tk_Ps  2 (pc' := 26) (ls' := [(0, .int a1), (1, .int a2)]) (st' := [.int (2 : Int32), .int a2]) rfl ?_
            by_cases hc6 : a2 = (2 : Int32)
            · replace h := tk_ifT hc6 h
              refine tk_bT  rfl rfl rfl (c := a2 = (2 : Int32)) hc6 (pc' := 29) (ls' := [(0, .int a1), (1, .int a2)]) (st' := []) ?_
              refine tk_Ps  2 (pc' := 34) (ls' := [(0, .int a1), (1, .int a2)]) (st' := [.int (1 : Int32)]) rfl ?_
              subst h
              exact tk_RB (b := true)  rfl rfl rfl
            · replace h := tk_ifF hc6 h
              refine tk_bF  rfl rfl rfl (c := a2 = (2 : Int32)) hc6 (pc' := 33) (ls' := [(0, .int a1), (1, .int a2)]) (st' := []) ?_
              refine tk_Ps  1 (pc' := 34) (ls' := [(0, .int a1), (1, .int a2)]) (st' := [.int (0 : Int32)]) rfl ?_
              subst h
              exact tk_RB (b := false)  rfl rfl rfl
          · replace h := tk_ifF hc5 h
            refine tk_bF  rfl rfl rfl (c := a1 = (4 : Int32)) hc5 (pc' := 33) (ls' := [(0, .int a1), (1, .int a2)]) (st' := []) ?_
            refine tk_Ps  1 (pc' := 34) (ls' := [(0, .int a1), (1, .int a2)]) (st' := [.int (0 : Int32)]) rfl ?_
            subst h
            exact tk_RB (b := false)  rfl rfl rfl
      · replace h := tk_ifF hc3 h
        refine tk_bF  rfl rfl rfl (c := a1 = (3 : Int32)) hc3 (pc' := 19) (ls' := [(0, .int a1), (1, .int a2)]) (st' := []) ?_
        refine tk_Ps  2 (pc' := 21) (ls' := [(0, .int a1), (1, .int a2)]) (st' := [.int (4 : Int32), .int a1]) rfl ?_
        by_cases hc7 : a1 = (4 : Int32)
        · replace h := tk_ifT hc7 h
          refine tk_bT  rfl rfl rfl (c := a1 = (4 : Int32)) hc7 (pc' := 24) (ls' := [(0, .int a1), (1, .int a2)]) (st' := []) ?_
          refine tk_Ps  2 (pc' := 26) (ls' := [(0, .int a1), (1, .int a2)]) (st' := [.int (2 : Int32), .int a2]) rfl ?_
          by_cases hc8 : a2 = (2 : Int32)
          · replace h := tk_ifT hc8 h
            refine tk_bT  rfl rfl rfl (c := a2 = (2 : Int32)) hc8 (pc' := 29) (ls' := [(0, .int a1), (1, .int a2)]) (st' := []) ?_
            refine tk_Ps  2 (pc' := 34) (ls' := [(0, .int a1), (1, .int a2)]) (st' := [.int (1 : Int32)]) rfl ?_
            subst h
            exact tk_RB (b := true)  rfl rfl rfl
          · replace h := tk_ifF hc8 h
            refine tk_bF  rfl rfl rfl (c := a2 = (2 : Int32)) hc8 (pc' := 33) (ls' := [(0, .int a1), (1, .int a2)]) (st' := []) ?_
            refine tk_Ps  1 (pc' := 34) (ls' := [(0, .int a1), (1, .int a2)]) (st' := [.int (0 : Int32)]) rfl ?_
            subst h
            exact tk_RB (b := false)  rfl rfl rfl
        · replace h := tk_ifF hc7 h
          refine tk_bF  rfl rfl rfl (c := a1 = (4 : Int32)) hc7 (pc' := 33) (ls' := [(0, .int a1), (1, .int a2)]) (st' := []) ?_
          refine tk_Ps  1 (pc' := 34) (ls' := [(0, .int a1), (1, .int a2)]) (st' := [.int (0 : Int32)]) rfl ?_
          subst h
          exact tk_RB (b := false)  rfl rfl rfl
theorem ok_fM_as (sc : tk_X) (a1 : Int32) (a2 : Int32) (m : tk_m) {out : Int32 × tk_m} (h : fM_as a1 a2 m = some out) : tk_Ru sc 4 191 [.ref 274, .int a1, .int a2] (tk_full m) (some (.int out.1), tk_full out.2) := by
  unfold fM_as at h
  refine tk_Ru0 me191 (ls := [(0, .ref 274), (1, .int a1), (2, .int a2)]) rfl rfl ?_
  refine tk_Ps  2 (pc' := 2) (ls' := [(0, .ref 274), (1, .int a1), (2, .int a2)]) (st' := [.int a1, .ref 274]) rfl ?_
  refine tk_cV1  rfl rfl (r := 274) (as := [.int a1]) (rest := []) rfl ly274 rfl rfl (ok_fM_isShape sc a1 m) ?_
  by_cases hc1 : (fM_isShape a1 m) = true
  · replace h := tk_ifT hc1 h
    refine tk_bT  rfl rfl tk_eB_eq (c := (fM_isShape a1 m) = true) hc1 (pc' := 8) (ls' := [(0, .ref 274), (1, .int a1), (2, .int a2)]) (st' := []) ?_
    refine tk_Ps  4 (pc' := 14) (ls' := [(0, .ref 274), (1, .int a1), (2, .int a2)]) (st' := [.long (4 : Int64), .long (0 : Int64), .long (Int32.toInt64 a2)]) rfl ?_
    refine tk_cS1  rfl rfl (as := [.long (Int32.toInt64 a2), .long (0 : Int64), .long (4 : Int64)]) (rest := []) rfl rfl rfl (ok_fM_in sc (Int32.toInt64 a2) (0 : Int64) (4 : Int64) m) ?_
    by_cases hc2 : (fM_in (Int32.toInt64 a2) (0 : Int64) (4 : Int64)) = true
    · replace h := tk_ifT hc2 h
      refine tk_bT  rfl rfl tk_eB_ne (c := (fM_in (Int32.toInt64 a2) (0 : Int64) (4 : Int64)) = true) hc2 (pc' := 26) (ls' := [(0, .ref 274), (1, .int a1), (2, .int a2)]) (st' := []) ?_
      refine tk_Ps  2 (pc' := 28) (ls' := [(0, .ref 274), (1, .int a1), (2, .int a2)]) (st' := [.int a1, .ref 274]) rfl ?_
      obtain ⟨o3, ho3, h⟩ := tk_bnd h
      refine tk_cV1  rfl rfl (r := 274) (as := [.int a1]) (rest := []) rfl ly274 rfl rfl (ok_fM_kindOf sc a1 m ho3) ?_
      refine tk_Ps  1 (pc' := 32) (ls' := [(0, .ref 274), (1, .int a1), (2, .int a2)]) (st' := [.int a2, .int o3]) rfl ?_
      refine tk_cS1  rfl rfl (as := [.int o3, .int a2]) (rest := []) rfl rfl rfl (ok_fM_isUnder sc o3 a2 m) ?_
      by_cases hc4 : (fM_isUnder o3 a2) = true
      · replace h := tk_ifT hc4 h
        refine tk_bT  rfl rfl tk_eB_ne (c := (fM_isUnder o3 a2) = true) hc4 (pc' := 44) (ls' := [(0, .ref 274), (1, .int a1), (2, .int a2)]) (st' := []) ?_
        refine tk_Ps  2 (pc' := 46) (ls' := [(0, .ref 274), (1, .int a1), (2, .int a2)]) (st' := [.int a1, .ref 274]) rfl ?_
        obtain ⟨o5, ho5, h⟩ := tk_bnd h
        refine tk_cV1  rfl rfl (r := 274) (as := [.int a1]) (rest := []) rfl ly274 rfl rfl (ok_fM_isRound sc a1 m ho5) ?_
        by_cases hc6 : o5 = true
        · replace h := tk_ifT hc6 h
          refine tk_bT  rfl rfl tk_eB_eq (c := o5 = true) hc6 (pc' := 52) (ls' := [(0, .ref 274), (1, .int a1), (2, .int a2)]) (st' := []) ?_
          refine tk_Ps  3 (pc' := 55) (ls' := [(0, .ref 274), (1, .int a1), (2, .int a2)]) (st' := [.int (3 : Int32), .int a1, .ref 274]) rfl ?_
          obtain ⟨o7, ho7, h⟩ := tk_bnd h
          refine tk_cV1  rfl rfl (r := 274) (as := [.int a1, .int (3 : Int32)]) (rest := []) rfl ly274 rfl rfl (ok_fM_of0 sc a1 (3 : Int32) m ho7) ?_
          refine tk_Ps  1 (pc' := 67) (ls' := [(0, .ref 274), (1, .int a1), (2, .int a2)]) (st' := [.int o7]) rfl ?_
          replace h := Option.some.inj h
          subst h
          exact tk_RI  rfl rfl rfl
        · replace h := tk_ifF hc6 h
          refine tk_bF  rfl rfl tk_eB_eq (c := o5 = true) hc6 (pc' := 61) (ls' := [(0, .ref 274), (1, .int a1), (2, .int a2)]) (st' := []) ?_
          refine tk_Ps  3 (pc' := 64) (ls' := [(0, .ref 274), (1, .int a1), (2, .int a2)]) (st' := [.int (2 : Int32), .int a1, .ref 274]) rfl ?_
          obtain ⟨o8, ho8, h⟩ := tk_bnd h
          refine tk_cV1  rfl rfl (r := 274) (as := [.int a1, .int (2 : Int32)]) (rest := []) rfl ly274 rfl rfl (ok_fM_of0 sc a1 (2 : Int32) m ho8) ?_
          replace h := Option.some.inj h
          subst h
          exact tk_RI  rfl rfl rfl
      · replace h := tk_ifF hc4 h
        refine tk_bF  rfl rfl tk_eB_ne (c := (fM_isUnder o3 a2) = true) hc4 (pc' := 38) (ls' := [(0, .ref 274), (1, .int a1), (2, .int a2)]) (st' := []) ?_
        refine tk_Ps  2 (pc' := 40) (ls' := [(0, .ref 274), (1, .int a1), (2, .int a2)]) (st' := [.int (2 : Int32), .ref 274]) rfl ?_
        obtain ⟨o9, ho9, h⟩ := tk_bnd h
        refine tk_cV1  rfl rfl (r := 274) (as := [.int (2 : Int32)]) (rest := []) rfl ly274 rfl rfl (ok_fM_finds sc (2 : Int32) m ho9) ?_
        replace h := Option.some.inj h
        subst h
        exact tk_RI  rfl rfl rfl
    · replace h := tk_ifF hc2 h
      refine tk_bF  rfl rfl tk_eB_ne (c := (fM_in (Int32.toInt64 a2) (0 : Int64) (4 : Int64)) = true) hc2 (pc' := 20) (ls' := [(0, .ref 274), (1, .int a1), (2, .int a2)]) (st' := []) ?_
      refine tk_Ps  2 (pc' := 22) (ls' := [(0, .ref 274), (1, .int a1), (2, .int a2)]) (st' := [.int (0 : Int32), .ref 274]) rfl ?_
      obtain ⟨o10, ho10, h⟩ := tk_bnd h
      refine tk_cV1  rfl rfl (r := 274) (as := [.int (0 : Int32)]) (rest := []) rfl ly274 rfl rfl (ok_fM_finds sc (0 : Int32) m ho10) ?_
      replace h := Option.some.inj h
      subst h
      exact tk_RI  rfl rfl rfl
  · replace h := tk_ifF hc1 h
    refine tk_bF  rfl rfl tk_eB_eq (c := (fM_isShape a1 m) = true) hc1 (pc' := 20) (ls' := [(0, .ref 274), (1, .int a1), (2, .int a2)]) (st' := []) ?_
    refine tk_Ps  2 (pc' := 22) (ls' := [(0, .ref 274), (1, .int a1), (2, .int a2)]) (st' := [.int (0 : Int32), .ref 274]) rfl ?_
    obtain ⟨o11, ho11, h⟩ := tk_bnd h
    refine tk_cV1  rfl rfl (r := 274) (as := [.int (0 : Int32)]) (rest := []) rfl ly274 rfl rfl (ok_fM_finds sc (0 : Int32) m ho11) ?_
    replace h := Option.some.inj h
    subst h
    exact tk_RI  rfl rfl rfl
theorem ok_fM_drop (sc : tk_X) (m : tk_m) {out : Int32 × tk_m} (h : fM_drop m = some out) : tk_Ru sc 2 193 [.ref 274] (tk_full m) (some (.int out.1), tk_full out.2) := by
  unfold fM_drop at h
  refine tk_Ru0 me193 (ls := [(0, .ref 274)]) rfl rfl ?_
  refine tk_Ps  1 (pc' := 1) (ls' := [(0, .ref 274)]) (st' := [.ref 274]) rfl ?_
  refine tk_HR  rfl rfl ly274 rt274_0 ?_
  refine tk_Ps  1 (pc' := 5) (ls' := [(0, .ref 274)]) (st' := [.int (0 : Int32), .ref 275]) rfl ?_
  refine tk_HIa  rfl rfl ly275 (by decide) ?_
  by_cases hc1 : (m.1 275 0) = 0
  · replace h := tk_ifT hc1 h
    refine tk_bT  rfl rfl rfl (c := (m.1 275 0) = 0) hc1 (pc' := 9) (ls' := [(0, .ref 274)]) (st' := []) ?_
    refine tk_Ps  2 (pc' := 11) (ls' := [(0, .ref 274)]) (st' := [.int (3 : Int32), .ref 274]) rfl ?_
    obtain ⟨o2, ho2, h⟩ := tk_bnd h
    refine tk_cV1  rfl rfl (r := 274) (as := [.int (3 : Int32)]) (rest := []) rfl ly274 rfl rfl (ok_fM_finds sc (3 : Int32) m ho2) ?_
    replace h := Option.some.inj h
    subst h
    exact tk_RI  rfl rfl rfl
  · replace h := tk_ifF hc1 h
    refine tk_bF  rfl rfl rfl (c := (m.1 275 0) = 0) hc1 (pc' := 15) (ls' := [(0, .ref 274)]) (st' := []) ?_
    refine tk_Ps  1 (pc' := 16) (ls' := [(0, .ref 274)]) (st' := [.ref 274]) rfl ?_
    refine tk_HR  rfl rfl ly274 rt274_0 ?_
    refine tk_Ps  2 (pc' := 21) (ls' := [(0, .ref 274)]) (st' := [.int (0 : Int32), .ref 275, .int (0 : Int32), .ref 275]) rfl ?_
    refine tk_HIa  rfl rfl ly275 (by decide) ?_
    refine tk_Ps  2 (pc' := 24) (ls' := [(0, .ref 274)]) (st' := [.int ((m.1 275 0) - (1 : Int32)), .int (0 : Int32), .ref 275]) rfl ?_
    refine tk_SIa  rfl rfl ly275 (by decide) ?_
    refine tk_Ps  1 (pc' := 26) (ls' := [(0, .ref 274)]) (st' := [.ref 274]) rfl ?_
    refine tk_HR  rfl rfl ly274 rt274_0 ?_
    refine tk_Ps  1 (pc' := 30) (ls' := [(0, .ref 274)]) (st' := [.int (0 : Int32), .ref 275]) rfl ?_
    refine tk_HIa  rfl rfl ly275 (by decide) ?_
    replace h := Option.some.inj h
    subst h
    exact tk_RI  rfl rfl rfl
theorem ok_fM_copies_2 (sc : tk_X) : ∀ (n : Nat) (v1 : Int32) (v2 : Int32) (v3 : Int32) (m : tk_m) (out : tk_m), fM_copies_2 n v1 v2 v3 m = some out → tk_Ex sc 0 tk_r195 tk_k195 2 [(0, .ref 274), (1, .int v1), (2, .int v2), (3, .int v3)] [] (tk_full m) (none, tk_full out) := by
  intro n
  induction n with
  | zero =>
    intro v1 v2 v3 m out h
    cases h
  | succ n ih =>
    intro v1 v2 v3 m out h
    unfold fM_copies_2 at h
    refine tk_Ps  2 (pc' := 4) (ls' := [(0, .ref 274), (1, .int v1), (2, .int v2), (3, .int v3)]) (st' := [.int (4 : Int32), .int v3]) rfl ?_
    by_cases hc1 : (4 : Int32) ≤ v3
    · replace h := tk_ifT hc1 h
      refine tk_bT  rfl rfl rfl (c := (4 : Int32) ≤ v3) hc1 (pc' := 37) (ls' := [(0, .ref 274), (1, .int v1), (2, .int v2), (3, .int v3)]) (st' := []) ?_
      replace h := Option.some.inj h
      subst h
      exact tk_RV  rfl rfl rfl
    · replace h := tk_ifF hc1 h
      refine tk_bF  rfl rfl rfl (c := (4 : Int32) ≤ v3) hc1 (pc' := 7) (ls' := [(0, .ref 274), (1, .int v1), (2, .int v2), (3, .int v3)]) (st' := []) ?_
      refine tk_Ps  1 (pc' := 8) (ls' := [(0, .ref 274), (1, .int v1), (2, .int v2), (3, .int v3)]) (st' := [.ref 274]) rfl ?_
      refine tk_HR  rfl rfl ly274 rt274_0 ?_
      refine tk_Ps  8 (pc' := 19) (ls' := [(0, .ref 274), (1, .int v1), (2, .int v2), (3, .int v3)]) (st' := [.ref 274, .int (((5 : Int32) + ((4 : Int32) * v2)) + v3), .ref 275]) rfl ?_
      refine tk_HR  rfl rfl ly274 rt274_0 ?_
      refine tk_Ps  7 (pc' := 29) (ls' := [(0, .ref 274), (1, .int v1), (2, .int v2), (3, .int v3)]) (st' := [.int (((5 : Int32) + ((4 : Int32) * v1)) + v3), .ref 275, .int (((5 : Int32) + ((4 : Int32) * v2)) + v3), .ref 275]) rfl ?_
      obtain ⟨hg2, h⟩ := tk_grd h
      refine tk_HIa  rfl rfl ly275 hg2 ?_
      obtain ⟨hg3, h⟩ := tk_grd h
      refine tk_SIa  rfl rfl ly275 hg3 ?_
      refine tk_Ps  2 (pc' := 2) (ls' := [(3, .int (v3 + (1 : Int32))), (0, .ref 274), (1, .int v1), (2, .int v2)]) (st' := []) rfl ?_
      refine tk_Kp  (ls' := [(0, .ref 274), (1, .int v1), (2, .int v2), (3, .int (v3 + (1 : Int32)))]) rfl rfl ?_
      exact ih v1 v2 (v3 + (1 : Int32)) (tk_u2 m.1 275 (tk_n (((5 : Int32) + ((4 : Int32) * v2)) + v3)) (m.1 275 (tk_n (((5 : Int32) + ((4 : Int32) * v1)) + v3))), m.2.1, m.2.2.1, m.2.2.2) _ h
theorem ok_fM_copies (sc : tk_X) (a1 : Int32) (a2 : Int32) (m : tk_m) {out : tk_m} (h : fM_copies a1 a2 m = some out) : tk_Ru sc 1 195 [.ref 274, .int a1, .int a2] (tk_full m) (none, tk_full out) := by
  unfold fM_copies at h
  refine tk_Ru0 me195 (ls := [(0, .ref 274), (1, .int a1), (2, .int a2)]) rfl rfl ?_
  refine tk_Ps  2 (pc' := 2) (ls' := [(3, .int (0 : Int32)), (0, .ref 274), (1, .int a1), (2, .int a2)]) (st' := []) rfl ?_
  refine tk_Kp  (ls' := [(0, .ref 274), (1, .int a1), (2, .int a2), (3, .int (0 : Int32))]) rfl rfl ?_
  exact ok_fM_copies_2 sc tk_F a1 a2 (0 : Int32) m _ h
theorem ok_fM_prune_68 (sc : tk_X) (v2 : Int32) (v3 : Int32) (m : tk_m) (out : Int32 × tk_m) (h : fM_prune_68 v2 v3 m = some out) : tk_Ex sc 3 tk_r194 tk_k194 68 [(0, .ref 274), (2, .int v2), (3, .int v3)] [] (tk_full m) (some (.int out.1), tk_full out.2) := by
  unfold fM_prune_68 at h
  refine tk_Ps  1 (pc' := 69) (ls' := [(0, .ref 274), (2, .int v2), (3, .int v3)]) (st' := [.ref 274]) rfl ?_
  refine tk_HR  rfl rfl ly274 rt274_0 ?_
  refine tk_Ps  2 (pc' := 74) (ls' := [(0, .ref 274), (2, .int v2), (3, .int v3)]) (st' := [.int v2, .int (0 : Int32), .ref 275]) rfl ?_
  refine tk_SIa  rfl rfl ly275 (by decide) ?_
  refine tk_Ps  3 (pc' := 78) (ls' := [(0, .ref 274), (2, .int v2), (3, .int v3)]) (st' := [.int (v3 - v2)]) rfl ?_
  replace h := Option.some.inj h
  subst h
  exact tk_RI  rfl rfl rfl
theorem ok_fM_prune_30 (sc : tk_X) : ∀ (n : Nat) (v1 : Int32) (v2 : Int32) (v3 : Int32) (v4 : Int32) (m : tk_m) (out : Int32 × tk_m), fM_prune_30 n v1 v2 v3 v4 m = some out → tk_Ex sc 3 tk_r194 tk_k194 30 [(0, .ref 274), (1, .int v1), (2, .int v2), (3, .int v3), (4, .int v4)] [] (tk_full m) (some (.int out.1), tk_full out.2) := by
  intro n
  induction n with
  | zero =>
    intro v1 v2 v3 v4 m out h
    cases h
  | succ n ih =>
    intro v1 v2 v3 v4 m out h
    unfold fM_prune_30 at h
    refine tk_Ps  2 (pc' := 33) (ls' := [(0, .ref 274), (1, .int v1), (2, .int v2), (3, .int v3), (4, .int v4)]) (st' := [.int v3, .int v4]) rfl ?_
    by_cases hc1 : v3 ≤ v4
    · replace h := tk_ifT hc1 h
      refine tk_bT  rfl rfl rfl (c := v3 ≤ v4) hc1 (pc' := 68) (ls' := [(0, .ref 274), (1, .int v1), (2, .int v2), (3, .int v3), (4, .int v4)]) (st' := []) ?_
      refine tk_Kp  (ls' := [(0, .ref 274), (2, .int v2), (3, .int v3)]) rfl rfl ?_
      exact ok_fM_prune_68 sc v2 v3 m _ h
    · replace h := tk_ifF hc1 h
      refine tk_bF  rfl rfl rfl (c := v3 ≤ v4) hc1 (pc' := 36) (ls' := [(0, .ref 274), (1, .int v1), (2, .int v2), (3, .int v3), (4, .int v4)]) (st' := []) ?_
      refine tk_Ps  2 (pc' := 39) (ls' := [(0, .ref 274), (1, .int v1), (2, .int v2), (3, .int v3), (4, .int v4)]) (st' := [.int v4, .ref 274]) rfl ?_
      obtain ⟨o2, ho2, h⟩ := tk_bnd h
      refine tk_cV1  rfl rfl (r := 274) (as := [.int v4]) (rest := []) rfl ly274 rfl rfl (ok_fM_kindOf sc v4 m ho2) ?_
      refine tk_Ps  1 (pc' := 43) (ls' := [(0, .ref 274), (1, .int v1), (2, .int v2), (3, .int v3), (4, .int v4)]) (st' := [.int v1, .int o2]) rfl ?_
      refine tk_cS1  rfl rfl (as := [.int o2, .int v1]) (rest := []) rfl rfl rfl (ok_fM_isUnder sc o2 v1 m) ?_
      by_cases hc3 : (fM_isUnder o2 v1) = true
      · replace h := tk_ifT hc3 h
        refine tk_bT  rfl rfl tk_eB_eq (c := (fM_isUnder o2 v1) = true) hc3 (pc' := 49) (ls' := [(0, .ref 274), (1, .int v1), (2, .int v2), (3, .int v3), (4, .int v4)]) (st' := []) ?_
        refine tk_Ps  3 (pc' := 30) (ls' := [(4, .int (v4 + (1 : Int32))), (0, .ref 274), (1, .int v1), (2, .int v2), (3, .int v3)]) (st' := []) rfl ?_
        refine tk_Kp  (ls' := [(0, .ref 274), (1, .int v1), (2, .int v2), (3, .int v3), (4, .int (v4 + (1 : Int32)))]) rfl rfl ?_
        exact ih v1 v2 v3 (v4 + (1 : Int32)) m _ h
      · replace h := tk_ifF hc3 h
        refine tk_bF  rfl rfl tk_eB_eq (c := (fM_isUnder o2 v1) = true) hc3 (pc' := 52) (ls' := [(0, .ref 274), (1, .int v1), (2, .int v2), (3, .int v3), (4, .int v4)]) (st' := []) ?_
        refine tk_Ps  3 (pc' := 56) (ls' := [(0, .ref 274), (1, .int v1), (2, .int v2), (3, .int v3), (4, .int v4)]) (st' := [.int v2, .int v4, .ref 274]) rfl ?_
        obtain ⟨o4, ho4, h⟩ := tk_bnd h
        refine tk_cV0  rfl rfl (r := 274) (as := [.int v4, .int v2]) (rest := []) rfl ly274 rfl rfl (ok_fM_copies sc v4 v2 m ho4) ?_
        refine tk_Ps  3 (pc' := 30) (ls' := [(4, .int (v4 + (1 : Int32))), (2, .int (v2 + (1 : Int32))), (0, .ref 274), (1, .int v1), (3, .int v3)]) (st' := []) rfl ?_
        refine tk_Kp  (ls' := [(0, .ref 274), (1, .int v1), (2, .int (v2 + (1 : Int32))), (3, .int v3), (4, .int (v4 + (1 : Int32)))]) rfl rfl ?_
        exact ih v1 (v2 + (1 : Int32)) v3 (v4 + (1 : Int32)) o4 _ h
theorem ok_fM_prune (sc : tk_X) (a1 : Int32) (m : tk_m) {out : Int32 × tk_m} (h : fM_prune a1 m = some out) : tk_Ru sc 4 194 [.ref 274, .int a1] (tk_full m) (some (.int out.1), tk_full out.2) := by
  unfold fM_prune at h
  refine tk_Ru0 me194 (ls := [(0, .ref 274), (1, .int a1)]) rfl rfl ?_
  refine tk_Ps  4 (pc' := 6) (ls' := [(0, .ref 274), (1, .int a1)]) (st' := [.long (4 : Int64), .long (0 : Int64), .long (Int32.toInt64 a1)]) rfl ?_
  refine tk_cS1  rfl rfl (as := [.long (Int32.toInt64 a1), .long (0 : Int64), .long (4 : Int64)]) (rest := []) rfl rfl rfl (ok_fM_in sc (Int32.toInt64 a1) (0 : Int64) (4 : Int64) m) ?_
  by_cases hc1 : (fM_in (Int32.toInt64 a1) (0 : Int64) (4 : Int64)) = true
  · replace h := tk_ifT hc1 h
    refine tk_bT  rfl rfl tk_eB_ne (c := (fM_in (Int32.toInt64 a1) (0 : Int64) (4 : Int64)) = true) hc1 (pc' := 18) (ls' := [(0, .ref 274), (1, .int a1)]) (st' := []) ?_
    refine tk_Ps  3 (pc' := 21) (ls' := [(2, .int (0 : Int32)), (0, .ref 274), (1, .int a1)]) (st' := [.ref 274]) rfl ?_
    refine tk_HR  rfl rfl ly274 rt274_0 ?_
    refine tk_Ps  1 (pc' := 25) (ls' := [(2, .int (0 : Int32)), (0, .ref 274), (1, .int a1)]) (st' := [.int (0 : Int32), .ref 275]) rfl ?_
    refine tk_HIa  rfl rfl ly275 (by decide) ?_
    refine tk_Ps  3 (pc' := 30) (ls' := [(4, .int (0 : Int32)), (3, .int (m.1 275 0)), (2, .int (0 : Int32)), (0, .ref 274), (1, .int a1)]) (st' := []) rfl ?_
    refine tk_Kp  (ls' := [(0, .ref 274), (1, .int a1), (2, .int (0 : Int32)), (3, .int (m.1 275 0)), (4, .int (0 : Int32))]) rfl rfl ?_
    exact ok_fM_prune_30 sc tk_F a1 (0 : Int32) (m.1 275 0) (0 : Int32) m _ h
  · replace h := tk_ifF hc1 h
    refine tk_bF  rfl rfl tk_eB_ne (c := (fM_in (Int32.toInt64 a1) (0 : Int64) (4 : Int64)) = true) hc1 (pc' := 12) (ls' := [(0, .ref 274), (1, .int a1)]) (st' := []) ?_
    refine tk_Ps  2 (pc' := 14) (ls' := [(0, .ref 274), (1, .int a1)]) (st' := [.int (0 : Int32), .ref 274]) rfl ?_
    obtain ⟨o2, ho2, h⟩ := tk_bnd h
    refine tk_cV1  rfl rfl (r := 274) (as := [.int (0 : Int32)]) (rest := []) rfl ly274 rfl rfl (ok_fM_finds sc (0 : Int32) m ho2) ?_
    replace h := Option.some.inj h
    subst h
    exact tk_RI  rfl rfl rfl
theorem ok_fM_swaps_2 (sc : tk_X) : ∀ (n : Nat) (v1 : Int32) (v2 : Int32) (v3 : Int32) (m : tk_m) (out : tk_m), fM_swaps_2 n v1 v2 v3 m = some out → tk_Ex sc 1 tk_r197 tk_k197 2 [(0, .ref 274), (1, .int v1), (2, .int v2), (3, .int v3)] [] (tk_full m) (none, tk_full out) := by
  intro n
  induction n with
  | zero =>
    intro v1 v2 v3 m out h
    cases h
  | succ n ih =>
    intro v1 v2 v3 m out h
    unfold fM_swaps_2 at h
    refine tk_Ps  2 (pc' := 4) (ls' := [(0, .ref 274), (1, .int v1), (2, .int v2), (3, .int v3)]) (st' := [.int (4 : Int32), .int v3]) rfl ?_
    by_cases hc1 : (4 : Int32) ≤ v3
    · replace h := tk_ifT hc1 h
      refine tk_bT  rfl rfl rfl (c := (4 : Int32) ≤ v3) hc1 (pc' := 53) (ls' := [(0, .ref 274), (1, .int v1), (2, .int v2), (3, .int v3)]) (st' := []) ?_
      replace h := Option.some.inj h
      subst h
      exact tk_RV  rfl rfl rfl
    · replace h := tk_ifF hc1 h
      refine tk_bF  rfl rfl rfl (c := (4 : Int32) ≤ v3) hc1 (pc' := 7) (ls' := [(0, .ref 274), (1, .int v1), (2, .int v2), (3, .int v3)]) (st' := []) ?_
      refine tk_Ps  3 (pc' := 10) (ls' := [(0, .ref 274), (1, .int v1), (2, .int v2), (3, .int v3)]) (st' := [.int v3, .int v1, .ref 274]) rfl ?_
      obtain ⟨o2, ho2, h⟩ := tk_bnd h
      refine tk_cV1  rfl rfl (r := 274) (as := [.int v1, .int v3]) (rest := []) rfl ly274 rfl rfl (ok_fM_of0 sc v1 v3 m ho2) ?_
      refine tk_Ps  2 (pc' := 16) (ls' := [(4, .int o2), (0, .ref 274), (1, .int v1), (2, .int v2), (3, .int v3)]) (st' := [.ref 274]) rfl ?_
      refine tk_HR  rfl rfl ly274 rt274_0 ?_
      refine tk_Ps  10 (pc' := 29) (ls' := [(4, .int o2), (0, .ref 274), (1, .int v1), (2, .int v2), (3, .int v3)]) (st' := [.int v3, .int v2, .ref 274, .int (((5 : Int32) + ((4 : Int32) * v1)) + v3), .ref 275]) rfl ?_
      obtain ⟨o3, ho3, h⟩ := tk_bnd h
      refine tk_cV1  rfl rfl (r := 274) (as := [.int v2, .int v3]) (rest := [.int (((5 : Int32) + ((4 : Int32) * v1)) + v3), .ref 275]) rfl ly274 rfl rfl (ok_fM_of0 sc v2 v3 m ho3) ?_
      obtain ⟨hg4, h⟩ := tk_grd h
      refine tk_SIa  rfl rfl ly275 hg4 ?_
      refine tk_Ps  1 (pc' := 34) (ls' := [(4, .int o2), (0, .ref 274), (1, .int v1), (2, .int v2), (3, .int v3)]) (st' := [.ref 274]) rfl ?_
      refine tk_HR  rfl rfl ly274 rt274_0 ?_
      refine tk_Ps  8 (pc' := 46) (ls' := [(4, .int o2), (0, .ref 274), (1, .int v1), (2, .int v2), (3, .int v3)]) (st' := [.int o2, .int (((5 : Int32) + ((4 : Int32) * v2)) + v3), .ref 275]) rfl ?_
      obtain ⟨hg5, h⟩ := tk_grd h
      refine tk_SIa  rfl rfl ly275 hg5 ?_
      refine tk_Ps  2 (pc' := 2) (ls' := [(3, .int (v3 + (1 : Int32))), (4, .int o2), (0, .ref 274), (1, .int v1), (2, .int v2)]) (st' := []) rfl ?_
      refine tk_Kp  (ls' := [(0, .ref 274), (1, .int v1), (2, .int v2), (3, .int (v3 + (1 : Int32)))]) rfl rfl ?_
      exact ih v1 v2 (v3 + (1 : Int32)) (tk_u2 (tk_u2 m.1 275 (tk_n (((5 : Int32) + ((4 : Int32) * v1)) + v3)) o3) 275 (tk_n (((5 : Int32) + ((4 : Int32) * v2)) + v3)) o2, m.2.1, m.2.2.1, m.2.2.2) _ h
theorem ok_fM_swaps (sc : tk_X) (a1 : Int32) (a2 : Int32) (m : tk_m) {out : tk_m} (h : fM_swaps a1 a2 m = some out) : tk_Ru sc 2 197 [.ref 274, .int a1, .int a2] (tk_full m) (none, tk_full out) := by
  unfold fM_swaps at h
  refine tk_Ru0 me197 (ls := [(0, .ref 274), (1, .int a1), (2, .int a2)]) rfl rfl ?_
  refine tk_Ps  2 (pc' := 2) (ls' := [(3, .int (0 : Int32)), (0, .ref 274), (1, .int a1), (2, .int a2)]) (st' := []) rfl ?_
  refine tk_Kp  (ls' := [(0, .ref 274), (1, .int a1), (2, .int a2), (3, .int (0 : Int32))]) rfl rfl ?_
  exact ok_fM_swaps_2 sc tk_F a1 a2 (0 : Int32) m _ h
theorem ok_fM_swap (sc : tk_X) (a1 : Int32) (a2 : Int32) (m : tk_m) {out : Int32 × tk_m} (h : fM_swap a1 a2 m = some out) : tk_Ru sc 3 196 [.ref 274, .int a1, .int a2] (tk_full m) (some (.int out.1), tk_full out.2) := by
  unfold fM_swap at h
  refine tk_Ru0 me196 (ls := [(0, .ref 274), (1, .int a1), (2, .int a2)]) rfl rfl ?_
  refine tk_Ps  2 (pc' := 2) (ls' := [(0, .ref 274), (1, .int a1), (2, .int a2)]) (st' := [.int a1, .ref 274]) rfl ?_
  refine tk_cV1  rfl rfl (r := 274) (as := [.int a1]) (rest := []) rfl ly274 rfl rfl (ok_fM_isShape sc a1 m) ?_
  by_cases hc1 : (fM_isShape a1 m) = true
  · replace h := tk_ifT hc1 h
    refine tk_bT  rfl rfl tk_eB_eq (c := (fM_isShape a1 m) = true) hc1 (pc' := 8) (ls' := [(0, .ref 274), (1, .int a1), (2, .int a2)]) (st' := []) ?_
    refine tk_Ps  2 (pc' := 10) (ls' := [(0, .ref 274), (1, .int a1), (2, .int a2)]) (st' := [.int a2, .ref 274]) rfl ?_
    refine tk_cV1  rfl rfl (r := 274) (as := [.int a2]) (rest := []) rfl ly274 rfl rfl (ok_fM_isShape sc a2 m) ?_
    by_cases hc2 : (fM_isShape a2 m) = true
    · replace h := tk_ifT hc2 h
      refine tk_bT  rfl rfl tk_eB_ne (c := (fM_isShape a2 m) = true) hc2 (pc' := 22) (ls' := [(0, .ref 274), (1, .int a1), (2, .int a2)]) (st' := []) ?_
      refine tk_Ps  3 (pc' := 25) (ls' := [(0, .ref 274), (1, .int a1), (2, .int a2)]) (st' := [.int a2, .int a1, .ref 274]) rfl ?_
      obtain ⟨o3, ho3, h⟩ := tk_bnd h
      refine tk_cV0  rfl rfl (r := 274) (as := [.int a1, .int a2]) (rest := []) rfl ly274 rfl rfl (ok_fM_swaps sc a1 a2 m ho3) ?_
      refine tk_Ps  1 (pc' := 29) (ls' := [(0, .ref 274), (1, .int a1), (2, .int a2)]) (st' := [.int (1 : Int32)]) rfl ?_
      replace h := Option.some.inj h
      subst h
      exact tk_RI  rfl rfl rfl
    · replace h := tk_ifF hc2 h
      refine tk_bF  rfl rfl tk_eB_ne (c := (fM_isShape a2 m) = true) hc2 (pc' := 16) (ls' := [(0, .ref 274), (1, .int a1), (2, .int a2)]) (st' := []) ?_
      refine tk_Ps  2 (pc' := 18) (ls' := [(0, .ref 274), (1, .int a1), (2, .int a2)]) (st' := [.int (0 : Int32), .ref 274]) rfl ?_
      obtain ⟨o4, ho4, h⟩ := tk_bnd h
      refine tk_cV1  rfl rfl (r := 274) (as := [.int (0 : Int32)]) (rest := []) rfl ly274 rfl rfl (ok_fM_finds sc (0 : Int32) m ho4) ?_
      replace h := Option.some.inj h
      subst h
      exact tk_RI  rfl rfl rfl
  · replace h := tk_ifF hc1 h
    refine tk_bF  rfl rfl tk_eB_eq (c := (fM_isShape a1 m) = true) hc1 (pc' := 16) (ls' := [(0, .ref 274), (1, .int a1), (2, .int a2)]) (st' := []) ?_
    refine tk_Ps  2 (pc' := 18) (ls' := [(0, .ref 274), (1, .int a1), (2, .int a2)]) (st' := [.int (0 : Int32), .ref 274]) rfl ?_
    obtain ⟨o5, ho5, h⟩ := tk_bnd h
    refine tk_cV1  rfl rfl (r := 274) (as := [.int (0 : Int32)]) (rest := []) rfl ly274 rfl rfl (ok_fM_finds sc (0 : Int32) m ho5) ?_
    replace h := Option.some.inj h
    subst h
    exact tk_RI  rfl rfl rfl
theorem ok_fM_turn_2 (sc : tk_X) : ∀ (n : Nat) (v1 : Int32) (m : tk_m) (out : Int32 × tk_m), fM_turn_2 n v1 m = some out → tk_Ex sc 2 tk_r198 tk_k198 2 [(0, .ref 274), (1, .int v1)] [] (tk_full m) (some (.int out.1), tk_full out.2) := by
  intro n
  induction n with
  | zero =>
    intro v1 m out h
    cases h
  | succ n ih =>
    intro v1 m out h
    unfold fM_turn_2 at h
    refine tk_Ps  2 (pc' := 4) (ls' := [(0, .ref 274), (1, .int v1)]) (st' := [.ref 274, .int v1]) rfl ?_
    refine tk_HR  rfl rfl ly274 rt274_0 ?_
    refine tk_Ps  1 (pc' := 8) (ls' := [(0, .ref 274), (1, .int v1)]) (st' := [.int (0 : Int32), .ref 275, .int v1]) rfl ?_
    refine tk_HIa  rfl rfl ly275 (by decide) ?_
    refine tk_Ps  2 (pc' := 11) (ls' := [(0, .ref 274), (1, .int v1)]) (st' := [.int ((m.1 275 0) / (2 : Int32)), .int v1]) rfl ?_
    by_cases hc1 : ((m.1 275 0) / (2 : Int32)) ≤ v1
    · replace h := tk_ifT hc1 h
      refine tk_bT  rfl rfl rfl (c := ((m.1 275 0) / (2 : Int32)) ≤ v1) hc1 (pc' := 35) (ls' := [(0, .ref 274), (1, .int v1)]) (st' := []) ?_
      refine tk_Ps  1 (pc' := 36) (ls' := [(0, .ref 274), (1, .int v1)]) (st' := [.ref 274]) rfl ?_
      refine tk_HR  rfl rfl ly274 rt274_0 ?_
      refine tk_Ps  1 (pc' := 40) (ls' := [(0, .ref 274), (1, .int v1)]) (st' := [.int (0 : Int32), .ref 275]) rfl ?_
      refine tk_HIa  rfl rfl ly275 (by decide) ?_
      replace h := Option.some.inj h
      subst h
      exact tk_RI  rfl rfl rfl
    · replace h := tk_ifF hc1 h
      refine tk_bF  rfl rfl rfl (c := ((m.1 275 0) / (2 : Int32)) ≤ v1) hc1 (pc' := 14) (ls' := [(0, .ref 274), (1, .int v1)]) (st' := []) ?_
      refine tk_Ps  3 (pc' := 17) (ls' := [(0, .ref 274), (1, .int v1)]) (st' := [.ref 274, .int v1, .ref 274]) rfl ?_
      refine tk_HR  rfl rfl ly274 rt274_0 ?_
      refine tk_Ps  1 (pc' := 21) (ls' := [(0, .ref 274), (1, .int v1)]) (st' := [.int (0 : Int32), .ref 275, .int v1, .ref 274]) rfl ?_
      refine tk_HIa  rfl rfl ly275 (by decide) ?_
      refine tk_Ps  4 (pc' := 26) (ls' := [(0, .ref 274), (1, .int v1)]) (st' := [.int (((m.1 275 0) - (1 : Int32)) - v1), .int v1, .ref 274]) rfl ?_
      obtain ⟨o2, ho2, h⟩ := tk_bnd h
      refine tk_cV0  rfl rfl (r := 274) (as := [.int v1, .int (((m.1 275 0) - (1 : Int32)) - v1)]) (rest := []) rfl ly274 rfl rfl (ok_fM_swaps sc v1 (((m.1 275 0) - (1 : Int32)) - v1) m ho2) ?_
      refine tk_Ps  2 (pc' := 2) (ls' := [(1, .int (v1 + (1 : Int32))), (0, .ref 274)]) (st' := []) rfl ?_
      refine tk_Kp  (ls' := [(0, .ref 274), (1, .int (v1 + (1 : Int32)))]) rfl rfl ?_
      exact ih (v1 + (1 : Int32)) o2 _ h
theorem ok_fM_turn (sc : tk_X) (m : tk_m) {out : Int32 × tk_m} (h : fM_turn m = some out) : tk_Ru sc 3 198 [.ref 274] (tk_full m) (some (.int out.1), tk_full out.2) := by
  unfold fM_turn at h
  refine tk_Ru0 me198 (ls := [(0, .ref 274)]) rfl rfl ?_
  refine tk_Ps  2 (pc' := 2) (ls' := [(1, .int (0 : Int32)), (0, .ref 274)]) (st' := []) rfl ?_
  refine tk_Kp  (ls' := [(0, .ref 274), (1, .int (0 : Int32))]) rfl rfl ?_
  exact ok_fM_turn_2 sc tk_F (0 : Int32) m _ h
theorem ok_fM_areTwo (sc : tk_X) (a1 : Int32) (a2 : Int32) (m : tk_m) : tk_Ru sc 3 200 [.ref 274, .int a1, .int a2] (tk_full m) (some (.int (tk_b (fM_areTwo a1 a2 m))), tk_full m) := by
  obtain ⟨out, h⟩ : ∃ out, fM_areTwo a1 a2 m = out := ⟨_, rfl⟩
  rw [h]
  unfold fM_areTwo at h
  refine tk_Ru0 me200 (ls := [(0, .ref 274), (1, .int a1), (2, .int a2)]) rfl rfl ?_
  refine tk_Ps  2 (pc' := 2) (ls' := [(0, .ref 274), (1, .int a1), (2, .int a2)]) (st' := [.int a1, .ref 274]) rfl ?_
  refine tk_cV1  rfl rfl (r := 274) (as := [.int a1]) (rest := []) rfl ly274 rfl rfl (ok_fM_isShape sc a1 m) ?_
  by_cases hc1 : (fM_isShape a1 m) = true
  · replace h := tk_ifT hc1 h
    refine tk_bT  rfl rfl tk_eB_eq (c := (fM_isShape a1 m) = true) hc1 (pc' := 8) (ls' := [(0, .ref 274), (1, .int a1), (2, .int a2)]) (st' := []) ?_
    refine tk_Ps  2 (pc' := 10) (ls' := [(0, .ref 274), (1, .int a1), (2, .int a2)]) (st' := [.int a2, .ref 274]) rfl ?_
    refine tk_cV1  rfl rfl (r := 274) (as := [.int a2]) (rest := []) rfl ly274 rfl rfl (ok_fM_isShape sc a2 m) ?_
    by_cases hc2 : (fM_isShape a2 m) = true
    · replace h := tk_ifT hc2 h
      refine tk_bT  rfl rfl tk_eB_eq (c := (fM_isShape a2 m) = true) hc2 (pc' := 16) (ls' := [(0, .ref 274), (1, .int a1), (2, .int a2)]) (st' := []) ?_
      refine tk_Ps  2 (pc' := 18) (ls' := [(0, .ref 274), (1, .int a1), (2, .int a2)]) (st' := [.int a2, .int a1]) rfl ?_
      by_cases hc3 : a1 = a2
      · replace h := tk_ifT hc3 h
        refine tk_bT  rfl rfl rfl (c := a1 = a2) hc3 (pc' := 25) (ls' := [(0, .ref 274), (1, .int a1), (2, .int a2)]) (st' := []) ?_
        refine tk_Ps  1 (pc' := 26) (ls' := [(0, .ref 274), (1, .int a1), (2, .int a2)]) (st' := [.int (0 : Int32)]) rfl ?_
        subst h
        exact tk_RB (b := false)  rfl rfl rfl
      · replace h := tk_ifF hc3 h
        refine tk_bF  rfl rfl rfl (c := a1 = a2) hc3 (pc' := 21) (ls' := [(0, .ref 274), (1, .int a1), (2, .int a2)]) (st' := []) ?_
        refine tk_Ps  2 (pc' := 26) (ls' := [(0, .ref 274), (1, .int a1), (2, .int a2)]) (st' := [.int (1 : Int32)]) rfl ?_
        subst h
        exact tk_RB (b := true)  rfl rfl rfl
    · replace h := tk_ifF hc2 h
      refine tk_bF  rfl rfl tk_eB_eq (c := (fM_isShape a2 m) = true) hc2 (pc' := 25) (ls' := [(0, .ref 274), (1, .int a1), (2, .int a2)]) (st' := []) ?_
      refine tk_Ps  1 (pc' := 26) (ls' := [(0, .ref 274), (1, .int a1), (2, .int a2)]) (st' := [.int (0 : Int32)]) rfl ?_
      subst h
      exact tk_RB (b := false)  rfl rfl rfl
  · replace h := tk_ifF hc1 h
    refine tk_bF  rfl rfl tk_eB_eq (c := (fM_isShape a1 m) = true) hc1 (pc' := 25) (ls' := [(0, .ref 274), (1, .int a1), (2, .int a2)]) (st' := []) ?_
    refine tk_Ps  1 (pc' := 26) (ls' := [(0, .ref 274), (1, .int a1), (2, .int a2)]) (st' := [.int (0 : Int32)]) rfl ?_
    subst h
    exact tk_RB (b := false)  rfl rfl rfl
theorem ok_fM_apart (sc : tk_X) (a1 : Int32) (a2 : Int32) (m : tk_m) {out : Int32} (h : fM_apart a1 a2 m = some out) : tk_Ru sc 2 202 [.ref 274, .int a1, .int a2] (tk_full m) (some (.int out), tk_full m) := by
  unfold fM_apart at h
  refine tk_Ru0 me202 (ls := [(0, .ref 274), (1, .int a1), (2, .int a2)]) rfl rfl ?_
  refine tk_Ps  3 (pc' := 3) (ls' := [(0, .ref 274), (1, .int a1), (2, .int a2)]) (st' := [.int (1 : Int32), .int a1, .ref 274]) rfl ?_
  obtain ⟨o1, ho1, h⟩ := tk_bnd h
  refine tk_cV1  rfl rfl (r := 274) (as := [.int a1, .int (1 : Int32)]) (rest := []) rfl ly274 rfl rfl (ok_fM_of0 sc a1 (1 : Int32) m ho1) ?_
  refine tk_Ps  3 (pc' := 9) (ls' := [(0, .ref 274), (1, .int a1), (2, .int a2)]) (st' := [.int (1 : Int32), .int a2, .ref 274, .int o1]) rfl ?_
  obtain ⟨o2, ho2, h⟩ := tk_bnd h
  refine tk_cV1  rfl rfl (r := 274) (as := [.int a2, .int (1 : Int32)]) (rest := [.int o1]) rfl ly274 rfl rfl (ok_fM_of0 sc a2 (1 : Int32) m ho2) ?_
  refine tk_Ps  5 (pc' := 17) (ls' := [(3, .int (o1 - o2)), (0, .ref 274), (1, .int a1), (2, .int a2)]) (st' := [.int (2 : Int32), .int a1, .ref 274]) rfl ?_
  obtain ⟨o3, ho3, h⟩ := tk_bnd h
  refine tk_cV1  rfl rfl (r := 274) (as := [.int a1, .int (2 : Int32)]) (rest := []) rfl ly274 rfl rfl (ok_fM_of0 sc a1 (2 : Int32) m ho3) ?_
  refine tk_Ps  3 (pc' := 23) (ls' := [(3, .int (o1 - o2)), (0, .ref 274), (1, .int a1), (2, .int a2)]) (st' := [.int (2 : Int32), .int a2, .ref 274, .int o3]) rfl ?_
  obtain ⟨o4, ho4, h⟩ := tk_bnd h
  refine tk_cV1  rfl rfl (r := 274) (as := [.int a2, .int (2 : Int32)]) (rest := [.int o3]) rfl ly274 rfl rfl (ok_fM_of0 sc a2 (2 : Int32) m ho4) ?_
  refine tk_Ps  9 (pc' := 38) (ls' := [(4, .int (o3 - o4)), (3, .int (o1 - o2)), (0, .ref 274), (1, .int a1), (2, .int a2)]) (st' := [.int (((o1 - o2) * (o1 - o2)) + ((o3 - o4) * (o3 - o4)))]) rfl ?_
  replace h := Option.some.inj h
  subst h
  exact tk_RI  rfl rfl rfl
theorem ok_fM_inCommon (sc : tk_X) (a1 : Int32) (a2 : Int32) (a3 : Int32) (m : tk_m) : tk_Ru sc 1 203 [.ref 274, .int a1, .int a2, .int a3] (tk_full m) (some (.int (fM_inCommon a1 a2 a3)), tk_full m) := by
  obtain ⟨out, h⟩ : ∃ out, fM_inCommon a1 a2 a3 = out := ⟨_, rfl⟩
  rw [h]
  unfold fM_inCommon at h
  refine tk_Ru0 me203 (ls := [(0, .ref 274), (1, .int a1), (2, .int a2), (3, .int a3)]) rfl rfl ?_
  refine tk_Ps  2 (pc' := 2) (ls' := [(0, .ref 274), (1, .int a1), (2, .int a2), (3, .int a3)]) (st' := [.int a2, .int a1]) rfl ?_
  by_cases hc1 : a2 < a1
  · replace h := tk_ifT hc1 h
    refine tk_bT  rfl rfl rfl (c := a2 < a1) hc1 (pc' := 10) (ls' := [(0, .ref 274), (1, .int a1), (2, .int a2), (3, .int a3)]) (st' := []) ?_
    refine tk_Ps  2 (pc' := 29) (ls' := [(0, .ref 274), (1, .int a1), (2, .int a2), (3, .int a3)]) (st' := [.int (0 : Int32)]) rfl ?_
    subst h
    exact tk_RI  rfl rfl rfl
  · replace h := tk_ifF hc1 h
    refine tk_bF  rfl rfl rfl (c := a2 < a1) hc1 (pc' := 5) (ls' := [(0, .ref 274), (1, .int a1), (2, .int a2), (3, .int a3)]) (st' := []) ?_
    refine tk_Ps  2 (pc' := 7) (ls' := [(0, .ref 274), (1, .int a1), (2, .int a2), (3, .int a3)]) (st' := [.int a3, .int a1]) rfl ?_
    by_cases hc2 : a3 ≤ a1
    · replace h := tk_ifT hc2 h
      refine tk_bT  rfl rfl rfl (c := a3 ≤ a1) hc2 (pc' := 14) (ls' := [(0, .ref 274), (1, .int a1), (2, .int a2), (3, .int a3)]) (st' := []) ?_
      refine tk_Ps  2 (pc' := 16) (ls' := [(0, .ref 274), (1, .int a1), (2, .int a2), (3, .int a3)]) (st' := [.int a2, .int a1]) rfl ?_
      by_cases hc3 : a1 = a2
      · replace h := tk_ifT hc3 h
        refine tk_bT  rfl rfl rfl (c := a1 = a2) hc3 (pc' := 24) (ls' := [(0, .ref 274), (1, .int a1), (2, .int a2), (3, .int a3)]) (st' := []) ?_
        refine tk_Ps  2 (pc' := 29) (ls' := [(0, .ref 274), (1, .int a1), (2, .int a2), (3, .int a3)]) (st' := [.int (1 : Int32)]) rfl ?_
        subst h
        exact tk_RI  rfl rfl rfl
      · replace h := tk_ifF hc3 h
        refine tk_bF  rfl rfl rfl (c := a1 = a2) hc3 (pc' := 19) (ls' := [(0, .ref 274), (1, .int a1), (2, .int a2), (3, .int a3)]) (st' := []) ?_
        refine tk_Ps  2 (pc' := 21) (ls' := [(0, .ref 274), (1, .int a1), (2, .int a2), (3, .int a3)]) (st' := [.int a3, .int a1]) rfl ?_
        by_cases hc4 : a1 = a3
        · replace h := tk_ifT hc4 h
          refine tk_bT  rfl rfl rfl (c := a1 = a3) hc4 (pc' := 24) (ls' := [(0, .ref 274), (1, .int a1), (2, .int a2), (3, .int a3)]) (st' := []) ?_
          refine tk_Ps  2 (pc' := 29) (ls' := [(0, .ref 274), (1, .int a1), (2, .int a2), (3, .int a3)]) (st' := [.int (1 : Int32)]) rfl ?_
          subst h
          exact tk_RI  rfl rfl rfl
        · replace h := tk_ifF hc4 h
          refine tk_bF  rfl rfl rfl (c := a1 = a3) hc4 (pc' := 28) (ls' := [(0, .ref 274), (1, .int a1), (2, .int a2), (3, .int a3)]) (st' := []) ?_
          refine tk_Ps  1 (pc' := 29) (ls' := [(0, .ref 274), (1, .int a1), (2, .int a2), (3, .int a3)]) (st' := [.int (2 : Int32)]) rfl ?_
          subst h
          exact tk_RI  rfl rfl rfl
    · replace h := tk_ifF hc2 h
      refine tk_bF  rfl rfl rfl (c := a3 ≤ a1) hc2 (pc' := 10) (ls' := [(0, .ref 274), (1, .int a1), (2, .int a2), (3, .int a3)]) (st' := []) ?_
      refine tk_Ps  2 (pc' := 29) (ls' := [(0, .ref 274), (1, .int a1), (2, .int a2), (3, .int a3)]) (st' := [.int (0 : Int32)]) rfl ?_
      subst h
      exact tk_RI  rfl rfl rfl
theorem ok_fM_lies1_50 (sc : tk_X) (v1 : Int32) (v2 : Int32) (v3 : Int32) (v4 : Int32) (m : tk_m) (out : Int32) (h : fM_lies1_50 v1 v2 v3 v4 m = some out) : tk_Ex sc 2 tk_r201 tk_k201 50 [(0, .ref 274), (1, .int v1), (2, .int v2), (3, .int v3), (4, .int v4)] [] (tk_full m) (some (.int out), tk_full m) := by
  unfold fM_lies1_50 at h
  refine tk_Ps  4 (pc' := 54) (ls' := [(0, .ref 274), (1, .int v1), (2, .int v2), (3, .int v3), (4, .int v4)]) (st' := [.int v2, .int v1, .ref 274, .ref 274]) rfl ?_
  obtain ⟨o1, ho1, h⟩ := tk_bnd h
  refine tk_cV1  rfl rfl (r := 274) (as := [.int v1, .int v2]) (rest := [.ref 274]) rfl ly274 rfl rfl (ok_fM_apart sc v1 v2 m ho1) ?_
  refine tk_Ps  14 (pc' := 75) (ls' := [(0, .ref 274), (1, .int v1), (2, .int v2), (3, .int v3), (4, .int v4)]) (st' := [.int ((v3 - v4) * (v3 - v4)), .int ((v3 + v4) * (v3 + v4)), .int o1, .ref 274]) rfl ?_
  refine tk_cV1  rfl rfl (r := 274) (as := [.int o1, .int ((v3 + v4) * (v3 + v4)), .int ((v3 - v4) * (v3 - v4))]) (rest := []) rfl ly274 rfl rfl (ok_fM_inCommon sc o1 ((v3 + v4) * (v3 + v4)) ((v3 - v4) * (v3 - v4)) m) ?_
  replace h := Option.some.inj h
  subst h
  exact tk_RI  rfl rfl rfl
theorem ok_fM_lies1_135 (sc : tk_X) (v1 : Int32) (v2 : Int32) (v3 : Int32) (m : tk_m) (out : Int32) (h : fM_lies1_135 v1 v2 v3 m = some out) : tk_Ex sc 2 tk_r201 tk_k201 135 [(0, .ref 274), (1, .int v1), (2, .int v2), (3, .int v3)] [] (tk_full m) (some (.int out), tk_full m) := by
  unfold fM_lies1_135 at h
  refine tk_Ps  2 (pc' := 137) (ls' := [(0, .ref 274), (1, .int v1), (2, .int v2), (3, .int v3)]) (st' := [.int v1, .ref 274]) rfl ?_
  obtain ⟨o1, ho1, h⟩ := tk_bnd h
  refine tk_cV1  rfl rfl (r := 274) (as := [.int v1]) (rest := []) rfl ly274 rfl rfl (ok_fM_isRound sc v1 m ho1) ?_
  by_cases hc2 : o1 = true
  · replace h := tk_ifT hc2 h
    refine tk_bT  rfl rfl tk_eB_ne (c := o1 = true) hc2 (pc' := 150) (ls' := [(0, .ref 274), (1, .int v1), (2, .int v2), (3, .int v3)]) (st' := []) ?_
    refine tk_Ps  1 (pc' := 151) (ls' := [(0, .ref 274), (1, .int v1), (2, .int v2), (3, .int v3)]) (st' := [.ref 274]) rfl ?_
    refine tk_Hst  rfl rfl ?_
    refine tk_Ps  1 (pc' := 155) (ls' := [(0, .ref 274), (1, .int v1), (2, .int v2), (3, .int v3)]) (st' := [.int v2, .ref 1003, .ref 274]) rfl ?_
    obtain ⟨o3, ho3, h⟩ := tk_bnd h
    refine tk_cV1  rfl rfl (r := 274) (as := [.ref 1003, .int v2]) (rest := []) rfl ly274 rfl rfl (ok_fM_slant sc 1003 v2 m (by decide) ho3) ?_
    refine tk_Ps  3 (pc' := 161) (ls' := [(0, .ref 274), (1, .int v1), (2, .int v2), (3, .int v3)]) (st' := [.int (1 : Int32), .int v1, .ref 274, .int o3]) rfl ?_
    obtain ⟨o4, ho4, h⟩ := tk_bnd h
    refine tk_cV1  rfl rfl (r := 274) (as := [.int v1, .int (1 : Int32)]) (rest := [.int o3]) rfl ly274 rfl rfl (ok_fM_of0 sc v1 (1 : Int32) m ho4) ?_
    refine tk_Ps  2 (pc' := 166) (ls' := [(0, .ref 274), (1, .int v1), (2, .int v2), (3, .int v3)]) (st' := [.ref 274, .int (o3 * o4)]) rfl ?_
    refine tk_Hst  rfl rfl ?_
    refine tk_Ps  1 (pc' := 170) (ls' := [(0, .ref 274), (1, .int v1), (2, .int v2), (3, .int v3)]) (st' := [.int v2, .ref 1004, .ref 274, .int (o3 * o4)]) rfl ?_
    obtain ⟨o5, ho5, h⟩ := tk_bnd h
    refine tk_cV1  rfl rfl (r := 274) (as := [.ref 1004, .int v2]) (rest := [.int (o3 * o4)]) rfl ly274 rfl rfl (ok_fM_slant sc 1004 v2 m (by decide) ho5) ?_
    refine tk_Ps  3 (pc' := 176) (ls' := [(0, .ref 274), (1, .int v1), (2, .int v2), (3, .int v3)]) (st' := [.int (2 : Int32), .int v1, .ref 274, .int o5, .int (o3 * o4)]) rfl ?_
    obtain ⟨o6, ho6, h⟩ := tk_bnd h
    refine tk_cV1  rfl rfl (r := 274) (as := [.int v1, .int (2 : Int32)]) (rest := [.int o5, .int (o3 * o4)]) rfl ly274 rfl rfl (ok_fM_of0 sc v1 (2 : Int32) m ho6) ?_
    refine tk_Ps  5 (pc' := 184) (ls' := [(0, .ref 274), (1, .int v1), (2, .int v2), (3, .int v3)]) (st' := [.int (2 : Int32), .int v2, .ref 274, .int ((o3 * o4) + (o5 * o6))]) rfl ?_
    obtain ⟨o7, ho7, h⟩ := tk_bnd h
    refine tk_cV1  rfl rfl (r := 274) (as := [.int v2, .int (2 : Int32)]) (rest := [.int ((o3 * o4) + (o5 * o6))]) rfl ly274 rfl rfl (ok_fM_of0 sc v2 (2 : Int32) m ho7) ?_
    refine tk_Ps  3 (pc' := 191) (ls' := [(5, .int (((o3 * o4) + (o5 * o6)) - o7)), (0, .ref 274), (1, .int v1), (2, .int v2), (3, .int v3)]) (st' := [.ref 274]) rfl ?_
    refine tk_Hst  rfl rfl ?_
    refine tk_Ps  1 (pc' := 195) (ls' := [(5, .int (((o3 * o4) + (o5 * o6)) - o7)), (0, .ref 274), (1, .int v1), (2, .int v2), (3, .int v3)]) (st' := [.int v2, .ref 1005, .ref 274]) rfl ?_
    obtain ⟨o8, ho8, h⟩ := tk_bnd h
    refine tk_cV1  rfl rfl (r := 274) (as := [.ref 1005, .int v2]) (rest := []) rfl ly274 rfl rfl (ok_fM_slant sc 1005 v2 m (by decide) ho8) ?_
    refine tk_Ps  11 (pc' := 214) (ls' := [(6, .int (o8 * v3)), (5, .int (((o3 * o4) + (o5 * o6)) - o7)), (0, .ref 274), (1, .int v1), (2, .int v2), (3, .int v3)]) (st' := [.int (-1 : Int32), .int ((o8 * v3) * (o8 * v3)), .int ((((o3 * o4) + (o5 * o6)) - o7) * (((o3 * o4) + (o5 * o6)) - o7)), .ref 274]) rfl ?_
    refine tk_cV1  rfl rfl (r := 274) (as := [.int ((((o3 * o4) + (o5 * o6)) - o7) * (((o3 * o4) + (o5 * o6)) - o7)), .int ((o8 * v3) * (o8 * v3)), .int (-1 : Int32)]) (rest := []) rfl ly274 rfl rfl (ok_fM_inCommon sc ((((o3 * o4) + (o5 * o6)) - o7) * (((o3 * o4) + (o5 * o6)) - o7)) ((o8 * v3) * (o8 * v3)) (-1 : Int32) m) ?_
    replace h := Option.some.inj h
    subst h
    exact tk_RI  rfl rfl rfl
  · replace h := tk_ifF hc2 h
    refine tk_bF  rfl rfl tk_eB_ne (c := o1 = true) hc2 (pc' := 143) (ls' := [(0, .ref 274), (1, .int v1), (2, .int v2), (3, .int v3)]) (st' := []) ?_
    refine tk_Ps  3 (pc' := 146) (ls' := [(0, .ref 274), (1, .int v1), (2, .int v2), (3, .int v3)]) (st' := [.int v1, .int v2, .ref 274]) rfl ?_
    cases h
theorem ok_fM_lies1_79 (sc : tk_X) (v1 : Int32) (v2 : Int32) (v3 : Int32) (m : tk_m) (out : Int32) (h : fM_lies1_79 v1 v2 v3 m = some out) : tk_Ex sc 2 tk_r201 tk_k201 79 [(0, .ref 274), (1, .int v1), (2, .int v2), (3, .int v3)] [] (tk_full m) (some (.int out), tk_full m) := by
  unfold fM_lies1_79 at h
  refine tk_Ps  2 (pc' := 81) (ls' := [(0, .ref 274), (1, .int v1), (2, .int v2), (3, .int v3)]) (st' := [.int v1, .ref 274]) rfl ?_
  obtain ⟨o1, ho1, h⟩ := tk_bnd h
  refine tk_cV1  rfl rfl (r := 274) (as := [.int v1]) (rest := []) rfl ly274 rfl rfl (ok_fM_isRound sc v1 m ho1) ?_
  by_cases hc2 : o1 = true
  · replace h := tk_ifT hc2 h
    refine tk_bT  rfl rfl tk_eB_ne (c := o1 = true) hc2 (pc' := 135) (ls' := [(0, .ref 274), (1, .int v1), (2, .int v2), (3, .int v3)]) (st' := []) ?_
    refine tk_Kp  (ls' := [(0, .ref 274), (1, .int v1), (2, .int v2), (3, .int v3)]) rfl rfl ?_
    exact ok_fM_lies1_135 sc v1 v2 v3 m _ h
  · replace h := tk_ifF hc2 h
    refine tk_bF  rfl rfl tk_eB_ne (c := o1 = true) hc2 (pc' := 87) (ls' := [(0, .ref 274), (1, .int v1), (2, .int v2), (3, .int v3)]) (st' := []) ?_
    refine tk_Ps  2 (pc' := 89) (ls' := [(0, .ref 274), (1, .int v1), (2, .int v2), (3, .int v3)]) (st' := [.int v2, .ref 274]) rfl ?_
    obtain ⟨o3, ho3, h⟩ := tk_bnd h
    refine tk_cV1  rfl rfl (r := 274) (as := [.int v2]) (rest := []) rfl ly274 rfl rfl (ok_fM_isRound sc v2 m ho3) ?_
    by_cases hc4 : o3 = true
    · replace h := tk_ifT hc4 h
      refine tk_bT  rfl rfl tk_eB_ne (c := o3 = true) hc4 (pc' := 135) (ls' := [(0, .ref 274), (1, .int v1), (2, .int v2), (3, .int v3)]) (st' := []) ?_
      refine tk_Kp  (ls' := [(0, .ref 274), (1, .int v1), (2, .int v2), (3, .int v3)]) rfl rfl ?_
      exact ok_fM_lies1_135 sc v1 v2 v3 m _ h
    · replace h := tk_ifF hc4 h
      refine tk_bF  rfl rfl tk_eB_ne (c := o3 = true) hc4 (pc' := 95) (ls' := [(0, .ref 274), (1, .int v1), (2, .int v2), (3, .int v3)]) (st' := []) ?_
      refine tk_Ps  3 (pc' := 98) (ls' := [(0, .ref 274), (1, .int v1), (2, .int v2), (3, .int v3)]) (st' := [.int (1 : Int32), .int v1, .ref 274]) rfl ?_
      obtain ⟨o5, ho5, h⟩ := tk_bnd h
      refine tk_cV1  rfl rfl (r := 274) (as := [.int v1, .int (1 : Int32)]) (rest := []) rfl ly274 rfl rfl (ok_fM_of0 sc v1 (1 : Int32) m ho5) ?_
      refine tk_Ps  3 (pc' := 104) (ls' := [(0, .ref 274), (1, .int v1), (2, .int v2), (3, .int v3)]) (st' := [.int (1 : Int32), .int v2, .ref 274, .int o5]) rfl ?_
      obtain ⟨o6, ho6, h⟩ := tk_bnd h
      refine tk_cV1  rfl rfl (r := 274) (as := [.int v2, .int (1 : Int32)]) (rest := [.int o5]) rfl ly274 rfl rfl (ok_fM_of0 sc v2 (1 : Int32) m ho6) ?_
      by_cases hc7 : o5 = o6
      · replace h := tk_ifT hc7 h
        refine tk_bT  rfl rfl rfl (c := o5 = o6) hc7 (pc' := 114) (ls' := [(0, .ref 274), (1, .int v1), (2, .int v2), (3, .int v3)]) (st' := []) ?_
        refine tk_Ps  3 (pc' := 117) (ls' := [(0, .ref 274), (1, .int v1), (2, .int v2), (3, .int v3)]) (st' := [.int (2 : Int32), .int v1, .ref 274]) rfl ?_
        obtain ⟨o8, ho8, h⟩ := tk_bnd h
        refine tk_cV1  rfl rfl (r := 274) (as := [.int v1, .int (2 : Int32)]) (rest := []) rfl ly274 rfl rfl (ok_fM_of0 sc v1 (2 : Int32) m ho8) ?_
        refine tk_Ps  3 (pc' := 123) (ls' := [(0, .ref 274), (1, .int v1), (2, .int v2), (3, .int v3)]) (st' := [.int (2 : Int32), .int v2, .ref 274, .int o8]) rfl ?_
        obtain ⟨o9, ho9, h⟩ := tk_bnd h
        refine tk_cV1  rfl rfl (r := 274) (as := [.int v2, .int (2 : Int32)]) (rest := [.int o8]) rfl ly274 rfl rfl (ok_fM_of0 sc v2 (2 : Int32) m ho9) ?_
        by_cases hc10 : o8 = o9
        · replace h := tk_ifT hc10 h
          refine tk_bT  rfl rfl rfl (c := o8 = o9) hc10 (pc' := 129) (ls' := [(0, .ref 274), (1, .int v1), (2, .int v2), (3, .int v3)]) (st' := []) ?_
          refine tk_Ps  2 (pc' := 134) (ls' := [(0, .ref 274), (1, .int v1), (2, .int v2), (3, .int v3)]) (st' := [.int (3 : Int32)]) rfl ?_
          replace h := Option.some.inj h
          subst h
          exact tk_RI  rfl rfl rfl
        · replace h := tk_ifF hc10 h
          refine tk_bF  rfl rfl rfl (c := o8 = o9) hc10 (pc' := 133) (ls' := [(0, .ref 274), (1, .int v1), (2, .int v2), (3, .int v3)]) (st' := []) ?_
          refine tk_Ps  1 (pc' := 134) (ls' := [(0, .ref 274), (1, .int v1), (2, .int v2), (3, .int v3)]) (st' := [.int (0 : Int32)]) rfl ?_
          replace h := Option.some.inj h
          subst h
          exact tk_RI  rfl rfl rfl
      · replace h := tk_ifF hc7 h
        refine tk_bF  rfl rfl rfl (c := o5 = o6) hc7 (pc' := 110) (ls' := [(0, .ref 274), (1, .int v1), (2, .int v2), (3, .int v3)]) (st' := []) ?_
        refine tk_Ps  2 (pc' := 134) (ls' := [(0, .ref 274), (1, .int v1), (2, .int v2), (3, .int v3)]) (st' := [.int (1 : Int32)]) rfl ?_
        replace h := Option.some.inj h
        subst h
        exact tk_RI  rfl rfl rfl
theorem ok_fM_lies1 (sc : tk_X) (a1 : Int32) (a2 : Int32) (m : tk_m) {out : Int32} (h : fM_lies1 a1 a2 m = some out) : tk_Ru sc 3 201 [.ref 274, .int a1, .int a2] (tk_full m) (some (.int out), tk_full m) := by
  unfold fM_lies1 at h
  refine tk_Ru0 me201 (ls := [(0, .ref 274), (1, .int a1), (2, .int a2)]) rfl rfl ?_
  refine tk_Ps  3 (pc' := 3) (ls' := [(0, .ref 274), (1, .int a1), (2, .int a2)]) (st' := [.int (3 : Int32), .int a1, .ref 274]) rfl ?_
  obtain ⟨o1, ho1, h⟩ := tk_bnd h
  refine tk_cV1  rfl rfl (r := 274) (as := [.int a1, .int (3 : Int32)]) (rest := []) rfl ly274 rfl rfl (ok_fM_of0 sc a1 (3 : Int32) m ho1) ?_
  refine tk_Ps  4 (pc' := 10) (ls' := [(3, .int o1), (0, .ref 274), (1, .int a1), (2, .int a2)]) (st' := [.int (3 : Int32), .int a2, .ref 274]) rfl ?_
  obtain ⟨o2, ho2, h⟩ := tk_bnd h
  refine tk_cV1  rfl rfl (r := 274) (as := [.int a2, .int (3 : Int32)]) (rest := []) rfl ly274 rfl rfl (ok_fM_of0 sc a2 (3 : Int32) m ho2) ?_
  refine tk_Ps  3 (pc' := 17) (ls' := [(4, .int o2), (3, .int o1), (0, .ref 274), (1, .int a1), (2, .int a2)]) (st' := [.int a1, .ref 274]) rfl ?_
  obtain ⟨o3, ho3, h⟩ := tk_bnd h
  refine tk_cV1  rfl rfl (r := 274) (as := [.int a1]) (rest := []) rfl ly274 rfl rfl (ok_fM_isRound sc a1 m ho3) ?_
  by_cases hc4 : o3 = true
  · replace h := tk_ifT hc4 h
    refine tk_bT  rfl rfl tk_eB_eq (c := o3 = true) hc4 (pc' := 23) (ls' := [(4, .int o2), (3, .int o1), (0, .ref 274), (1, .int a1), (2, .int a2)]) (st' := []) ?_
    refine tk_Ps  2 (pc' := 25) (ls' := [(4, .int o2), (3, .int o1), (0, .ref 274), (1, .int a1), (2, .int a2)]) (st' := [.int a2, .ref 274]) rfl ?_
    obtain ⟨o5, ho5, h⟩ := tk_bnd h
    refine tk_cV1  rfl rfl (r := 274) (as := [.int a2]) (rest := []) rfl ly274 rfl rfl (ok_fM_isRound sc a2 m ho5) ?_
    by_cases hc6 : o5 = true
    · replace h := tk_ifT hc6 h
      refine tk_bT  rfl rfl tk_eB_eq (c := o5 = true) hc6 (pc' := 31) (ls' := [(4, .int o2), (3, .int o1), (0, .ref 274), (1, .int a1), (2, .int a2)]) (st' := []) ?_
      refine tk_Ps  3 (pc' := 34) (ls' := [(4, .int o2), (3, .int o1), (0, .ref 274), (1, .int a1), (2, .int a2)]) (st' := [.int a2, .int a1, .ref 274]) rfl ?_
      obtain ⟨o7, ho7, h⟩ := tk_bnd h
      refine tk_cV1  rfl rfl (r := 274) (as := [.int a1, .int a2]) (rest := []) rfl ly274 rfl rfl (ok_fM_apart sc a1 a2 m ho7) ?_
      by_cases hc8 : o7 = 0
      · replace h := tk_ifT hc8 h
        refine tk_bT  rfl rfl rfl (c := o7 = 0) hc8 (pc' := 40) (ls' := [(4, .int o2), (3, .int o1), (0, .ref 274), (1, .int a1), (2, .int a2)]) (st' := []) ?_
        refine tk_Ps  2 (pc' := 43) (ls' := [(4, .int o2), (3, .int o1), (0, .ref 274), (1, .int a1), (2, .int a2)]) (st' := [.int o2, .int o1]) rfl ?_
        by_cases hc9 : o1 = o2
        · replace h := tk_ifT hc9 h
          refine tk_bT  rfl rfl rfl (c := o1 = o2) hc9 (pc' := 46) (ls' := [(4, .int o2), (3, .int o1), (0, .ref 274), (1, .int a1), (2, .int a2)]) (st' := []) ?_
          refine tk_Ps  2 (pc' := 78) (ls' := [(4, .int o2), (3, .int o1), (0, .ref 274), (1, .int a1), (2, .int a2)]) (st' := [.int (3 : Int32)]) rfl ?_
          replace h := Option.some.inj h
          subst h
          exact tk_RI  rfl rfl rfl
        · replace h := tk_ifF hc9 h
          refine tk_bF  rfl rfl rfl (c := o1 = o2) hc9 (pc' := 50) (ls' := [(4, .int o2), (3, .int o1), (0, .ref 274), (1, .int a1), (2, .int a2)]) (st' := []) ?_
          refine tk_Kp  (ls' := [(0, .ref 274), (1, .int a1), (2, .int a2), (3, .int o1), (4, .int o2)]) rfl rfl ?_
          exact ok_fM_lies1_50 sc a1 a2 o1 o2 m _ h
      · replace h := tk_ifF hc8 h
        refine tk_bF  rfl rfl rfl (c := o7 = 0) hc8 (pc' := 50) (ls' := [(4, .int o2), (3, .int o1), (0, .ref 274), (1, .int a1), (2, .int a2)]) (st' := []) ?_
        refine tk_Kp  (ls' := [(0, .ref 274), (1, .int a1), (2, .int a2), (3, .int o1), (4, .int o2)]) rfl rfl ?_
        exact ok_fM_lies1_50 sc a1 a2 o1 o2 m _ h
    · replace h := tk_ifF hc6 h
      refine tk_bF  rfl rfl tk_eB_eq (c := o5 = true) hc6 (pc' := 79) (ls' := [(4, .int o2), (3, .int o1), (0, .ref 274), (1, .int a1), (2, .int a2)]) (st' := []) ?_
      refine tk_Kp  (ls' := [(0, .ref 274), (1, .int a1), (2, .int a2), (3, .int o1)]) rfl rfl ?_
      exact ok_fM_lies1_79 sc a1 a2 o1 m _ h
  · replace h := tk_ifF hc4 h
    refine tk_bF  rfl rfl tk_eB_eq (c := o3 = true) hc4 (pc' := 79) (ls' := [(4, .int o2), (3, .int o1), (0, .ref 274), (1, .int a1), (2, .int a2)]) (st' := []) ?_
    refine tk_Kp  (ls' := [(0, .ref 274), (1, .int a1), (2, .int a2), (3, .int o1)]) rfl rfl ?_
    exact ok_fM_lies1_79 sc a1 a2 o1 m _ h
theorem ok_fM_lies_50 (sc : tk_X) (v1 : Int32) (v2 : Int32) (v3 : Int32) (v4 : Int32) (m : tk_m) (out : Int32) (h : fM_lies_50 v1 v2 v3 v4 m = some out) : tk_Ex sc 3 tk_r201 tk_k201 50 [(0, .ref 274), (1, .int v1), (2, .int v2), (3, .int v3), (4, .int v4)] [] (tk_full m) (some (.int out), tk_full m) := by
  unfold fM_lies_50 at h
  refine tk_Ps  4 (pc' := 54) (ls' := [(0, .ref 274), (1, .int v1), (2, .int v2), (3, .int v3), (4, .int v4)]) (st' := [.int v2, .int v1, .ref 274, .ref 274]) rfl ?_
  obtain ⟨o1, ho1, h⟩ := tk_bnd h
  refine tk_cV1  rfl rfl (r := 274) (as := [.int v1, .int v2]) (rest := [.ref 274]) rfl ly274 rfl rfl (ok_fM_apart sc v1 v2 m ho1) ?_
  refine tk_Ps  14 (pc' := 75) (ls' := [(0, .ref 274), (1, .int v1), (2, .int v2), (3, .int v3), (4, .int v4)]) (st' := [.int ((v3 - v4) * (v3 - v4)), .int ((v3 + v4) * (v3 + v4)), .int o1, .ref 274]) rfl ?_
  refine tk_cV1  rfl rfl (r := 274) (as := [.int o1, .int ((v3 + v4) * (v3 + v4)), .int ((v3 - v4) * (v3 - v4))]) (rest := []) rfl ly274 rfl rfl (ok_fM_inCommon sc o1 ((v3 + v4) * (v3 + v4)) ((v3 - v4) * (v3 - v4)) m) ?_
  replace h := Option.some.inj h
  subst h
  exact tk_RI  rfl rfl rfl
theorem ok_fM_lies_135 (sc : tk_X) (v1 : Int32) (v2 : Int32) (v3 : Int32) (m : tk_m) (out : Int32) (h : fM_lies_135 v1 v2 v3 m = some out) : tk_Ex sc 3 tk_r201 tk_k201 135 [(0, .ref 274), (1, .int v1), (2, .int v2), (3, .int v3)] [] (tk_full m) (some (.int out), tk_full m) := by
  unfold fM_lies_135 at h
  refine tk_Ps  2 (pc' := 137) (ls' := [(0, .ref 274), (1, .int v1), (2, .int v2), (3, .int v3)]) (st' := [.int v1, .ref 274]) rfl ?_
  obtain ⟨o1, ho1, h⟩ := tk_bnd h
  refine tk_cV1  rfl rfl (r := 274) (as := [.int v1]) (rest := []) rfl ly274 rfl rfl (ok_fM_isRound sc v1 m ho1) ?_
  by_cases hc2 : o1 = true
  · replace h := tk_ifT hc2 h
    refine tk_bT  rfl rfl tk_eB_ne (c := o1 = true) hc2 (pc' := 150) (ls' := [(0, .ref 274), (1, .int v1), (2, .int v2), (3, .int v3)]) (st' := []) ?_
    refine tk_Ps  1 (pc' := 151) (ls' := [(0, .ref 274), (1, .int v1), (2, .int v2), (3, .int v3)]) (st' := [.ref 274]) rfl ?_
    refine tk_Hst  rfl rfl ?_
    refine tk_Ps  1 (pc' := 155) (ls' := [(0, .ref 274), (1, .int v1), (2, .int v2), (3, .int v3)]) (st' := [.int v2, .ref 1003, .ref 274]) rfl ?_
    obtain ⟨o3, ho3, h⟩ := tk_bnd h
    refine tk_cV1  rfl rfl (r := 274) (as := [.ref 1003, .int v2]) (rest := []) rfl ly274 rfl rfl (ok_fM_slant sc 1003 v2 m (by decide) ho3) ?_
    refine tk_Ps  3 (pc' := 161) (ls' := [(0, .ref 274), (1, .int v1), (2, .int v2), (3, .int v3)]) (st' := [.int (1 : Int32), .int v1, .ref 274, .int o3]) rfl ?_
    obtain ⟨o4, ho4, h⟩ := tk_bnd h
    refine tk_cV1  rfl rfl (r := 274) (as := [.int v1, .int (1 : Int32)]) (rest := [.int o3]) rfl ly274 rfl rfl (ok_fM_of0 sc v1 (1 : Int32) m ho4) ?_
    refine tk_Ps  2 (pc' := 166) (ls' := [(0, .ref 274), (1, .int v1), (2, .int v2), (3, .int v3)]) (st' := [.ref 274, .int (o3 * o4)]) rfl ?_
    refine tk_Hst  rfl rfl ?_
    refine tk_Ps  1 (pc' := 170) (ls' := [(0, .ref 274), (1, .int v1), (2, .int v2), (3, .int v3)]) (st' := [.int v2, .ref 1004, .ref 274, .int (o3 * o4)]) rfl ?_
    obtain ⟨o5, ho5, h⟩ := tk_bnd h
    refine tk_cV1  rfl rfl (r := 274) (as := [.ref 1004, .int v2]) (rest := [.int (o3 * o4)]) rfl ly274 rfl rfl (ok_fM_slant sc 1004 v2 m (by decide) ho5) ?_
    refine tk_Ps  3 (pc' := 176) (ls' := [(0, .ref 274), (1, .int v1), (2, .int v2), (3, .int v3)]) (st' := [.int (2 : Int32), .int v1, .ref 274, .int o5, .int (o3 * o4)]) rfl ?_
    obtain ⟨o6, ho6, h⟩ := tk_bnd h
    refine tk_cV1  rfl rfl (r := 274) (as := [.int v1, .int (2 : Int32)]) (rest := [.int o5, .int (o3 * o4)]) rfl ly274 rfl rfl (ok_fM_of0 sc v1 (2 : Int32) m ho6) ?_
    refine tk_Ps  5 (pc' := 184) (ls' := [(0, .ref 274), (1, .int v1), (2, .int v2), (3, .int v3)]) (st' := [.int (2 : Int32), .int v2, .ref 274, .int ((o3 * o4) + (o5 * o6))]) rfl ?_
    obtain ⟨o7, ho7, h⟩ := tk_bnd h
    refine tk_cV1  rfl rfl (r := 274) (as := [.int v2, .int (2 : Int32)]) (rest := [.int ((o3 * o4) + (o5 * o6))]) rfl ly274 rfl rfl (ok_fM_of0 sc v2 (2 : Int32) m ho7) ?_
    refine tk_Ps  3 (pc' := 191) (ls' := [(5, .int (((o3 * o4) + (o5 * o6)) - o7)), (0, .ref 274), (1, .int v1), (2, .int v2), (3, .int v3)]) (st' := [.ref 274]) rfl ?_
    refine tk_Hst  rfl rfl ?_
    refine tk_Ps  1 (pc' := 195) (ls' := [(5, .int (((o3 * o4) + (o5 * o6)) - o7)), (0, .ref 274), (1, .int v1), (2, .int v2), (3, .int v3)]) (st' := [.int v2, .ref 1005, .ref 274]) rfl ?_
    obtain ⟨o8, ho8, h⟩ := tk_bnd h
    refine tk_cV1  rfl rfl (r := 274) (as := [.ref 1005, .int v2]) (rest := []) rfl ly274 rfl rfl (ok_fM_slant sc 1005 v2 m (by decide) ho8) ?_
    refine tk_Ps  11 (pc' := 214) (ls' := [(6, .int (o8 * v3)), (5, .int (((o3 * o4) + (o5 * o6)) - o7)), (0, .ref 274), (1, .int v1), (2, .int v2), (3, .int v3)]) (st' := [.int (-1 : Int32), .int ((o8 * v3) * (o8 * v3)), .int ((((o3 * o4) + (o5 * o6)) - o7) * (((o3 * o4) + (o5 * o6)) - o7)), .ref 274]) rfl ?_
    refine tk_cV1  rfl rfl (r := 274) (as := [.int ((((o3 * o4) + (o5 * o6)) - o7) * (((o3 * o4) + (o5 * o6)) - o7)), .int ((o8 * v3) * (o8 * v3)), .int (-1 : Int32)]) (rest := []) rfl ly274 rfl rfl (ok_fM_inCommon sc ((((o3 * o4) + (o5 * o6)) - o7) * (((o3 * o4) + (o5 * o6)) - o7)) ((o8 * v3) * (o8 * v3)) (-1 : Int32) m) ?_
    replace h := Option.some.inj h
    subst h
    exact tk_RI  rfl rfl rfl
  · replace h := tk_ifF hc2 h
    refine tk_bF  rfl rfl tk_eB_ne (c := o1 = true) hc2 (pc' := 143) (ls' := [(0, .ref 274), (1, .int v1), (2, .int v2), (3, .int v3)]) (st' := []) ?_
    refine tk_Ps  3 (pc' := 146) (ls' := [(0, .ref 274), (1, .int v1), (2, .int v2), (3, .int v3)]) (st' := [.int v1, .int v2, .ref 274]) rfl ?_
    obtain ⟨o9, ho9, h⟩ := tk_bnd h
    refine tk_cV1  rfl rfl (r := 274) (as := [.int v2, .int v1]) (rest := []) rfl ly274 rfl rfl (ok_fM_lies1 sc v2 v1 m ho9) ?_
    replace h := Option.some.inj h
    subst h
    exact tk_RI  rfl rfl rfl
theorem ok_fM_lies_79 (sc : tk_X) (v1 : Int32) (v2 : Int32) (v3 : Int32) (m : tk_m) (out : Int32) (h : fM_lies_79 v1 v2 v3 m = some out) : tk_Ex sc 3 tk_r201 tk_k201 79 [(0, .ref 274), (1, .int v1), (2, .int v2), (3, .int v3)] [] (tk_full m) (some (.int out), tk_full m) := by
  unfold fM_lies_79 at h
  refine tk_Ps  2 (pc' := 81) (ls' := [(0, .ref 274), (1, .int v1), (2, .int v2), (3, .int v3)]) (st' := [.int v1, .ref 274]) rfl ?_
  obtain ⟨o1, ho1, h⟩ := tk_bnd h
  refine tk_cV1  rfl rfl (r := 274) (as := [.int v1]) (rest := []) rfl ly274 rfl rfl (ok_fM_isRound sc v1 m ho1) ?_
  by_cases hc2 : o1 = true
  · replace h := tk_ifT hc2 h
    refine tk_bT  rfl rfl tk_eB_ne (c := o1 = true) hc2 (pc' := 135) (ls' := [(0, .ref 274), (1, .int v1), (2, .int v2), (3, .int v3)]) (st' := []) ?_
    refine tk_Kp  (ls' := [(0, .ref 274), (1, .int v1), (2, .int v2), (3, .int v3)]) rfl rfl ?_
    exact ok_fM_lies_135 sc v1 v2 v3 m _ h
  · replace h := tk_ifF hc2 h
    refine tk_bF  rfl rfl tk_eB_ne (c := o1 = true) hc2 (pc' := 87) (ls' := [(0, .ref 274), (1, .int v1), (2, .int v2), (3, .int v3)]) (st' := []) ?_
    refine tk_Ps  2 (pc' := 89) (ls' := [(0, .ref 274), (1, .int v1), (2, .int v2), (3, .int v3)]) (st' := [.int v2, .ref 274]) rfl ?_
    obtain ⟨o3, ho3, h⟩ := tk_bnd h
    refine tk_cV1  rfl rfl (r := 274) (as := [.int v2]) (rest := []) rfl ly274 rfl rfl (ok_fM_isRound sc v2 m ho3) ?_
    by_cases hc4 : o3 = true
    · replace h := tk_ifT hc4 h
      refine tk_bT  rfl rfl tk_eB_ne (c := o3 = true) hc4 (pc' := 135) (ls' := [(0, .ref 274), (1, .int v1), (2, .int v2), (3, .int v3)]) (st' := []) ?_
      refine tk_Kp  (ls' := [(0, .ref 274), (1, .int v1), (2, .int v2), (3, .int v3)]) rfl rfl ?_
      exact ok_fM_lies_135 sc v1 v2 v3 m _ h
    · replace h := tk_ifF hc4 h
      refine tk_bF  rfl rfl tk_eB_ne (c := o3 = true) hc4 (pc' := 95) (ls' := [(0, .ref 274), (1, .int v1), (2, .int v2), (3, .int v3)]) (st' := []) ?_
      refine tk_Ps  3 (pc' := 98) (ls' := [(0, .ref 274), (1, .int v1), (2, .int v2), (3, .int v3)]) (st' := [.int (1 : Int32), .int v1, .ref 274]) rfl ?_
      obtain ⟨o5, ho5, h⟩ := tk_bnd h
      refine tk_cV1  rfl rfl (r := 274) (as := [.int v1, .int (1 : Int32)]) (rest := []) rfl ly274 rfl rfl (ok_fM_of0 sc v1 (1 : Int32) m ho5) ?_
      refine tk_Ps  3 (pc' := 104) (ls' := [(0, .ref 274), (1, .int v1), (2, .int v2), (3, .int v3)]) (st' := [.int (1 : Int32), .int v2, .ref 274, .int o5]) rfl ?_
      obtain ⟨o6, ho6, h⟩ := tk_bnd h
      refine tk_cV1  rfl rfl (r := 274) (as := [.int v2, .int (1 : Int32)]) (rest := [.int o5]) rfl ly274 rfl rfl (ok_fM_of0 sc v2 (1 : Int32) m ho6) ?_
      by_cases hc7 : o5 = o6
      · replace h := tk_ifT hc7 h
        refine tk_bT  rfl rfl rfl (c := o5 = o6) hc7 (pc' := 114) (ls' := [(0, .ref 274), (1, .int v1), (2, .int v2), (3, .int v3)]) (st' := []) ?_
        refine tk_Ps  3 (pc' := 117) (ls' := [(0, .ref 274), (1, .int v1), (2, .int v2), (3, .int v3)]) (st' := [.int (2 : Int32), .int v1, .ref 274]) rfl ?_
        obtain ⟨o8, ho8, h⟩ := tk_bnd h
        refine tk_cV1  rfl rfl (r := 274) (as := [.int v1, .int (2 : Int32)]) (rest := []) rfl ly274 rfl rfl (ok_fM_of0 sc v1 (2 : Int32) m ho8) ?_
        refine tk_Ps  3 (pc' := 123) (ls' := [(0, .ref 274), (1, .int v1), (2, .int v2), (3, .int v3)]) (st' := [.int (2 : Int32), .int v2, .ref 274, .int o8]) rfl ?_
        obtain ⟨o9, ho9, h⟩ := tk_bnd h
        refine tk_cV1  rfl rfl (r := 274) (as := [.int v2, .int (2 : Int32)]) (rest := [.int o8]) rfl ly274 rfl rfl (ok_fM_of0 sc v2 (2 : Int32) m ho9) ?_
        by_cases hc10 : o8 = o9
        · replace h := tk_ifT hc10 h
          refine tk_bT  rfl rfl rfl (c := o8 = o9) hc10 (pc' := 129) (ls' := [(0, .ref 274), (1, .int v1), (2, .int v2), (3, .int v3)]) (st' := []) ?_
          refine tk_Ps  2 (pc' := 134) (ls' := [(0, .ref 274), (1, .int v1), (2, .int v2), (3, .int v3)]) (st' := [.int (3 : Int32)]) rfl ?_
          replace h := Option.some.inj h
          subst h
          exact tk_RI  rfl rfl rfl
        · replace h := tk_ifF hc10 h
          refine tk_bF  rfl rfl rfl (c := o8 = o9) hc10 (pc' := 133) (ls' := [(0, .ref 274), (1, .int v1), (2, .int v2), (3, .int v3)]) (st' := []) ?_
          refine tk_Ps  1 (pc' := 134) (ls' := [(0, .ref 274), (1, .int v1), (2, .int v2), (3, .int v3)]) (st' := [.int (0 : Int32)]) rfl ?_
          replace h := Option.some.inj h
          subst h
          exact tk_RI  rfl rfl rfl
      · replace h := tk_ifF hc7 h
        refine tk_bF  rfl rfl rfl (c := o5 = o6) hc7 (pc' := 110) (ls' := [(0, .ref 274), (1, .int v1), (2, .int v2), (3, .int v3)]) (st' := []) ?_
        refine tk_Ps  2 (pc' := 134) (ls' := [(0, .ref 274), (1, .int v1), (2, .int v2), (3, .int v3)]) (st' := [.int (1 : Int32)]) rfl ?_
        replace h := Option.some.inj h
        subst h
        exact tk_RI  rfl rfl rfl
theorem ok_fM_lies (sc : tk_X) (a1 : Int32) (a2 : Int32) (m : tk_m) {out : Int32} (h : fM_lies a1 a2 m = some out) : tk_Ru sc 4 201 [.ref 274, .int a1, .int a2] (tk_full m) (some (.int out), tk_full m) := by
  unfold fM_lies at h
  refine tk_Ru0 me201 (ls := [(0, .ref 274), (1, .int a1), (2, .int a2)]) rfl rfl ?_
  refine tk_Ps  3 (pc' := 3) (ls' := [(0, .ref 274), (1, .int a1), (2, .int a2)]) (st' := [.int (3 : Int32), .int a1, .ref 274]) rfl ?_
  obtain ⟨o1, ho1, h⟩ := tk_bnd h
  refine tk_cV1  rfl rfl (r := 274) (as := [.int a1, .int (3 : Int32)]) (rest := []) rfl ly274 rfl rfl (ok_fM_of0 sc a1 (3 : Int32) m ho1) ?_
  refine tk_Ps  4 (pc' := 10) (ls' := [(3, .int o1), (0, .ref 274), (1, .int a1), (2, .int a2)]) (st' := [.int (3 : Int32), .int a2, .ref 274]) rfl ?_
  obtain ⟨o2, ho2, h⟩ := tk_bnd h
  refine tk_cV1  rfl rfl (r := 274) (as := [.int a2, .int (3 : Int32)]) (rest := []) rfl ly274 rfl rfl (ok_fM_of0 sc a2 (3 : Int32) m ho2) ?_
  refine tk_Ps  3 (pc' := 17) (ls' := [(4, .int o2), (3, .int o1), (0, .ref 274), (1, .int a1), (2, .int a2)]) (st' := [.int a1, .ref 274]) rfl ?_
  obtain ⟨o3, ho3, h⟩ := tk_bnd h
  refine tk_cV1  rfl rfl (r := 274) (as := [.int a1]) (rest := []) rfl ly274 rfl rfl (ok_fM_isRound sc a1 m ho3) ?_
  by_cases hc4 : o3 = true
  · replace h := tk_ifT hc4 h
    refine tk_bT  rfl rfl tk_eB_eq (c := o3 = true) hc4 (pc' := 23) (ls' := [(4, .int o2), (3, .int o1), (0, .ref 274), (1, .int a1), (2, .int a2)]) (st' := []) ?_
    refine tk_Ps  2 (pc' := 25) (ls' := [(4, .int o2), (3, .int o1), (0, .ref 274), (1, .int a1), (2, .int a2)]) (st' := [.int a2, .ref 274]) rfl ?_
    obtain ⟨o5, ho5, h⟩ := tk_bnd h
    refine tk_cV1  rfl rfl (r := 274) (as := [.int a2]) (rest := []) rfl ly274 rfl rfl (ok_fM_isRound sc a2 m ho5) ?_
    by_cases hc6 : o5 = true
    · replace h := tk_ifT hc6 h
      refine tk_bT  rfl rfl tk_eB_eq (c := o5 = true) hc6 (pc' := 31) (ls' := [(4, .int o2), (3, .int o1), (0, .ref 274), (1, .int a1), (2, .int a2)]) (st' := []) ?_
      refine tk_Ps  3 (pc' := 34) (ls' := [(4, .int o2), (3, .int o1), (0, .ref 274), (1, .int a1), (2, .int a2)]) (st' := [.int a2, .int a1, .ref 274]) rfl ?_
      obtain ⟨o7, ho7, h⟩ := tk_bnd h
      refine tk_cV1  rfl rfl (r := 274) (as := [.int a1, .int a2]) (rest := []) rfl ly274 rfl rfl (ok_fM_apart sc a1 a2 m ho7) ?_
      by_cases hc8 : o7 = 0
      · replace h := tk_ifT hc8 h
        refine tk_bT  rfl rfl rfl (c := o7 = 0) hc8 (pc' := 40) (ls' := [(4, .int o2), (3, .int o1), (0, .ref 274), (1, .int a1), (2, .int a2)]) (st' := []) ?_
        refine tk_Ps  2 (pc' := 43) (ls' := [(4, .int o2), (3, .int o1), (0, .ref 274), (1, .int a1), (2, .int a2)]) (st' := [.int o2, .int o1]) rfl ?_
        by_cases hc9 : o1 = o2
        · replace h := tk_ifT hc9 h
          refine tk_bT  rfl rfl rfl (c := o1 = o2) hc9 (pc' := 46) (ls' := [(4, .int o2), (3, .int o1), (0, .ref 274), (1, .int a1), (2, .int a2)]) (st' := []) ?_
          refine tk_Ps  2 (pc' := 78) (ls' := [(4, .int o2), (3, .int o1), (0, .ref 274), (1, .int a1), (2, .int a2)]) (st' := [.int (3 : Int32)]) rfl ?_
          replace h := Option.some.inj h
          subst h
          exact tk_RI  rfl rfl rfl
        · replace h := tk_ifF hc9 h
          refine tk_bF  rfl rfl rfl (c := o1 = o2) hc9 (pc' := 50) (ls' := [(4, .int o2), (3, .int o1), (0, .ref 274), (1, .int a1), (2, .int a2)]) (st' := []) ?_
          refine tk_Kp  (ls' := [(0, .ref 274), (1, .int a1), (2, .int a2), (3, .int o1), (4, .int o2)]) rfl rfl ?_
          exact ok_fM_lies_50 sc a1 a2 o1 o2 m _ h
      · replace h := tk_ifF hc8 h
        refine tk_bF  rfl rfl rfl (c := o7 = 0) hc8 (pc' := 50) (ls' := [(4, .int o2), (3, .int o1), (0, .ref 274), (1, .int a1), (2, .int a2)]) (st' := []) ?_
        refine tk_Kp  (ls' := [(0, .ref 274), (1, .int a1), (2, .int a2), (3, .int o1), (4, .int o2)]) rfl rfl ?_
        exact ok_fM_lies_50 sc a1 a2 o1 o2 m _ h
    · replace h := tk_ifF hc6 h
      refine tk_bF  rfl rfl tk_eB_eq (c := o5 = true) hc6 (pc' := 79) (ls' := [(4, .int o2), (3, .int o1), (0, .ref 274), (1, .int a1), (2, .int a2)]) (st' := []) ?_
      refine tk_Kp  (ls' := [(0, .ref 274), (1, .int a1), (2, .int a2), (3, .int o1)]) rfl rfl ?_
      exact ok_fM_lies_79 sc a1 a2 o1 m _ h
  · replace h := tk_ifF hc4 h
    refine tk_bF  rfl rfl tk_eB_eq (c := o3 = true) hc4 (pc' := 79) (ls' := [(4, .int o2), (3, .int o1), (0, .ref 274), (1, .int a1), (2, .int a2)]) (st' := []) ?_
    refine tk_Kp  (ls' := [(0, .ref 274), (1, .int a1), (2, .int a2), (3, .int o1)]) rfl rfl ?_
    exact ok_fM_lies_79 sc a1 a2 o1 m _ h
theorem ok_fM_lie (sc : tk_X) (a1 : Int32) (a2 : Int32) (m : tk_m) {out : Int32 × tk_m} (h : fM_lie a1 a2 m = some out) : tk_Ru sc 5 199 [.ref 274, .int a1, .int a2] (tk_full m) (some (.int out.1), tk_full out.2) := by
  unfold fM_lie at h
  refine tk_Ru0 me199 (ls := [(0, .ref 274), (1, .int a1), (2, .int a2)]) rfl rfl ?_
  refine tk_Ps  3 (pc' := 3) (ls' := [(0, .ref 274), (1, .int a1), (2, .int a2)]) (st' := [.int a2, .int a1, .ref 274]) rfl ?_
  refine tk_cV1  rfl rfl (r := 274) (as := [.int a1, .int a2]) (rest := []) rfl ly274 rfl rfl (ok_fM_areTwo sc a1 a2 m) ?_
  by_cases hc1 : (fM_areTwo a1 a2 m) = true
  · replace h := tk_ifT hc1 h
    refine tk_bT  rfl rfl tk_eB_eq (c := (fM_areTwo a1 a2 m) = true) hc1 (pc' := 9) (ls' := [(0, .ref 274), (1, .int a1), (2, .int a2)]) (st' := []) ?_
    refine tk_Ps  3 (pc' := 12) (ls' := [(0, .ref 274), (1, .int a1), (2, .int a2)]) (st' := [.int a2, .int a1, .ref 274]) rfl ?_
    obtain ⟨o2, ho2, h⟩ := tk_bnd h
    refine tk_cV1  rfl rfl (r := 274) (as := [.int a1, .int a2]) (rest := []) rfl ly274 rfl rfl (ok_fM_lies sc a1 a2 m ho2) ?_
    refine tk_Ps  1 (pc' := 23) (ls' := [(0, .ref 274), (1, .int a1), (2, .int a2)]) (st' := [.int o2]) rfl ?_
    replace h := Option.some.inj h
    subst h
    exact tk_RI  rfl rfl rfl
  · replace h := tk_ifF hc1 h
    refine tk_bF  rfl rfl tk_eB_eq (c := (fM_areTwo a1 a2 m) = true) hc1 (pc' := 18) (ls' := [(0, .ref 274), (1, .int a1), (2, .int a2)]) (st' := []) ?_
    refine tk_Ps  2 (pc' := 20) (ls' := [(0, .ref 274), (1, .int a1), (2, .int a2)]) (st' := [.int (0 : Int32), .ref 274]) rfl ?_
    obtain ⟨o3, ho3, h⟩ := tk_bnd h
    refine tk_cV1  rfl rfl (r := 274) (as := [.int (0 : Int32)]) (rest := []) rfl ly274 rfl rfl (ok_fM_finds sc (0 : Int32) m ho3) ?_
    replace h := Option.some.inj h
    subst h
    exact tk_RI  rfl rfl rfl
theorem ok_fM_power (sc : tk_X) (a1 : Int32) (a2 : Int32) (a3 : Int32) (m : tk_m) {out : Int32 × tk_m} (h : fM_power a1 a2 a3 m = some out) : tk_Ru sc 4 204 [.ref 274, .int a1, .int a2, .int a3] (tk_full m) (some (.int out.1), tk_full out.2) := by
  unfold fM_power at h
  refine tk_Ru0 me204 (ls := [(0, .ref 274), (1, .int a1), (2, .int a2), (3, .int a3)]) rfl rfl ?_
  refine tk_Ps  2 (pc' := 2) (ls' := [(0, .ref 274), (1, .int a1), (2, .int a2), (3, .int a3)]) (st' := [.int a1, .ref 274]) rfl ?_
  refine tk_cV1  rfl rfl (r := 274) (as := [.int a1]) (rest := []) rfl ly274 rfl rfl (ok_fM_isShape sc a1 m) ?_
  by_cases hc1 : (fM_isShape a1 m) = true
  · replace h := tk_ifT hc1 h
    refine tk_bT  rfl rfl tk_eB_eq (c := (fM_isShape a1 m) = true) hc1 (pc' := 8) (ls' := [(0, .ref 274), (1, .int a1), (2, .int a2), (3, .int a3)]) (st' := []) ?_
    refine tk_Ps  4 (pc' := 16) (ls' := [(0, .ref 274), (1, .int a1), (2, .int a2), (3, .int a3)]) (st' := [.long (99 : Int64), .long (-99 : Int64), .long (Int32.toInt64 a2)]) rfl ?_
    refine tk_cS1  rfl rfl (as := [.long (Int32.toInt64 a2), .long (-99 : Int64), .long (99 : Int64)]) (rest := []) rfl rfl rfl (ok_fM_in sc (Int32.toInt64 a2) (-99 : Int64) (99 : Int64) m) ?_
    by_cases hc2 : (fM_in (Int32.toInt64 a2) (-99 : Int64) (99 : Int64)) = true
    · replace h := tk_ifT hc2 h
      refine tk_bT  rfl rfl tk_eB_eq (c := (fM_in (Int32.toInt64 a2) (-99 : Int64) (99 : Int64)) = true) hc2 (pc' := 22) (ls' := [(0, .ref 274), (1, .int a1), (2, .int a2), (3, .int a3)]) (st' := []) ?_
      refine tk_Ps  4 (pc' := 30) (ls' := [(0, .ref 274), (1, .int a1), (2, .int a2), (3, .int a3)]) (st' := [.long (99 : Int64), .long (-99 : Int64), .long (Int32.toInt64 a3)]) rfl ?_
      refine tk_cS1  rfl rfl (as := [.long (Int32.toInt64 a3), .long (-99 : Int64), .long (99 : Int64)]) (rest := []) rfl rfl rfl (ok_fM_in sc (Int32.toInt64 a3) (-99 : Int64) (99 : Int64) m) ?_
      by_cases hc3 : (fM_in (Int32.toInt64 a3) (-99 : Int64) (99 : Int64)) = true
      · replace h := tk_ifT hc3 h
        refine tk_bT  rfl rfl tk_eB_ne (c := (fM_in (Int32.toInt64 a3) (-99 : Int64) (99 : Int64)) = true) hc3 (pc' := 42) (ls' := [(0, .ref 274), (1, .int a1), (2, .int a2), (3, .int a3)]) (st' := []) ?_
        refine tk_Ps  3 (pc' := 45) (ls' := [(0, .ref 274), (1, .int a1), (2, .int a2), (3, .int a3)]) (st' := [.int (0 : Int32), .int a1, .ref 274]) rfl ?_
        obtain ⟨o4, ho4, h⟩ := tk_bnd h
        refine tk_cV1  rfl rfl (r := 274) (as := [.int a1, .int (0 : Int32)]) (rest := []) rfl ly274 rfl rfl (ok_fM_form sc a1 (0 : Int32) m ho4) ?_
        refine tk_Ps  11 (pc' := 59) (ls' := [(0, .ref 274), (1, .int a1), (2, .int a2), (3, .int a3)]) (st' := [.int (1 : Int32), .int a1, .ref 274, .int (o4 * ((a2 * a2) + (a3 * a3)))]) rfl ?_
        obtain ⟨o5, ho5, h⟩ := tk_bnd h
        refine tk_cV1  rfl rfl (r := 274) (as := [.int a1, .int (1 : Int32)]) (rest := [.int (o4 * ((a2 * a2) + (a3 * a3)))]) rfl ly274 rfl rfl (ok_fM_form sc a1 (1 : Int32) m ho5) ?_
        refine tk_Ps  6 (pc' := 68) (ls' := [(0, .ref 274), (1, .int a1), (2, .int a2), (3, .int a3)]) (st' := [.int (2 : Int32), .int a1, .ref 274, .int ((o4 * ((a2 * a2) + (a3 * a3))) + (o5 * a2))]) rfl ?_
        obtain ⟨o6, ho6, h⟩ := tk_bnd h
        refine tk_cV1  rfl rfl (r := 274) (as := [.int a1, .int (2 : Int32)]) (rest := [.int ((o4 * ((a2 * a2) + (a3 * a3))) + (o5 * a2))]) rfl ly274 rfl rfl (ok_fM_form sc a1 (2 : Int32) m ho6) ?_
        refine tk_Ps  6 (pc' := 77) (ls' := [(0, .ref 274), (1, .int a1), (2, .int a2), (3, .int a3)]) (st' := [.int (3 : Int32), .int a1, .ref 274, .int (((o4 * ((a2 * a2) + (a3 * a3))) + (o5 * a2)) + (o6 * a3))]) rfl ?_
        obtain ⟨o7, ho7, h⟩ := tk_bnd h
        refine tk_cV1  rfl rfl (r := 274) (as := [.int a1, .int (3 : Int32)]) (rest := [.int (((o4 * ((a2 * a2) + (a3 * a3))) + (o5 * a2)) + (o6 * a3))]) rfl ly274 rfl rfl (ok_fM_form sc a1 (3 : Int32) m ho7) ?_
        refine tk_Ps  1 (pc' := 81) (ls' := [(0, .ref 274), (1, .int a1), (2, .int a2), (3, .int a3)]) (st' := [.int ((((o4 * ((a2 * a2) + (a3 * a3))) + (o5 * a2)) + (o6 * a3)) + o7)]) rfl ?_
        replace h := Option.some.inj h
        subst h
        exact tk_RI  rfl rfl rfl
      · replace h := tk_ifF hc3 h
        refine tk_bF  rfl rfl tk_eB_ne (c := (fM_in (Int32.toInt64 a3) (-99 : Int64) (99 : Int64)) = true) hc3 (pc' := 36) (ls' := [(0, .ref 274), (1, .int a1), (2, .int a2), (3, .int a3)]) (st' := []) ?_
        refine tk_Ps  2 (pc' := 38) (ls' := [(0, .ref 274), (1, .int a1), (2, .int a2), (3, .int a3)]) (st' := [.int (0 : Int32), .ref 274]) rfl ?_
        obtain ⟨o8, ho8, h⟩ := tk_bnd h
        refine tk_cV1  rfl rfl (r := 274) (as := [.int (0 : Int32)]) (rest := []) rfl ly274 rfl rfl (ok_fM_finds sc (0 : Int32) m ho8) ?_
        replace h := Option.some.inj h
        subst h
        exact tk_RI  rfl rfl rfl
    · replace h := tk_ifF hc2 h
      refine tk_bF  rfl rfl tk_eB_eq (c := (fM_in (Int32.toInt64 a2) (-99 : Int64) (99 : Int64)) = true) hc2 (pc' := 36) (ls' := [(0, .ref 274), (1, .int a1), (2, .int a2), (3, .int a3)]) (st' := []) ?_
      refine tk_Ps  2 (pc' := 38) (ls' := [(0, .ref 274), (1, .int a1), (2, .int a2), (3, .int a3)]) (st' := [.int (0 : Int32), .ref 274]) rfl ?_
      obtain ⟨o9, ho9, h⟩ := tk_bnd h
      refine tk_cV1  rfl rfl (r := 274) (as := [.int (0 : Int32)]) (rest := []) rfl ly274 rfl rfl (ok_fM_finds sc (0 : Int32) m ho9) ?_
      replace h := Option.some.inj h
      subst h
      exact tk_RI  rfl rfl rfl
  · replace h := tk_ifF hc1 h
    refine tk_bF  rfl rfl tk_eB_eq (c := (fM_isShape a1 m) = true) hc1 (pc' := 36) (ls' := [(0, .ref 274), (1, .int a1), (2, .int a2), (3, .int a3)]) (st' := []) ?_
    refine tk_Ps  2 (pc' := 38) (ls' := [(0, .ref 274), (1, .int a1), (2, .int a2), (3, .int a3)]) (st' := [.int (0 : Int32), .ref 274]) rfl ?_
    obtain ⟨o10, ho10, h⟩ := tk_bnd h
    refine tk_cV1  rfl rfl (r := 274) (as := [.int (0 : Int32)]) (rest := []) rfl ly274 rfl rfl (ok_fM_finds sc (0 : Int32) m ho10) ?_
    replace h := Option.some.inj h
    subst h
    exact tk_RI  rfl rfl rfl

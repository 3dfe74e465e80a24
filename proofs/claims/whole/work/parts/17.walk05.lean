theorem ok_fX_lays_57 (sc : tk_X) : ∀ (n : Nat) (v2 : Int32) (v3 : Nat) (v4 : Int32) (v5 : Int32) (m : tk_m) (hv3 : tk_lay[v3]? = some (.inl 7)) (out : Int32 × tk_m), fX_lays_57 n v2 v3 v4 v5 m = some out → tk_Ex sc 2 tk_r127 tk_k127 57 [(0, .ref 0), (2, .int v2), (3, .ref v3), (4, .int v4), (5, .int v5)] [] (tk_full m) (some (.int out.1), tk_full out.2) := by
  intro n
  induction n with
  | zero =>
    intro v2 v3 v4 v5 m hv3 out h
    cases h
  | succ n ih =>
    intro v2 v3 v4 v5 m hv3 out h
    unfold fX_lays_57 at h
    refine tk_Ps  2 (pc' := 61) (ls' := [(0, .ref 0), (2, .int v2), (3, .ref v3), (4, .int v4), (5, .int v5)]) (st' := [.int v4, .int v5]) rfl ?_
    by_cases hc1 : v4 ≤ v5
    · replace h := tk_ifT hc1 h
      refine tk_bT  rfl rfl rfl (c := v4 ≤ v5) hc1 (pc' := 91) (ls' := [(0, .ref 0), (2, .int v2), (3, .ref v3), (4, .int v4), (5, .int v5)]) (st' := []) ?_
      refine tk_Ps  1 (pc' := 93) (ls' := [(0, .ref 0), (2, .int v2), (3, .ref v3), (4, .int v4), (5, .int v5)]) (st' := [.int v4]) rfl ?_
      replace h := Option.some.inj h
      subst h
      exact tk_RI  rfl rfl rfl
    · replace h := tk_ifF hc1 h
      refine tk_bF  rfl rfl rfl (c := v4 ≤ v5) hc1 (pc' := 64) (ls' := [(0, .ref 0), (2, .int v2), (3, .ref v3), (4, .int v4), (5, .int v5)]) (st' := []) ?_
      refine tk_Ps  3 (pc' := 68) (ls' := [(0, .ref 0), (2, .int v2), (3, .ref v3), (4, .int v4), (5, .int v5)]) (st' := [.ref 0, .int v5, .ref v3]) rfl ?_
      refine tk_HR  rfl rfl ly0 rt0_0 ?_
      refine tk_HR  rfl rfl ly1 rt1_0 ?_
      refine tk_Ps  1 (pc' := 75) (ls' := [(0, .ref 0), (2, .int v2), (3, .ref v3), (4, .int v4), (5, .int v5)]) (st' := [.int v2, .ref 2, .int v5, .ref v3]) rfl ?_
      obtain ⟨hg2, h⟩ := tk_grd h
      refine tk_HP  rfl rfl ly2 hg2 ?_
      refine tk_Ps  1 (pc' := 78) (ls' := [(0, .ref 0), (2, .int v2), (3, .ref v3), (4, .int v4), (5, .int v5)]) (st' := [.int v5, .ref (2 + 2 + (m.2.2.2 2 (tk_n v2)).val), .int v5, .ref v3]) rfl ?_
      refine tk_cV1  rfl rfl (r := (2 + 2 + (m.2.2.2 2 (tk_n v2)).val)) (as := [.int v5]) (rest := [.int v5, .ref v3]) rfl (tk_sh ly2 _) rfl rfl (ok_fH_formNumber sc (2 + 2 + (m.2.2.2 2 (tk_n v2)).val) v5 m (tk_sh ly2 _)) ?_
      refine tk_Ps  1 (pc' := 82) (ls' := [(0, .ref 0), (2, .int v2), (3, .ref v3), (4, .int v4), (5, .int v5)]) (st' := [.long (Int32.toInt64 (fH_formNumber (2 + 2 + (m.2.2.2 2 (tk_n v2)).val) v5 m)), .int v5, .ref v3]) rfl ?_
      obtain ⟨o3, ho3, h⟩ := tk_bnd h
      refine tk_cV0  rfl rfl (r := v3) (as := [.int v5, .long (Int32.toInt64 (fH_formNumber (2 + 2 + (m.2.2.2 2 (tk_n v2)).val) v5 m))]) (rest := []) rfl hv3 rfl rfl (ok_fT_set sc v3 v5 (Int32.toInt64 (fH_formNumber (2 + 2 + (m.2.2.2 2 (tk_n v2)).val) v5 m)) m hv3 ho3) ?_
      refine tk_Ps  2 (pc' := 57) (ls' := [(5, .int (v5 + (1 : Int32))), (0, .ref 0), (2, .int v2), (3, .ref v3), (4, .int v4)]) (st' := []) rfl ?_
      refine tk_Kp  (ls' := [(0, .ref 0), (2, .int v2), (3, .ref v3), (4, .int v4), (5, .int (v5 + (1 : Int32)))]) rfl rfl ?_
      exact ih v2 v3 v4 (v5 + (1 : Int32)) o3 hv3 _ h
theorem ok_fX_lays (sc : tk_X) (a1 : Int32) (a2 : Int32) (m : tk_m) {out : Int32 × tk_m} (h : fX_lays a1 a2 m = some out) : tk_Ru sc 3 127 [.ref 0, .int a1, .int a2] (tk_full m) (some (.int out.1), tk_full out.2) := by
  unfold fX_lays at h
  refine tk_Ru0 me127 (ls := [(0, .ref 0), (1, .int a1), (2, .int a2)]) rfl rfl ?_
  refine tk_Ps  1 (pc' := 1) (ls' := [(0, .ref 0), (1, .int a1), (2, .int a2)]) (st' := [.int a1]) rfl ?_
  refine tk_cS1  rfl rfl (as := [.int a1]) (rest := []) rfl rfl rfl (ok_fX_isSheet sc a1 m) ?_
  by_cases hc1 : (fX_isSheet a1) = true
  · replace h := tk_ifT hc1 h
    refine tk_bT  rfl rfl tk_eB_eq (c := (fX_isSheet a1) = true) hc1 (pc' := 7) (ls' := [(0, .ref 0), (1, .int a1), (2, .int a2)]) (st' := []) ?_
    refine tk_Ps  1 (pc' := 8) (ls' := [(0, .ref 0), (1, .int a1), (2, .int a2)]) (st' := [.ref 0]) rfl ?_
    refine tk_HR  rfl rfl ly0 rt0_0 ?_
    refine tk_Ps  1 (pc' := 12) (ls' := [(0, .ref 0), (1, .int a1), (2, .int a2)]) (st' := [.int a2, .ref 1]) rfl ?_
    refine tk_cV1  rfl rfl (r := 1) (as := [.int a2]) (rest := []) rfl ly1 rfl rfl (ok_fS_has sc 1 a2 m ly1) ?_
    by_cases hc2 : (fS_has 1 a2 m) = true
    · replace h := tk_ifT hc2 h
      refine tk_bT  rfl rfl tk_eB_ne (c := (fS_has 1 a2 m) = true) hc2 (pc' := 24) (ls' := [(0, .ref 0), (1, .int a1), (2, .int a2)]) (st' := []) ?_
      refine tk_Ps  1 (pc' := 25) (ls' := [(0, .ref 0), (1, .int a1), (2, .int a2)]) (st' := [.ref 0]) rfl ?_
      refine tk_HR  rfl rfl ly0 rt0_4 ?_
      refine tk_Ps  1 (pc' := 29) (ls' := [(0, .ref 0), (1, .int a1), (2, .int a2)]) (st' := [.int a1, .ref 12]) rfl ?_
      obtain ⟨hg3, h⟩ := tk_grd h
      refine tk_HQ  rfl rfl ly12 hg3 (la12 _ (hg3).2).1 ?_
      refine tk_Ps  2 (pc' := 32) (ls' := [(3, .ref (287 + 2 * (tk_n a1))), (0, .ref 0), (1, .int a1), (2, .int a2)]) (st' := [.ref (287 + 2 * (tk_n a1))]) rfl ?_
      refine tk_cV1  rfl rfl (r := (287 + 2 * (tk_n a1))) (as := []) (rest := []) rfl ((la12 _ (hg3).2).2) rfl rfl (ok_fT_isMissing sc (287 + 2 * (tk_n a1)) m ((la12 _ (hg3).2).2)) ?_
      by_cases hc4 : (fT_isMissing (287 + 2 * (tk_n a1)) m) = true
      · replace h := tk_ifT hc4 h
        refine tk_bT  rfl rfl tk_eB_eq (c := (fT_isMissing (287 + 2 * (tk_n a1)) m) = true) hc4 (pc' := 38) (ls' := [(3, .ref (287 + 2 * (tk_n a1))), (0, .ref 0), (1, .int a1), (2, .int a2)]) (st' := []) ?_
        refine tk_Ps  2 (pc' := 40) (ls' := [(3, .ref (287 + 2 * (tk_n a1))), (0, .ref 0), (1, .int a1), (2, .int a2)]) (st' := [.int (5 : Int32), .ref 0]) rfl ?_
        obtain ⟨o5, ho5, h⟩ := tk_bnd h
        refine tk_cV1  rfl rfl (r := 0) (as := [.int (5 : Int32)]) (rest := []) rfl ly0 rfl rfl (ok_fX_finding sc (5 : Int32) m ho5) ?_
        replace h := Option.some.inj h
        subst h
        exact tk_RI  rfl rfl rfl
      · replace h := tk_ifF hc4 h
        refine tk_bF  rfl rfl tk_eB_eq (c := (fT_isMissing (287 + 2 * (tk_n a1)) m) = true) hc4 (pc' := 44) (ls' := [(3, .ref (287 + 2 * (tk_n a1))), (0, .ref 0), (1, .int a1), (2, .int a2)]) (st' := []) ?_
        refine tk_Ps  2 (pc' := 46) (ls' := [(3, .ref (287 + 2 * (tk_n a1))), (0, .ref 0), (1, .int a1), (2, .int a2)]) (st' := [.ref (287 + 2 * (tk_n a1)), .int (4 : Int32)]) rfl ?_
        refine tk_HI  rfl rfl ((la12 _ (hg3).2).2) ?_
        refine tk_cS1  rfl rfl (as := [.int (4 : Int32), .int (m.1 (287 + 2 * (tk_n a1)) 1)]) (rest := []) rfl rfl rfl (ok_fZ_min_I sc (4 : Int32) (m.1 (287 + 2 * (tk_n a1)) 1) m) ?_
        refine tk_Ps  3 (pc' := 57) (ls' := [(5, .int (0 : Int32)), (4, .int (fZ_min_I (4 : Int32) (m.1 (287 + 2 * (tk_n a1)) 1))), (3, .ref (287 + 2 * (tk_n a1))), (0, .ref 0), (1, .int a1), (2, .int a2)]) (st' := []) rfl ?_
        refine tk_Kp  (ls' := [(0, .ref 0), (2, .int a2), (3, .ref (287 + 2 * (tk_n a1))), (4, .int (fZ_min_I (4 : Int32) (m.1 (287 + 2 * (tk_n a1)) 1))), (5, .int (0 : Int32))]) rfl rfl ?_
        exact ok_fX_lays_57 sc tk_F a2 (287 + 2 * (tk_n a1)) (fZ_min_I (4 : Int32) (m.1 (287 + 2 * (tk_n a1)) 1)) (0 : Int32) m ((la12 _ (hg3).2).2) _ h
    · replace h := tk_ifF hc2 h
      refine tk_bF  rfl rfl tk_eB_ne (c := (fS_has 1 a2 m) = true) hc2 (pc' := 18) (ls' := [(0, .ref 0), (1, .int a1), (2, .int a2)]) (st' := []) ?_
      refine tk_Ps  2 (pc' := 20) (ls' := [(0, .ref 0), (1, .int a1), (2, .int a2)]) (st' := [.int (0 : Int32), .ref 0]) rfl ?_
      obtain ⟨o6, ho6, h⟩ := tk_bnd h
      refine tk_cV1  rfl rfl (r := 0) (as := [.int (0 : Int32)]) (rest := []) rfl ly0 rfl rfl (ok_fX_finding sc (0 : Int32) m ho6) ?_
      replace h := Option.some.inj h
      subst h
      exact tk_RI  rfl rfl rfl
  · replace h := tk_ifF hc1 h
    refine tk_bF  rfl rfl tk_eB_eq (c := (fX_isSheet a1) = true) hc1 (pc' := 18) (ls' := [(0, .ref 0), (1, .int a1), (2, .int a2)]) (st' := []) ?_
    refine tk_Ps  2 (pc' := 20) (ls' := [(0, .ref 0), (1, .int a1), (2, .int a2)]) (st' := [.int (0 : Int32), .ref 0]) rfl ?_
    obtain ⟨o7, ho7, h⟩ := tk_bnd h
    refine tk_cV1  rfl rfl (r := 0) (as := [.int (0 : Int32)]) (rest := []) rfl ly0 rfl rfl (ok_fX_finding sc (0 : Int32) m ho7) ?_
    replace h := Option.some.inj h
    subst h
    exact tk_RI  rfl rfl rfl
theorem ok_fT_isFormZero_2 (sc : tk_X) : ∀ (n : Nat) (v0 : Nat) (v1 : Int32) (m : tk_m) (hv0 : tk_lay[v0]? = some (.inl 7)) (out : Bool), fT_isFormZero_2 n v0 v1 m = some out → tk_Ex sc 0 tk_r133 tk_k133 2 [(0, .ref v0), (1, .int v1)] [] (tk_full m) (some (.int (tk_b out)), tk_full m) := by
  intro n
  induction n with
  | zero =>
    intro v0 v1 m hv0 out h
    cases h
  | succ n ih =>
    intro v0 v1 m hv0 out h
    unfold fT_isFormZero_2 at h
    refine tk_Ps  2 (pc' := 4) (ls' := [(0, .ref v0), (1, .int v1)]) (st' := [.int (4 : Int32), .int v1]) rfl ?_
    by_cases hc1 : (4 : Int32) ≤ v1
    · replace h := tk_ifT hc1 h
      refine tk_bT  rfl rfl rfl (c := (4 : Int32) ≤ v1) hc1 (pc' := 26) (ls' := [(0, .ref v0), (1, .int v1)]) (st' := []) ?_
      refine tk_Ps  1 (pc' := 27) (ls' := [(0, .ref v0), (1, .int v1)]) (st' := [.int (1 : Int32)]) rfl ?_
      replace h := Option.some.inj h
      subst h
      exact tk_RB (b := true)  rfl rfl rfl
    · replace h := tk_ifF hc1 h
      refine tk_bF  rfl rfl rfl (c := (4 : Int32) ≤ v1) hc1 (pc' := 7) (ls' := [(0, .ref v0), (1, .int v1)]) (st' := []) ?_
      refine tk_Ps  1 (pc' := 8) (ls' := [(0, .ref v0), (1, .int v1)]) (st' := [.ref v0]) rfl ?_
      refine tk_HR  rfl rfl hv0 (ro7_2 hv0) ?_
      refine tk_Ps  1 (pc' := 12) (ls' := [(0, .ref v0), (1, .int v1)]) (st' := [.int v1, .ref (v0 + 1)]) rfl ?_
      obtain ⟨hg2, h⟩ := tk_grd h
      refine tk_HJa  rfl rfl (lo7_2 hv0) hg2 ?_
      refine tk_Ps  2 (pc' := 15) (ls' := [(0, .ref v0), (1, .int v1)]) (st' := [.int (lg_cmp (m.2.1 (v0 + 1) (tk_n v1)) (0 : Int64))]) rfl ?_
      by_cases hc3 : (m.2.1 (v0 + 1) (tk_n v1)) = (0 : Int64)
      · replace h := tk_ifT hc3 h
        refine tk_bT  rfl rfl tk_eL_eq (c := (m.2.1 (v0 + 1) (tk_n v1)) = (0 : Int64)) hc3 (pc' := 20) (ls' := [(0, .ref v0), (1, .int v1)]) (st' := []) ?_
        refine tk_Ps  2 (pc' := 2) (ls' := [(1, .int (v1 + (1 : Int32))), (0, .ref v0)]) (st' := []) rfl ?_
        refine tk_Kp  (ls' := [(0, .ref v0), (1, .int (v1 + (1 : Int32)))]) rfl rfl ?_
        exact ih v0 (v1 + (1 : Int32)) m hv0 _ h
      · replace h := tk_ifF hc3 h
        refine tk_bF  rfl rfl tk_eL_eq (c := (m.2.1 (v0 + 1) (tk_n v1)) = (0 : Int64)) hc3 (pc' := 18) (ls' := [(0, .ref v0), (1, .int v1)]) (st' := []) ?_
        refine tk_Ps  1 (pc' := 19) (ls' := [(0, .ref v0), (1, .int v1)]) (st' := [.int (0 : Int32)]) rfl ?_
        replace h := Option.some.inj h
        subst h
        exact tk_RB (b := false)  rfl rfl rfl
theorem ok_fT_isFormZero (sc : tk_X) (t : Nat) (m : tk_m) (ht : tk_lay[t]? = some (.inl 7)) {out : Bool} (h : fT_isFormZero t m = some out) : tk_Ru sc 1 133 [.ref t] (tk_full m) (some (.int (tk_b out)), tk_full m) := by
  unfold fT_isFormZero at h
  refine tk_Ru0 me133 (ls := [(0, .ref t)]) rfl rfl ?_
  refine tk_Ps  2 (pc' := 2) (ls' := [(1, .int (0 : Int32)), (0, .ref t)]) (st' := []) rfl ?_
  refine tk_Kp  (ls' := [(0, .ref t), (1, .int (0 : Int32))]) rfl rfl ?_
  exact ok_fT_isFormZero_2 sc tk_F t (0 : Int32) m ht _ h
theorem ok_fK_times (sc : tk_X) (a1 : Int64) (a2 : Int64) (m : tk_m) {out : Int64 × tk_m} (h : fK_times a1 a2 m = some out) : tk_Ru sc 1 135 [.ref 34, .long a1, .long a2] (tk_full m) (some (.long out.1), tk_full out.2) := by
  unfold fK_times at h
  refine tk_Ru0 me135 (ls := [(0, .ref 34), (1, .long a1), (3, .long a2)]) rfl rfl ?_
  refine tk_Ps  7 (pc' := 8) (ls' := [(5, .long (a1 * a2)), (0, .ref 34), (1, .long a1), (3, .long a2)]) (st' := [.int (lg_cmp a1 (0 : Int64))]) rfl ?_
  by_cases hc1 : a1 = (0 : Int64)
  · replace h := tk_ifT hc1 h
    refine tk_bT  rfl rfl tk_eL_eq (c := a1 = (0 : Int64)) hc1 (pc' := 41) (ls' := [(5, .long (a1 * a2)), (0, .ref 34), (1, .long a1), (3, .long a2)]) (st' := []) ?_
    refine tk_Ps  1 (pc' := 43) (ls' := [(5, .long (a1 * a2)), (0, .ref 34), (1, .long a1), (3, .long a2)]) (st' := [.long (a1 * a2)]) rfl ?_
    replace h := Option.some.inj h
    subst h
    exact tk_RJ  rfl rfl rfl
  · replace h := tk_ifF hc1 h
    refine tk_bF  rfl rfl tk_eL_eq (c := a1 = (0 : Int64)) hc1 (pc' := 11) (ls' := [(5, .long (a1 * a2)), (0, .ref 34), (1, .long a1), (3, .long a2)]) (st' := []) ?_
    refine tk_Ps  2 (pc' := 14) (ls' := [(5, .long (a1 * a2)), (0, .ref 34), (1, .long a1), (3, .long a2)]) (st' := [.long a1, .long (a1 * a2)]) rfl ?_
    obtain ⟨hz2, h⟩ := tk_grn h
    refine tk_ldiv  rfl rfl hz2 ?_
    refine tk_Ps  2 (pc' := 17) (ls' := [(5, .long (a1 * a2)), (0, .ref 34), (1, .long a1), (3, .long a2)]) (st' := [.int (lg_cmp ((a1 * a2) / a1) a2)]) rfl ?_
    by_cases hc3 : ((a1 * a2) / a1) = a2
    · replace h := tk_ifT hc3 h
      refine tk_bT  rfl rfl tk_eL_ne (c := ((a1 * a2) / a1) = a2) hc3 (pc' := 20) (ls' := [(5, .long (a1 * a2)), (0, .ref 34), (1, .long a1), (3, .long a2)]) (st' := []) ?_
      refine tk_Ps  3 (pc' := 25) (ls' := [(5, .long (a1 * a2)), (0, .ref 34), (1, .long a1), (3, .long a2)]) (st' := [.int (lg_cmp a1 (-1 : Int64))]) rfl ?_
      by_cases hc4 : a1 = (-1 : Int64)
      · replace h := tk_ifT hc4 h
        refine tk_bT  rfl rfl tk_eL_ne (c := a1 = (-1 : Int64)) hc4 (pc' := 28) (ls' := [(5, .long (a1 * a2)), (0, .ref 34), (1, .long a1), (3, .long a2)]) (st' := []) ?_
        refine tk_Ps  3 (pc' := 33) (ls' := [(5, .long (a1 * a2)), (0, .ref 34), (1, .long a1), (3, .long a2)]) (st' := [.int (lg_cmp a2 (-9223372036854775808 : Int64))]) rfl ?_
        by_cases hc5 : a2 = (-9223372036854775808 : Int64)
        · replace h := tk_ifT hc5 h
          refine tk_bT  rfl rfl tk_eL_ne (c := a2 = (-9223372036854775808 : Int64)) hc5 (pc' := 36) (ls' := [(5, .long (a1 * a2)), (0, .ref 34), (1, .long a1), (3, .long a2)]) (st' := []) ?_
          refine tk_Ps  2 (pc' := 38) (ls' := [(5, .long (a1 * a2)), (0, .ref 34), (1, .long a1), (3, .long a2)]) (st' := [.int (1 : Int32), .ref 34]) rfl ?_
          refine tk_SB (b := true)  rfl rfl ly34 ?_
          refine tk_Ps  1 (pc' := 43) (ls' := [(5, .long (a1 * a2)), (0, .ref 34), (1, .long a1), (3, .long a2)]) (st' := [.long (a1 * a2)]) rfl ?_
          replace h := Option.some.inj h
          subst h
          exact tk_RJ  rfl rfl rfl
        · replace h := tk_ifF hc5 h
          refine tk_bF  rfl rfl tk_eL_ne (c := a2 = (-9223372036854775808 : Int64)) hc5 (pc' := 41) (ls' := [(5, .long (a1 * a2)), (0, .ref 34), (1, .long a1), (3, .long a2)]) (st' := []) ?_
          refine tk_Ps  1 (pc' := 43) (ls' := [(5, .long (a1 * a2)), (0, .ref 34), (1, .long a1), (3, .long a2)]) (st' := [.long (a1 * a2)]) rfl ?_
          replace h := Option.some.inj h
          subst h
          exact tk_RJ  rfl rfl rfl
      · replace h := tk_ifF hc4 h
        refine tk_bF  rfl rfl tk_eL_ne (c := a1 = (-1 : Int64)) hc4 (pc' := 41) (ls' := [(5, .long (a1 * a2)), (0, .ref 34), (1, .long a1), (3, .long a2)]) (st' := []) ?_
        refine tk_Ps  1 (pc' := 43) (ls' := [(5, .long (a1 * a2)), (0, .ref 34), (1, .long a1), (3, .long a2)]) (st' := [.long (a1 * a2)]) rfl ?_
        replace h := Option.some.inj h
        subst h
        exact tk_RJ  rfl rfl rfl
    · replace h := tk_ifF hc3 h
      refine tk_bF  rfl rfl tk_eL_ne (c := ((a1 * a2) / a1) = a2) hc3 (pc' := 36) (ls' := [(5, .long (a1 * a2)), (0, .ref 34), (1, .long a1), (3, .long a2)]) (st' := []) ?_
      refine tk_Ps  2 (pc' := 38) (ls' := [(5, .long (a1 * a2)), (0, .ref 34), (1, .long a1), (3, .long a2)]) (st' := [.int (1 : Int32), .ref 34]) rfl ?_
      refine tk_SB (b := true)  rfl rfl ly34 ?_
      refine tk_Ps  1 (pc' := 43) (ls' := [(5, .long (a1 * a2)), (0, .ref 34), (1, .long a1), (3, .long a2)]) (st' := [.long (a1 * a2)]) rfl ?_
      replace h := Option.some.inj h
      subst h
      exact tk_RJ  rfl rfl rfl
theorem ok_fK_plus (sc : tk_X) (a1 : Int64) (a2 : Int64) (m : tk_m) {out : Int64 × tk_m} (h : fK_plus a1 a2 m = out) : tk_Ru sc 1 136 [.ref 34, .long a1, .long a2] (tk_full m) (some (.long out.1), tk_full out.2) := by
  unfold fK_plus at h
  refine tk_Ru0 me136 (ls := [(0, .ref 34), (1, .long a1), (3, .long a2)]) rfl rfl ?_
  refine tk_Ps  13 (pc' := 16) (ls' := [(5, .long (a1 + a2)), (0, .ref 34), (1, .long a1), (3, .long a2)]) (st' := [.int (lg_cmp ((a1 ^^^ (a1 + a2)) &&& (a2 ^^^ (a1 + a2))) (0 : Int64))]) rfl ?_
  by_cases hc1 : (0 : Int64) ≤ ((a1 ^^^ (a1 + a2)) &&& (a2 ^^^ (a1 + a2)))
  · replace h := tk_ifT hc1 h
    refine tk_bT  rfl rfl tk_eL_ge (c := (0 : Int64) ≤ ((a1 ^^^ (a1 + a2)) &&& (a2 ^^^ (a1 + a2)))) hc1 (pc' := 24) (ls' := [(5, .long (a1 + a2)), (0, .ref 34), (1, .long a1), (3, .long a2)]) (st' := []) ?_
    refine tk_Ps  1 (pc' := 26) (ls' := [(5, .long (a1 + a2)), (0, .ref 34), (1, .long a1), (3, .long a2)]) (st' := [.long (a1 + a2)]) rfl ?_
    subst h
    exact tk_RJ  rfl rfl rfl
  · replace h := tk_ifF hc1 h
    refine tk_bF  rfl rfl tk_eL_ge (c := (0 : Int64) ≤ ((a1 ^^^ (a1 + a2)) &&& (a2 ^^^ (a1 + a2)))) hc1 (pc' := 19) (ls' := [(5, .long (a1 + a2)), (0, .ref 34), (1, .long a1), (3, .long a2)]) (st' := []) ?_
    refine tk_Ps  2 (pc' := 21) (ls' := [(5, .long (a1 + a2)), (0, .ref 34), (1, .long a1), (3, .long a2)]) (st' := [.int (1 : Int32), .ref 34]) rfl ?_
    refine tk_SB (b := true)  rfl rfl ly34 ?_
    refine tk_Ps  1 (pc' := 26) (ls' := [(5, .long (a1 + a2)), (0, .ref 34), (1, .long a1), (3, .long a2)]) (st' := [.long (a1 + a2)]) rfl ?_
    subst h
    exact tk_RJ  rfl rfl rfl
theorem ok_fK_minus (sc : tk_X) (a1 : Int64) (a2 : Int64) (m : tk_m) {out : Int64 × tk_m} (h : fK_minus a1 a2 m = out) : tk_Ru sc 1 137 [.ref 34, .long a1, .long a2] (tk_full m) (some (.long out.1), tk_full out.2) := by
  unfold fK_minus at h
  refine tk_Ru0 me137 (ls := [(0, .ref 34), (1, .long a1), (3, .long a2)]) rfl rfl ?_
  refine tk_Ps  13 (pc' := 15) (ls' := [(5, .long (a1 - a2)), (0, .ref 34), (1, .long a1), (3, .long a2)]) (st' := [.int (lg_cmp ((a1 ^^^ a2) &&& (a1 ^^^ (a1 - a2))) (0 : Int64))]) rfl ?_
  by_cases hc1 : (0 : Int64) ≤ ((a1 ^^^ a2) &&& (a1 ^^^ (a1 - a2)))
  · replace h := tk_ifT hc1 h
    refine tk_bT  rfl rfl tk_eL_ge (c := (0 : Int64) ≤ ((a1 ^^^ a2) &&& (a1 ^^^ (a1 - a2)))) hc1 (pc' := 23) (ls' := [(5, .long (a1 - a2)), (0, .ref 34), (1, .long a1), (3, .long a2)]) (st' := []) ?_
    refine tk_Ps  1 (pc' := 25) (ls' := [(5, .long (a1 - a2)), (0, .ref 34), (1, .long a1), (3, .long a2)]) (st' := [.long (a1 - a2)]) rfl ?_
    subst h
    exact tk_RJ  rfl rfl rfl
  · replace h := tk_ifF hc1 h
    refine tk_bF  rfl rfl tk_eL_ge (c := (0 : Int64) ≤ ((a1 ^^^ a2) &&& (a1 ^^^ (a1 - a2)))) hc1 (pc' := 18) (ls' := [(5, .long (a1 - a2)), (0, .ref 34), (1, .long a1), (3, .long a2)]) (st' := []) ?_
    refine tk_Ps  2 (pc' := 20) (ls' := [(5, .long (a1 - a2)), (0, .ref 34), (1, .long a1), (3, .long a2)]) (st' := [.int (1 : Int32), .ref 34]) rfl ?_
    refine tk_SB (b := true)  rfl rfl ly34 ?_
    refine tk_Ps  1 (pc' := 25) (ls' := [(5, .long (a1 - a2)), (0, .ref 34), (1, .long a1), (3, .long a2)]) (st' := [.long (a1 - a2)]) rfl ?_
    subst h
    exact tk_RJ  rfl rfl rfl
theorem ok_fK_firstNotZero_2 (sc : tk_X) : ∀ (n : Nat) (v0 : Nat) (v1 : Int32) (m : tk_m) (hv0 : tk_lay[v0]? = some (.inr (1, tk_al v0))) (out : Int32), fK_firstNotZero_2 n v0 v1 m = some out → tk_Ex sc 0 tk_r138 tk_k138 2 [(0, .ref v0), (1, .int v1)] [] (tk_full m) (some (.int out), tk_full m) := by
  intro n
  induction n with
  | zero =>
    intro v0 v1 m hv0 out h
    cases h
  | succ n ih =>
    intro v0 v1 m hv0 out h
    unfold fK_firstNotZero_2 at h
    refine tk_Ps  2 (pc' := 4) (ls' := [(0, .ref v0), (1, .int v1)]) (st' := [.ref v0, .int v1]) rfl ?_
    refine tk_HL  rfl rfl hv0 ?_
    by_cases hc1 : (Int32.ofNat (tk_al v0)) ≤ v1
    · replace h := tk_ifT hc1 h
      refine tk_bT  rfl rfl rfl (c := (Int32.ofNat (tk_al v0)) ≤ v1) hc1 (pc' := 24) (ls' := [(0, .ref v0), (1, .int v1)]) (st' := []) ?_
      refine tk_Ps  1 (pc' := 25) (ls' := [(0, .ref v0), (1, .int v1)]) (st' := [.int (-1 : Int32)]) rfl ?_
      replace h := Option.some.inj h
      subst h
      exact tk_RI  rfl rfl rfl
    · replace h := tk_ifF hc1 h
      refine tk_bF  rfl rfl rfl (c := (Int32.ofNat (tk_al v0)) ≤ v1) hc1 (pc' := 8) (ls' := [(0, .ref v0), (1, .int v1)]) (st' := []) ?_
      refine tk_Ps  2 (pc' := 10) (ls' := [(0, .ref v0), (1, .int v1)]) (st' := [.int v1, .ref v0]) rfl ?_
      obtain ⟨hg2, h⟩ := tk_grd h
      refine tk_HJa  rfl rfl hv0 hg2 ?_
      refine tk_Ps  2 (pc' := 13) (ls' := [(0, .ref v0), (1, .int v1)]) (st' := [.int (lg_cmp (m.2.1 v0 (tk_n v1)) (0 : Int64))]) rfl ?_
      by_cases hc3 : (m.2.1 v0 (tk_n v1)) = (0 : Int64)
      · replace h := tk_ifT hc3 h
        refine tk_bT  rfl rfl tk_eL_eq (c := (m.2.1 v0 (tk_n v1)) = (0 : Int64)) hc3 (pc' := 18) (ls' := [(0, .ref v0), (1, .int v1)]) (st' := []) ?_
        refine tk_Ps  2 (pc' := 2) (ls' := [(1, .int (v1 + (1 : Int32))), (0, .ref v0)]) (st' := []) rfl ?_
        refine tk_Kp  (ls' := [(0, .ref v0), (1, .int (v1 + (1 : Int32)))]) rfl rfl ?_
        exact ih v0 (v1 + (1 : Int32)) m (tk_al_of hv0) _ h
      · replace h := tk_ifF hc3 h
        refine tk_bF  rfl rfl tk_eL_eq (c := (m.2.1 v0 (tk_n v1)) = (0 : Int64)) hc3 (pc' := 16) (ls' := [(0, .ref v0), (1, .int v1)]) (st' := []) ?_
        refine tk_Ps  1 (pc' := 17) (ls' := [(0, .ref v0), (1, .int v1)]) (st' := [.int v1]) rfl ?_
        replace h := Option.some.inj h
        subst h
        exact tk_RI  rfl rfl rfl
theorem ok_fK_firstNotZero (sc : tk_X) (a1 : Nat) (m : tk_m) (ha1 : tk_lay[a1]? = some (.inr (1, tk_al a1))) {out : Int32} (h : fK_firstNotZero a1 m = some out) : tk_Ru sc 1 138 [.ref a1] (tk_full m) (some (.int out), tk_full m) := by
  unfold fK_firstNotZero at h
  refine tk_Ru0 me138 (ls := [(0, .ref a1)]) rfl rfl ?_
  refine tk_Ps  2 (pc' := 2) (ls' := [(1, .int (0 : Int32)), (0, .ref a1)]) (st' := []) rfl ?_
  refine tk_Kp  (ls' := [(0, .ref a1), (1, .int (0 : Int32))]) rfl rfl ?_
  exact ok_fK_firstNotZero_2 sc tk_F a1 (0 : Int32) m (tk_al_of ha1) _ h
theorem ok_fK_turnInsideOut (sc : tk_X) (a1 : Nat) (a2 : Int32) (a3 : Int32) (a4 : Int32) (m : tk_m) (ha1 : tk_lay[a1]? = some (.inr (1, tk_al a1))) {out : Bool × tk_m} (h : fK_turnInsideOut a1 a2 a3 a4 m = some out) : tk_Ru sc 3 134 [.ref 34, .ref a1, .int a2, .int a3, .int a4] (tk_full m) (some (.int (tk_b out.1)), tk_full out.2) := by
  unfold fK_turnInsideOut at h
  refine tk_Ru0 me134 (ls := [(0, .ref 34), (1, .ref a1), (2, .int a2), (3, .int a3), (4, .int a4)]) rfl rfl ?_
  refine tk_Ps  1 (pc' := 1) (ls' := [(0, .ref 34), (1, .ref a1), (2, .int a2), (3, .int a3), (4, .int a4)]) (st' := [.ref a1]) rfl ?_
  refine tk_HL  rfl rfl ha1 ?_
  refine tk_Ps  1 (pc' := 3) (ls' := [(0, .ref 34), (1, .ref a1), (2, .int a2), (3, .int a3), (4, .int a4)]) (st' := [.int (4 : Int32), .int (Int32.ofNat (tk_al a1))]) rfl ?_
  by_cases hc1 : (4 : Int32) ≤ (Int32.ofNat (tk_al a1))
  · replace h := tk_ifT hc1 h
    refine tk_bT  rfl rfl rfl (c := (4 : Int32) ≤ (Int32.ofNat (tk_al a1))) hc1 (pc' := 8) (ls' := [(0, .ref 34), (1, .ref a1), (2, .int a2), (3, .int a3), (4, .int a4)]) (st' := []) ?_
    refine tk_Ps  2 (pc' := 10) (ls' := [(0, .ref 34), (1, .ref a1), (2, .int a2), (3, .int a3), (4, .int a4)]) (st' := [.int (0 : Int32), .ref 34]) rfl ?_
    refine tk_SB (b := false)  rfl rfl ly34 ?_
    refine tk_Ps  2 (pc' := 15) (ls' := [(0, .ref 34), (1, .ref a1), (2, .int a2), (3, .int a3), (4, .int a4)]) (st' := [.int (0 : Int32), .ref a1]) rfl ?_
    obtain ⟨hg2, h⟩ := tk_grd h
    refine tk_HJa  rfl rfl ha1 hg2 ?_
    refine tk_Ps  16 (pc' := 34) (ls' := [(7, .long (((Int32.toInt64 a2) * (Int32.toInt64 a2)) + ((Int32.toInt64 a3) * (Int32.toInt64 a3)))), (5, .long (m.2.1 a1 (tk_n (0 : Int32)))), (0, .ref 34), (1, .ref a1), (2, .int a2), (3, .int a3), (4, .int a4)]) (st' := [.int (1 : Int32), .ref a1, .ref 34]) rfl ?_
    obtain ⟨hg3, h⟩ := tk_grd h
    refine tk_HJa  rfl rfl ha1 hg3 ?_
    refine tk_Ps  4 (pc' := 42) (ls' := [(7, .long (((Int32.toInt64 a2) * (Int32.toInt64 a2)) + ((Int32.toInt64 a3) * (Int32.toInt64 a3)))), (5, .long (m.2.1 a1 (tk_n (0 : Int32)))), (0, .ref 34), (1, .ref a1), (2, .int a2), (3, .int a3), (4, .int a4)]) (st' := [.long (m.2.1 a1 (tk_n (0 : Int32))), .long (2 : Int64), .ref 34, .ref 34, .long (m.2.1 a1 (tk_n (1 : Int32))), .ref 34]) rfl ?_
    obtain ⟨o4, ho4, h⟩ := tk_bnd h
    refine tk_cV1  rfl rfl (r := 34) (as := [.long (2 : Int64), .long (m.2.1 a1 (tk_n (0 : Int32)))]) (rest := [.ref 34, .long (m.2.1 a1 (tk_n (1 : Int32))), .ref 34]) rfl ly34 rfl rfl (ok_fK_times sc (2 : Int64) (m.2.1 a1 (tk_n (0 : Int32))) (m.1, m.2.1, tk_u2 m.2.2.1 34 0 false, m.2.2.2) ho4) ?_
    refine tk_Ps  2 (pc' := 47) (ls' := [(7, .long (((Int32.toInt64 a2) * (Int32.toInt64 a2)) + ((Int32.toInt64 a3) * (Int32.toInt64 a3)))), (5, .long (m.2.1 a1 (tk_n (0 : Int32)))), (0, .ref 34), (1, .ref a1), (2, .int a2), (3, .int a3), (4, .int a4)]) (st' := [.long (Int32.toInt64 a2), .long o4.1, .ref 34, .long (m.2.1 a1 (tk_n (1 : Int32))), .ref 34]) rfl ?_
    obtain ⟨o5, ho5, h⟩ := tk_bnd h
    refine tk_cV1  rfl rfl (r := 34) (as := [.long o4.1, .long (Int32.toInt64 a2)]) (rest := [.long (m.2.1 a1 (tk_n (1 : Int32))), .ref 34]) rfl ly34 rfl rfl (ok_fK_times sc o4.1 (Int32.toInt64 a2) o4.2 ho5) ?_
    obtain ⟨o6, ho6, h⟩ := tk_lete h
    refine tk_cV1  rfl rfl (r := 34) (as := [.long (m.2.1 a1 (tk_n (1 : Int32))), .long o5.1]) (rest := []) rfl ly34 rfl rfl (ok_fK_plus sc (m.2.1 a1 (tk_n (1 : Int32))) o5.1 o5.2 ho6) ?_
    refine tk_Ps  4 (pc' := 58) (ls' := [(9, .long o6.1), (7, .long (((Int32.toInt64 a2) * (Int32.toInt64 a2)) + ((Int32.toInt64 a3) * (Int32.toInt64 a3)))), (5, .long (m.2.1 a1 (tk_n (0 : Int32)))), (0, .ref 34), (1, .ref a1), (2, .int a2), (3, .int a3), (4, .int a4)]) (st' := [.int (2 : Int32), .ref a1, .ref 34]) rfl ?_
    obtain ⟨hg7, h⟩ := tk_grd h
    refine tk_HJa  rfl rfl ha1 hg7 ?_
    refine tk_Ps  4 (pc' := 66) (ls' := [(9, .long o6.1), (7, .long (((Int32.toInt64 a2) * (Int32.toInt64 a2)) + ((Int32.toInt64 a3) * (Int32.toInt64 a3)))), (5, .long (m.2.1 a1 (tk_n (0 : Int32)))), (0, .ref 34), (1, .ref a1), (2, .int a2), (3, .int a3), (4, .int a4)]) (st' := [.long (m.2.1 a1 (tk_n (0 : Int32))), .long (2 : Int64), .ref 34, .ref 34, .long (o6.2.2.1 a1 (tk_n (2 : Int32))), .ref 34]) rfl ?_
    obtain ⟨o8, ho8, h⟩ := tk_bnd h
    refine tk_cV1  rfl rfl (r := 34) (as := [.long (2 : Int64), .long (m.2.1 a1 (tk_n (0 : Int32)))]) (rest := [.ref 34, .long (o6.2.2.1 a1 (tk_n (2 : Int32))), .ref 34]) rfl ly34 rfl rfl (ok_fK_times sc (2 : Int64) (m.2.1 a1 (tk_n (0 : Int32))) o6.2 ho8) ?_
    refine tk_Ps  2 (pc' := 71) (ls' := [(9, .long o6.1), (7, .long (((Int32.toInt64 a2) * (Int32.toInt64 a2)) + ((Int32.toInt64 a3) * (Int32.toInt64 a3)))), (5, .long (m.2.1 a1 (tk_n (0 : Int32)))), (0, .ref 34), (1, .ref a1), (2, .int a2), (3, .int a3), (4, .int a4)]) (st' := [.long (Int32.toInt64 a3), .long o8.1, .ref 34, .long (o6.2.2.1 a1 (tk_n (2 : Int32))), .ref 34]) rfl ?_
    obtain ⟨o9, ho9, h⟩ := tk_bnd h
    refine tk_cV1  rfl rfl (r := 34) (as := [.long o8.1, .long (Int32.toInt64 a3)]) (rest := [.long (o6.2.2.1 a1 (tk_n (2 : Int32))), .ref 34]) rfl ly34 rfl rfl (ok_fK_times sc o8.1 (Int32.toInt64 a3) o8.2 ho9) ?_
    obtain ⟨o10, ho10, h⟩ := tk_lete h
    refine tk_cV1  rfl rfl (r := 34) (as := [.long (o6.2.2.1 a1 (tk_n (2 : Int32))), .long o9.1]) (rest := []) rfl ly34 rfl rfl (ok_fK_plus sc (o6.2.2.1 a1 (tk_n (2 : Int32))) o9.1 o9.2 ho10) ?_
    refine tk_Ps  7 (pc' := 87) (ls' := [(11, .long o10.1), (9, .long o6.1), (7, .long (((Int32.toInt64 a2) * (Int32.toInt64 a2)) + ((Int32.toInt64 a3) * (Int32.toInt64 a3)))), (5, .long (m.2.1 a1 (tk_n (0 : Int32)))), (0, .ref 34), (1, .ref a1), (2, .int a2), (3, .int a3), (4, .int a4)]) (st' := [.long (((Int32.toInt64 a2) * (Int32.toInt64 a2)) + ((Int32.toInt64 a3) * (Int32.toInt64 a3))), .long (m.2.1 a1 (tk_n (0 : Int32))), .ref 34, .ref 34, .ref 34, .ref 34]) rfl ?_
    obtain ⟨o11, ho11, h⟩ := tk_bnd h
    refine tk_cV1  rfl rfl (r := 34) (as := [.long (m.2.1 a1 (tk_n (0 : Int32))), .long (((Int32.toInt64 a2) * (Int32.toInt64 a2)) + ((Int32.toInt64 a3) * (Int32.toInt64 a3)))]) (rest := [.ref 34, .ref 34, .ref 34]) rfl ly34 rfl rfl (ok_fK_times sc (m.2.1 a1 (tk_n (0 : Int32))) (((Int32.toInt64 a2) * (Int32.toInt64 a2)) + ((Int32.toInt64 a3) * (Int32.toInt64 a3))) o10.2 ho11) ?_
    refine tk_Ps  3 (pc' := 93) (ls' := [(11, .long o10.1), (9, .long o6.1), (7, .long (((Int32.toInt64 a2) * (Int32.toInt64 a2)) + ((Int32.toInt64 a3) * (Int32.toInt64 a3)))), (5, .long (m.2.1 a1 (tk_n (0 : Int32)))), (0, .ref 34), (1, .ref a1), (2, .int a2), (3, .int a3), (4, .int a4)]) (st' := [.int (1 : Int32), .ref a1, .ref 34, .long o11.1, .ref 34, .ref 34, .ref 34]) rfl ?_
    refine tk_HJa  rfl rfl ha1 hg3 ?_
    refine tk_Ps  2 (pc' := 96) (ls' := [(11, .long o10.1), (9, .long o6.1), (7, .long (((Int32.toInt64 a2) * (Int32.toInt64 a2)) + ((Int32.toInt64 a3) * (Int32.toInt64 a3)))), (5, .long (m.2.1 a1 (tk_n (0 : Int32)))), (0, .ref 34), (1, .ref a1), (2, .int a2), (3, .int a3), (4, .int a4)]) (st' := [.long (Int32.toInt64 a2), .long (o11.2.2.1 a1 (tk_n (1 : Int32))), .ref 34, .long o11.1, .ref 34, .ref 34, .ref 34]) rfl ?_
    obtain ⟨o12, ho12, h⟩ := tk_bnd h
    refine tk_cV1  rfl rfl (r := 34) (as := [.long (o11.2.2.1 a1 (tk_n (1 : Int32))), .long (Int32.toInt64 a2)]) (rest := [.long o11.1, .ref 34, .ref 34, .ref 34]) rfl ly34 rfl rfl (ok_fK_times sc (o11.2.2.1 a1 (tk_n (1 : Int32))) (Int32.toInt64 a2) o11.2 ho12) ?_
    obtain ⟨o13, ho13, h⟩ := tk_lete h
    refine tk_cV1  rfl rfl (r := 34) (as := [.long o11.1, .long o12.1]) (rest := [.ref 34, .ref 34]) rfl ly34 rfl rfl (ok_fK_plus sc o11.1 o12.1 o12.2 ho13) ?_
    refine tk_Ps  3 (pc' := 105) (ls' := [(11, .long o10.1), (9, .long o6.1), (7, .long (((Int32.toInt64 a2) * (Int32.toInt64 a2)) + ((Int32.toInt64 a3) * (Int32.toInt64 a3)))), (5, .long (m.2.1 a1 (tk_n (0 : Int32)))), (0, .ref 34), (1, .ref a1), (2, .int a2), (3, .int a3), (4, .int a4)]) (st' := [.int (2 : Int32), .ref a1, .ref 34, .long o13.1, .ref 34, .ref 34]) rfl ?_
    refine tk_HJa  rfl rfl ha1 hg7 ?_
    refine tk_Ps  2 (pc' := 108) (ls' := [(11, .long o10.1), (9, .long o6.1), (7, .long (((Int32.toInt64 a2) * (Int32.toInt64 a2)) + ((Int32.toInt64 a3) * (Int32.toInt64 a3)))), (5, .long (m.2.1 a1 (tk_n (0 : Int32)))), (0, .ref 34), (1, .ref a1), (2, .int a2), (3, .int a3), (4, .int a4)]) (st' := [.long (Int32.toInt64 a3), .long (o13.2.2.1 a1 (tk_n (2 : Int32))), .ref 34, .long o13.1, .ref 34, .ref 34]) rfl ?_
    obtain ⟨o14, ho14, h⟩ := tk_bnd h
    refine tk_cV1  rfl rfl (r := 34) (as := [.long (o13.2.2.1 a1 (tk_n (2 : Int32))), .long (Int32.toInt64 a3)]) (rest := [.long o13.1, .ref 34, .ref 34]) rfl ly34 rfl rfl (ok_fK_times sc (o13.2.2.1 a1 (tk_n (2 : Int32))) (Int32.toInt64 a3) o13.2 ho14) ?_
    obtain ⟨o15, ho15, h⟩ := tk_lete h
    refine tk_cV1  rfl rfl (r := 34) (as := [.long o13.1, .long o14.1]) (rest := [.ref 34]) rfl ly34 rfl rfl (ok_fK_plus sc o13.1 o14.1 o14.2 ho15) ?_
    refine tk_Ps  2 (pc' := 116) (ls' := [(11, .long o10.1), (9, .long o6.1), (7, .long (((Int32.toInt64 a2) * (Int32.toInt64 a2)) + ((Int32.toInt64 a3) * (Int32.toInt64 a3)))), (5, .long (m.2.1 a1 (tk_n (0 : Int32)))), (0, .ref 34), (1, .ref a1), (2, .int a2), (3, .int a3), (4, .int a4)]) (st' := [.int (3 : Int32), .ref a1, .long o15.1, .ref 34]) rfl ?_
    obtain ⟨hg16, h⟩ := tk_grd h
    refine tk_HJa  rfl rfl ha1 hg16 ?_
    obtain ⟨o17, ho17, h⟩ := tk_lete h
    refine tk_cV1  rfl rfl (r := 34) (as := [.long o15.1, .long (o15.2.2.1 a1 (tk_n (3 : Int32)))]) (rest := []) rfl ly34 rfl rfl (ok_fK_plus sc o15.1 (o15.2.2.1 a1 (tk_n (3 : Int32))) o15.2 ho17) ?_
    refine tk_Ps  2 (pc' := 123) (ls' := [(13, .long o17.1), (11, .long o10.1), (9, .long o6.1), (7, .long (((Int32.toInt64 a2) * (Int32.toInt64 a2)) + ((Int32.toInt64 a3) * (Int32.toInt64 a3)))), (5, .long (m.2.1 a1 (tk_n (0 : Int32)))), (0, .ref 34), (1, .ref a1), (2, .int a2), (3, .int a3), (4, .int a4)]) (st' := [.ref 34]) rfl ?_
    refine tk_HR  rfl rfl ly34 rt34_2 ?_
    refine tk_Ps  2 (pc' := 129) (ls' := [(13, .long o17.1), (11, .long o10.1), (9, .long o6.1), (7, .long (((Int32.toInt64 a2) * (Int32.toInt64 a2)) + ((Int32.toInt64 a3) * (Int32.toInt64 a3)))), (5, .long (m.2.1 a1 (tk_n (0 : Int32)))), (0, .ref 34), (1, .ref a1), (2, .int a2), (3, .int a3), (4, .int a4)]) (st' := [.long o17.1, .int (0 : Int32), .ref 37]) rfl ?_
    refine tk_SJa  rfl rfl ly37 (by decide) ?_
    refine tk_Ps  1 (pc' := 131) (ls' := [(13, .long o17.1), (11, .long o10.1), (9, .long o6.1), (7, .long (((Int32.toInt64 a2) * (Int32.toInt64 a2)) + ((Int32.toInt64 a3) * (Int32.toInt64 a3)))), (5, .long (m.2.1 a1 (tk_n (0 : Int32)))), (0, .ref 34), (1, .ref a1), (2, .int a2), (3, .int a3), (4, .int a4)]) (st' := [.ref 34]) rfl ?_
    refine tk_HR  rfl rfl ly34 rt34_2 ?_
    refine tk_Ps  6 (pc' := 142) (ls' := [(13, .long o17.1), (11, .long o10.1), (9, .long o6.1), (7, .long (((Int32.toInt64 a2) * (Int32.toInt64 a2)) + ((Int32.toInt64 a3) * (Int32.toInt64 a3)))), (5, .long (m.2.1 a1 (tk_n (0 : Int32)))), (0, .ref 34), (1, .ref a1), (2, .int a2), (3, .int a3), (4, .int a4)]) (st' := [.long o6.1, .long (Int32.toInt64 a4), .ref 34, .ref 34, .int (1 : Int32), .ref 37]) rfl ?_
    obtain ⟨o18, ho18, h⟩ := tk_bnd h
    refine tk_cV1  rfl rfl (r := 34) (as := [.long (Int32.toInt64 a4), .long o6.1]) (rest := [.ref 34, .int (1 : Int32), .ref 37]) rfl ly34 rfl rfl (ok_fK_times sc (Int32.toInt64 a4) o6.1 (o17.2.1, tk_u2 o17.2.2.1 37 0 o17.1, o17.2.2.2.1, o17.2.2.2.2) ho18) ?_
    refine tk_Ps  4 (pc' := 152) (ls' := [(13, .long o17.1), (11, .long o10.1), (9, .long o6.1), (7, .long (((Int32.toInt64 a2) * (Int32.toInt64 a2)) + ((Int32.toInt64 a3) * (Int32.toInt64 a3)))), (5, .long (m.2.1 a1 (tk_n (0 : Int32)))), (0, .ref 34), (1, .ref a1), (2, .int a2), (3, .int a3), (4, .int a4)]) (st' := [.long o17.1, .long (2 : Int64), .ref 34, .ref 34, .long o18.1, .ref 34, .int (1 : Int32), .ref 37]) rfl ?_
    obtain ⟨o19, ho19, h⟩ := tk_bnd h
    refine tk_cV1  rfl rfl (r := 34) (as := [.long (2 : Int64), .long o17.1]) (rest := [.ref 34, .long o18.1, .ref 34, .int (1 : Int32), .ref 37]) rfl ly34 rfl rfl (ok_fK_times sc (2 : Int64) o17.1 o18.2 ho19) ?_
    refine tk_Ps  2 (pc' := 157) (ls' := [(13, .long o17.1), (11, .long o10.1), (9, .long o6.1), (7, .long (((Int32.toInt64 a2) * (Int32.toInt64 a2)) + ((Int32.toInt64 a3) * (Int32.toInt64 a3)))), (5, .long (m.2.1 a1 (tk_n (0 : Int32)))), (0, .ref 34), (1, .ref a1), (2, .int a2), (3, .int a3), (4, .int a4)]) (st' := [.long (Int32.toInt64 a2), .long o19.1, .ref 34, .long o18.1, .ref 34, .int (1 : Int32), .ref 37]) rfl ?_
    obtain ⟨o20, ho20, h⟩ := tk_bnd h
    refine tk_cV1  rfl rfl (r := 34) (as := [.long o19.1, .long (Int32.toInt64 a2)]) (rest := [.long o18.1, .ref 34, .int (1 : Int32), .ref 37]) rfl ly34 rfl rfl (ok_fK_times sc o19.1 (Int32.toInt64 a2) o19.2 ho20) ?_
    obtain ⟨o21, ho21, h⟩ := tk_lete h
    refine tk_cV1  rfl rfl (r := 34) (as := [.long o18.1, .long o20.1]) (rest := [.int (1 : Int32), .ref 37]) rfl ly34 rfl rfl (ok_fK_minus sc o18.1 o20.1 o20.2 ho21) ?_
    refine tk_SJa  rfl rfl ly37 (by decide) ?_
    refine tk_Ps  1 (pc' := 165) (ls' := [(13, .long o17.1), (11, .long o10.1), (9, .long o6.1), (7, .long (((Int32.toInt64 a2) * (Int32.toInt64 a2)) + ((Int32.toInt64 a3) * (Int32.toInt64 a3)))), (5, .long (m.2.1 a1 (tk_n (0 : Int32)))), (0, .ref 34), (1, .ref a1), (2, .int a2), (3, .int a3), (4, .int a4)]) (st' := [.ref 34]) rfl ?_
    refine tk_HR  rfl rfl ly34 rt34_2 ?_
    refine tk_Ps  6 (pc' := 176) (ls' := [(13, .long o17.1), (11, .long o10.1), (9, .long o6.1), (7, .long (((Int32.toInt64 a2) * (Int32.toInt64 a2)) + ((Int32.toInt64 a3) * (Int32.toInt64 a3)))), (5, .long (m.2.1 a1 (tk_n (0 : Int32)))), (0, .ref 34), (1, .ref a1), (2, .int a2), (3, .int a3), (4, .int a4)]) (st' := [.long o10.1, .long (Int32.toInt64 a4), .ref 34, .ref 34, .int (2 : Int32), .ref 37]) rfl ?_
    obtain ⟨o22, ho22, h⟩ := tk_bnd h
    refine tk_cV1  rfl rfl (r := 34) (as := [.long (Int32.toInt64 a4), .long o10.1]) (rest := [.ref 34, .int (2 : Int32), .ref 37]) rfl ly34 rfl rfl (ok_fK_times sc (Int32.toInt64 a4) o10.1 (o21.2.1, tk_u2 o21.2.2.1 37 1 o21.1, o21.2.2.2.1, o21.2.2.2.2) ho22) ?_
    refine tk_Ps  4 (pc' := 186) (ls' := [(13, .long o17.1), (11, .long o10.1), (9, .long o6.1), (7, .long (((Int32.toInt64 a2) * (Int32.toInt64 a2)) + ((Int32.toInt64 a3) * (Int32.toInt64 a3)))), (5, .long (m.2.1 a1 (tk_n (0 : Int32)))), (0, .ref 34), (1, .ref a1), (2, .int a2), (3, .int a3), (4, .int a4)]) (st' := [.long o17.1, .long (2 : Int64), .ref 34, .ref 34, .long o22.1, .ref 34, .int (2 : Int32), .ref 37]) rfl ?_
    obtain ⟨o23, ho23, h⟩ := tk_bnd h
    refine tk_cV1  rfl rfl (r := 34) (as := [.long (2 : Int64), .long o17.1]) (rest := [.ref 34, .long o22.1, .ref 34, .int (2 : Int32), .ref 37]) rfl ly34 rfl rfl (ok_fK_times sc (2 : Int64) o17.1 o22.2 ho23) ?_
    refine tk_Ps  2 (pc' := 191) (ls' := [(13, .long o17.1), (11, .long o10.1), (9, .long o6.1), (7, .long (((Int32.toInt64 a2) * (Int32.toInt64 a2)) + ((Int32.toInt64 a3) * (Int32.toInt64 a3)))), (5, .long (m.2.1 a1 (tk_n (0 : Int32)))), (0, .ref 34), (1, .ref a1), (2, .int a2), (3, .int a3), (4, .int a4)]) (st' := [.long (Int32.toInt64 a3), .long o23.1, .ref 34, .long o22.1, .ref 34, .int (2 : Int32), .ref 37]) rfl ?_
    obtain ⟨o24, ho24, h⟩ := tk_bnd h
    refine tk_cV1  rfl rfl (r := 34) (as := [.long o23.1, .long (Int32.toInt64 a3)]) (rest := [.long o22.1, .ref 34, .int (2 : Int32), .ref 37]) rfl ly34 rfl rfl (ok_fK_times sc o23.1 (Int32.toInt64 a3) o23.2 ho24) ?_
    obtain ⟨o25, ho25, h⟩ := tk_lete h
    refine tk_cV1  rfl rfl (r := 34) (as := [.long o22.1, .long o24.1]) (rest := [.int (2 : Int32), .ref 37]) rfl ly34 rfl rfl (ok_fK_minus sc o22.1 o24.1 o24.2 ho25) ?_
    refine tk_SJa  rfl rfl ly37 (by decide) ?_
    refine tk_Ps  4 (pc' := 204) (ls' := [(13, .long o17.1), (11, .long o10.1), (9, .long o6.1), (7, .long (((Int32.toInt64 a2) * (Int32.toInt64 a2)) + ((Int32.toInt64 a3) * (Int32.toInt64 a3)))), (5, .long (m.2.1 a1 (tk_n (0 : Int32)))), (0, .ref 34), (1, .ref a1), (2, .int a2), (3, .int a3), (4, .int a4)]) (st' := [.long (((Int32.toInt64 a2) * (Int32.toInt64 a2)) + ((Int32.toInt64 a3) * (Int32.toInt64 a3))), .long o17.1, .ref 34, .ref 34]) rfl ?_
    obtain ⟨o26, ho26, h⟩ := tk_bnd h
    refine tk_cV1  rfl rfl (r := 34) (as := [.long o17.1, .long (((Int32.toInt64 a2) * (Int32.toInt64 a2)) + ((Int32.toInt64 a3) * (Int32.toInt64 a3)))]) (rest := [.ref 34]) rfl ly34 rfl rfl (ok_fK_times sc o17.1 (((Int32.toInt64 a2) * (Int32.toInt64 a2)) + ((Int32.toInt64 a3) * (Int32.toInt64 a3))) (o25.2.1, tk_u2 o25.2.2.1 37 2 o25.1, o25.2.2.2.1, o25.2.2.2.2) ho26) ?_
    refine tk_Ps  5 (pc' := 214) (ls' := [(13, .long o17.1), (11, .long o10.1), (9, .long o6.1), (7, .long (((Int32.toInt64 a2) * (Int32.toInt64 a2)) + ((Int32.toInt64 a3) * (Int32.toInt64 a3)))), (5, .long (m.2.1 a1 (tk_n (0 : Int32)))), (0, .ref 34), (1, .ref a1), (2, .int a2), (3, .int a3), (4, .int a4)]) (st' := [.long o6.1, .long (Int32.toInt64 a4), .ref 34, .ref 34, .long o26.1, .ref 34]) rfl ?_
    obtain ⟨o27, ho27, h⟩ := tk_bnd h
    refine tk_cV1  rfl rfl (r := 34) (as := [.long (Int32.toInt64 a4), .long o6.1]) (rest := [.ref 34, .long o26.1, .ref 34]) rfl ly34 rfl rfl (ok_fK_times sc (Int32.toInt64 a4) o6.1 o26.2 ho27) ?_
    refine tk_Ps  2 (pc' := 219) (ls' := [(13, .long o17.1), (11, .long o10.1), (9, .long o6.1), (7, .long (((Int32.toInt64 a2) * (Int32.toInt64 a2)) + ((Int32.toInt64 a3) * (Int32.toInt64 a3)))), (5, .long (m.2.1 a1 (tk_n (0 : Int32)))), (0, .ref 34), (1, .ref a1), (2, .int a2), (3, .int a3), (4, .int a4)]) (st' := [.long (Int32.toInt64 a2), .long o27.1, .ref 34, .long o26.1, .ref 34]) rfl ?_
    obtain ⟨o28, ho28, h⟩ := tk_bnd h
    refine tk_cV1  rfl rfl (r := 34) (as := [.long o27.1, .long (Int32.toInt64 a2)]) (rest := [.long o26.1, .ref 34]) rfl ly34 rfl rfl (ok_fK_times sc o27.1 (Int32.toInt64 a2) o27.2 ho28) ?_
    obtain ⟨o29, ho29, h⟩ := tk_lete h
    refine tk_cV1  rfl rfl (r := 34) (as := [.long o26.1, .long o28.1]) (rest := []) rfl ly34 rfl rfl (ok_fK_minus sc o26.1 o28.1 o28.2 ho29) ?_
    refine tk_Ps  2 (pc' := 228) (ls' := [(15, .long o29.1), (13, .long o17.1), (11, .long o10.1), (9, .long o6.1), (7, .long (((Int32.toInt64 a2) * (Int32.toInt64 a2)) + ((Int32.toInt64 a3) * (Int32.toInt64 a3)))), (5, .long (m.2.1 a1 (tk_n (0 : Int32)))), (0, .ref 34), (1, .ref a1), (2, .int a2), (3, .int a3), (4, .int a4)]) (st' := [.ref 34]) rfl ?_
    refine tk_HR  rfl rfl ly34 rt34_2 ?_
    refine tk_Ps  9 (pc' := 243) (ls' := [(15, .long o29.1), (13, .long o17.1), (11, .long o10.1), (9, .long o6.1), (7, .long (((Int32.toInt64 a2) * (Int32.toInt64 a2)) + ((Int32.toInt64 a3) * (Int32.toInt64 a3)))), (5, .long (m.2.1 a1 (tk_n (0 : Int32)))), (0, .ref 34), (1, .ref a1), (2, .int a2), (3, .int a3), (4, .int a4)]) (st' := [.long o10.1, .long (Int32.toInt64 a4), .ref 34, .ref 34, .long o29.1, .ref 34, .ref 34, .int (3 : Int32), .ref 37]) rfl ?_
    obtain ⟨o30, ho30, h⟩ := tk_bnd h
    refine tk_cV1  rfl rfl (r := 34) (as := [.long (Int32.toInt64 a4), .long o10.1]) (rest := [.ref 34, .long o29.1, .ref 34, .ref 34, .int (3 : Int32), .ref 37]) rfl ly34 rfl rfl (ok_fK_times sc (Int32.toInt64 a4) o10.1 o29.2 ho30) ?_
    refine tk_Ps  2 (pc' := 248) (ls' := [(15, .long o29.1), (13, .long o17.1), (11, .long o10.1), (9, .long o6.1), (7, .long (((Int32.toInt64 a2) * (Int32.toInt64 a2)) + ((Int32.toInt64 a3) * (Int32.toInt64 a3)))), (5, .long (m.2.1 a1 (tk_n (0 : Int32)))), (0, .ref 34), (1, .ref a1), (2, .int a2), (3, .int a3), (4, .int a4)]) (st' := [.long (Int32.toInt64 a3), .long o30.1, .ref 34, .long o29.1, .ref 34, .ref 34, .int (3 : Int32), .ref 37]) rfl ?_
    obtain ⟨o31, ho31, h⟩ := tk_bnd h
    refine tk_cV1  rfl rfl (r := 34) (as := [.long o30.1, .long (Int32.toInt64 a3)]) (rest := [.long o29.1, .ref 34, .ref 34, .int (3 : Int32), .ref 37]) rfl ly34 rfl rfl (ok_fK_times sc o30.1 (Int32.toInt64 a3) o30.2 ho31) ?_
    obtain ⟨o32, ho32, h⟩ := tk_lete h
    refine tk_cV1  rfl rfl (r := 34) (as := [.long o29.1, .long o31.1]) (rest := [.ref 34, .int (3 : Int32), .ref 37]) rfl ly34 rfl rfl (ok_fK_minus sc o29.1 o31.1 o31.2 ho32) ?_
    refine tk_Ps  7 (pc' := 264) (ls' := [(15, .long o29.1), (13, .long o17.1), (11, .long o10.1), (9, .long o6.1), (7, .long (((Int32.toInt64 a2) * (Int32.toInt64 a2)) + ((Int32.toInt64 a3) * (Int32.toInt64 a3)))), (5, .long (m.2.1 a1 (tk_n (0 : Int32)))), (0, .ref 34), (1, .ref a1), (2, .int a2), (3, .int a3), (4, .int a4)]) (st' := [.long (m.2.1 a1 (tk_n (0 : Int32))), .long ((Int32.toInt64 a4) * (Int32.toInt64 a4)), .ref 34, .long o32.1, .ref 34, .int (3 : Int32), .ref 37]) rfl ?_
    obtain ⟨o33, ho33, h⟩ := tk_bnd h
    refine tk_cV1  rfl rfl (r := 34) (as := [.long ((Int32.toInt64 a4) * (Int32.toInt64 a4)), .long (m.2.1 a1 (tk_n (0 : Int32)))]) (rest := [.long o32.1, .ref 34, .int (3 : Int32), .ref 37]) rfl ly34 rfl rfl (ok_fK_times sc ((Int32.toInt64 a4) * (Int32.toInt64 a4)) (m.2.1 a1 (tk_n (0 : Int32))) o32.2 ho33) ?_
    obtain ⟨o34, ho34, h⟩ := tk_lete h
    refine tk_cV1  rfl rfl (r := 34) (as := [.long o32.1, .long o33.1]) (rest := [.int (3 : Int32), .ref 37]) rfl ly34 rfl rfl (ok_fK_plus sc o32.1 o33.1 o33.2 ho34) ?_
    refine tk_SJa  rfl rfl ly37 (by decide) ?_
    refine tk_Ps  1 (pc' := 272) (ls' := [(15, .long o29.1), (13, .long o17.1), (11, .long o10.1), (9, .long o6.1), (7, .long (((Int32.toInt64 a2) * (Int32.toInt64 a2)) + ((Int32.toInt64 a3) * (Int32.toInt64 a3)))), (5, .long (m.2.1 a1 (tk_n (0 : Int32)))), (0, .ref 34), (1, .ref a1), (2, .int a2), (3, .int a3), (4, .int a4)]) (st' := [.ref 34]) rfl ?_
    refine tk_HB  rfl rfl ly34 ?_
    by_cases hc35 : (o34.2.2.2.1 34 0) = true
    · replace h := tk_ifT hc35 h
      refine tk_bT  rfl rfl tk_eB_ne (c := (o34.2.2.2.1 34 0) = true) hc35 (pc' := 299) (ls' := [(15, .long o29.1), (13, .long o17.1), (11, .long o10.1), (9, .long o6.1), (7, .long (((Int32.toInt64 a2) * (Int32.toInt64 a2)) + ((Int32.toInt64 a3) * (Int32.toInt64 a3)))), (5, .long (m.2.1 a1 (tk_n (0 : Int32)))), (0, .ref 34), (1, .ref a1), (2, .int a2), (3, .int a3), (4, .int a4)]) (st' := []) ?_
      refine tk_Ps  1 (pc' := 300) (ls' := [(15, .long o29.1), (13, .long o17.1), (11, .long o10.1), (9, .long o6.1), (7, .long (((Int32.toInt64 a2) * (Int32.toInt64 a2)) + ((Int32.toInt64 a3) * (Int32.toInt64 a3)))), (5, .long (m.2.1 a1 (tk_n (0 : Int32)))), (0, .ref 34), (1, .ref a1), (2, .int a2), (3, .int a3), (4, .int a4)]) (st' := [.int (0 : Int32)]) rfl ?_
      replace h := Option.some.inj h
      subst h
      exact tk_RB (b := false)  rfl rfl rfl
    · replace h := tk_ifF hc35 h
      refine tk_bF  rfl rfl tk_eB_ne (c := (o34.2.2.2.1 34 0) = true) hc35 (pc' := 278) (ls' := [(15, .long o29.1), (13, .long o17.1), (11, .long o10.1), (9, .long o6.1), (7, .long (((Int32.toInt64 a2) * (Int32.toInt64 a2)) + ((Int32.toInt64 a3) * (Int32.toInt64 a3)))), (5, .long (m.2.1 a1 (tk_n (0 : Int32)))), (0, .ref 34), (1, .ref a1), (2, .int a2), (3, .int a3), (4, .int a4)]) (st' := []) ?_
      refine tk_Ps  1 (pc' := 279) (ls' := [(15, .long o29.1), (13, .long o17.1), (11, .long o10.1), (9, .long o6.1), (7, .long (((Int32.toInt64 a2) * (Int32.toInt64 a2)) + ((Int32.toInt64 a3) * (Int32.toInt64 a3)))), (5, .long (m.2.1 a1 (tk_n (0 : Int32)))), (0, .ref 34), (1, .ref a1), (2, .int a2), (3, .int a3), (4, .int a4)]) (st' := [.ref 34]) rfl ?_
      refine tk_HR  rfl rfl ly34 rt34_2 ?_
      refine tk_Ps  1 (pc' := 283) (ls' := [(15, .long o29.1), (13, .long o17.1), (11, .long o10.1), (9, .long o6.1), (7, .long (((Int32.toInt64 a2) * (Int32.toInt64 a2)) + ((Int32.toInt64 a3) * (Int32.toInt64 a3)))), (5, .long (m.2.1 a1 (tk_n (0 : Int32)))), (0, .ref 34), (1, .ref a1), (2, .int a2), (3, .int a3), (4, .int a4)]) (st' := [.ref 34, .ref 37]) rfl ?_
      refine tk_HR  rfl rfl ly34 rt34_2 ?_
      obtain ⟨o36, ho36, h⟩ := tk_bnd h
      refine tk_cS1  rfl rfl (as := [.ref 37]) (rest := [.ref 37]) rfl rfl rfl (ok_fK_firstNotZero sc 37 (o34.2.1, tk_u2 o34.2.2.1 37 3 o34.1, o34.2.2.2.1, o34.2.2.2.2) (tk_al_of ly37) ho36) ?_
      obtain ⟨o37, ho37, h⟩ := tk_bnd h
      refine tk_cS1  rfl rfl (as := [.ref 37, .int o36]) (rest := []) rfl rfl rfl (ok_fK_lower sc 37 o36 (o34.2.1, tk_u2 o34.2.2.1 37 3 o34.1, o34.2.2.2.1, o34.2.2.2.2) (tk_al_of ly37) ho37) ?_
      by_cases hc38 : o37.1 = true
      · replace h := tk_ifT hc38 h
        refine tk_bT  rfl rfl tk_eB_eq (c := o37.1 = true) hc38 (pc' := 295) (ls' := [(15, .long o29.1), (13, .long o17.1), (11, .long o10.1), (9, .long o6.1), (7, .long (((Int32.toInt64 a2) * (Int32.toInt64 a2)) + ((Int32.toInt64 a3) * (Int32.toInt64 a3)))), (5, .long (m.2.1 a1 (tk_n (0 : Int32)))), (0, .ref 34), (1, .ref a1), (2, .int a2), (3, .int a3), (4, .int a4)]) (st' := []) ?_
        refine tk_Ps  2 (pc' := 300) (ls' := [(15, .long o29.1), (13, .long o17.1), (11, .long o10.1), (9, .long o6.1), (7, .long (((Int32.toInt64 a2) * (Int32.toInt64 a2)) + ((Int32.toInt64 a3) * (Int32.toInt64 a3)))), (5, .long (m.2.1 a1 (tk_n (0 : Int32)))), (0, .ref 34), (1, .ref a1), (2, .int a2), (3, .int a3), (4, .int a4)]) (st' := [.int (1 : Int32)]) rfl ?_
        replace h := Option.some.inj h
        subst h
        exact tk_RB (b := true)  rfl rfl rfl
      · replace h := tk_ifF hc38 h
        refine tk_bF  rfl rfl tk_eB_eq (c := o37.1 = true) hc38 (pc' := 299) (ls' := [(15, .long o29.1), (13, .long o17.1), (11, .long o10.1), (9, .long o6.1), (7, .long (((Int32.toInt64 a2) * (Int32.toInt64 a2)) + ((Int32.toInt64 a3) * (Int32.toInt64 a3)))), (5, .long (m.2.1 a1 (tk_n (0 : Int32)))), (0, .ref 34), (1, .ref a1), (2, .int a2), (3, .int a3), (4, .int a4)]) (st' := []) ?_
        refine tk_Ps  1 (pc' := 300) (ls' := [(15, .long o29.1), (13, .long o17.1), (11, .long o10.1), (9, .long o6.1), (7, .long (((Int32.toInt64 a2) * (Int32.toInt64 a2)) + ((Int32.toInt64 a3) * (Int32.toInt64 a3)))), (5, .long (m.2.1 a1 (tk_n (0 : Int32)))), (0, .ref 34), (1, .ref a1), (2, .int a2), (3, .int a3), (4, .int a4)]) (st' := [.int (0 : Int32)]) rfl ?_
        replace h := Option.some.inj h
        subst h
        exact tk_RB (b := false)  rfl rfl rfl
  · replace h := tk_ifF hc1 h
    refine tk_bF  rfl rfl rfl (c := (4 : Int32) ≤ (Int32.ofNat (tk_al a1))) hc1 (pc' := 6) (ls' := [(0, .ref 34), (1, .ref a1), (2, .int a2), (3, .int a3), (4, .int a4)]) (st' := []) ?_
    refine tk_Ps  1 (pc' := 7) (ls' := [(0, .ref 34), (1, .ref a1), (2, .int a2), (3, .int a3), (4, .int a4)]) (st' := [.int (0 : Int32)]) rfl ?_
    replace h := Option.some.inj h
    subst h
    exact tk_RB (b := false)  rfl rfl rfl
theorem ok_fT_mayHold_2 (sc : tk_X) : ∀ (n : Nat) (v0 : Nat) (v1 : Nat) (v2 : Int32) (m : tk_m) (hv0 : tk_lay[v0]? = some (.inl 7)) (hv1 : tk_lay[v1]? = some (.inr (1, tk_al v1))) (out : Bool), fT_mayHold_2 n v0 v1 v2 m = some out → tk_Ex sc 1 tk_r139 tk_k139 2 [(0, .ref v0), (1, .ref v1), (2, .int v2)] [] (tk_full m) (some (.int (tk_b out)), tk_full m) := by
  intro n
  induction n with
  | zero =>
    intro v0 v1 v2 m hv0 hv1 out h
    cases h
  | succ n ih =>
    intro v0 v1 v2 m hv0 hv1 out h
    unfold fT_mayHold_2 at h
    refine tk_Ps  2 (pc' := 4) (ls' := [(0, .ref v0), (1, .ref v1), (2, .int v2)]) (st' := [.ref v1, .int v2]) rfl ?_
    refine tk_HL  rfl rfl hv1 ?_
    by_cases hc1 : (Int32.ofNat (tk_al v1)) ≤ v2
    · replace h := tk_ifT hc1 h
      refine tk_bT  rfl rfl rfl (c := (Int32.ofNat (tk_al v1)) ≤ v2) hc1 (pc' := 30) (ls' := [(0, .ref v0), (1, .ref v1), (2, .int v2)]) (st' := []) ?_
      refine tk_Ps  1 (pc' := 31) (ls' := [(0, .ref v0), (1, .ref v1), (2, .int v2)]) (st' := [.int (1 : Int32)]) rfl ?_
      replace h := Option.some.inj h
      subst h
      exact tk_RB (b := true)  rfl rfl rfl
    · replace h := tk_ifF hc1 h
      refine tk_bF  rfl rfl rfl (c := (Int32.ofNat (tk_al v1)) ≤ v2) hc1 (pc' := 8) (ls' := [(0, .ref v0), (1, .ref v1), (2, .int v2)]) (st' := []) ?_
      refine tk_Ps  3 (pc' := 11) (ls' := [(0, .ref v0), (1, .ref v1), (2, .int v2)]) (st' := [.int v2, .ref v1, .ref v0]) rfl ?_
      obtain ⟨hg2, h⟩ := tk_grd h
      refine tk_HJa  rfl rfl hv1 hg2 ?_
      refine tk_cV1  rfl rfl (r := v0) (as := [.long (m.2.1 v1 (tk_n v2))]) (rest := []) rfl hv0 rfl rfl (ok_fT_narrow sc v0 (m.2.1 v1 (tk_n v2)) m hv0) ?_
      refine tk_Ps  2 (pc' := 17) (ls' := [(0, .ref v0), (1, .ref v1), (2, .int v2)]) (st' := [.int v2, .ref v1, .long (fT_narrow v0 (m.2.1 v1 (tk_n v2)) m)]) rfl ?_
      refine tk_HJa  rfl rfl hv1 hg2 ?_
      refine tk_Ps  1 (pc' := 19) (ls' := [(0, .ref v0), (1, .ref v1), (2, .int v2)]) (st' := [.int (lg_cmp (fT_narrow v0 (m.2.1 v1 (tk_n v2)) m) (m.2.1 v1 (tk_n v2)))]) rfl ?_
      by_cases hc3 : (fT_narrow v0 (m.2.1 v1 (tk_n v2)) m) = (m.2.1 v1 (tk_n v2))
      · replace h := tk_ifT hc3 h
        refine tk_bT  rfl rfl tk_eL_eq (c := (fT_narrow v0 (m.2.1 v1 (tk_n v2)) m) = (m.2.1 v1 (tk_n v2))) hc3 (pc' := 24) (ls' := [(0, .ref v0), (1, .ref v1), (2, .int v2)]) (st' := []) ?_
        refine tk_Ps  2 (pc' := 2) (ls' := [(2, .int (v2 + (1 : Int32))), (0, .ref v0), (1, .ref v1)]) (st' := []) rfl ?_
        refine tk_Kp  (ls' := [(0, .ref v0), (1, .ref v1), (2, .int (v2 + (1 : Int32)))]) rfl rfl ?_
        exact ih v0 v1 (v2 + (1 : Int32)) m hv0 (tk_al_of hv1) _ h
      · replace h := tk_ifF hc3 h
        refine tk_bF  rfl rfl tk_eL_eq (c := (fT_narrow v0 (m.2.1 v1 (tk_n v2)) m) = (m.2.1 v1 (tk_n v2))) hc3 (pc' := 22) (ls' := [(0, .ref v0), (1, .ref v1), (2, .int v2)]) (st' := []) ?_
        refine tk_Ps  1 (pc' := 23) (ls' := [(0, .ref v0), (1, .ref v1), (2, .int v2)]) (st' := [.int (0 : Int32)]) rfl ?_
        replace h := Option.some.inj h
        subst h
        exact tk_RB (b := false)  rfl rfl rfl
theorem ok_fT_mayHold (sc : tk_X) (t : Nat) (a1 : Nat) (m : tk_m) (ht : tk_lay[t]? = some (.inl 7)) (ha1 : tk_lay[a1]? = some (.inr (1, tk_al a1))) {out : Bool} (h : fT_mayHold t a1 m = some out) : tk_Ru sc 2 139 [.ref t, .ref a1] (tk_full m) (some (.int (tk_b out)), tk_full m) := by
  unfold fT_mayHold at h
  refine tk_Ru0 me139 (ls := [(0, .ref t), (1, .ref a1)]) rfl rfl ?_
  refine tk_Ps  2 (pc' := 2) (ls' := [(2, .int (0 : Int32)), (0, .ref t), (1, .ref a1)]) (st' := []) rfl ?_
  refine tk_Kp  (ls' := [(0, .ref t), (1, .ref a1), (2, .int (0 : Int32))]) rfl rfl ?_
  exact ok_fT_mayHold_2 sc tk_F t a1 (0 : Int32) m ht (tk_al_of ha1) _ h
theorem ok_fX_invert_142 (sc : tk_X) : ∀ (n : Nat) (v5 : Nat) (v6 : Int32) (m : tk_m) (hv5 : tk_lay[v5]? = some (.inl 7)) (out : Int32 × tk_m), fX_invert_142 n v5 v6 m = some out → tk_Ex sc 3 tk_r132 tk_k132 142 [(0, .ref 0), (5, .ref v5), (6, .int v6)] [] (tk_full m) (some (.int out.1), tk_full out.2) := by
  intro n
  induction n with
  | zero =>
    intro v5 v6 m hv5 out h
    cases h
  | succ n ih =>
    intro v5 v6 m hv5 out h
    unfold fX_invert_142 at h
    refine tk_Ps  2 (pc' := 145) (ls' := [(0, .ref 0), (5, .ref v5), (6, .int v6)]) (st' := [.int (4 : Int32), .int v6]) rfl ?_
    by_cases hc1 : (4 : Int32) ≤ v6
    · replace h := tk_ifT hc1 h
      refine tk_bT  rfl rfl rfl (c := (4 : Int32) ≤ v6) hc1 (pc' := 171) (ls' := [(0, .ref 0), (5, .ref v5), (6, .int v6)]) (st' := []) ?_
      refine tk_Ps  1 (pc' := 172) (ls' := [(0, .ref 0), (5, .ref v5), (6, .int v6)]) (st' := [.int (1 : Int32)]) rfl ?_
      replace h := Option.some.inj h
      subst h
      exact tk_RI  rfl rfl rfl
    · replace h := tk_ifF hc1 h
      refine tk_bF  rfl rfl rfl (c := (4 : Int32) ≤ v6) hc1 (pc' := 148) (ls' := [(0, .ref 0), (5, .ref v5), (6, .int v6)]) (st' := []) ?_
      refine tk_Ps  3 (pc' := 153) (ls' := [(0, .ref 0), (5, .ref v5), (6, .int v6)]) (st' := [.ref 0, .int v6, .ref v5]) rfl ?_
      refine tk_HR  rfl rfl ly0 rt0_6 ?_
      refine tk_HR  rfl rfl ly34 rt34_2 ?_
      refine tk_Ps  1 (pc' := 161) (ls' := [(0, .ref 0), (5, .ref v5), (6, .int v6)]) (st' := [.int v6, .ref 37, .int v6, .ref v5]) rfl ?_
      obtain ⟨hg2, h⟩ := tk_grd h
      refine tk_HJa  rfl rfl ly37 hg2 ?_
      obtain ⟨o3, ho3, h⟩ := tk_bnd h
      refine tk_cV0  rfl rfl (r := v5) (as := [.int v6, .long (m.2.1 37 (tk_n v6))]) (rest := []) rfl hv5 rfl rfl (ok_fT_set sc v5 v6 (m.2.1 37 (tk_n v6)) m hv5 ho3) ?_
      refine tk_Ps  2 (pc' := 142) (ls' := [(6, .int (v6 + (1 : Int32))), (0, .ref 0), (5, .ref v5)]) (st' := []) rfl ?_
      refine tk_Kp  (ls' := [(0, .ref 0), (5, .ref v5), (6, .int (v6 + (1 : Int32)))]) rfl rfl ?_
      exact ih v5 (v6 + (1 : Int32)) o3 hv5 _ h
theorem ok_fX_invert (sc : tk_X) (a1 : Int32) (a2 : Int32) (a3 : Int32) (a4 : Int32) (m : tk_m) {out : Int32 × tk_m} (h : fX_invert a1 a2 a3 a4 m = some out) : tk_Ru sc 4 132 [.ref 0, .int a1, .int a2, .int a3, .int a4] (tk_full m) (some (.int out.1), tk_full out.2) := by
  unfold fX_invert at h
  refine tk_Ru0 me132 (ls := [(0, .ref 0), (1, .int a1), (2, .int a2), (3, .int a3), (4, .int a4)]) rfl rfl ?_
  refine tk_Ps  1 (pc' := 1) (ls' := [(0, .ref 0), (1, .int a1), (2, .int a2), (3, .int a3), (4, .int a4)]) (st' := [.int a1]) rfl ?_
  refine tk_cS1  rfl rfl (as := [.int a1]) (rest := []) rfl rfl rfl (ok_fX_isSheet sc a1 m) ?_
  by_cases hc1 : (fX_isSheet a1) = true
  · replace h := tk_ifT hc1 h
    refine tk_bT  rfl rfl tk_eB_eq (c := (fX_isSheet a1) = true) hc1 (pc' := 7) (ls' := [(0, .ref 0), (1, .int a1), (2, .int a2), (3, .int a3), (4, .int a4)]) (st' := []) ?_
    refine tk_Ps  3 (pc' := 12) (ls' := [(0, .ref 0), (1, .int a1), (2, .int a2), (3, .int a3), (4, .int a4)]) (st' := [.int (9 : Int32), .int (-9 : Int32), .int a2]) rfl ?_
    refine tk_cS1  rfl rfl (as := [.int a2, .int (-9 : Int32), .int (9 : Int32)]) (rest := []) rfl rfl rfl (ok_fX_isWithin sc a2 (-9 : Int32) (9 : Int32) m) ?_
    by_cases hc2 : (fX_isWithin a2 (-9 : Int32) (9 : Int32)) = true
    · replace h := tk_ifT hc2 h
      refine tk_bT  rfl rfl tk_eB_eq (c := (fX_isWithin a2 (-9 : Int32) (9 : Int32)) = true) hc2 (pc' := 18) (ls' := [(0, .ref 0), (1, .int a1), (2, .int a2), (3, .int a3), (4, .int a4)]) (st' := []) ?_
      refine tk_Ps  3 (pc' := 23) (ls' := [(0, .ref 0), (1, .int a1), (2, .int a2), (3, .int a3), (4, .int a4)]) (st' := [.int (9 : Int32), .int (-9 : Int32), .int a3]) rfl ?_
      refine tk_cS1  rfl rfl (as := [.int a3, .int (-9 : Int32), .int (9 : Int32)]) (rest := []) rfl rfl rfl (ok_fX_isWithin sc a3 (-9 : Int32) (9 : Int32) m) ?_
      by_cases hc3 : (fX_isWithin a3 (-9 : Int32) (9 : Int32)) = true
      · replace h := tk_ifT hc3 h
        refine tk_bT  rfl rfl tk_eB_eq (c := (fX_isWithin a3 (-9 : Int32) (9 : Int32)) = true) hc3 (pc' := 29) (ls' := [(0, .ref 0), (1, .int a1), (2, .int a2), (3, .int a3), (4, .int a4)]) (st' := []) ?_
        refine tk_Ps  3 (pc' := 34) (ls' := [(0, .ref 0), (1, .int a1), (2, .int a2), (3, .int a3), (4, .int a4)]) (st' := [.int (99 : Int32), .int (1 : Int32), .int a4]) rfl ?_
        refine tk_cS1  rfl rfl (as := [.int a4, .int (1 : Int32), .int (99 : Int32)]) (rest := []) rfl rfl rfl (ok_fX_isWithin sc a4 (1 : Int32) (99 : Int32) m) ?_
        by_cases hc4 : (fX_isWithin a4 (1 : Int32) (99 : Int32)) = true
        · replace h := tk_ifT hc4 h
          refine tk_bT  rfl rfl tk_eB_ne (c := (fX_isWithin a4 (1 : Int32) (99 : Int32)) = true) hc4 (pc' := 46) (ls' := [(0, .ref 0), (1, .int a1), (2, .int a2), (3, .int a3), (4, .int a4)]) (st' := []) ?_
          refine tk_Ps  1 (pc' := 47) (ls' := [(0, .ref 0), (1, .int a1), (2, .int a2), (3, .int a3), (4, .int a4)]) (st' := [.ref 0]) rfl ?_
          refine tk_HR  rfl rfl ly0 rt0_4 ?_
          refine tk_Ps  1 (pc' := 51) (ls' := [(0, .ref 0), (1, .int a1), (2, .int a2), (3, .int a3), (4, .int a4)]) (st' := [.int a1, .ref 12]) rfl ?_
          obtain ⟨hg5, h⟩ := tk_grd h
          refine tk_HQ  rfl rfl ly12 hg5 (la12 _ (hg5).2).1 ?_
          refine tk_Ps  2 (pc' := 56) (ls' := [(5, .ref (287 + 2 * (tk_n a1))), (0, .ref 0), (1, .int a1), (2, .int a2), (3, .int a3), (4, .int a4)]) (st' := [.ref (287 + 2 * (tk_n a1))]) rfl ?_
          refine tk_cV1  rfl rfl (r := (287 + 2 * (tk_n a1))) (as := []) (rest := []) rfl ((la12 _ (hg5).2).2) rfl rfl (ok_fT_isMissing sc (287 + 2 * (tk_n a1)) m ((la12 _ (hg5).2).2)) ?_
          by_cases hc6 : (fT_isMissing (287 + 2 * (tk_n a1)) m) = true
          · replace h := tk_ifT hc6 h
            refine tk_bT  rfl rfl tk_eB_eq (c := (fT_isMissing (287 + 2 * (tk_n a1)) m) = true) hc6 (pc' := 62) (ls' := [(5, .ref (287 + 2 * (tk_n a1))), (0, .ref 0), (1, .int a1), (2, .int a2), (3, .int a3), (4, .int a4)]) (st' := []) ?_
            refine tk_Ps  2 (pc' := 64) (ls' := [(5, .ref (287 + 2 * (tk_n a1))), (0, .ref 0), (1, .int a1), (2, .int a2), (3, .int a3), (4, .int a4)]) (st' := [.int (5 : Int32), .ref 0]) rfl ?_
            obtain ⟨o7, ho7, h⟩ := tk_bnd h
            refine tk_cV1  rfl rfl (r := 0) (as := [.int (5 : Int32)]) (rest := []) rfl ly0 rfl rfl (ok_fX_finding sc (5 : Int32) m ho7) ?_
            replace h := Option.some.inj h
            subst h
            exact tk_RI  rfl rfl rfl
          · replace h := tk_ifF hc6 h
            refine tk_bF  rfl rfl tk_eB_eq (c := (fT_isMissing (287 + 2 * (tk_n a1)) m) = true) hc6 (pc' := 68) (ls' := [(5, .ref (287 + 2 * (tk_n a1))), (0, .ref 0), (1, .int a1), (2, .int a2), (3, .int a3), (4, .int a4)]) (st' := []) ?_
            refine tk_Ps  1 (pc' := 70) (ls' := [(5, .ref (287 + 2 * (tk_n a1))), (0, .ref 0), (1, .int a1), (2, .int a2), (3, .int a3), (4, .int a4)]) (st' := [.ref (287 + 2 * (tk_n a1))]) rfl ?_
            refine tk_HI  rfl rfl ((la12 _ (hg5).2).2) ?_
            refine tk_Ps  1 (pc' := 74) (ls' := [(5, .ref (287 + 2 * (tk_n a1))), (0, .ref 0), (1, .int a1), (2, .int a2), (3, .int a3), (4, .int a4)]) (st' := [.int (4 : Int32), .int (m.1 (287 + 2 * (tk_n a1)) 1)]) rfl ?_
            by_cases hc8 : (4 : Int32) ≤ (m.1 (287 + 2 * (tk_n a1)) 1)
            · replace h := tk_ifT hc8 h
              refine tk_bT  rfl rfl rfl (c := (4 : Int32) ≤ (m.1 (287 + 2 * (tk_n a1)) 1)) hc8 (pc' := 84) (ls' := [(5, .ref (287 + 2 * (tk_n a1))), (0, .ref 0), (1, .int a1), (2, .int a2), (3, .int a3), (4, .int a4)]) (st' := []) ?_
              refine tk_Ps  1 (pc' := 86) (ls' := [(5, .ref (287 + 2 * (tk_n a1))), (0, .ref 0), (1, .int a1), (2, .int a2), (3, .int a3), (4, .int a4)]) (st' := [.ref (287 + 2 * (tk_n a1))]) rfl ?_
              obtain ⟨o9, ho9, h⟩ := tk_bnd h
              refine tk_cV1  rfl rfl (r := (287 + 2 * (tk_n a1))) (as := []) (rest := []) rfl ((la12 _ (hg5).2).2) rfl rfl (ok_fT_isFormZero sc (287 + 2 * (tk_n a1)) m ((la12 _ (hg5).2).2) ho9) ?_
              by_cases hc10 : o9 = true
              · replace h := tk_ifT hc10 h
                refine tk_bT  rfl rfl tk_eB_eq (c := o9 = true) hc10 (pc' := 92) (ls' := [(5, .ref (287 + 2 * (tk_n a1))), (0, .ref 0), (1, .int a1), (2, .int a2), (3, .int a3), (4, .int a4)]) (st' := []) ?_
                refine tk_Ps  2 (pc' := 94) (ls' := [(5, .ref (287 + 2 * (tk_n a1))), (0, .ref 0), (1, .int a1), (2, .int a2), (3, .int a3), (4, .int a4)]) (st' := [.int (4 : Int32), .ref 0]) rfl ?_
                obtain ⟨o11, ho11, h⟩ := tk_bnd h
                refine tk_cV1  rfl rfl (r := 0) (as := [.int (4 : Int32)]) (rest := []) rfl ly0 rfl rfl (ok_fX_finding sc (4 : Int32) m ho11) ?_
                replace h := Option.some.inj h
                subst h
                exact tk_RI  rfl rfl rfl
              · replace h := tk_ifF hc10 h
                refine tk_bF  rfl rfl tk_eB_eq (c := o9 = true) hc10 (pc' := 98) (ls' := [(5, .ref (287 + 2 * (tk_n a1))), (0, .ref 0), (1, .int a1), (2, .int a2), (3, .int a3), (4, .int a4)]) (st' := []) ?_
                refine tk_Ps  1 (pc' := 99) (ls' := [(5, .ref (287 + 2 * (tk_n a1))), (0, .ref 0), (1, .int a1), (2, .int a2), (3, .int a3), (4, .int a4)]) (st' := [.ref 0]) rfl ?_
                refine tk_HR  rfl rfl ly0 rt0_6 ?_
                refine tk_Ps  1 (pc' := 104) (ls' := [(5, .ref (287 + 2 * (tk_n a1))), (0, .ref 0), (1, .int a1), (2, .int a2), (3, .int a3), (4, .int a4)]) (st' := [.ref (287 + 2 * (tk_n a1)), .ref 34]) rfl ?_
                refine tk_HR  rfl rfl ((la12 _ (hg5).2).2) (ro7_2 ((la12 _ (hg5).2).2)) ?_
                refine tk_Ps  3 (pc' := 111) (ls' := [(5, .ref (287 + 2 * (tk_n a1))), (0, .ref 0), (1, .int a1), (2, .int a2), (3, .int a3), (4, .int a4)]) (st' := [.int a4, .int a3, .int a2, .ref ((287 + 2 * (tk_n a1)) + 1), .ref 34]) rfl ?_
                obtain ⟨o12, ho12, h⟩ := tk_bnd h
                refine tk_cV1  rfl rfl (r := 34) (as := [.ref ((287 + 2 * (tk_n a1)) + 1), .int a2, .int a3, .int a4]) (rest := []) rfl ly34 rfl rfl (ok_fK_turnInsideOut sc ((287 + 2 * (tk_n a1)) + 1) a2 a3 a4 m (tk_al_of (lo7_2 ((la12 _ (hg5).2).2))) ho12) ?_
                by_cases hc13 : o12.1 = true
                · replace h := tk_ifT hc13 h
                  refine tk_bT  rfl rfl tk_eB_eq (c := o12.1 = true) hc13 (pc' := 117) (ls' := [(5, .ref (287 + 2 * (tk_n a1))), (0, .ref 0), (1, .int a1), (2, .int a2), (3, .int a3), (4, .int a4)]) (st' := []) ?_
                  refine tk_Ps  2 (pc' := 120) (ls' := [(5, .ref (287 + 2 * (tk_n a1))), (0, .ref 0), (1, .int a1), (2, .int a2), (3, .int a3), (4, .int a4)]) (st' := [.ref 0, .ref (287 + 2 * (tk_n a1))]) rfl ?_
                  refine tk_HR  rfl rfl ly0 rt0_6 ?_
                  refine tk_HR  rfl rfl ly34 rt34_2 ?_
                  obtain ⟨o14, ho14, h⟩ := tk_bnd h
                  refine tk_cV1  rfl rfl (r := (287 + 2 * (tk_n a1))) (as := [.ref 37]) (rest := []) rfl ((la12 _ (hg5).2).2) rfl rfl (ok_fT_mayHold sc (287 + 2 * (tk_n a1)) 37 o12.2 ((la12 _ (hg5).2).2) (tk_al_of ly37) ho14) ?_
                  by_cases hc15 : o14 = true
                  · replace h := tk_ifT hc15 h
                    refine tk_bT  rfl rfl tk_eB_ne (c := o14 = true) hc15 (pc' := 139) (ls' := [(5, .ref (287 + 2 * (tk_n a1))), (0, .ref 0), (1, .int a1), (2, .int a2), (3, .int a3), (4, .int a4)]) (st' := []) ?_
                    refine tk_Ps  2 (pc' := 142) (ls' := [(6, .int (0 : Int32)), (5, .ref (287 + 2 * (tk_n a1))), (0, .ref 0), (1, .int a1), (2, .int a2), (3, .int a3), (4, .int a4)]) (st' := []) rfl ?_
                    refine tk_Kp  (ls' := [(0, .ref 0), (5, .ref (287 + 2 * (tk_n a1))), (6, .int (0 : Int32))]) rfl rfl ?_
                    exact ok_fX_invert_142 sc tk_F (287 + 2 * (tk_n a1)) (0 : Int32) o12.2 ((la12 _ (hg5).2).2) _ h
                  · replace h := tk_ifF hc15 h
                    refine tk_bF  rfl rfl tk_eB_ne (c := o14 = true) hc15 (pc' := 132) (ls' := [(5, .ref (287 + 2 * (tk_n a1))), (0, .ref 0), (1, .int a1), (2, .int a2), (3, .int a3), (4, .int a4)]) (st' := []) ?_
                    refine tk_Ps  2 (pc' := 135) (ls' := [(5, .ref (287 + 2 * (tk_n a1))), (0, .ref 0), (1, .int a1), (2, .int a2), (3, .int a3), (4, .int a4)]) (st' := [.int (7 : Int32), .ref 0]) rfl ?_
                    obtain ⟨o16, ho16, h⟩ := tk_bnd h
                    refine tk_cV1  rfl rfl (r := 0) (as := [.int (7 : Int32)]) (rest := []) rfl ly0 rfl rfl (ok_fX_finding sc (7 : Int32) o12.2 ho16) ?_
                    replace h := Option.some.inj h
                    subst h
                    exact tk_RI  rfl rfl rfl
                · replace h := tk_ifF hc13 h
                  refine tk_bF  rfl rfl tk_eB_eq (c := o12.1 = true) hc13 (pc' := 132) (ls' := [(5, .ref (287 + 2 * (tk_n a1))), (0, .ref 0), (1, .int a1), (2, .int a2), (3, .int a3), (4, .int a4)]) (st' := []) ?_
                  refine tk_Ps  2 (pc' := 135) (ls' := [(5, .ref (287 + 2 * (tk_n a1))), (0, .ref 0), (1, .int a1), (2, .int a2), (3, .int a3), (4, .int a4)]) (st' := [.int (7 : Int32), .ref 0]) rfl ?_
                  obtain ⟨o17, ho17, h⟩ := tk_bnd h
                  refine tk_cV1  rfl rfl (r := 0) (as := [.int (7 : Int32)]) (rest := []) rfl ly0 rfl rfl (ok_fX_finding sc (7 : Int32) o12.2 ho17) ?_
                  replace h := Option.some.inj h
                  subst h
                  exact tk_RI  rfl rfl rfl
            · replace h := tk_ifF hc8 h
              refine tk_bF  rfl rfl rfl (c := (4 : Int32) ≤ (m.1 (287 + 2 * (tk_n a1)) 1)) hc8 (pc' := 77) (ls' := [(5, .ref (287 + 2 * (tk_n a1))), (0, .ref 0), (1, .int a1), (2, .int a2), (3, .int a3), (4, .int a4)]) (st' := []) ?_
              refine tk_Ps  2 (pc' := 80) (ls' := [(5, .ref (287 + 2 * (tk_n a1))), (0, .ref 0), (1, .int a1), (2, .int a2), (3, .int a3), (4, .int a4)]) (st' := [.int (6 : Int32), .ref 0]) rfl ?_
              obtain ⟨o18, ho18, h⟩ := tk_bnd h
              refine tk_cV1  rfl rfl (r := 0) (as := [.int (6 : Int32)]) (rest := []) rfl ly0 rfl rfl (ok_fX_finding sc (6 : Int32) m ho18) ?_
              replace h := Option.some.inj h
              subst h
              exact tk_RI  rfl rfl rfl
        · replace h := tk_ifF hc4 h
          refine tk_bF  rfl rfl tk_eB_ne (c := (fX_isWithin a4 (1 : Int32) (99 : Int32)) = true) hc4 (pc' := 40) (ls' := [(0, .ref 0), (1, .int a1), (2, .int a2), (3, .int a3), (4, .int a4)]) (st' := []) ?_
          refine tk_Ps  2 (pc' := 42) (ls' := [(0, .ref 0), (1, .int a1), (2, .int a2), (3, .int a3), (4, .int a4)]) (st' := [.int (0 : Int32), .ref 0]) rfl ?_
          obtain ⟨o19, ho19, h⟩ := tk_bnd h
          refine tk_cV1  rfl rfl (r := 0) (as := [.int (0 : Int32)]) (rest := []) rfl ly0 rfl rfl (ok_fX_finding sc (0 : Int32) m ho19) ?_
          replace h := Option.some.inj h
          subst h
          exact tk_RI  rfl rfl rfl
      · replace h := tk_ifF hc3 h
        refine tk_bF  rfl rfl tk_eB_eq (c := (fX_isWithin a3 (-9 : Int32) (9 : Int32)) = true) hc3 (pc' := 40) (ls' := [(0, .ref 0), (1, .int a1), (2, .int a2), (3, .int a3), (4, .int a4)]) (st' := []) ?_
        refine tk_Ps  2 (pc' := 42) (ls' := [(0, .ref 0), (1, .int a1), (2, .int a2), (3, .int a3), (4, .int a4)]) (st' := [.int (0 : Int32), .ref 0]) rfl ?_
        obtain ⟨o20, ho20, h⟩ := tk_bnd h
        refine tk_cV1  rfl rfl (r := 0) (as := [.int (0 : Int32)]) (rest := []) rfl ly0 rfl rfl (ok_fX_finding sc (0 : Int32) m ho20) ?_
        replace h := Option.some.inj h
        subst h
        exact tk_RI  rfl rfl rfl
    · replace h := tk_ifF hc2 h
      refine tk_bF  rfl rfl tk_eB_eq (c := (fX_isWithin a2 (-9 : Int32) (9 : Int32)) = true) hc2 (pc' := 40) (ls' := [(0, .ref 0), (1, .int a1), (2, .int a2), (3, .int a3), (4, .int a4)]) (st' := []) ?_
      refine tk_Ps  2 (pc' := 42) (ls' := [(0, .ref 0), (1, .int a1), (2, .int a2), (3, .int a3), (4, .int a4)]) (st' := [.int (0 : Int32), .ref 0]) rfl ?_
      obtain ⟨o21, ho21, h⟩ := tk_bnd h
      refine tk_cV1  rfl rfl (r := 0) (as := [.int (0 : Int32)]) (rest := []) rfl ly0 rfl rfl (ok_fX_finding sc (0 : Int32) m ho21) ?_
      replace h := Option.some.inj h
      subst h
      exact tk_RI  rfl rfl rfl
  · replace h := tk_ifF hc1 h
    refine tk_bF  rfl rfl tk_eB_eq (c := (fX_isSheet a1) = true) hc1 (pc' := 40) (ls' := [(0, .ref 0), (1, .int a1), (2, .int a2), (3, .int a3), (4, .int a4)]) (st' := []) ?_
    refine tk_Ps  2 (pc' := 42) (ls' := [(0, .ref 0), (1, .int a1), (2, .int a2), (3, .int a3), (4, .int a4)]) (st' := [.int (0 : Int32), .ref 0]) rfl ?_
    obtain ⟨o22, ho22, h⟩ := tk_bnd h
    refine tk_cV1  rfl rfl (r := 0) (as := [.int (0 : Int32)]) (rest := []) rfl ly0 rfl rfl (ok_fX_finding sc (0 : Int32) m ho22) ?_
    replace h := Option.some.inj h
    subst h
    exact tk_RI  rfl rfl rfl
theorem ok_fJ_kindOfForm (sc : tk_X) (a1 : Nat) (m : tk_m) (ha1 : tk_lay[a1]? = some (.inr (1, tk_al a1))) {out : Int32 × tk_m} (h : fJ_kindOfForm a1 m = some out) : tk_Ru sc 4 141 [.ref 13, .ref a1] (tk_full m) (some (.int out.1), tk_full out.2) := by
  unfold fJ_kindOfForm at h
  refine tk_Ru0 me141 (ls := [(0, .ref 13), (1, .ref a1)]) rfl rfl ?_
  refine tk_Ps  1 (pc' := 1) (ls' := [(0, .ref 13), (1, .ref a1)]) (st' := [.ref a1]) rfl ?_
  refine tk_HL  rfl rfl ha1 ?_
  refine tk_Ps  1 (pc' := 3) (ls' := [(0, .ref 13), (1, .ref a1)]) (st' := [.int (4 : Int32), .int (Int32.ofNat (tk_al a1))]) rfl ?_
  by_cases hc1 : (4 : Int32) ≤ (Int32.ofNat (tk_al a1))
  · replace h := tk_ifT hc1 h
    refine tk_bT  rfl rfl rfl (c := (4 : Int32) ≤ (Int32.ofNat (tk_al a1))) hc1 (pc' := 8) (ls' := [(0, .ref 13), (1, .ref a1)]) (st' := []) ?_
    refine tk_Ps  2 (pc' := 10) (ls' := [(0, .ref 13), (1, .ref a1)]) (st' := [.int (0 : Int32), .ref a1]) rfl ?_
    obtain ⟨hg2, h⟩ := tk_grd h
    refine tk_HJa  rfl rfl ha1 hg2 ?_
    refine tk_Ps  2 (pc' := 13) (ls' := [(0, .ref 13), (1, .ref a1)]) (st' := [.int (lg_cmp (m.2.1 a1 (tk_n (0 : Int32))) (0 : Int64))]) rfl ?_
    by_cases hc3 : (m.2.1 a1 (tk_n (0 : Int32))) = (0 : Int64)
    · replace h := tk_ifT hc3 h
      refine tk_bT  rfl rfl tk_eL_ne (c := (m.2.1 a1 (tk_n (0 : Int32))) = (0 : Int64)) hc3 (pc' := 16) (ls' := [(0, .ref 13), (1, .ref a1)]) (st' := []) ?_
      refine tk_Ps  2 (pc' := 18) (ls' := [(0, .ref 13), (1, .ref a1)]) (st' := [.int (1 : Int32), .ref a1]) rfl ?_
      obtain ⟨hg4, h⟩ := tk_grd h
      refine tk_HJa  rfl rfl ha1 hg4 ?_
      refine tk_Ps  2 (pc' := 21) (ls' := [(0, .ref 13), (1, .ref a1)]) (st' := [.int (lg_cmp (m.2.1 a1 (tk_n (1 : Int32))) (0 : Int64))]) rfl ?_
      by_cases hc5 : (m.2.1 a1 (tk_n (1 : Int32))) = (0 : Int64)
      · replace h := tk_ifT hc5 h
        refine tk_bT  rfl rfl tk_eL_ne (c := (m.2.1 a1 (tk_n (1 : Int32))) = (0 : Int64)) hc5 (pc' := 24) (ls' := [(0, .ref 13), (1, .ref a1)]) (st' := []) ?_
        refine tk_Ps  2 (pc' := 26) (ls' := [(0, .ref 13), (1, .ref a1)]) (st' := [.int (2 : Int32), .ref a1]) rfl ?_
        obtain ⟨hg6, h⟩ := tk_grd h
        refine tk_HJa  rfl rfl ha1 hg6 ?_
        refine tk_Ps  2 (pc' := 29) (ls' := [(0, .ref 13), (1, .ref a1)]) (st' := [.int (lg_cmp (m.2.1 a1 (tk_n (2 : Int32))) (0 : Int64))]) rfl ?_
        by_cases hc7 : (m.2.1 a1 (tk_n (2 : Int32))) = (0 : Int64)
        · replace h := tk_ifT hc7 h
          refine tk_bT  rfl rfl tk_eL_eq (c := (m.2.1 a1 (tk_n (2 : Int32))) = (0 : Int64)) hc7 (pc' := 36) (ls' := [(0, .ref 13), (1, .ref a1)]) (st' := []) ?_
          refine tk_Ps  1 (pc' := 37) (ls' := [(0, .ref 13), (1, .ref a1)]) (st' := [.int (0 : Int32)]) rfl ?_
          replace h := Option.some.inj h
          subst h
          exact tk_RI  rfl rfl rfl
        · replace h := tk_ifF hc7 h
          refine tk_bF  rfl rfl tk_eL_eq (c := (m.2.1 a1 (tk_n (2 : Int32))) = (0 : Int64)) hc7 (pc' := 32) (ls' := [(0, .ref 13), (1, .ref a1)]) (st' := []) ?_
          refine tk_Ps  2 (pc' := 37) (ls' := [(0, .ref 13), (1, .ref a1)]) (st' := [.int (2 : Int32)]) rfl ?_
          replace h := Option.some.inj h
          subst h
          exact tk_RI  rfl rfl rfl
      · replace h := tk_ifF hc5 h
        refine tk_bF  rfl rfl tk_eL_ne (c := (m.2.1 a1 (tk_n (1 : Int32))) = (0 : Int64)) hc5 (pc' := 32) (ls' := [(0, .ref 13), (1, .ref a1)]) (st' := []) ?_
        refine tk_Ps  2 (pc' := 37) (ls' := [(0, .ref 13), (1, .ref a1)]) (st' := [.int (2 : Int32)]) rfl ?_
        replace h := Option.some.inj h
        subst h
        exact tk_RI  rfl rfl rfl
    · replace h := tk_ifF hc3 h
      refine tk_bF  rfl rfl tk_eL_ne (c := (m.2.1 a1 (tk_n (0 : Int32))) = (0 : Int64)) hc3 (pc' := 38) (ls' := [(0, .ref 13), (1, .ref a1)]) (st' := []) ?_
      refine tk_Ps  2 (pc' := 40) (ls' := [(0, .ref 13), (1, .ref a1)]) (st' := [.ref 13, .ref 13]) rfl ?_
      refine tk_HR  rfl rfl ly13 rt13_2 ?_
      refine tk_Ps  2 (pc' := 45) (ls' := [(0, .ref 13), (1, .ref a1)]) (st' := [.int (1 : Int32), .ref a1, .ref 18, .ref 13]) rfl ?_
      obtain ⟨hg8, h⟩ := tk_grd h
      refine tk_HJa  rfl rfl ha1 hg8 ?_
      refine tk_Ps  2 (pc' := 48) (ls' := [(0, .ref 13), (1, .ref a1)]) (st' := [.int (1 : Int32), .ref a1, .long (m.2.1 a1 (tk_n (1 : Int32))), .ref 18, .ref 13]) rfl ?_
      refine tk_HJa  rfl rfl ha1 hg8 ?_
      obtain ⟨o9, ho9, h⟩ := tk_bnd h
      refine tk_cV0  rfl rfl (r := 13) (as := [.ref 18, .long (m.2.1 a1 (tk_n (1 : Int32))), .long (m.2.1 a1 (tk_n (1 : Int32)))]) (rest := []) rfl ly13 rfl rfl (ok_fJ_takeProduct sc 18 (m.2.1 a1 (tk_n (1 : Int32))) (m.2.1 a1 (tk_n (1 : Int32))) m ly18 ho9) ?_
      refine tk_Ps  2 (pc' := 54) (ls' := [(0, .ref 13), (1, .ref a1)]) (st' := [.ref 13, .ref 13]) rfl ?_
      refine tk_HR  rfl rfl ly13 rt13_3 ?_
      refine tk_Ps  2 (pc' := 59) (ls' := [(0, .ref 13), (1, .ref a1)]) (st' := [.int (2 : Int32), .ref a1, .ref 20, .ref 13]) rfl ?_
      obtain ⟨hg10, h⟩ := tk_grd h
      refine tk_HJa  rfl rfl ha1 hg10 ?_
      refine tk_Ps  2 (pc' := 62) (ls' := [(0, .ref 13), (1, .ref a1)]) (st' := [.int (2 : Int32), .ref a1, .long (o9.2.1 a1 (tk_n (2 : Int32))), .ref 20, .ref 13]) rfl ?_
      refine tk_HJa  rfl rfl ha1 hg10 ?_
      obtain ⟨o11, ho11, h⟩ := tk_bnd h
      refine tk_cV0  rfl rfl (r := 13) (as := [.ref 20, .long (o9.2.1 a1 (tk_n (2 : Int32))), .long (o9.2.1 a1 (tk_n (2 : Int32)))]) (rest := []) rfl ly13 rfl rfl (ok_fJ_takeProduct sc 20 (o9.2.1 a1 (tk_n (2 : Int32))) (o9.2.1 a1 (tk_n (2 : Int32))) o9 ly20 ho11) ?_
      refine tk_Ps  1 (pc' := 67) (ls' := [(0, .ref 13), (1, .ref a1)]) (st' := [.ref 13]) rfl ?_
      refine tk_HR  rfl rfl ly13 rt13_1 ?_
      refine tk_Ps  1 (pc' := 71) (ls' := [(0, .ref 13), (1, .ref a1)]) (st' := [.ref 13, .ref 16]) rfl ?_
      refine tk_HR  rfl rfl ly13 rt13_2 ?_
      refine tk_Ps  2 (pc' := 76) (ls' := [(0, .ref 13), (1, .ref a1)]) (st' := [.ref 13, .int (1 : Int32), .ref 18, .ref 16]) rfl ?_
      refine tk_HR  rfl rfl ly13 rt13_3 ?_
      obtain ⟨o12, ho12, h⟩ := tk_bnd h
      refine tk_cV0  rfl rfl (r := 16) (as := [.ref 18, .int (1 : Int32), .ref 20]) (rest := []) rfl ly16 rfl rfl (ok_fB_takeSum sc 16 18 (1 : Int32) 20 o11 ly16 ly18 ly20 ho12) ?_
      refine tk_Ps  2 (pc' := 84) (ls' := [(0, .ref 13), (1, .ref a1)]) (st' := [.ref 13, .ref 13]) rfl ?_
      refine tk_HR  rfl rfl ly13 rt13_9 ?_
      refine tk_Ps  2 (pc' := 89) (ls' := [(0, .ref 13), (1, .ref a1)]) (st' := [.int (0 : Int32), .ref a1, .ref 32, .ref 13]) rfl ?_
      refine tk_HJa  rfl rfl ha1 hg2 ?_
      refine tk_Ps  2 (pc' := 92) (ls' := [(0, .ref 13), (1, .ref a1)]) (st' := [.int (3 : Int32), .ref a1, .long (o12.2.1 a1 (tk_n (0 : Int32))), .ref 32, .ref 13]) rfl ?_
      obtain ⟨hg13, h⟩ := tk_grd h
      refine tk_HJa  rfl rfl ha1 hg13 ?_
      obtain ⟨o14, ho14, h⟩ := tk_bnd h
      refine tk_cV0  rfl rfl (r := 13) (as := [.ref 32, .long (o12.2.1 a1 (tk_n (0 : Int32))), .long (o12.2.1 a1 (tk_n (3 : Int32)))]) (rest := []) rfl ly13 rfl rfl (ok_fJ_takeProduct sc 32 (o12.2.1 a1 (tk_n (0 : Int32))) (o12.2.1 a1 (tk_n (3 : Int32))) o12 ly32 ho14) ?_
      refine tk_Ps  1 (pc' := 97) (ls' := [(0, .ref 13), (1, .ref a1)]) (st' := [.ref 13]) rfl ?_
      refine tk_HR  rfl rfl ly13 rt13_9 ?_
      refine tk_Ps  1 (pc' := 101) (ls' := [(0, .ref 13), (1, .ref a1)]) (st' := [.ref 13, .ref 32]) rfl ?_
      refine tk_HR  rfl rfl ly13 rt13_9 ?_
      refine tk_Ps  2 (pc' := 106) (ls' := [(0, .ref 13), (1, .ref a1)]) (st' := [.ref 13, .int (1 : Int32), .ref 32, .ref 32]) rfl ?_
      refine tk_HR  rfl rfl ly13 rt13_9 ?_
      obtain ⟨o15, ho15, h⟩ := tk_bnd h
      refine tk_cV0  rfl rfl (r := 32) (as := [.ref 32, .int (1 : Int32), .ref 32]) (rest := []) rfl ly32 rfl rfl (ok_fB_takeSum sc 32 32 (1 : Int32) 32 o14 ly32 ly32 ly32 ho15) ?_
      refine tk_Ps  1 (pc' := 113) (ls' := [(0, .ref 13), (1, .ref a1)]) (st' := [.ref 13]) rfl ?_
      refine tk_HR  rfl rfl ly13 rt13_9 ?_
      refine tk_Ps  1 (pc' := 117) (ls' := [(0, .ref 13), (1, .ref a1)]) (st' := [.ref 13, .ref 32]) rfl ?_
      refine tk_HR  rfl rfl ly13 rt13_9 ?_
      refine tk_Ps  2 (pc' := 122) (ls' := [(0, .ref 13), (1, .ref a1)]) (st' := [.ref 13, .int (1 : Int32), .ref 32, .ref 32]) rfl ?_
      refine tk_HR  rfl rfl ly13 rt13_9 ?_
      obtain ⟨o16, ho16, h⟩ := tk_bnd h
      refine tk_cV0  rfl rfl (r := 32) (as := [.ref 32, .int (1 : Int32), .ref 32]) (rest := []) rfl ly32 rfl rfl (ok_fB_takeSum sc 32 32 (1 : Int32) 32 o15 ly32 ly32 ly32 ho16) ?_
      refine tk_Ps  1 (pc' := 129) (ls' := [(0, .ref 13), (1, .ref a1)]) (st' := [.ref 13]) rfl ?_
      refine tk_HR  rfl rfl ly13 rt13_6 ?_
      refine tk_Ps  1 (pc' := 133) (ls' := [(0, .ref 13), (1, .ref a1)]) (st' := [.ref 13, .ref 26]) rfl ?_
      refine tk_HR  rfl rfl ly13 rt13_1 ?_
      refine tk_Ps  2 (pc' := 138) (ls' := [(0, .ref 13), (1, .ref a1)]) (st' := [.ref 13, .int (-1 : Int32), .ref 16, .ref 26]) rfl ?_
      refine tk_HR  rfl rfl ly13 rt13_9 ?_
      obtain ⟨o17, ho17, h⟩ := tk_bnd h
      refine tk_cV0  rfl rfl (r := 26) (as := [.ref 16, .int (-1 : Int32), .ref 32]) (rest := []) rfl ly26 rfl rfl (ok_fB_takeSum sc 26 16 (-1 : Int32) 32 o16 ly26 ly16 ly32 ho17) ?_
      refine tk_Ps  1 (pc' := 145) (ls' := [(0, .ref 13), (1, .ref a1)]) (st' := [.ref 13]) rfl ?_
      refine tk_HR  rfl rfl ly13 rt13_6 ?_
      refine tk_HI  rfl rfl ly26 ?_
      by_cases hc18 : (o17.1 26 0) = 0
      · replace h := tk_ifT hc18 h
        refine tk_bT  rfl rfl rfl (c := (o17.1 26 0) = 0) hc18 (pc' := 154) (ls' := [(0, .ref 13), (1, .ref a1)]) (st' := []) ?_
        refine tk_Ps  1 (pc' := 155) (ls' := [(0, .ref 13), (1, .ref a1)]) (st' := [.int (3 : Int32)]) rfl ?_
        replace h := Option.some.inj h
        subst h
        exact tk_RI  rfl rfl rfl
      · replace h := tk_ifF hc18 h
        refine tk_bF  rfl rfl rfl (c := (o17.1 26 0) = 0) hc18 (pc' := 156) (ls' := [(0, .ref 13), (1, .ref a1)]) (st' := []) ?_
        refine tk_Ps  1 (pc' := 157) (ls' := [(0, .ref 13), (1, .ref a1)]) (st' := [.ref 13]) rfl ?_
        refine tk_HR  rfl rfl ly13 rt13_6 ?_
        refine tk_HI  rfl rfl ly26 ?_
        by_cases hc19 : (o17.1 26 0) ≤ 0
        · replace h := tk_ifT hc19 h
          refine tk_bT  rfl rfl rfl (c := (o17.1 26 0) ≤ 0) hc19 (pc' := 170) (ls' := [(0, .ref 13), (1, .ref a1)]) (st' := []) ?_
          refine tk_Ps  1 (pc' := 171) (ls' := [(0, .ref 13), (1, .ref a1)]) (st' := [.int (0 : Int32)]) rfl ?_
          replace h := Option.some.inj h
          subst h
          exact tk_RI  rfl rfl rfl
        · replace h := tk_ifF hc19 h
          refine tk_bF  rfl rfl rfl (c := (o17.1 26 0) ≤ 0) hc19 (pc' := 166) (ls' := [(0, .ref 13), (1, .ref a1)]) (st' := []) ?_
          refine tk_Ps  2 (pc' := 171) (ls' := [(0, .ref 13), (1, .ref a1)]) (st' := [.int (1 : Int32)]) rfl ?_
          replace h := Option.some.inj h
          subst h
          exact tk_RI  rfl rfl rfl
  · replace h := tk_ifF hc1 h
    refine tk_bF  rfl rfl rfl (c := (4 : Int32) ≤ (Int32.ofNat (tk_al a1))) hc1 (pc' := 6) (ls' := [(0, .ref 13), (1, .ref a1)]) (st' := []) ?_
    refine tk_Ps  1 (pc' := 7) (ls' := [(0, .ref 13), (1, .ref a1)]) (st' := [.int (0 : Int32)]) rfl ?_
    replace h := Option.some.inj h
    subst h
    exact tk_RI  rfl rfl rfl
theorem ok_fX_tell (sc : tk_X) (a1 : Int32) (m : tk_m) {out : Int32 × tk_m} (h : fX_tell a1 m = some out) : tk_Ru sc 5 140 [.ref 0, .int a1] (tk_full m) (some (.int out.1), tk_full out.2) := by
  unfold fX_tell at h
  refine tk_Ru0 me140 (ls := [(0, .ref 0), (1, .int a1)]) rfl rfl ?_
  refine tk_Ps  1 (pc' := 1) (ls' := [(0, .ref 0), (1, .int a1)]) (st' := [.int a1]) rfl ?_
  refine tk_cS1  rfl rfl (as := [.int a1]) (rest := []) rfl rfl rfl (ok_fX_isSheet sc a1 m) ?_
  by_cases hc1 : (fX_isSheet a1) = true
  · replace h := tk_ifT hc1 h
    refine tk_bT  rfl rfl tk_eB_ne (c := (fX_isSheet a1) = true) hc1 (pc' := 13) (ls' := [(0, .ref 0), (1, .int a1)]) (st' := []) ?_
    refine tk_Ps  1 (pc' := 14) (ls' := [(0, .ref 0), (1, .int a1)]) (st' := [.ref 0]) rfl ?_
    refine tk_HR  rfl rfl ly0 rt0_4 ?_
    refine tk_Ps  1 (pc' := 18) (ls' := [(0, .ref 0), (1, .int a1)]) (st' := [.int a1, .ref 12]) rfl ?_
    obtain ⟨hg2, h⟩ := tk_grd h
    refine tk_HQ  rfl rfl ly12 hg2 (la12 _ (hg2).2).1 ?_
    refine tk_Ps  2 (pc' := 21) (ls' := [(2, .ref (287 + 2 * (tk_n a1))), (0, .ref 0), (1, .int a1)]) (st' := [.ref (287 + 2 * (tk_n a1))]) rfl ?_
    refine tk_cV1  rfl rfl (r := (287 + 2 * (tk_n a1))) (as := []) (rest := []) rfl ((la12 _ (hg2).2).2) rfl rfl (ok_fT_isMissing sc (287 + 2 * (tk_n a1)) m ((la12 _ (hg2).2).2)) ?_
    by_cases hc3 : (fT_isMissing (287 + 2 * (tk_n a1)) m) = true
    · replace h := tk_ifT hc3 h
      refine tk_bT  rfl rfl tk_eB_eq (c := (fT_isMissing (287 + 2 * (tk_n a1)) m) = true) hc3 (pc' := 27) (ls' := [(2, .ref (287 + 2 * (tk_n a1))), (0, .ref 0), (1, .int a1)]) (st' := []) ?_
      refine tk_Ps  2 (pc' := 29) (ls' := [(2, .ref (287 + 2 * (tk_n a1))), (0, .ref 0), (1, .int a1)]) (st' := [.int (5 : Int32), .ref 0]) rfl ?_
      obtain ⟨o4, ho4, h⟩ := tk_bnd h
      refine tk_cV1  rfl rfl (r := 0) (as := [.int (5 : Int32)]) (rest := []) rfl ly0 rfl rfl (ok_fX_finding sc (5 : Int32) m ho4) ?_
      replace h := Option.some.inj h
      subst h
      exact tk_RI  rfl rfl rfl
    · replace h := tk_ifF hc3 h
      refine tk_bF  rfl rfl tk_eB_eq (c := (fT_isMissing (287 + 2 * (tk_n a1)) m) = true) hc3 (pc' := 33) (ls' := [(2, .ref (287 + 2 * (tk_n a1))), (0, .ref 0), (1, .int a1)]) (st' := []) ?_
      refine tk_Ps  1 (pc' := 34) (ls' := [(2, .ref (287 + 2 * (tk_n a1))), (0, .ref 0), (1, .int a1)]) (st' := [.ref (287 + 2 * (tk_n a1))]) rfl ?_
      refine tk_HI  rfl rfl ((la12 _ (hg2).2).2) ?_
      refine tk_Ps  1 (pc' := 38) (ls' := [(2, .ref (287 + 2 * (tk_n a1))), (0, .ref 0), (1, .int a1)]) (st' := [.int (4 : Int32), .int (m.1 (287 + 2 * (tk_n a1)) 1)]) rfl ?_
      by_cases hc5 : (4 : Int32) ≤ (m.1 (287 + 2 * (tk_n a1)) 1)
      · replace h := tk_ifT hc5 h
        refine tk_bT  rfl rfl rfl (c := (4 : Int32) ≤ (m.1 (287 + 2 * (tk_n a1)) 1)) hc5 (pc' := 48) (ls' := [(2, .ref (287 + 2 * (tk_n a1))), (0, .ref 0), (1, .int a1)]) (st' := []) ?_
        refine tk_Ps  1 (pc' := 49) (ls' := [(2, .ref (287 + 2 * (tk_n a1))), (0, .ref 0), (1, .int a1)]) (st' := [.ref 0]) rfl ?_
        refine tk_HR  rfl rfl ly0 rt0_5 ?_
        refine tk_Ps  1 (pc' := 53) (ls' := [(2, .ref (287 + 2 * (tk_n a1))), (0, .ref 0), (1, .int a1)]) (st' := [.ref (287 + 2 * (tk_n a1)), .ref 13]) rfl ?_
        refine tk_HR  rfl rfl ((la12 _ (hg2).2).2) (ro7_2 ((la12 _ (hg2).2).2)) ?_
        obtain ⟨o6, ho6, h⟩ := tk_bnd h
        refine tk_cV1  rfl rfl (r := 13) (as := [.ref ((287 + 2 * (tk_n a1)) + 1)]) (rest := []) rfl ly13 rfl rfl (ok_fJ_kindOfForm sc ((287 + 2 * (tk_n a1)) + 1) m (tk_al_of (lo7_2 ((la12 _ (hg2).2).2))) ho6) ?_
        replace h := Option.some.inj h
        subst h
        exact tk_RI  rfl rfl rfl
      · replace h := tk_ifF hc5 h
        refine tk_bF  rfl rfl rfl (c := (4 : Int32) ≤ (m.1 (287 + 2 * (tk_n a1)) 1)) hc5 (pc' := 41) (ls' := [(2, .ref (287 + 2 * (tk_n a1))), (0, .ref 0), (1, .int a1)]) (st' := []) ?_
        refine tk_Ps  2 (pc' := 44) (ls' := [(2, .ref (287 + 2 * (tk_n a1))), (0, .ref 0), (1, .int a1)]) (st' := [.int (6 : Int32), .ref 0]) rfl ?_
        obtain ⟨o7, ho7, h⟩ := tk_bnd h
        refine tk_cV1  rfl rfl (r := 0) (as := [.int (6 : Int32)]) (rest := []) rfl ly0 rfl rfl (ok_fX_finding sc (6 : Int32) m ho7) ?_
        replace h := Option.some.inj h
        subst h
        exact tk_RI  rfl rfl rfl
  · replace h := tk_ifF hc1 h
    refine tk_bF  rfl rfl tk_eB_ne (c := (fX_isSheet a1) = true) hc1 (pc' := 7) (ls' := [(0, .ref 0), (1, .int a1)]) (st' := []) ?_
    refine tk_Ps  2 (pc' := 9) (ls' := [(0, .ref 0), (1, .int a1)]) (st' := [.int (0 : Int32), .ref 0]) rfl ?_
    obtain ⟨o8, ho8, h⟩ := tk_bnd h
    refine tk_cV1  rfl rfl (r := 0) (as := [.int (0 : Int32)]) (rest := []) rfl ly0 rfl rfl (ok_fX_finding sc (0 : Int32) m ho8) ?_
    replace h := Option.some.inj h
    subst h
    exact tk_RI  rfl rfl rfl
theorem ok_fX_isSpot (sc : tk_X) (a1 : Int32) (m : tk_m) : tk_Ru sc 2 143 [.int a1] (tk_full m) (some (.int (tk_b (fX_isSpot a1))), tk_full m) := by
  obtain ⟨out, h⟩ : ∃ out, fX_isSpot a1 = out := ⟨_, rfl⟩
  rw [h]
  unfold fX_isSpot at h
  refine tk_Ru0 me143 (ls := [(0, .int a1)]) rfl rfl ?_
  refine tk_Ps  3 (pc' := 3) (ls' := [(0, .int a1)]) (st' := [.int (5 : Int32), .int (0 : Int32), .int a1]) rfl ?_
  refine tk_cS1  rfl rfl (as := [.int a1, .int (0 : Int32), .int (5 : Int32)]) (rest := []) rfl rfl rfl (ok_fX_isWithin sc a1 (0 : Int32) (5 : Int32) m) ?_
  subst h
  exact tk_RB (b := fX_isWithin a1 (0 : Int32) (5 : Int32))  rfl rfl rfl
theorem ok_fN_become (sc : tk_X) (t : Nat) (a1 : Nat) (m : tk_m) (ht : tk_lay[t]? = some (.inl 4)) (ha1 : tk_lay[a1]? = some (.inl 4)) {out : tk_m} (h : fN_become t a1 m = out) : tk_Ru sc 1 144 [.ref t, .ref a1] (tk_full m) (none, tk_full out) := by
  unfold fN_become at h
  refine tk_Ru0 me144 (ls := [(0, .ref t), (1, .ref a1)]) rfl rfl ?_
  refine tk_Ps  2 (pc' := 2) (ls' := [(0, .ref t), (1, .ref a1)]) (st' := [.ref a1, .ref t]) rfl ?_
  refine tk_HB  rfl rfl ha1 ?_
  refine tk_SB (b := m.2.2.1 a1 0)  rfl rfl ht ?_
  refine tk_Ps  1 (pc' := 9) (ls' := [(0, .ref t), (1, .ref a1)]) (st' := [.ref t]) rfl ?_
  refine tk_HR  rfl rfl ht (ro4_1 ht) ?_
  refine tk_Ps  2 (pc' := 14) (ls' := [(0, .ref t), (1, .ref a1)]) (st' := [.ref a1, .int (0 : Int32), .ref (t + 1)]) rfl ?_
  refine tk_HR  rfl rfl ha1 (ro4_1 ha1) ?_
  refine tk_Ps  1 (pc' := 18) (ls' := [(0, .ref t), (1, .ref a1)]) (st' := [.int (0 : Int32), .ref (a1 + 1), .int (0 : Int32), .ref (t + 1)]) rfl ?_
  refine tk_HJa  rfl rfl (lo4_1 ha1) (by decide) ?_
  refine tk_SJa  rfl rfl (lo4_1 ht) (by decide) ?_
  refine tk_Ps  1 (pc' := 21) (ls' := [(0, .ref t), (1, .ref a1)]) (st' := [.ref t]) rfl ?_
  refine tk_HR  rfl rfl ht (ro4_1 ht) ?_
  refine tk_Ps  2 (pc' := 26) (ls' := [(0, .ref t), (1, .ref a1)]) (st' := [.ref a1, .int (1 : Int32), .ref (t + 1)]) rfl ?_
  refine tk_HR  rfl rfl ha1 (ro4_1 ha1) ?_
  refine tk_Ps  1 (pc' := 30) (ls' := [(0, .ref t), (1, .ref a1)]) (st' := [.int (1 : Int32), .ref (a1 + 1), .int (1 : Int32), .ref (t + 1)]) rfl ?_
  refine tk_HJa  rfl rfl (lo4_1 ha1) (by decide) ?_
  refine tk_SJa  rfl rfl (lo4_1 ht) (by decide) ?_
  refine tk_Ps  1 (pc' := 33) (ls' := [(0, .ref t), (1, .ref a1)]) (st' := [.ref t]) rfl ?_
  refine tk_HR  rfl rfl ht (ro4_1 ht) ?_
  refine tk_Ps  2 (pc' := 38) (ls' := [(0, .ref t), (1, .ref a1)]) (st' := [.ref a1, .int (2 : Int32), .ref (t + 1)]) rfl ?_
  refine tk_HR  rfl rfl ha1 (ro4_1 ha1) ?_
  refine tk_Ps  1 (pc' := 42) (ls' := [(0, .ref t), (1, .ref a1)]) (st' := [.int (2 : Int32), .ref (a1 + 1), .int (2 : Int32), .ref (t + 1)]) rfl ?_
  refine tk_HJa  rfl rfl (lo4_1 ha1) (by decide) ?_
  refine tk_SJa  rfl rfl (lo4_1 ht) (by decide) ?_
  refine tk_Ps  2 (pc' := 46) (ls' := [(0, .ref t), (1, .ref a1)]) (st' := [.ref a1, .ref t]) rfl ?_
  refine tk_HJ  rfl rfl ha1 ?_
  refine tk_SJ  rfl rfl ht ?_
  subst h
  exact tk_RV  rfl rfl rfl
theorem ok_fX_put (sc : tk_X) (a1 : Int32) (a2 : Int32) (a3 : Int32) (m : tk_m) {out : Int32 × tk_m} (h : fX_put a1 a2 a3 m = some out) : tk_Ru sc 7 142 [.ref 0, .int a1, .int a2, .int a3] (tk_full m) (some (.int out.1), tk_full out.2) := by
  unfold fX_put at h
  refine tk_Ru0 me142 (ls := [(0, .ref 0), (1, .int a1), (2, .int a2), (3, .int a3)]) rfl rfl ?_
  refine tk_Ps  1 (pc' := 1) (ls' := [(0, .ref 0), (1, .int a1), (2, .int a2), (3, .int a3)]) (st' := [.int a1]) rfl ?_
  refine tk_cS1  rfl rfl (as := [.int a1]) (rest := []) rfl rfl rfl (ok_fX_isSpot sc a1 m) ?_
  by_cases hc1 : (fX_isSpot a1) = true
  · replace h := tk_ifT hc1 h
    refine tk_bT  rfl rfl tk_eB_eq (c := (fX_isSpot a1) = true) hc1 (pc' := 7) (ls' := [(0, .ref 0), (1, .int a1), (2, .int a2), (3, .int a3)]) (st' := []) ?_
    refine tk_Ps  3 (pc' := 10) (ls' := [(0, .ref 0), (1, .int a1), (2, .int a2), (3, .int a3)]) (st' := [.int (2 : Int32), .int (0 : Int32), .int a3]) rfl ?_
    refine tk_cS1  rfl rfl (as := [.int a3, .int (0 : Int32), .int (2 : Int32)]) (rest := []) rfl rfl rfl (ok_fX_isWithin sc a3 (0 : Int32) (2 : Int32) m) ?_
    by_cases hc2 : (fX_isWithin a3 (0 : Int32) (2 : Int32)) = true
    · replace h := tk_ifT hc2 h
      refine tk_bT  rfl rfl tk_eB_ne (c := (fX_isWithin a3 (0 : Int32) (2 : Int32)) = true) hc2 (pc' := 22) (ls' := [(0, .ref 0), (1, .int a1), (2, .int a2), (3, .int a3)]) (st' := []) ?_
      refine tk_Ps  2 (pc' := 24) (ls' := [(0, .ref 0), (1, .int a1), (2, .int a2), (3, .int a3)]) (st' := [.int a2, .ref 0]) rfl ?_
      obtain ⟨o3, ho3, h⟩ := tk_bnd h
      refine tk_cV1  rfl rfl (r := 0) (as := [.int a2]) (rest := []) rfl ly0 rfl rfl (ok_fX_missesAnswer sc a2 m ho3) ?_
      refine tk_Ps  2 (pc' := 31) (ls' := [(4, .int o3.1), (0, .ref 0), (1, .int a1), (2, .int a2), (3, .int a3)]) (st' := [.int o3.1]) rfl ?_
      by_cases hc4 : o3.1 < 0
      · replace h := tk_ifT hc4 h
        refine tk_bT  rfl rfl rfl (c := o3.1 < 0) hc4 (pc' := 41) (ls' := [(4, .int o3.1), (0, .ref 0), (1, .int a1), (2, .int a2), (3, .int a3)]) (st' := []) ?_
        refine tk_Ps  1 (pc' := 42) (ls' := [(4, .int o3.1), (0, .ref 0), (1, .int a1), (2, .int a2), (3, .int a3)]) (st' := [.ref 0]) rfl ?_
        refine tk_HR  rfl rfl ly0 rt0_3 ?_
        refine tk_Ps  1 (pc' := 46) (ls' := [(4, .int o3.1), (0, .ref 0), (1, .int a1), (2, .int a2), (3, .int a3)]) (st' := [.int a1, .ref 11]) rfl ?_
        obtain ⟨hg5, h⟩ := tk_grd h
        refine tk_HQ  rfl rfl ly11 hg5 (la11 _ (hg5).2).1 ?_
        refine tk_Ps  1 (pc' := 48) (ls' := [(4, .int o3.1), (0, .ref 0), (1, .int a1), (2, .int a2), (3, .int a3)]) (st' := [.ref 0, .ref (275 + 2 * (tk_n a1))]) rfl ?_
        refine tk_HR  rfl rfl ly0 rt0_7 ?_
        refine tk_HR  rfl rfl ly39 rt39_1 ?_
        refine tk_Ps  1 (pc' := 55) (ls' := [(4, .int o3.1), (0, .ref 0), (1, .int a1), (2, .int a2), (3, .int a3)]) (st' := [.int a2, .ref 61, .ref (275 + 2 * (tk_n a1))]) rfl ?_
        obtain ⟨hg6, h⟩ := tk_grd h
        refine tk_HQ  rfl rfl ly61 hg6 (la61 _ (hg6).2).1 ?_
        refine tk_Ps  1 (pc' := 57) (ls' := [(4, .int o3.1), (0, .ref 0), (1, .int a1), (2, .int a2), (3, .int a3)]) (st' := [.int a3, .ref (71 + 8 * (tk_n a2)), .ref (275 + 2 * (tk_n a1))]) rfl ?_
        refine tk_cV1  rfl rfl (r := (71 + 8 * (tk_n a2))) (as := [.int a3]) (rest := [.ref (275 + 2 * (tk_n a1))]) rfl ((la61 _ (hg6).2).2) rfl rfl (ok_fC_part sc (71 + 8 * (tk_n a2)) a3 o3.2 ((la61 _ (hg6).2).2)) ?_
        obtain ⟨o7, ho7, h⟩ := tk_lete h
        refine tk_cV0  rfl rfl (r := (275 + 2 * (tk_n a1))) (as := [.ref (fC_part (71 + 8 * (tk_n a2)) a3)]) (rest := []) rfl ((la11 _ (hg5).2).2) rfl rfl (ok_fN_become sc (275 + 2 * (tk_n a1)) (fC_part (71 + 8 * (tk_n a2)) a3) o3.2 ((la11 _ (hg5).2).2) (lay_fC_part sc (71 + 8 * (tk_n a2)) a3 o3.2 ((la61 _ (hg6).2).2)) ho7) ?_
        refine tk_Ps  1 (pc' := 64) (ls' := [(4, .int o3.1), (0, .ref 0), (1, .int a1), (2, .int a2), (3, .int a3)]) (st' := [.int (1 : Int32)]) rfl ?_
        replace h := Option.some.inj h
        subst h
        exact tk_RI  rfl rfl rfl
      · replace h := tk_ifF hc4 h
        refine tk_bF  rfl rfl rfl (c := o3.1 < 0) hc4 (pc' := 34) (ls' := [(4, .int o3.1), (0, .ref 0), (1, .int a1), (2, .int a2), (3, .int a3)]) (st' := []) ?_
        refine tk_Ps  2 (pc' := 37) (ls' := [(4, .int o3.1), (0, .ref 0), (1, .int a1), (2, .int a2), (3, .int a3)]) (st' := [.int o3.1, .ref 0]) rfl ?_
        obtain ⟨o8, ho8, h⟩ := tk_bnd h
        refine tk_cV1  rfl rfl (r := 0) (as := [.int o3.1]) (rest := []) rfl ly0 rfl rfl (ok_fX_finding sc o3.1 o3.2 ho8) ?_
        replace h := Option.some.inj h
        subst h
        exact tk_RI  rfl rfl rfl
    · replace h := tk_ifF hc2 h
      refine tk_bF  rfl rfl tk_eB_ne (c := (fX_isWithin a3 (0 : Int32) (2 : Int32)) = true) hc2 (pc' := 16) (ls' := [(0, .ref 0), (1, .int a1), (2, .int a2), (3, .int a3)]) (st' := []) ?_
      refine tk_Ps  2 (pc' := 18) (ls' := [(0, .ref 0), (1, .int a1), (2, .int a2), (3, .int a3)]) (st' := [.int (0 : Int32), .ref 0]) rfl ?_
      obtain ⟨o9, ho9, h⟩ := tk_bnd h
      refine tk_cV1  rfl rfl (r := 0) (as := [.int (0 : Int32)]) (rest := []) rfl ly0 rfl rfl (ok_fX_finding sc (0 : Int32) m ho9) ?_
      replace h := Option.some.inj h
      subst h
      exact tk_RI  rfl rfl rfl
  · replace h := tk_ifF hc1 h
    refine tk_bF  rfl rfl tk_eB_eq (c := (fX_isSpot a1) = true) hc1 (pc' := 16) (ls' := [(0, .ref 0), (1, .int a1), (2, .int a2), (3, .int a3)]) (st' := []) ?_
    refine tk_Ps  2 (pc' := 18) (ls' := [(0, .ref 0), (1, .int a1), (2, .int a2), (3, .int a3)]) (st' := [.int (0 : Int32), .ref 0]) rfl ?_
    obtain ⟨o10, ho10, h⟩ := tk_bnd h
    refine tk_cV1  rfl rfl (r := 0) (as := [.int (0 : Int32)]) (rest := []) rfl ly0 rfl rfl (ok_fX_finding sc (0 : Int32) m ho10) ?_
    replace h := Option.some.inj h
    subst h
    exact tk_RI  rfl rfl rfl
theorem ok_fX_ratio_31 (sc : tk_X) (v1 : Int32) (v2 : Int32) (v3 : Int32) (s0 : Int32) (m : tk_m) (out : Int32 × tk_m) (h : fX_ratio_31 v1 v2 v3 s0 m = some out) : tk_Ex sc 3 tk_r145 tk_k145 31 [(0, .ref 0), (1, .int v1), (2, .int v2), (3, .int v3)] [.int s0] (tk_full m) (some (.int out.1), tk_full out.2) := by
  unfold fX_ratio_31 at h
  refine tk_Ps  2 (pc' := 34) (ls' := [(4, .int s0), (0, .ref 0), (1, .int v1), (2, .int v2), (3, .int v3)]) (st' := [.int v1]) rfl ?_
  refine tk_cS1  rfl rfl (as := [.int v1]) (rest := []) rfl rfl rfl (ok_fX_isSpot sc v1 m) ?_
  by_cases hc1 : (fX_isSpot v1) = true
  · replace h := tk_ifT hc1 h
    refine tk_bT  rfl rfl tk_eB_eq (c := (fX_isSpot v1) = true) hc1 (pc' := 40) (ls' := [(4, .int s0), (0, .ref 0), (1, .int v1), (2, .int v2), (3, .int v3)]) (st' := []) ?_
    refine tk_Ps  1 (pc' := 42) (ls' := [(4, .int s0), (0, .ref 0), (1, .int v1), (2, .int v2), (3, .int v3)]) (st' := [.int s0]) rfl ?_
    by_cases hc2 : s0 = 0
    · replace h := tk_ifT hc2 h
      refine tk_bT  rfl rfl rfl (c := s0 = 0) hc2 (pc' := 49) (ls' := [(4, .int s0), (0, .ref 0), (1, .int v1), (2, .int v2), (3, .int v3)]) (st' := []) ?_
      refine tk_Ps  2 (pc' := 51) (ls' := [(4, .int s0), (0, .ref 0), (1, .int v1), (2, .int v2), (3, .int v3)]) (st' := [.int (0 : Int32), .ref 0]) rfl ?_
      obtain ⟨o3, ho3, h⟩ := tk_bnd h
      refine tk_cV1  rfl rfl (r := 0) (as := [.int (0 : Int32)]) (rest := []) rfl ly0 rfl rfl (ok_fX_finding sc (0 : Int32) m ho3) ?_
      replace h := Option.some.inj h
      subst h
      exact tk_RI  rfl rfl rfl
    · replace h := tk_ifF hc2 h
      refine tk_bF  rfl rfl rfl (c := s0 = 0) hc2 (pc' := 45) (ls' := [(4, .int s0), (0, .ref 0), (1, .int v1), (2, .int v2), (3, .int v3)]) (st' := []) ?_
      refine tk_Ps  1 (pc' := 46) (ls' := [(4, .int s0), (0, .ref 0), (1, .int v1), (2, .int v2), (3, .int v3)]) (st' := [.int v3]) rfl ?_
      by_cases hc4 : v3 = 0
      · replace h := tk_ifT hc4 h
        refine tk_bT  rfl rfl rfl (c := v3 = 0) hc4 (pc' := 49) (ls' := [(4, .int s0), (0, .ref 0), (1, .int v1), (2, .int v2), (3, .int v3)]) (st' := []) ?_
        refine tk_Ps  2 (pc' := 51) (ls' := [(4, .int s0), (0, .ref 0), (1, .int v1), (2, .int v2), (3, .int v3)]) (st' := [.int (0 : Int32), .ref 0]) rfl ?_
        obtain ⟨o5, ho5, h⟩ := tk_bnd h
        refine tk_cV1  rfl rfl (r := 0) (as := [.int (0 : Int32)]) (rest := []) rfl ly0 rfl rfl (ok_fX_finding sc (0 : Int32) m ho5) ?_
        replace h := Option.some.inj h
        subst h
        exact tk_RI  rfl rfl rfl
      · replace h := tk_ifF hc4 h
        refine tk_bF  rfl rfl rfl (c := v3 = 0) hc4 (pc' := 55) (ls' := [(4, .int s0), (0, .ref 0), (1, .int v1), (2, .int v2), (3, .int v3)]) (st' := []) ?_
        refine tk_Ps  1 (pc' := 56) (ls' := [(4, .int s0), (0, .ref 0), (1, .int v1), (2, .int v2), (3, .int v3)]) (st' := [.ref 0]) rfl ?_
        refine tk_HR  rfl rfl ly0 rt0_3 ?_
        refine tk_Ps  1 (pc' := 60) (ls' := [(4, .int s0), (0, .ref 0), (1, .int v1), (2, .int v2), (3, .int v3)]) (st' := [.int v1, .ref 11]) rfl ?_
        obtain ⟨hg6, h⟩ := tk_grd h
        refine tk_HQ  rfl rfl ly11 hg6 (la11 _ (hg6).2).1 ?_
        refine tk_Ps  6 (pc' := 67) (ls' := [(4, .int s0), (0, .ref 0), (1, .int v1), (2, .int v2), (3, .int v3)]) (st' := [.long (Int32.toInt64 v3), .long (0 : Int64), .long (0 : Int64), .long (Int32.toInt64 v2), .ref (275 + 2 * (tk_n v1))]) rfl ?_
        obtain ⟨o7, ho7, h⟩ := tk_bnd h
        refine tk_cV1  rfl rfl (r := (275 + 2 * (tk_n v1))) (as := [.long (Int32.toInt64 v2), .long (0 : Int64), .long (0 : Int64), .long (Int32.toInt64 v3)]) (rest := []) rfl ((la11 _ (hg6).2).2) rfl rfl (ok_fN_hold sc (275 + 2 * (tk_n v1)) (Int32.toInt64 v2) (0 : Int64) (0 : Int64) (Int32.toInt64 v3) m ((la11 _ (hg6).2).2) ho7) ?_
        refine tk_Ps  2 (pc' := 72) (ls' := [(4, .int s0), (0, .ref 0), (1, .int v1), (2, .int v2), (3, .int v3)]) (st' := [.int (1 : Int32)]) rfl ?_
        replace h := Option.some.inj h
        subst h
        exact tk_RI  rfl rfl rfl
  · replace h := tk_ifF hc1 h
    refine tk_bF  rfl rfl tk_eB_eq (c := (fX_isSpot v1) = true) hc1 (pc' := 49) (ls' := [(4, .int s0), (0, .ref 0), (1, .int v1), (2, .int v2), (3, .int v3)]) (st' := []) ?_
    refine tk_Ps  2 (pc' := 51) (ls' := [(4, .int s0), (0, .ref 0), (1, .int v1), (2, .int v2), (3, .int v3)]) (st' := [.int (0 : Int32), .ref 0]) rfl ?_
    obtain ⟨o8, ho8, h⟩ := tk_bnd h
    refine tk_cV1  rfl rfl (r := 0) (as := [.int (0 : Int32)]) (rest := []) rfl ly0 rfl rfl (ok_fX_finding sc (0 : Int32) m ho8) ?_
    replace h := Option.some.inj h
    subst h
    exact tk_RI  rfl rfl rfl
theorem ok_fX_ratio (sc : tk_X) (a1 : Int32) (a2 : Int32) (a3 : Int32) (m : tk_m) {out : Int32 × tk_m} (h : fX_ratio a1 a2 a3 m = some out) : tk_Ru sc 4 145 [.ref 0, .int a1, .int a2, .int a3] (tk_full m) (some (.int out.1), tk_full out.2) := by
  unfold fX_ratio at h
  refine tk_Ru0 me145 (ls := [(0, .ref 0), (1, .int a1), (2, .int a2), (3, .int a3)]) rfl rfl ?_
  refine tk_Ps  3 (pc' := 7) (ls' := [(0, .ref 0), (1, .int a1), (2, .int a2), (3, .int a3)]) (st' := [.int (1000000 : Int32), .int (-1000000 : Int32), .int a2]) rfl ?_
  refine tk_cS1  rfl rfl (as := [.int a2, .int (-1000000 : Int32), .int (1000000 : Int32)]) (rest := []) rfl rfl rfl (ok_fX_isWithin sc a2 (-1000000 : Int32) (1000000 : Int32) m) ?_
  by_cases hc1 : (fX_isWithin a2 (-1000000 : Int32) (1000000 : Int32)) = true
  · replace h := tk_ifT hc1 h
    refine tk_bT  rfl rfl tk_eB_eq (c := (fX_isWithin a2 (-1000000 : Int32) (1000000 : Int32)) = true) hc1 (pc' := 13) (ls' := [(0, .ref 0), (1, .int a1), (2, .int a2), (3, .int a3)]) (st' := []) ?_
    refine tk_Ps  3 (pc' := 20) (ls' := [(0, .ref 0), (1, .int a1), (2, .int a2), (3, .int a3)]) (st' := [.int (1000000 : Int32), .int (-1000000 : Int32), .int a3]) rfl ?_
    refine tk_cS1  rfl rfl (as := [.int a3, .int (-1000000 : Int32), .int (1000000 : Int32)]) (rest := []) rfl rfl rfl (ok_fX_isWithin sc a3 (-1000000 : Int32) (1000000 : Int32) m) ?_
    by_cases hc2 : (fX_isWithin a3 (-1000000 : Int32) (1000000 : Int32)) = true
    · replace h := tk_ifT hc2 h
      refine tk_bT  rfl rfl tk_eB_eq (c := (fX_isWithin a3 (-1000000 : Int32) (1000000 : Int32)) = true) hc2 (pc' := 26) (ls' := [(0, .ref 0), (1, .int a1), (2, .int a2), (3, .int a3)]) (st' := []) ?_
      refine tk_Ps  2 (pc' := 31) (ls' := [(0, .ref 0), (1, .int a1), (2, .int a2), (3, .int a3)]) (st' := [.int (1 : Int32)]) rfl ?_
      refine tk_Kp  (ls' := [(0, .ref 0), (1, .int a1), (2, .int a2), (3, .int a3)]) rfl rfl ?_
      exact ok_fX_ratio_31 sc a1 a2 a3 (1 : Int32) m _ h
    · replace h := tk_ifF hc2 h
      refine tk_bF  rfl rfl tk_eB_eq (c := (fX_isWithin a3 (-1000000 : Int32) (1000000 : Int32)) = true) hc2 (pc' := 30) (ls' := [(0, .ref 0), (1, .int a1), (2, .int a2), (3, .int a3)]) (st' := []) ?_
      refine tk_Ps  1 (pc' := 31) (ls' := [(0, .ref 0), (1, .int a1), (2, .int a2), (3, .int a3)]) (st' := [.int (0 : Int32)]) rfl ?_
      refine tk_Kp  (ls' := [(0, .ref 0), (1, .int a1), (2, .int a2), (3, .int a3)]) rfl rfl ?_
      exact ok_fX_ratio_31 sc a1 a2 a3 (0 : Int32) m _ h
  · replace h := tk_ifF hc1 h
    refine tk_bF  rfl rfl tk_eB_eq (c := (fX_isWithin a2 (-1000000 : Int32) (1000000 : Int32)) = true) hc1 (pc' := 30) (ls' := [(0, .ref 0), (1, .int a1), (2, .int a2), (3, .int a3)]) (st' := []) ?_
    refine tk_Ps  1 (pc' := 31) (ls' := [(0, .ref 0), (1, .int a1), (2, .int a2), (3, .int a3)]) (st' := [.int (0 : Int32)]) rfl ?_
    refine tk_Kp  (ls' := [(0, .ref 0), (1, .int a1), (2, .int a2), (3, .int a3)]) rfl rfl ?_
    exact ok_fX_ratio_31 sc a1 a2 a3 (0 : Int32) m _ h
theorem ok_fX_root (sc : tk_X) (a1 : Int32) (a2 : Int32) (m : tk_m) {out : Int32 × tk_m} (h : fX_root a1 a2 m = some out) : tk_Ru sc 5 146 [.ref 0, .int a1, .int a2] (tk_full m) (some (.int out.1), tk_full out.2) := by
  unfold fX_root at h
  refine tk_Ru0 me146 (ls := [(0, .ref 0), (1, .int a1), (2, .int a2)]) rfl rfl ?_
  refine tk_Ps  1 (pc' := 1) (ls' := [(0, .ref 0), (1, .int a1), (2, .int a2)]) (st' := [.int a1]) rfl ?_
  refine tk_cS1  rfl rfl (as := [.int a1]) (rest := []) rfl rfl rfl (ok_fX_isSpot sc a1 m) ?_
  by_cases hc1 : (fX_isSpot a1) = true
  · replace h := tk_ifT hc1 h
    refine tk_bT  rfl rfl tk_eB_eq (c := (fX_isSpot a1) = true) hc1 (pc' := 7) (ls' := [(0, .ref 0), (1, .int a1), (2, .int a2)]) (st' := []) ?_
    refine tk_Ps  3 (pc' := 12) (ls' := [(0, .ref 0), (1, .int a1), (2, .int a2)]) (st' := [.int (1000000 : Int32), .int (0 : Int32), .int a2]) rfl ?_
    refine tk_cS1  rfl rfl (as := [.int a2, .int (0 : Int32), .int (1000000 : Int32)]) (rest := []) rfl rfl rfl (ok_fX_isWithin sc a2 (0 : Int32) (1000000 : Int32) m) ?_
    by_cases hc2 : (fX_isWithin a2 (0 : Int32) (1000000 : Int32)) = true
    · replace h := tk_ifT hc2 h
      refine tk_bT  rfl rfl tk_eB_ne (c := (fX_isWithin a2 (0 : Int32) (1000000 : Int32)) = true) hc2 (pc' := 24) (ls' := [(0, .ref 0), (1, .int a1), (2, .int a2)]) (st' := []) ?_
      refine tk_Ps  1 (pc' := 25) (ls' := [(0, .ref 0), (1, .int a1), (2, .int a2)]) (st' := [.ref 0]) rfl ?_
      refine tk_HR  rfl rfl ly0 rt0_3 ?_
      refine tk_Ps  1 (pc' := 29) (ls' := [(0, .ref 0), (1, .int a1), (2, .int a2)]) (st' := [.int a1, .ref 11]) rfl ?_
      obtain ⟨hg3, h⟩ := tk_grd h
      refine tk_HQ  rfl rfl ly11 hg3 (la11 _ (hg3).2).1 ?_
      refine tk_Ps  2 (pc' := 32) (ls' := [(0, .ref 0), (1, .int a1), (2, .int a2)]) (st' := [.long (Int32.toInt64 a2), .ref (275 + 2 * (tk_n a1))]) rfl ?_
      obtain ⟨o4, ho4, h⟩ := tk_bnd h
      refine tk_cV0  rfl rfl (r := (275 + 2 * (tk_n a1))) (as := [.long (Int32.toInt64 a2)]) (rest := []) rfl ((la11 _ (hg3).2).2) rfl rfl (ok_fN_holdRoot sc (275 + 2 * (tk_n a1)) (Int32.toInt64 a2) m ((la11 _ (hg3).2).2) ho4) ?_
      refine tk_Ps  1 (pc' := 36) (ls' := [(0, .ref 0), (1, .int a1), (2, .int a2)]) (st' := [.int (1 : Int32)]) rfl ?_
      replace h := Option.some.inj h
      subst h
      exact tk_RI  rfl rfl rfl
    · replace h := tk_ifF hc2 h
      refine tk_bF  rfl rfl tk_eB_ne (c := (fX_isWithin a2 (0 : Int32) (1000000 : Int32)) = true) hc2 (pc' := 18) (ls' := [(0, .ref 0), (1, .int a1), (2, .int a2)]) (st' := []) ?_
      refine tk_Ps  2 (pc' := 20) (ls' := [(0, .ref 0), (1, .int a1), (2, .int a2)]) (st' := [.int (0 : Int32), .ref 0]) rfl ?_
      obtain ⟨o5, ho5, h⟩ := tk_bnd h
      refine tk_cV1  rfl rfl (r := 0) (as := [.int (0 : Int32)]) (rest := []) rfl ly0 rfl rfl (ok_fX_finding sc (0 : Int32) m ho5) ?_
      replace h := Option.some.inj h
      subst h
      exact tk_RI  rfl rfl rfl
  · replace h := tk_ifF hc1 h
    refine tk_bF  rfl rfl tk_eB_eq (c := (fX_isSpot a1) = true) hc1 (pc' := 18) (ls' := [(0, .ref 0), (1, .int a1), (2, .int a2)]) (st' := []) ?_
    refine tk_Ps  2 (pc' := 20) (ls' := [(0, .ref 0), (1, .int a1), (2, .int a2)]) (st' := [.int (0 : Int32), .ref 0]) rfl ?_
    obtain ⟨o6, ho6, h⟩ := tk_bnd h
    refine tk_cV1  rfl rfl (r := 0) (as := [.int (0 : Int32)]) (rest := []) rfl ly0 rfl rfl (ok_fX_finding sc (0 : Int32) m ho6) ?_
    replace h := Option.some.inj h
    subst h
    exact tk_RI  rfl rfl rfl
theorem ok_fN_isOf (sc : tk_X) (t : Nat) (a1 : Int32) (m : tk_m) (ht : tk_lay[t]? = some (.inl 4)) : tk_Ru sc 2 148 [.ref t, .int a1] (tk_full m) (some (.int (tk_b (fN_isOf t a1 m))), tk_full m) := by
  obtain ⟨out, h⟩ : ∃ out, fN_isOf t a1 m = out := ⟨_, rfl⟩
  rw [h]
  unfold fN_isOf at h
  refine tk_Ru0 me148 (ls := [(0, .ref t), (1, .int a1)]) rfl rfl ?_
  refine tk_Ps  1 (pc' := 1) (ls' := [(0, .ref t), (1, .int a1)]) (st' := [.int a1]) rfl ?_
  by_cases hs1 : a1 = 0
  · replace h := tk_ifT hs1 h
    refine tk_sw  rfl rfl hs1 rfl (pc' := 28) (ls' := [(0, .ref t), (1, .int a1)]) (st' := []) ?_
    refine tk_Ps  1 (pc' := 29) (ls' := [(0, .ref t), (1, .int a1)]) (st' := [.int (1 : Int32)]) rfl ?_
    subst h
    exact tk_RB (b := true)  rfl rfl rfl
  replace h := tk_ifF hs1 h
  by_cases hs2 : a1 = 1
  · replace h := tk_ifT hs2 h
    refine tk_sw  rfl rfl hs2 rfl (pc' := 30) (ls' := [(0, .ref t), (1, .int a1)]) (st' := []) ?_
    refine tk_Ps  1 (pc' := 31) (ls' := [(0, .ref t), (1, .int a1)]) (st' := [.ref t]) rfl ?_
    refine tk_cV1  rfl rfl (r := t) (as := []) (rest := []) rfl ht rfl rfl (ok_fN_q sc t m ht) ?_
    refine tk_Ps  2 (pc' := 36) (ls' := [(0, .ref t), (1, .int a1)]) (st' := [.int (lg_cmp (fN_q t m) (0 : Int64))]) rfl ?_
    by_cases hc3 : (fN_q t m) = (0 : Int64)
    · replace h := tk_ifT hc3 h
      refine tk_bT  rfl rfl tk_eL_eq (c := (fN_q t m) = (0 : Int64)) hc3 (pc' := 43) (ls' := [(0, .ref t), (1, .int a1)]) (st' := []) ?_
      refine tk_Ps  1 (pc' := 44) (ls' := [(0, .ref t), (1, .int a1)]) (st' := [.int (0 : Int32)]) rfl ?_
      subst h
      exact tk_RB (b := false)  rfl rfl rfl
    · replace h := tk_ifF hc3 h
      refine tk_bF  rfl rfl tk_eL_eq (c := (fN_q t m) = (0 : Int64)) hc3 (pc' := 39) (ls' := [(0, .ref t), (1, .int a1)]) (st' := []) ?_
      refine tk_Ps  2 (pc' := 44) (ls' := [(0, .ref t), (1, .int a1)]) (st' := [.int (1 : Int32)]) rfl ?_
      subst h
      exact tk_RB (b := true)  rfl rfl rfl
  replace h := tk_ifF hs2 h
  by_cases hs4 : a1 = 2
  · replace h := tk_ifT hs4 h
    refine tk_sw  rfl rfl hs4 rfl (pc' := 45) (ls' := [(0, .ref t), (1, .int a1)]) (st' := []) ?_
    refine tk_Ps  1 (pc' := 46) (ls' := [(0, .ref t), (1, .int a1)]) (st' := [.ref t]) rfl ?_
    refine tk_cV1  rfl rfl (r := t) (as := []) (rest := []) rfl ht rfl rfl (ok_fN_q sc t m ht) ?_
    refine tk_Ps  2 (pc' := 51) (ls' := [(0, .ref t), (1, .int a1)]) (st' := [.int (lg_cmp (fN_q t m) (0 : Int64))]) rfl ?_
    by_cases hc5 : (fN_q t m) = (0 : Int64)
    · replace h := tk_ifT hc5 h
      refine tk_bT  rfl rfl tk_eL_ne (c := (fN_q t m) = (0 : Int64)) hc5 (pc' := 54) (ls' := [(0, .ref t), (1, .int a1)]) (st' := []) ?_
      refine tk_Ps  2 (pc' := 59) (ls' := [(0, .ref t), (1, .int a1)]) (st' := [.int (1 : Int32)]) rfl ?_
      subst h
      exact tk_RB (b := true)  rfl rfl rfl
    · replace h := tk_ifF hc5 h
      refine tk_bF  rfl rfl tk_eL_ne (c := (fN_q t m) = (0 : Int64)) hc5 (pc' := 58) (ls' := [(0, .ref t), (1, .int a1)]) (st' := []) ?_
      refine tk_Ps  1 (pc' := 59) (ls' := [(0, .ref t), (1, .int a1)]) (st' := [.int (0 : Int32)]) rfl ?_
      subst h
      exact tk_RB (b := false)  rfl rfl rfl
  replace h := tk_ifF hs4 h
  refine tk_swD  rfl rfl (tk_swo_0_2 hs1 hs2 hs4) rfl rfl (pc' := 60) (ls' := [(0, .ref t), (1, .int a1)]) (st' := []) ?_
  refine tk_Ps  1 (pc' := 61) (ls' := [(0, .ref t), (1, .int a1)]) (st' := [.ref t]) rfl ?_
  refine tk_cV1  rfl rfl (r := t) (as := []) (rest := []) rfl ht rfl rfl (ok_fN_q sc t m ht) ?_
  refine tk_Ps  2 (pc' := 66) (ls' := [(0, .ref t), (1, .int a1)]) (st' := [.int (lg_cmp (fN_q t m) (0 : Int64))]) rfl ?_
  by_cases hc6 : (fN_q t m) = (0 : Int64)
  · replace h := tk_ifT hc6 h
    refine tk_bT  rfl rfl tk_eL_ne (c := (fN_q t m) = (0 : Int64)) hc6 (pc' := 69) (ls' := [(0, .ref t), (1, .int a1)]) (st' := []) ?_
    refine tk_Ps  1 (pc' := 70) (ls' := [(0, .ref t), (1, .int a1)]) (st' := [.ref t]) rfl ?_
    refine tk_cV1  rfl rfl (r := t) (as := []) (rest := []) rfl ht rfl rfl (ok_fN_m sc t m ht) ?_
    refine tk_Ps  2 (pc' := 75) (ls' := [(0, .ref t), (1, .int a1)]) (st' := [.int (lg_cmp (fN_m t m) (1 : Int64))]) rfl ?_
    by_cases hc7 : (fN_m t m) = (1 : Int64)
    · replace h := tk_ifT hc7 h
      refine tk_bT  rfl rfl tk_eL_ne (c := (fN_m t m) = (1 : Int64)) hc7 (pc' := 78) (ls' := [(0, .ref t), (1, .int a1)]) (st' := []) ?_
      refine tk_Ps  2 (pc' := 83) (ls' := [(0, .ref t), (1, .int a1)]) (st' := [.int (1 : Int32)]) rfl ?_
      subst h
      exact tk_RB (b := true)  rfl rfl rfl
    · replace h := tk_ifF hc7 h
      refine tk_bF  rfl rfl tk_eL_ne (c := (fN_m t m) = (1 : Int64)) hc7 (pc' := 82) (ls' := [(0, .ref t), (1, .int a1)]) (st' := []) ?_
      refine tk_Ps  1 (pc' := 83) (ls' := [(0, .ref t), (1, .int a1)]) (st' := [.int (0 : Int32)]) rfl ?_
      subst h
      exact tk_RB (b := false)  rfl rfl rfl
  · replace h := tk_ifF hc6 h
    refine tk_bF  rfl rfl tk_eL_ne (c := (fN_q t m) = (0 : Int64)) hc6 (pc' := 82) (ls' := [(0, .ref t), (1, .int a1)]) (st' := []) ?_
    refine tk_Ps  1 (pc' := 83) (ls' := [(0, .ref t), (1, .int a1)]) (st' := [.int (0 : Int32)]) rfl ?_
    subst h
    exact tk_RB (b := false)  rfl rfl rfl

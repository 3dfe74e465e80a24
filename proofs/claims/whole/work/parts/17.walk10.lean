theorem ok_fM_quadric (sc : tk_X) (a1 : Nat) (a2 : Nat) (m : tk_m) (ha1 : tk_lay[a1]? = some (.inr (1, tk_al a1))) (ha2 : tk_lay[a2]? = some (.inr (1, tk_al a2))) {out : Int64} (h : fM_quadric a1 a2 m = some out) : tk_Ru sc 1 232 [.ref a1, .ref a2] (tk_full m) (some (.long out), tk_full m) := by
  unfold fM_quadric at h
  refine tk_Ru0 me232 (ls := [(0, .ref a1), (1, .ref a2)]) rfl rfl ?_
  refine tk_Ps  2 (pc' := 2) (ls' := [(0, .ref a1), (1, .ref a2)]) (st' := [.int (0 : Int32), .ref a1]) rfl ?_
  obtain ⟨hg1, h⟩ := tk_grd h
  refine tk_HJa  rfl rfl ha1 hg1 ?_
  refine tk_Ps  2 (pc' := 5) (ls' := [(0, .ref a1), (1, .ref a2)]) (st' := [.int (0 : Int32), .ref a2, .long (m.2.1 a1 (tk_n (0 : Int32)))]) rfl ?_
  obtain ⟨hg2, h⟩ := tk_grd h
  refine tk_HJa  rfl rfl ha2 hg2 ?_
  refine tk_Ps  3 (pc' := 9) (ls' := [(0, .ref a1), (1, .ref a2)]) (st' := [.int (1 : Int32), .ref a1, .long ((m.2.1 a1 (tk_n (0 : Int32))) * (m.2.1 a2 (tk_n (0 : Int32))))]) rfl ?_
  obtain ⟨hg3, h⟩ := tk_grd h
  refine tk_HJa  rfl rfl ha1 hg3 ?_
  refine tk_Ps  2 (pc' := 12) (ls' := [(0, .ref a1), (1, .ref a2)]) (st' := [.int (1 : Int32), .ref a2, .long (m.2.1 a1 (tk_n (1 : Int32))), .long ((m.2.1 a1 (tk_n (0 : Int32))) * (m.2.1 a2 (tk_n (0 : Int32))))]) rfl ?_
  obtain ⟨hg4, h⟩ := tk_grd h
  refine tk_HJa  rfl rfl ha2 hg4 ?_
  refine tk_Ps  4 (pc' := 17) (ls' := [(0, .ref a1), (1, .ref a2)]) (st' := [.int (2 : Int32), .ref a1, .long (((m.2.1 a1 (tk_n (0 : Int32))) * (m.2.1 a2 (tk_n (0 : Int32)))) + ((m.2.1 a1 (tk_n (1 : Int32))) * (m.2.1 a2 (tk_n (1 : Int32)))))]) rfl ?_
  obtain ⟨hg5, h⟩ := tk_grd h
  refine tk_HJa  rfl rfl ha1 hg5 ?_
  refine tk_Ps  2 (pc' := 20) (ls' := [(0, .ref a1), (1, .ref a2)]) (st' := [.int (2 : Int32), .ref a2, .long (m.2.1 a1 (tk_n (2 : Int32))), .long (((m.2.1 a1 (tk_n (0 : Int32))) * (m.2.1 a2 (tk_n (0 : Int32)))) + ((m.2.1 a1 (tk_n (1 : Int32))) * (m.2.1 a2 (tk_n (1 : Int32)))))]) rfl ?_
  obtain ⟨hg6, h⟩ := tk_grd h
  refine tk_HJa  rfl rfl ha2 hg6 ?_
  refine tk_Ps  2 (pc' := 23) (ls' := [(0, .ref a1), (1, .ref a2)]) (st' := [.long ((((m.2.1 a1 (tk_n (0 : Int32))) * (m.2.1 a2 (tk_n (0 : Int32)))) + ((m.2.1 a1 (tk_n (1 : Int32))) * (m.2.1 a2 (tk_n (1 : Int32))))) - ((m.2.1 a1 (tk_n (2 : Int32))) * (m.2.1 a2 (tk_n (2 : Int32)))))]) rfl ?_
  replace h := Option.some.inj h
  subst h
  exact tk_RJ  rfl rfl rfl
theorem ok_fM_parts_95 (sc : tk_X) (v3 : Int64) (m : tk_m) (out : tk_m) (h : fM_parts_95 v3 m = some out) : tk_Ex sc 0 tk_r234 tk_k234 95 [(0, .ref 295), (3, .long v3)] [] (tk_full m) (none, tk_full out) := by
  unfold fM_parts_95 at h
  refine tk_Ps  2 (pc' := 97) (ls' := [(0, .ref 295), (3, .long v3)]) (st' := [.ref 295, .ref 295]) rfl ?_
  refine tk_HJ  rfl rfl ly295 ?_
  refine tk_Ps  2 (pc' := 102) (ls' := [(0, .ref 295), (3, .long v3)]) (st' := [.long ((m.2.1 295 6) * v3), .ref 295]) rfl ?_
  refine tk_SJ  rfl rfl ly295 ?_
  replace h := Option.some.inj h
  subst h
  exact tk_RV  rfl rfl rfl
theorem ok_fM_parts_61 (sc : tk_X) (r17 : Int64 → Int64 → tk_m → Option tk_m) (H17 : ∀ (v3 : Int64) (v5 : Int64) (m : tk_m) (out : tk_m), r17 v3 v5 m = some out → tk_Ex sc 0 tk_r234 tk_k234 17 [(0, .ref 295), (3, .long v3), (5, .long v5)] [] (tk_full m) (none, tk_full out)) (v3 : Int64) (v5 : Int64) (m : tk_m) (out : tk_m) (h : fM_parts_61 r17 v3 v5 m = some out) : tk_Ex sc 0 tk_r234 tk_k234 61 [(0, .ref 295), (3, .long v3), (5, .long v5)] [] (tk_full m) (none, tk_full out) := by
  unfold fM_parts_61 at h
  refine tk_Ps  2 (pc' := 64) (ls' := [(0, .ref 295), (3, .long v3), (5, .long v5)]) (st' := [.long v5, .long v3]) rfl ?_
  obtain ⟨hz1, h⟩ := tk_grn h
  refine tk_lremR  rfl rfl hz1 ?_
  refine tk_Ps  2 (pc' := 67) (ls' := [(0, .ref 295), (3, .long v3), (5, .long v5)]) (st' := [.int (lg_cmp (tk_lrem v3 v5) (0 : Int64))]) rfl ?_
  by_cases hc2 : (tk_lrem v3 v5) = (0 : Int64)
  · replace h := tk_ifT hc2 h
    refine tk_bT  rfl rfl tk_eL_ne (c := (tk_lrem v3 v5) = (0 : Int64)) hc2 (pc' := 70) (ls' := [(0, .ref 295), (3, .long v3), (5, .long v5)]) (st' := []) ?_
    refine tk_Ps  2 (pc' := 72) (ls' := [(0, .ref 295), (3, .long v3), (5, .long v5)]) (st' := [.ref 295, .ref 295]) rfl ?_
    refine tk_HJ  rfl rfl ly295 ?_
    refine tk_Ps  2 (pc' := 78) (ls' := [(0, .ref 295), (3, .long v3), (5, .long v5)]) (st' := [.long ((m.2.1 295 6) * v5), .ref 295]) rfl ?_
    refine tk_SJ  rfl rfl ly295 ?_
    refine tk_Ps  2 (pc' := 84) (ls' := [(0, .ref 295), (3, .long v3), (5, .long v5)]) (st' := [.long v5, .long v3]) rfl ?_
    obtain ⟨hz3, h⟩ := tk_grn h
    refine tk_ldiv  rfl rfl hz3 ?_
    refine tk_Ps  6 (pc' := 17) (ls' := [(5, .long (v5 + (1 : Int64))), (3, .long (v3 / v5)), (0, .ref 295)]) (st' := []) rfl ?_
    refine tk_Kp  (ls' := [(0, .ref 295), (3, .long (v3 / v5)), (5, .long (v5 + (1 : Int64)))]) rfl rfl ?_
    exact H17 (v3 / v5) (v5 + (1 : Int64)) (m.1, tk_u2 m.2.1 295 6 ((m.2.1 295 6) * v5), m.2.2.1, m.2.2.2) _ h
  · replace h := tk_ifF hc2 h
    refine tk_bF  rfl rfl tk_eL_ne (c := (tk_lrem v3 v5) = (0 : Int64)) hc2 (pc' := 86) (ls' := [(0, .ref 295), (3, .long v3), (5, .long v5)]) (st' := []) ?_
    refine tk_Ps  5 (pc' := 17) (ls' := [(5, .long (v5 + (1 : Int64))), (0, .ref 295), (3, .long v3)]) (st' := []) rfl ?_
    refine tk_Kp  (ls' := [(0, .ref 295), (3, .long v3), (5, .long (v5 + (1 : Int64)))]) rfl rfl ?_
    exact H17 v3 (v5 + (1 : Int64)) m _ h
theorem ok_fM_parts_27 (sc : tk_X) (r17 : Int64 → Int64 → tk_m → Option tk_m) (H17 : ∀ (v3 : Int64) (v5 : Int64) (m : tk_m) (out : tk_m), r17 v3 v5 m = some out → tk_Ex sc 0 tk_r234 tk_k234 17 [(0, .ref 295), (3, .long v3), (5, .long v5)] [] (tk_full m) (none, tk_full out)) : ∀ (n : Nat) (v3 : Int64) (v5 : Int64) (m : tk_m) (out : tk_m), fM_parts_27 r17 n v3 v5 m = some out → tk_Ex sc 0 tk_r234 tk_k234 27 [(0, .ref 295), (3, .long v3), (5, .long v5)] [] (tk_full m) (none, tk_full out) := by
  intro n
  induction n with
  | zero =>
    intro v3 v5 m out h
    cases h
  | succ n ih =>
    intro v3 v5 m out h
    unfold fM_parts_27 at h
    refine tk_Ps  4 (pc' := 33) (ls' := [(0, .ref 295), (3, .long v3), (5, .long v5)]) (st' := [.long (v5 * v5), .long v3]) rfl ?_
    obtain ⟨hz1, h⟩ := tk_grn h
    refine tk_lremR  rfl rfl hz1 ?_
    refine tk_Ps  2 (pc' := 36) (ls' := [(0, .ref 295), (3, .long v3), (5, .long v5)]) (st' := [.int (lg_cmp (tk_lrem v3 (v5 * v5)) (0 : Int64))]) rfl ?_
    by_cases hc2 : (tk_lrem v3 (v5 * v5)) = (0 : Int64)
    · replace h := tk_ifT hc2 h
      refine tk_bT  rfl rfl tk_eL_ne (c := (tk_lrem v3 (v5 * v5)) = (0 : Int64)) hc2 (pc' := 39) (ls' := [(0, .ref 295), (3, .long v3), (5, .long v5)]) (st' := []) ?_
      refine tk_Ps  2 (pc' := 41) (ls' := [(0, .ref 295), (3, .long v3), (5, .long v5)]) (st' := [.ref 295, .ref 295]) rfl ?_
      refine tk_HJ  rfl rfl ly295 ?_
      refine tk_Ps  2 (pc' := 47) (ls' := [(0, .ref 295), (3, .long v3), (5, .long v5)]) (st' := [.long ((m.2.1 295 5) * v5), .ref 295]) rfl ?_
      refine tk_SJ  rfl rfl ly295 ?_
      refine tk_Ps  4 (pc' := 56) (ls' := [(0, .ref 295), (3, .long v3), (5, .long v5)]) (st' := [.long (v5 * v5), .long v3]) rfl ?_
      obtain ⟨hz3, h⟩ := tk_grn h
      refine tk_ldiv  rfl rfl hz3 ?_
      refine tk_Ps  2 (pc' := 27) (ls' := [(3, .long (v3 / (v5 * v5))), (0, .ref 295), (5, .long v5)]) (st' := []) rfl ?_
      refine tk_Kp  (ls' := [(0, .ref 295), (3, .long (v3 / (v5 * v5))), (5, .long v5)]) rfl rfl ?_
      exact ih (v3 / (v5 * v5)) v5 (m.1, tk_u2 m.2.1 295 5 ((m.2.1 295 5) * v5), m.2.2.1, m.2.2.2) _ h
    · replace h := tk_ifF hc2 h
      refine tk_bF  rfl rfl tk_eL_ne (c := (tk_lrem v3 (v5 * v5)) = (0 : Int64)) hc2 (pc' := 61) (ls' := [(0, .ref 295), (3, .long v3), (5, .long v5)]) (st' := []) ?_
      refine tk_Kp  (ls' := [(0, .ref 295), (3, .long v3), (5, .long v5)]) rfl rfl ?_
      exact ok_fM_parts_61 sc r17 H17 v3 v5 m _ h
theorem ok_fM_parts_17 (sc : tk_X) : ∀ (n : Nat) (v3 : Int64) (v5 : Int64) (m : tk_m) (out : tk_m), fM_parts_17 n v3 v5 m = some out → tk_Ex sc 0 tk_r234 tk_k234 17 [(0, .ref 295), (3, .long v3), (5, .long v5)] [] (tk_full m) (none, tk_full out) := by
  intro n
  induction n with
  | zero =>
    intro v3 v5 m out h
    cases h
  | succ n ih =>
    intro v3 v5 m out h
    unfold fM_parts_17 at h
    refine tk_Ps  5 (pc' := 24) (ls' := [(0, .ref 295), (3, .long v3), (5, .long v5)]) (st' := [.int (lg_cmp (v5 * v5) v3)]) rfl ?_
    by_cases hc1 : v3 < (v5 * v5)
    · replace h := tk_ifT hc1 h
      refine tk_bT  rfl rfl tk_eL_gt (c := v3 < (v5 * v5)) hc1 (pc' := 95) (ls' := [(0, .ref 295), (3, .long v3), (5, .long v5)]) (st' := []) ?_
      refine tk_Kp  (ls' := [(0, .ref 295), (3, .long v3)]) rfl rfl ?_
      exact ok_fM_parts_95 sc v3 m _ h
    · replace h := tk_ifF hc1 h
      refine tk_bF  rfl rfl tk_eL_gt (c := v3 < (v5 * v5)) hc1 (pc' := 27) (ls' := [(0, .ref 295), (3, .long v3), (5, .long v5)]) (st' := []) ?_
      refine tk_Kp  (ls' := [(0, .ref 295), (3, .long v3), (5, .long v5)]) rfl rfl ?_
      exact ok_fM_parts_27 sc (fM_parts_17 n) ih tk_F v3 v5 m _ h
theorem ok_fM_parts (sc : tk_X) (a1 : Int64) (m : tk_m) {out : tk_m} (h : fM_parts a1 m = some out) : tk_Ru sc 1 234 [.ref 295, .long a1] (tk_full m) (none, tk_full out) := by
  unfold fM_parts at h
  refine tk_Ru0 me234 (ls := [(0, .ref 295), (1, .long a1)]) rfl rfl ?_
  refine tk_Ps  2 (pc' := 2) (ls' := [(0, .ref 295), (1, .long a1)]) (st' := [.long (1 : Int64), .ref 295]) rfl ?_
  refine tk_SJ  rfl rfl ly295 ?_
  refine tk_Ps  2 (pc' := 7) (ls' := [(0, .ref 295), (1, .long a1)]) (st' := [.long (1 : Int64), .ref 295]) rfl ?_
  refine tk_SJ  rfl rfl ly295 ?_
  refine tk_Ps  4 (pc' := 17) (ls' := [(5, .long (2 : Int64)), (3, .long a1), (0, .ref 295), (1, .long a1)]) (st' := []) rfl ?_
  refine tk_Kp  (ls' := [(0, .ref 295), (3, .long a1), (5, .long (2 : Int64))]) rfl rfl ?_
  exact ok_fM_parts_17 sc tk_F a1 (2 : Int64) (m.1, tk_u2 (tk_u2 m.2.1 295 5 (1 : Int64)) 295 6 (1 : Int64), m.2.2.1, m.2.2.2) _ h
theorem ok_fM_timesWide_JJ (sc : tk_X) (a1 : Int64) (a2 : Int64) (m : tk_m) {out : Int32 × tk_m} (h : fM_timesWide_JJ a1 a2 m = some out) : tk_Ru sc 3 237 [.ref 295, .long a1, .long a2] (tk_full m) (some (.int out.1), tk_full out.2) := by
  unfold fM_timesWide_JJ at h
  refine tk_Ru0 me237 (ls := [(0, .ref 295), (1, .long a1), (3, .long a2)]) rfl rfl ?_
  refine tk_Ps  3 (pc' := 3) (ls' := [(0, .ref 295), (1, .long a1), (3, .long a2)]) (st' := [.long a1, .ref 295, .ref 295]) rfl ?_
  obtain ⟨o1, ho1, h⟩ := tk_bnd h
  refine tk_cV1  rfl rfl (r := 295) (as := [.long a1]) (rest := [.ref 295]) rfl ly295 rfl rfl (ok_fM_widens sc a1 m ho1) ?_
  refine tk_Ps  2 (pc' := 8) (ls' := [(0, .ref 295), (1, .long a1), (3, .long a2)]) (st' := [.long a2, .ref 295, .int o1.1, .ref 295]) rfl ?_
  obtain ⟨o2, ho2, h⟩ := tk_bnd h
  refine tk_cV1  rfl rfl (r := 295) (as := [.long a2]) (rest := [.int o1.1, .ref 295]) rfl ly295 rfl rfl (ok_fM_widens sc a2 o1.2 ho2) ?_
  obtain ⟨o3, ho3, h⟩ := tk_bnd h
  refine tk_cV1  rfl rfl (r := 295) (as := [.int o1.1, .int o2.1]) (rest := []) rfl ly295 rfl rfl (ok_fM_timesWide_II sc o1.1 o2.1 o2.2 ho3) ?_
  replace h := Option.some.inj h
  subst h
  exact tk_RI  rfl rfl rfl
theorem ok_fM_turned (sc : tk_X) (a1 : Int32) (m : tk_m) {out : Int32 × tk_m} (h : fM_turned a1 m = some out) : tk_Ru sc 1 238 [.ref 295, .int a1] (tk_full m) (some (.int out.1), tk_full out.2) := by
  unfold fM_turned at h
  refine tk_Ru0 me238 (ls := [(0, .ref 295), (1, .int a1)]) rfl rfl ?_
  refine tk_Ps  1 (pc' := 1) (ls' := [(0, .ref 295), (1, .int a1)]) (st' := [.ref 295]) rfl ?_
  refine tk_HR  rfl rfl ly295 rt295_8 ?_
  refine tk_Ps  2 (pc' := 6) (ls' := [(0, .ref 295), (1, .int a1)]) (st' := [.ref 295, .int a1, .ref 348]) rfl ?_
  refine tk_HR  rfl rfl ly295 rt295_8 ?_
  refine tk_Ps  1 (pc' := 10) (ls' := [(0, .ref 295), (1, .int a1)]) (st' := [.int a1, .ref 348, .int a1, .ref 348]) rfl ?_
  obtain ⟨hg1, h⟩ := tk_grd h
  refine tk_HIa  rfl rfl ly348 hg1 ?_
  refine tk_Ps  1 (pc' := 12) (ls' := [(0, .ref 295), (1, .int a1)]) (st' := [.int (-(m.1 348 (tk_n a1))), .int a1, .ref 348]) rfl ?_
  refine tk_SIa  rfl rfl ly348 hg1 ?_
  refine tk_Ps  1 (pc' := 14) (ls' := [(0, .ref 295), (1, .int a1)]) (st' := [.int a1]) rfl ?_
  replace h := Option.some.inj h
  subst h
  exact tk_RI  rfl rfl rfl
theorem ok_fZ_floorMod_I (sc : tk_X) (a1 : Int32) (a2 : Int32) (m : tk_m) {out : Int32} (h : fZ_floorMod_I a1 a2 = some out) : tk_Ru sc 1 240 [.int a1, .int a2] (tk_full m) (some (.int out), tk_full m) := by
  unfold fZ_floorMod_I at h
  refine tk_Ru0 me240 (ls := [(0, .int a1), (1, .int a2)]) rfl rfl ?_
  refine tk_Ps  2 (pc' := 2) (ls' := [(0, .int a1), (1, .int a2)]) (st' := [.int a2, .int a1]) rfl ?_
  obtain ⟨hz1, h⟩ := tk_grn h
  refine tk_iremR  rfl rfl hz1 ?_
  refine tk_Ps  4 (pc' := 7) (ls' := [(2, .int (tk_irem a1 a2)), (0, .int a1), (1, .int a2)]) (st' := [.int (a1 ^^^ a2)]) rfl ?_
  by_cases hc2 : 0 ≤ (a1 ^^^ a2)
  · replace h := tk_ifT hc2 h
    refine tk_bT  rfl rfl rfl (c := 0 ≤ (a1 ^^^ a2)) hc2 (pc' := 18) (ls' := [(2, .int (tk_irem a1 a2)), (0, .int a1), (1, .int a2)]) (st' := []) ?_
    refine tk_Ps  1 (pc' := 19) (ls' := [(2, .int (tk_irem a1 a2)), (0, .int a1), (1, .int a2)]) (st' := [.int (tk_irem a1 a2)]) rfl ?_
    replace h := Option.some.inj h
    subst h
    exact tk_RI  rfl rfl rfl
  · replace h := tk_ifF hc2 h
    refine tk_bF  rfl rfl rfl (c := 0 ≤ (a1 ^^^ a2)) hc2 (pc' := 10) (ls' := [(2, .int (tk_irem a1 a2)), (0, .int a1), (1, .int a2)]) (st' := []) ?_
    refine tk_Ps  1 (pc' := 11) (ls' := [(2, .int (tk_irem a1 a2)), (0, .int a1), (1, .int a2)]) (st' := [.int (tk_irem a1 a2)]) rfl ?_
    by_cases hc3 : (tk_irem a1 a2) = 0
    · replace h := tk_ifT hc3 h
      refine tk_bT  rfl rfl rfl (c := (tk_irem a1 a2) = 0) hc3 (pc' := 18) (ls' := [(2, .int (tk_irem a1 a2)), (0, .int a1), (1, .int a2)]) (st' := []) ?_
      refine tk_Ps  1 (pc' := 19) (ls' := [(2, .int (tk_irem a1 a2)), (0, .int a1), (1, .int a2)]) (st' := [.int (tk_irem a1 a2)]) rfl ?_
      replace h := Option.some.inj h
      subst h
      exact tk_RI  rfl rfl rfl
    · replace h := tk_ifF hc3 h
      refine tk_bF  rfl rfl rfl (c := (tk_irem a1 a2) = 0) hc3 (pc' := 14) (ls' := [(2, .int (tk_irem a1 a2)), (0, .int a1), (1, .int a2)]) (st' := []) ?_
      refine tk_Ps  3 (pc' := 17) (ls' := [(2, .int (tk_irem a1 a2)), (0, .int a1), (1, .int a2)]) (st' := [.int ((tk_irem a1 a2) + a2)]) rfl ?_
      replace h := Option.some.inj h
      subst h
      exact tk_RI  rfl rfl rfl
theorem ok_fZ_floorDiv_I (sc : tk_X) (a1 : Int32) (a2 : Int32) (m : tk_m) {out : Int32} (h : fZ_floorDiv_I a1 a2 = some out) : tk_Ru sc 1 241 [.int a1, .int a2] (tk_full m) (some (.int out), tk_full m) := by
  unfold fZ_floorDiv_I at h
  refine tk_Ru0 me241 (ls := [(0, .int a1), (1, .int a2)]) rfl rfl ?_
  refine tk_Ps  2 (pc' := 2) (ls' := [(0, .int a1), (1, .int a2)]) (st' := [.int a2, .int a1]) rfl ?_
  obtain ⟨hz1, h⟩ := tk_grn h
  refine tk_idiv  rfl rfl hz1 ?_
  refine tk_Ps  4 (pc' := 7) (ls' := [(2, .int (a1 / a2)), (0, .int a1), (1, .int a2)]) (st' := [.int (a1 ^^^ a2)]) rfl ?_
  by_cases hc2 : 0 ≤ (a1 ^^^ a2)
  · replace h := tk_ifT hc2 h
    refine tk_bT  rfl rfl rfl (c := 0 ≤ (a1 ^^^ a2)) hc2 (pc' := 21) (ls' := [(2, .int (a1 / a2)), (0, .int a1), (1, .int a2)]) (st' := []) ?_
    refine tk_Ps  1 (pc' := 22) (ls' := [(2, .int (a1 / a2)), (0, .int a1), (1, .int a2)]) (st' := [.int (a1 / a2)]) rfl ?_
    replace h := Option.some.inj h
    subst h
    exact tk_RI  rfl rfl rfl
  · replace h := tk_ifF hc2 h
    refine tk_bF  rfl rfl rfl (c := 0 ≤ (a1 ^^^ a2)) hc2 (pc' := 10) (ls' := [(2, .int (a1 / a2)), (0, .int a1), (1, .int a2)]) (st' := []) ?_
    refine tk_Ps  4 (pc' := 14) (ls' := [(2, .int (a1 / a2)), (0, .int a1), (1, .int a2)]) (st' := [.int a1, .int ((a1 / a2) * a2)]) rfl ?_
    by_cases hc3 : ((a1 / a2) * a2) = a1
    · replace h := tk_ifT hc3 h
      refine tk_bT  rfl rfl rfl (c := ((a1 / a2) * a2) = a1) hc3 (pc' := 21) (ls' := [(2, .int (a1 / a2)), (0, .int a1), (1, .int a2)]) (st' := []) ?_
      refine tk_Ps  1 (pc' := 22) (ls' := [(2, .int (a1 / a2)), (0, .int a1), (1, .int a2)]) (st' := [.int (a1 / a2)]) rfl ?_
      replace h := Option.some.inj h
      subst h
      exact tk_RI  rfl rfl rfl
    · replace h := tk_ifF hc3 h
      refine tk_bF  rfl rfl rfl (c := ((a1 / a2) * a2) = a1) hc3 (pc' := 17) (ls' := [(2, .int (a1 / a2)), (0, .int a1), (1, .int a2)]) (st' := []) ?_
      refine tk_Ps  3 (pc' := 20) (ls' := [(2, .int (a1 / a2)), (0, .int a1), (1, .int a2)]) (st' := [.int ((a1 / a2) - (1 : Int32))]) rfl ?_
      replace h := Option.some.inj h
      subst h
      exact tk_RI  rfl rfl rfl
theorem ok_fM_plusWide_177 (sc : tk_X) (r131 : Int32 → Int32 → Int32 → Int32 → Int32 → Int32 → tk_m → Option (Int32 × tk_m)) (H131 : ∀ (v3 : Int32) (v4 : Int32) (v5 : Int32) (v6 : Int32) (v7 : Int32) (v8 : Int32) (m : tk_m) (out : (Int32 × tk_m)), r131 v3 v4 v5 v6 v7 v8 m = some out → tk_Ex sc 1 tk_r239 tk_k239 131 [(0, .ref 295), (3, .int v3), (4, .int v4), (5, .int v5), (6, .int v6), (7, .int v7), (8, .int v8)] [] (tk_full m) (some (.int out.1), tk_full out.2)) (v3 : Int32) (v4 : Int32) (v5 : Int32) (v6 : Int32) (v7 : Int32) (v8 : Int32) (s0 : Int32) (s1 : Int32) (m : tk_m) (out : Int32 × tk_m) (h : fM_plusWide_177 r131 v3 v4 v5 v6 v7 v8 s0 s1 m = some out) : tk_Ex sc 1 tk_r239 tk_k239 177 [(0, .ref 295), (3, .int v3), (4, .int v4), (5, .int v5), (6, .int v6), (7, .int v7), (8, .int v8)] [.int s0, .int s1] (tk_full m) (some (.int out.1), tk_full out.2) := by
  unfold fM_plusWide_177 at h
  refine tk_Ps  5 (pc' := 184) (ls' := [(9, .int ((s1 + s0) + v7)), (0, .ref 295), (3, .int v3), (4, .int v4), (5, .int v5), (6, .int v6), (7, .int v7), (8, .int v8)]) (st' := [.ref 295]) rfl ?_
  refine tk_HR  rfl rfl ly295 rt295_7 ?_
  refine tk_Ps  1 (pc' := 188) (ls' := [(9, .int ((s1 + s0) + v7)), (0, .ref 295), (3, .int v3), (4, .int v4), (5, .int v5), (6, .int v6), (7, .int v7), (8, .int v8)]) (st' := [.int v3, .ref 307]) rfl ?_
  obtain ⟨hg1, h⟩ := tk_grd h
  refine tk_HQ  rfl rfl ly307 hg1 (la307 _ (hg1).2).1 ?_
  refine tk_Ps  3 (pc' := 196) (ls' := [(9, .int ((s1 + s0) + v7)), (0, .ref 295), (3, .int v3), (4, .int v4), (5, .int v5), (6, .int v6), (7, .int v7), (8, .int v8)]) (st' := [.int (10000 : Int32), .int ((s1 + s0) + v7), .int v8, .ref (308 + (tk_n v3))]) rfl ?_
  obtain ⟨o2, ho2, h⟩ := tk_bnd h
  refine tk_cS1  rfl rfl (as := [.int ((s1 + s0) + v7), .int (10000 : Int32)]) (rest := [.int v8, .ref (308 + (tk_n v3))]) rfl rfl rfl (ok_fZ_floorMod_I sc ((s1 + s0) + v7) (10000 : Int32) m ho2) ?_
  obtain ⟨hg3, h⟩ := tk_grd h
  refine tk_SIa  rfl rfl ((la307 _ (hg1).2).2) hg3 ?_
  refine tk_Ps  2 (pc' := 205) (ls' := [(9, .int ((s1 + s0) + v7)), (0, .ref 295), (3, .int v3), (4, .int v4), (5, .int v5), (6, .int v6), (7, .int v7), (8, .int v8)]) (st' := [.int (10000 : Int32), .int ((s1 + s0) + v7)]) rfl ?_
  obtain ⟨o4, ho4, h⟩ := tk_bnd h
  refine tk_cS1  rfl rfl (as := [.int ((s1 + s0) + v7), .int (10000 : Int32)]) (rest := []) rfl rfl rfl (ok_fZ_floorDiv_I sc ((s1 + s0) + v7) (10000 : Int32) (tk_u2 m.1 (308 + (tk_n v3)) (tk_n v8) o2, m.2.1, m.2.2.1, m.2.2.2) ho4) ?_
  refine tk_Ps  3 (pc' := 131) (ls' := [(8, .int (v8 + (1 : Int32))), (7, .int o4), (9, .int ((s1 + s0) + v7)), (0, .ref 295), (3, .int v3), (4, .int v4), (5, .int v5), (6, .int v6)]) (st' := []) rfl ?_
  refine tk_Kp  (ls' := [(0, .ref 295), (3, .int v3), (4, .int v4), (5, .int v5), (6, .int v6), (7, .int o4), (8, .int (v8 + (1 : Int32)))]) rfl rfl ?_
  exact H131 v3 v4 v5 v6 o4 (v8 + (1 : Int32)) (tk_u2 m.1 (308 + (tk_n v3)) (tk_n v8) o2, m.2.1, m.2.2.1, m.2.2.2) _ h
theorem ok_fM_plusWide_131 (sc : tk_X) : ∀ (n : Nat) (v3 : Int32) (v4 : Int32) (v5 : Int32) (v6 : Int32) (v7 : Int32) (v8 : Int32) (m : tk_m) (out : Int32 × tk_m), fM_plusWide_131 n v3 v4 v5 v6 v7 v8 m = some out → tk_Ex sc 1 tk_r239 tk_k239 131 [(0, .ref 295), (3, .int v3), (4, .int v4), (5, .int v5), (6, .int v6), (7, .int v7), (8, .int v8)] [] (tk_full m) (some (.int out.1), tk_full out.2) := by
  intro n
  induction n with
  | zero =>
    intro v3 v4 v5 v6 v7 v8 m out h
    cases h
  | succ n ih =>
    intro v3 v4 v5 v6 v7 v8 m out h
    unfold fM_plusWide_131 at h
    refine tk_Ps  2 (pc' := 135) (ls' := [(0, .ref 295), (3, .int v3), (4, .int v4), (5, .int v5), (6, .int v6), (7, .int v7), (8, .int v8)]) (st' := [.int (60 : Int32), .int v8]) rfl ?_
    by_cases hc1 : (60 : Int32) ≤ v8
    · replace h := tk_ifT hc1 h
      refine tk_bT  rfl rfl rfl (c := (60 : Int32) ≤ v8) hc1 (pc' := 216) (ls' := [(0, .ref 295), (3, .int v3), (4, .int v4), (5, .int v5), (6, .int v6), (7, .int v7), (8, .int v8)]) (st' := []) ?_
      refine tk_Ps  1 (pc' := 217) (ls' := [(0, .ref 295), (3, .int v3), (4, .int v4), (5, .int v5), (6, .int v6), (7, .int v7), (8, .int v8)]) (st' := [.int v3]) rfl ?_
      replace h := Option.some.inj h
      subst h
      exact tk_RI  rfl rfl rfl
    · replace h := tk_ifF hc1 h
      refine tk_bF  rfl rfl rfl (c := (60 : Int32) ≤ v8) hc1 (pc' := 138) (ls' := [(0, .ref 295), (3, .int v3), (4, .int v4), (5, .int v5), (6, .int v6), (7, .int v7), (8, .int v8)]) (st' := []) ?_
      refine tk_Ps  1 (pc' := 139) (ls' := [(0, .ref 295), (3, .int v3), (4, .int v4), (5, .int v5), (6, .int v6), (7, .int v7), (8, .int v8)]) (st' := [.ref 295]) rfl ?_
      refine tk_HR  rfl rfl ly295 rt295_7 ?_
      refine tk_Ps  1 (pc' := 144) (ls' := [(0, .ref 295), (3, .int v3), (4, .int v4), (5, .int v5), (6, .int v6), (7, .int v7), (8, .int v8)]) (st' := [.int v5, .ref 307]) rfl ?_
      obtain ⟨hg2, h⟩ := tk_grd h
      refine tk_HQ  rfl rfl ly307 hg2 (la307 _ (hg2).2).1 ?_
      refine tk_Ps  1 (pc' := 147) (ls' := [(0, .ref 295), (3, .int v3), (4, .int v4), (5, .int v5), (6, .int v6), (7, .int v7), (8, .int v8)]) (st' := [.int v8, .ref (308 + (tk_n v5))]) rfl ?_
      obtain ⟨hg3, h⟩ := tk_grd h
      refine tk_HIa  rfl rfl ((la307 _ (hg2).2).2) hg3 ?_
      refine tk_Ps  1 (pc' := 150) (ls' := [(0, .ref 295), (3, .int v3), (4, .int v4), (5, .int v5), (6, .int v6), (7, .int v7), (8, .int v8)]) (st' := [.int v4, .int (m.1 (308 + (tk_n v5)) (tk_n v8))]) rfl ?_
      by_cases hc4 : v4 = 0
      · replace h := tk_ifT hc4 h
        refine tk_bT  rfl rfl rfl (c := v4 = 0) hc4 (pc' := 166) (ls' := [(0, .ref 295), (3, .int v3), (4, .int v4), (5, .int v5), (6, .int v6), (7, .int v7), (8, .int v8)]) (st' := [.int (m.1 (308 + (tk_n v5)) (tk_n v8))]) ?_
        refine tk_Ps  1 (pc' := 167) (ls' := [(0, .ref 295), (3, .int v3), (4, .int v4), (5, .int v5), (6, .int v6), (7, .int v7), (8, .int v8)]) (st' := [.ref 295, .int (m.1 (308 + (tk_n v5)) (tk_n v8))]) rfl ?_
        refine tk_HR  rfl rfl ly295 rt295_7 ?_
        refine tk_Ps  1 (pc' := 172) (ls' := [(0, .ref 295), (3, .int v3), (4, .int v4), (5, .int v5), (6, .int v6), (7, .int v7), (8, .int v8)]) (st' := [.int v6, .ref 307, .int (m.1 (308 + (tk_n v5)) (tk_n v8))]) rfl ?_
        obtain ⟨hg5, h⟩ := tk_grd h
        refine tk_HQ  rfl rfl ly307 hg5 (la307 _ (hg5).2).1 ?_
        refine tk_Ps  1 (pc' := 175) (ls' := [(0, .ref 295), (3, .int v3), (4, .int v4), (5, .int v5), (6, .int v6), (7, .int v7), (8, .int v8)]) (st' := [.int v8, .ref (308 + (tk_n v6)), .int (m.1 (308 + (tk_n v5)) (tk_n v8))]) rfl ?_
        refine tk_HIa  rfl rfl ((la307 _ (hg5).2).2) hg3 ?_
        refine tk_Ps  1 (pc' := 177) (ls' := [(0, .ref 295), (3, .int v3), (4, .int v4), (5, .int v5), (6, .int v6), (7, .int v7), (8, .int v8)]) (st' := [.int (-(m.1 (308 + (tk_n v6)) (tk_n v8))), .int (m.1 (308 + (tk_n v5)) (tk_n v8))]) rfl ?_
        refine tk_Kp  (ls' := [(0, .ref 295), (3, .int v3), (4, .int v4), (5, .int v5), (6, .int v6), (7, .int v7), (8, .int v8)]) rfl rfl ?_
        exact ok_fM_plusWide_177 sc (fM_plusWide_131 n) ih v3 v4 v5 v6 v7 v8 (-(m.1 (308 + (tk_n v6)) (tk_n v8))) (m.1 (308 + (tk_n v5)) (tk_n v8)) m _ h
      · replace h := tk_ifF hc4 h
        refine tk_bF  rfl rfl rfl (c := v4 = 0) hc4 (pc' := 153) (ls' := [(0, .ref 295), (3, .int v3), (4, .int v4), (5, .int v5), (6, .int v6), (7, .int v7), (8, .int v8)]) (st' := [.int (m.1 (308 + (tk_n v5)) (tk_n v8))]) ?_
        refine tk_Ps  1 (pc' := 154) (ls' := [(0, .ref 295), (3, .int v3), (4, .int v4), (5, .int v5), (6, .int v6), (7, .int v7), (8, .int v8)]) (st' := [.ref 295, .int (m.1 (308 + (tk_n v5)) (tk_n v8))]) rfl ?_
        refine tk_HR  rfl rfl ly295 rt295_7 ?_
        refine tk_Ps  1 (pc' := 159) (ls' := [(0, .ref 295), (3, .int v3), (4, .int v4), (5, .int v5), (6, .int v6), (7, .int v7), (8, .int v8)]) (st' := [.int v6, .ref 307, .int (m.1 (308 + (tk_n v5)) (tk_n v8))]) rfl ?_
        obtain ⟨hg6, h⟩ := tk_grd h
        refine tk_HQ  rfl rfl ly307 hg6 (la307 _ (hg6).2).1 ?_
        refine tk_Ps  1 (pc' := 162) (ls' := [(0, .ref 295), (3, .int v3), (4, .int v4), (5, .int v5), (6, .int v6), (7, .int v7), (8, .int v8)]) (st' := [.int v8, .ref (308 + (tk_n v6)), .int (m.1 (308 + (tk_n v5)) (tk_n v8))]) rfl ?_
        refine tk_HIa  rfl rfl ((la307 _ (hg6).2).2) hg3 ?_
        refine tk_Ps  1 (pc' := 177) (ls' := [(0, .ref 295), (3, .int v3), (4, .int v4), (5, .int v5), (6, .int v6), (7, .int v7), (8, .int v8)]) (st' := [.int (m.1 (308 + (tk_n v6)) (tk_n v8)), .int (m.1 (308 + (tk_n v5)) (tk_n v8))]) rfl ?_
        refine tk_Kp  (ls' := [(0, .ref 295), (3, .int v3), (4, .int v4), (5, .int v5), (6, .int v6), (7, .int v7), (8, .int v8)]) rfl rfl ?_
        exact ok_fM_plusWide_177 sc (fM_plusWide_131 n) ih v3 v4 v5 v6 v7 v8 (m.1 (308 + (tk_n v6)) (tk_n v8)) (m.1 (308 + (tk_n v5)) (tk_n v8)) m _ h
theorem ok_fM_plusWide_65 (sc : tk_X) (v1 : Int32) (v2 : Int32) (v3 : Int32) (v4 : Int32) (v5 : Int32) (s0 : Int32) (m : tk_m) (out : Int32 × tk_m) (h : fM_plusWide_65 v1 v2 v3 v4 v5 s0 m = some out) : tk_Ex sc 1 tk_r239 tk_k239 65 [(0, .ref 295), (1, .int v1), (2, .int v2), (3, .int v3), (4, .int v4), (5, .int v5)] [.int s0] (tk_full m) (some (.int out.1), tk_full out.2) := by
  unfold fM_plusWide_65 at h
  refine tk_Ps  2 (pc' := 68) (ls' := [(6, .int s0), (0, .ref 295), (1, .int v1), (2, .int v2), (3, .int v3), (4, .int v4), (5, .int v5)]) (st' := [.ref 295]) rfl ?_
  refine tk_HR  rfl rfl ly295 rt295_8 ?_
  refine tk_Ps  2 (pc' := 74) (ls' := [(6, .int s0), (0, .ref 295), (1, .int v1), (2, .int v2), (3, .int v3), (4, .int v4), (5, .int v5)]) (st' := [.int v4, .int v3, .ref 348]) rfl ?_
  by_cases hc1 : v4 = 0
  · replace h := tk_ifT hc1 h
    refine tk_bT  rfl rfl rfl (c := v4 = 0) hc1 (pc' := 104) (ls' := [(6, .int s0), (0, .ref 295), (1, .int v1), (2, .int v2), (3, .int v3), (4, .int v4), (5, .int v5)]) (st' := [.int v3, .ref 348]) ?_
    refine tk_Ps  3 (pc' := 107) (ls' := [(6, .int s0), (0, .ref 295), (1, .int v1), (2, .int v2), (3, .int v3), (4, .int v4), (5, .int v5)]) (st' := [.int v2, .int v1, .ref 295, .int v3, .ref 348]) rfl ?_
    obtain ⟨o2, ho2, h⟩ := tk_bnd h
    refine tk_cV1  rfl rfl (r := 295) (as := [.int v1, .int v2]) (rest := [.int v3, .ref 348]) rfl ly295 rfl rfl (ok_fM_compareSizes sc v1 v2 m ho2) ?_
    by_cases hc3 : o2 = 0
    · replace h := tk_ifT hc3 h
      refine tk_bT  rfl rfl rfl (c := o2 = 0) hc3 (pc' := 113) (ls' := [(6, .int s0), (0, .ref 295), (1, .int v1), (2, .int v2), (3, .int v3), (4, .int v4), (5, .int v5)]) (st' := [.int v3, .ref 348]) ?_
      refine tk_Ps  2 (pc' := 124) (ls' := [(6, .int s0), (0, .ref 295), (1, .int v1), (2, .int v2), (3, .int v3), (4, .int v4), (5, .int v5)]) (st' := [.int (0 : Int32), .int v3, .ref 348]) rfl ?_
      obtain ⟨hg4, h⟩ := tk_grd h
      refine tk_SIa  rfl rfl ly348 hg4 ?_
      refine tk_Ps  4 (pc' := 131) (ls' := [(8, .int (0 : Int32)), (7, .int (0 : Int32)), (6, .int s0), (0, .ref 295), (1, .int v1), (2, .int v2), (3, .int v3), (4, .int v4), (5, .int v5)]) (st' := []) rfl ?_
      refine tk_Kp  (ls' := [(0, .ref 295), (3, .int v3), (4, .int v4), (5, .int v5), (6, .int s0), (7, .int (0 : Int32)), (8, .int (0 : Int32))]) rfl rfl ?_
      exact ok_fM_plusWide_131 sc tk_F v3 v4 v5 s0 (0 : Int32) (0 : Int32) (tk_u2 m.1 348 (tk_n v3) (0 : Int32), m.2.1, m.2.2.1, m.2.2.2) _ h
    · replace h := tk_ifF hc3 h
      refine tk_bF  rfl rfl rfl (c := o2 = 0) hc3 (pc' := 117) (ls' := [(6, .int s0), (0, .ref 295), (1, .int v1), (2, .int v2), (3, .int v3), (4, .int v4), (5, .int v5)]) (st' := [.int v3, .ref 348]) ?_
      refine tk_Ps  1 (pc' := 118) (ls' := [(6, .int s0), (0, .ref 295), (1, .int v1), (2, .int v2), (3, .int v3), (4, .int v4), (5, .int v5)]) (st' := [.ref 295, .int v3, .ref 348]) rfl ?_
      refine tk_HR  rfl rfl ly295 rt295_8 ?_
      refine tk_Ps  1 (pc' := 123) (ls' := [(6, .int s0), (0, .ref 295), (1, .int v1), (2, .int v2), (3, .int v3), (4, .int v4), (5, .int v5)]) (st' := [.int v5, .ref 348, .int v3, .ref 348]) rfl ?_
      obtain ⟨hg5, h⟩ := tk_grd h
      refine tk_HIa  rfl rfl ly348 hg5 ?_
      obtain ⟨hg6, h⟩ := tk_grd h
      refine tk_SIa  rfl rfl ly348 hg6 ?_
      refine tk_Ps  4 (pc' := 131) (ls' := [(8, .int (0 : Int32)), (7, .int (0 : Int32)), (6, .int s0), (0, .ref 295), (1, .int v1), (2, .int v2), (3, .int v3), (4, .int v4), (5, .int v5)]) (st' := []) rfl ?_
      refine tk_Kp  (ls' := [(0, .ref 295), (3, .int v3), (4, .int v4), (5, .int v5), (6, .int s0), (7, .int (0 : Int32)), (8, .int (0 : Int32))]) rfl rfl ?_
      exact ok_fM_plusWide_131 sc tk_F v3 v4 v5 s0 (0 : Int32) (0 : Int32) (tk_u2 m.1 348 (tk_n v3) (m.1 348 (tk_n v5)), m.2.1, m.2.2.1, m.2.2.2) _ h
  · replace h := tk_ifF hc1 h
    refine tk_bF  rfl rfl rfl (c := v4 = 0) hc1 (pc' := 77) (ls' := [(6, .int s0), (0, .ref 295), (1, .int v1), (2, .int v2), (3, .int v3), (4, .int v4), (5, .int v5)]) (st' := [.int v3, .ref 348]) ?_
    refine tk_Ps  1 (pc' := 78) (ls' := [(6, .int s0), (0, .ref 295), (1, .int v1), (2, .int v2), (3, .int v3), (4, .int v4), (5, .int v5)]) (st' := [.ref 295, .int v3, .ref 348]) rfl ?_
    refine tk_HR  rfl rfl ly295 rt295_8 ?_
    refine tk_Ps  1 (pc' := 82) (ls' := [(6, .int s0), (0, .ref 295), (1, .int v1), (2, .int v2), (3, .int v3), (4, .int v4), (5, .int v5)]) (st' := [.int v1, .ref 348, .int v3, .ref 348]) rfl ?_
    obtain ⟨hg7, h⟩ := tk_grd h
    refine tk_HIa  rfl rfl ly348 hg7 ?_
    by_cases hc8 : (m.1 348 (tk_n v1)) = 0
    · replace h := tk_ifT hc8 h
      refine tk_bT  rfl rfl rfl (c := (m.1 348 (tk_n v1)) = 0) hc8 (pc' := 95) (ls' := [(6, .int s0), (0, .ref 295), (1, .int v1), (2, .int v2), (3, .int v3), (4, .int v4), (5, .int v5)]) (st' := [.int v3, .ref 348]) ?_
      refine tk_Ps  1 (pc' := 96) (ls' := [(6, .int s0), (0, .ref 295), (1, .int v1), (2, .int v2), (3, .int v3), (4, .int v4), (5, .int v5)]) (st' := [.ref 295, .int v3, .ref 348]) rfl ?_
      refine tk_HR  rfl rfl ly295 rt295_8 ?_
      refine tk_Ps  1 (pc' := 100) (ls' := [(6, .int s0), (0, .ref 295), (1, .int v1), (2, .int v2), (3, .int v3), (4, .int v4), (5, .int v5)]) (st' := [.int v2, .ref 348, .int v3, .ref 348]) rfl ?_
      obtain ⟨hg9, h⟩ := tk_grd h
      refine tk_HIa  rfl rfl ly348 hg9 ?_
      refine tk_Ps  1 (pc' := 124) (ls' := [(6, .int s0), (0, .ref 295), (1, .int v1), (2, .int v2), (3, .int v3), (4, .int v4), (5, .int v5)]) (st' := [.int (m.1 348 (tk_n v2)), .int v3, .ref 348]) rfl ?_
      obtain ⟨hg10, h⟩ := tk_grd h
      refine tk_SIa  rfl rfl ly348 hg10 ?_
      refine tk_Ps  4 (pc' := 131) (ls' := [(8, .int (0 : Int32)), (7, .int (0 : Int32)), (6, .int s0), (0, .ref 295), (1, .int v1), (2, .int v2), (3, .int v3), (4, .int v4), (5, .int v5)]) (st' := []) rfl ?_
      refine tk_Kp  (ls' := [(0, .ref 295), (3, .int v3), (4, .int v4), (5, .int v5), (6, .int s0), (7, .int (0 : Int32)), (8, .int (0 : Int32))]) rfl rfl ?_
      exact ok_fM_plusWide_131 sc tk_F v3 v4 v5 s0 (0 : Int32) (0 : Int32) (tk_u2 m.1 348 (tk_n v3) (m.1 348 (tk_n v2)), m.2.1, m.2.2.1, m.2.2.2) _ h
    · replace h := tk_ifF hc8 h
      refine tk_bF  rfl rfl rfl (c := (m.1 348 (tk_n v1)) = 0) hc8 (pc' := 86) (ls' := [(6, .int s0), (0, .ref 295), (1, .int v1), (2, .int v2), (3, .int v3), (4, .int v4), (5, .int v5)]) (st' := [.int v3, .ref 348]) ?_
      refine tk_Ps  1 (pc' := 87) (ls' := [(6, .int s0), (0, .ref 295), (1, .int v1), (2, .int v2), (3, .int v3), (4, .int v4), (5, .int v5)]) (st' := [.ref 295, .int v3, .ref 348]) rfl ?_
      refine tk_HR  rfl rfl ly295 rt295_8 ?_
      refine tk_Ps  1 (pc' := 91) (ls' := [(6, .int s0), (0, .ref 295), (1, .int v1), (2, .int v2), (3, .int v3), (4, .int v4), (5, .int v5)]) (st' := [.int v1, .ref 348, .int v3, .ref 348]) rfl ?_
      refine tk_HIa  rfl rfl ly348 hg7 ?_
      refine tk_Ps  1 (pc' := 124) (ls' := [(6, .int s0), (0, .ref 295), (1, .int v1), (2, .int v2), (3, .int v3), (4, .int v4), (5, .int v5)]) (st' := [.int (m.1 348 (tk_n v1)), .int v3, .ref 348]) rfl ?_
      obtain ⟨hg11, h⟩ := tk_grd h
      refine tk_SIa  rfl rfl ly348 hg11 ?_
      refine tk_Ps  4 (pc' := 131) (ls' := [(8, .int (0 : Int32)), (7, .int (0 : Int32)), (6, .int s0), (0, .ref 295), (1, .int v1), (2, .int v2), (3, .int v3), (4, .int v4), (5, .int v5)]) (st' := []) rfl ?_
      refine tk_Kp  (ls' := [(0, .ref 295), (3, .int v3), (4, .int v4), (5, .int v5), (6, .int s0), (7, .int (0 : Int32)), (8, .int (0 : Int32))]) rfl rfl ?_
      exact ok_fM_plusWide_131 sc tk_F v3 v4 v5 s0 (0 : Int32) (0 : Int32) (tk_u2 m.1 348 (tk_n v3) (m.1 348 (tk_n v1)), m.2.1, m.2.2.1, m.2.2.2) _ h
theorem ok_fM_plusWide_36 (sc : tk_X) (v1 : Int32) (v2 : Int32) (v3 : Int32) (s0 : Int32) (m : tk_m) (out : Int32 × tk_m) (h : fM_plusWide_36 v1 v2 v3 s0 m = some out) : tk_Ex sc 1 tk_r239 tk_k239 36 [(0, .ref 295), (1, .int v1), (2, .int v2), (3, .int v3)] [.int s0] (tk_full m) (some (.int out.1), tk_full out.2) := by
  unfold fM_plusWide_36 at h
  refine tk_Ps  4 (pc' := 41) (ls' := [(4, .int s0), (0, .ref 295), (1, .int v1), (2, .int v2), (3, .int v3)]) (st' := [.int v2, .int v1, .ref 295]) rfl ?_
  obtain ⟨o1, ho1, h⟩ := tk_bnd h
  refine tk_cV1  rfl rfl (r := 295) (as := [.int v1, .int v2]) (rest := []) rfl ly295 rfl rfl (ok_fM_compareSizes sc v1 v2 m ho1) ?_
  by_cases hc2 : 0 ≤ o1
  · replace h := tk_ifT hc2 h
    refine tk_bT  rfl rfl rfl (c := 0 ≤ o1) hc2 (pc' := 51) (ls' := [(4, .int s0), (0, .ref 295), (1, .int v1), (2, .int v2), (3, .int v3)]) (st' := []) ?_
    refine tk_Ps  4 (pc' := 57) (ls' := [(5, .int v1), (4, .int s0), (0, .ref 295), (1, .int v1), (2, .int v2), (3, .int v3)]) (st' := [.int v1, .int v1]) rfl ?_
    by_cases hc3 : v1 = v1
    · replace h := tk_ifT hc3 h
      refine tk_bT  rfl rfl rfl (c := v1 = v1) hc3 (pc' := 60) (ls' := [(5, .int v1), (4, .int s0), (0, .ref 295), (1, .int v1), (2, .int v2), (3, .int v3)]) (st' := []) ?_
      refine tk_Ps  2 (pc' := 65) (ls' := [(5, .int v1), (4, .int s0), (0, .ref 295), (1, .int v1), (2, .int v2), (3, .int v3)]) (st' := [.int v2]) rfl ?_
      refine tk_Kp  (ls' := [(0, .ref 295), (1, .int v1), (2, .int v2), (3, .int v3), (4, .int s0), (5, .int v1)]) rfl rfl ?_
      exact ok_fM_plusWide_65 sc v1 v2 v3 s0 v1 v2 m _ h
    · replace h := tk_ifF hc3 h
      refine tk_bF  rfl rfl rfl (c := v1 = v1) hc3 (pc' := 64) (ls' := [(5, .int v1), (4, .int s0), (0, .ref 295), (1, .int v1), (2, .int v2), (3, .int v3)]) (st' := []) ?_
      refine tk_Ps  1 (pc' := 65) (ls' := [(5, .int v1), (4, .int s0), (0, .ref 295), (1, .int v1), (2, .int v2), (3, .int v3)]) (st' := [.int v1]) rfl ?_
      refine tk_Kp  (ls' := [(0, .ref 295), (1, .int v1), (2, .int v2), (3, .int v3), (4, .int s0), (5, .int v1)]) rfl rfl ?_
      exact ok_fM_plusWide_65 sc v1 v2 v3 s0 v1 v1 m _ h
  · replace h := tk_ifF hc2 h
    refine tk_bF  rfl rfl rfl (c := 0 ≤ o1) hc2 (pc' := 47) (ls' := [(4, .int s0), (0, .ref 295), (1, .int v1), (2, .int v2), (3, .int v3)]) (st' := []) ?_
    refine tk_Ps  5 (pc' := 57) (ls' := [(5, .int v2), (4, .int s0), (0, .ref 295), (1, .int v1), (2, .int v2), (3, .int v3)]) (st' := [.int v1, .int v2]) rfl ?_
    by_cases hc4 : v2 = v1
    · replace h := tk_ifT hc4 h
      refine tk_bT  rfl rfl rfl (c := v2 = v1) hc4 (pc' := 60) (ls' := [(5, .int v2), (4, .int s0), (0, .ref 295), (1, .int v1), (2, .int v2), (3, .int v3)]) (st' := []) ?_
      refine tk_Ps  2 (pc' := 65) (ls' := [(5, .int v2), (4, .int s0), (0, .ref 295), (1, .int v1), (2, .int v2), (3, .int v3)]) (st' := [.int v2]) rfl ?_
      refine tk_Kp  (ls' := [(0, .ref 295), (1, .int v1), (2, .int v2), (3, .int v3), (4, .int s0), (5, .int v2)]) rfl rfl ?_
      exact ok_fM_plusWide_65 sc v1 v2 v3 s0 v2 v2 m _ h
    · replace h := tk_ifF hc4 h
      refine tk_bF  rfl rfl rfl (c := v2 = v1) hc4 (pc' := 64) (ls' := [(5, .int v2), (4, .int s0), (0, .ref 295), (1, .int v1), (2, .int v2), (3, .int v3)]) (st' := []) ?_
      refine tk_Ps  1 (pc' := 65) (ls' := [(5, .int v2), (4, .int s0), (0, .ref 295), (1, .int v1), (2, .int v2), (3, .int v3)]) (st' := [.int v1]) rfl ?_
      refine tk_Kp  (ls' := [(0, .ref 295), (1, .int v1), (2, .int v2), (3, .int v3), (4, .int s0), (5, .int v2)]) rfl rfl ?_
      exact ok_fM_plusWide_65 sc v1 v2 v3 s0 v2 v1 m _ h
theorem ok_fM_plusWide (sc : tk_X) (a1 : Int32) (a2 : Int32) (m : tk_m) {out : Int32 × tk_m} (h : fM_plusWide a1 a2 m = some out) : tk_Ru sc 2 239 [.ref 295, .int a1, .int a2] (tk_full m) (some (.int out.1), tk_full out.2) := by
  unfold fM_plusWide at h
  refine tk_Ru0 me239 (ls := [(0, .ref 295), (1, .int a1), (2, .int a2)]) rfl rfl ?_
  refine tk_Ps  1 (pc' := 1) (ls' := [(0, .ref 295), (1, .int a1), (2, .int a2)]) (st' := [.ref 295]) rfl ?_
  refine tk_HI  rfl rfl ly295 ?_
  refine tk_Ps  3 (pc' := 7) (ls' := [(3, .int (m.1 295 9)), (0, .ref 295), (1, .int a1), (2, .int a2)]) (st' := [.ref 295, .ref 295]) rfl ?_
  refine tk_HI  rfl rfl ly295 ?_
  refine tk_Ps  2 (pc' := 12) (ls' := [(3, .int (m.1 295 9)), (0, .ref 295), (1, .int a1), (2, .int a2)]) (st' := [.int ((m.1 295 9) + (1 : Int32)), .ref 295]) rfl ?_
  refine tk_SI  rfl rfl ly295 ?_
  refine tk_Ps  1 (pc' := 16) (ls' := [(3, .int (m.1 295 9)), (0, .ref 295), (1, .int a1), (2, .int a2)]) (st' := [.ref 295]) rfl ?_
  refine tk_HR  rfl rfl ly295 rt295_8 ?_
  refine tk_Ps  1 (pc' := 20) (ls' := [(3, .int (m.1 295 9)), (0, .ref 295), (1, .int a1), (2, .int a2)]) (st' := [.int a1, .ref 348]) rfl ?_
  obtain ⟨hg1, h⟩ := tk_grd h
  refine tk_HIa  rfl rfl ly348 hg1 ?_
  refine tk_Ps  1 (pc' := 22) (ls' := [(3, .int (m.1 295 9)), (0, .ref 295), (1, .int a1), (2, .int a2)]) (st' := [.ref 295, .int (tk_u2 m.1 295 9 ((m.1 295 9) + (1 : Int32)) 348 (tk_n a1))]) rfl ?_
  refine tk_HR  rfl rfl ly295 rt295_8 ?_
  refine tk_Ps  1 (pc' := 26) (ls' := [(3, .int (m.1 295 9)), (0, .ref 295), (1, .int a1), (2, .int a2)]) (st' := [.int a2, .ref 348, .int (tk_u2 m.1 295 9 ((m.1 295 9) + (1 : Int32)) 348 (tk_n a1))]) rfl ?_
  obtain ⟨hg2, h⟩ := tk_grd h
  refine tk_HIa  rfl rfl ly348 hg2 ?_
  refine tk_Ps  1 (pc' := 28) (ls' := [(3, .int (m.1 295 9)), (0, .ref 295), (1, .int a1), (2, .int a2)]) (st' := [.int ((tk_u2 m.1 295 9 ((m.1 295 9) + (1 : Int32)) 348 (tk_n a1)) * (tk_u2 m.1 295 9 ((m.1 295 9) + (1 : Int32)) 348 (tk_n a2)))]) rfl ?_
  by_cases hc3 : ((tk_u2 m.1 295 9 ((m.1 295 9) + (1 : Int32)) 348 (tk_n a1)) * (tk_u2 m.1 295 9 ((m.1 295 9) + (1 : Int32)) 348 (tk_n a2))) < 0
  · replace h := tk_ifT hc3 h
    refine tk_bT  rfl rfl rfl (c := ((tk_u2 m.1 295 9 ((m.1 295 9) + (1 : Int32)) 348 (tk_n a1)) * (tk_u2 m.1 295 9 ((m.1 295 9) + (1 : Int32)) 348 (tk_n a2))) < 0) hc3 (pc' := 35) (ls' := [(3, .int (m.1 295 9)), (0, .ref 295), (1, .int a1), (2, .int a2)]) (st' := []) ?_
    refine tk_Ps  1 (pc' := 36) (ls' := [(3, .int (m.1 295 9)), (0, .ref 295), (1, .int a1), (2, .int a2)]) (st' := [.int (0 : Int32)]) rfl ?_
    refine tk_Kp  (ls' := [(0, .ref 295), (1, .int a1), (2, .int a2), (3, .int (m.1 295 9))]) rfl rfl ?_
    exact ok_fM_plusWide_36 sc a1 a2 (m.1 295 9) (0 : Int32) (tk_u2 m.1 295 9 ((m.1 295 9) + (1 : Int32)), m.2.1, m.2.2.1, m.2.2.2) _ h
  · replace h := tk_ifF hc3 h
    refine tk_bF  rfl rfl rfl (c := ((tk_u2 m.1 295 9 ((m.1 295 9) + (1 : Int32)) 348 (tk_n a1)) * (tk_u2 m.1 295 9 ((m.1 295 9) + (1 : Int32)) 348 (tk_n a2))) < 0) hc3 (pc' := 31) (ls' := [(3, .int (m.1 295 9)), (0, .ref 295), (1, .int a1), (2, .int a2)]) (st' := []) ?_
    refine tk_Ps  2 (pc' := 36) (ls' := [(3, .int (m.1 295 9)), (0, .ref 295), (1, .int a1), (2, .int a2)]) (st' := [.int (1 : Int32)]) rfl ?_
    refine tk_Kp  (ls' := [(0, .ref 295), (1, .int a1), (2, .int a2), (3, .int (m.1 295 9))]) rfl rfl ?_
    exact ok_fM_plusWide_36 sc a1 a2 (m.1 295 9) (1 : Int32) (tk_u2 m.1 295 9 ((m.1 295 9) + (1 : Int32)), m.2.1, m.2.2.1, m.2.2.2) _ h
set_option maxRecDepth 50000 in
theorem ok_fM_compares_218 (sc : tk_X) (v1 : Nat) (v2 : Nat) (v3 : Int32) (v4 : Int32) (v5 : Int32) (v6 : Int32) (v7 : Int32) (s0 : Int32) (m : tk_m) (hv1 : tk_lay[v1]? = some (.inr (1, tk_al v1))) (hv2 : tk_lay[v2]? = some (.inr (1, tk_al v2))) (out : Int32 × tk_m) (h : fM_compares_218 v1 v2 v3 v4 v5 v6 v7 s0 m = some out) : tk_Ex sc 3 tk_r236 tk_k236 218 [(0, .ref 295), (1, .ref v1), (2, .ref v2), (3, .int v3), (4, .int v4), (5, .int v5), (6, .int v6), (7, .int v7)] [.int s0] (tk_full m) (some (.int out.1), tk_full out.2) := by
  unfold fM_compares_218 at h
  refine tk_Ps  2 (pc' := 221) (ls' := [(8, .int s0), (0, .ref 295), (1, .ref v1), (2, .ref v2), (3, .int v3), (4, .int v4), (5, .int v5), (6, .int v6), (7, .int v7)]) (st' := [.ref 295]) rfl ?_
  refine tk_HR  rfl rfl ly295 rt295_8 ?_
  refine tk_Ps  1 (pc' := 225) (ls' := [(8, .int s0), (0, .ref 295), (1, .ref v1), (2, .ref v2), (3, .int v3), (4, .int v4), (5, .int v5), (6, .int v6), (7, .int v7)]) (st' := [.int v3, .ref 348]) rfl ?_
  obtain ⟨hg1, h⟩ := tk_grd h
  refine tk_HIa  rfl rfl ly348 hg1 ?_
  by_cases hc2 : (m.1 348 (tk_n v3)) = 0
  · replace h := tk_ifT hc2 h
    refine tk_bT  rfl rfl rfl (c := (m.1 348 (tk_n v3)) = 0) hc2 (pc' := 240) (ls' := [(8, .int s0), (0, .ref 295), (1, .ref v1), (2, .ref v2), (3, .int v3), (4, .int v4), (5, .int v5), (6, .int v6), (7, .int v7)]) (st' := []) ?_
    refine tk_Ps  1 (pc' := 242) (ls' := [(8, .int s0), (0, .ref 295), (1, .ref v1), (2, .ref v2), (3, .int v3), (4, .int v4), (5, .int v5), (6, .int v6), (7, .int v7)]) (st' := [.int s0]) rfl ?_
    replace h := Option.some.inj h
    subst h
    exact tk_RI  rfl rfl rfl
  · replace h := tk_ifF hc2 h
    refine tk_bF  rfl rfl rfl (c := (m.1 348 (tk_n v3)) = 0) hc2 (pc' := 229) (ls' := [(8, .int s0), (0, .ref 295), (1, .ref v1), (2, .ref v2), (3, .int v3), (4, .int v4), (5, .int v5), (6, .int v6), (7, .int v7)]) (st' := []) ?_
    refine tk_Ps  1 (pc' := 230) (ls' := [(8, .int s0), (0, .ref 295), (1, .ref v1), (2, .ref v2), (3, .int v3), (4, .int v4), (5, .int v5), (6, .int v6), (7, .int v7)]) (st' := [.ref 295]) rfl ?_
    refine tk_HR  rfl rfl ly295 rt295_8 ?_
    refine tk_Ps  1 (pc' := 234) (ls' := [(8, .int s0), (0, .ref 295), (1, .ref v1), (2, .ref v2), (3, .int v3), (4, .int v4), (5, .int v5), (6, .int v6), (7, .int v7)]) (st' := [.int v3, .ref 348]) rfl ?_
    refine tk_HIa  rfl rfl ly348 hg1 ?_
    refine tk_Ps  1 (pc' := 237) (ls' := [(8, .int s0), (0, .ref 295), (1, .ref v1), (2, .ref v2), (3, .int v3), (4, .int v4), (5, .int v5), (6, .int v6), (7, .int v7)]) (st' := [.int s0, .int (m.1 348 (tk_n v3))]) rfl ?_
    by_cases hc3 : (m.1 348 (tk_n v3)) = s0
    · replace h := tk_ifT hc3 h
      refine tk_bT  rfl rfl rfl (c := (m.1 348 (tk_n v3)) = s0) hc3 (pc' := 240) (ls' := [(8, .int s0), (0, .ref 295), (1, .ref v1), (2, .ref v2), (3, .int v3), (4, .int v4), (5, .int v5), (6, .int v6), (7, .int v7)]) (st' := []) ?_
      refine tk_Ps  1 (pc' := 242) (ls' := [(8, .int s0), (0, .ref 295), (1, .ref v1), (2, .ref v2), (3, .int v3), (4, .int v4), (5, .int v5), (6, .int v6), (7, .int v7)]) (st' := [.int s0]) rfl ?_
      replace h := Option.some.inj h
      subst h
      exact tk_RI  rfl rfl rfl
    · replace h := tk_ifF hc3 h
      refine tk_bF  rfl rfl rfl (c := (m.1 348 (tk_n v3)) = s0) hc3 (pc' := 243) (ls' := [(8, .int s0), (0, .ref 295), (1, .ref v1), (2, .ref v2), (3, .int v3), (4, .int v4), (5, .int v5), (6, .int v6), (7, .int v7)]) (st' := []) ?_
      refine tk_Ps  4 (pc' := 247) (ls' := [(8, .int s0), (0, .ref 295), (1, .ref v1), (2, .ref v2), (3, .int v3), (4, .int v4), (5, .int v5), (6, .int v6), (7, .int v7)]) (st' := [.int v3, .int v3, .ref 295, .ref 295]) rfl ?_
      obtain ⟨o4, ho4, h⟩ := tk_bnd h
      refine tk_cV1  rfl rfl (r := 295) (as := [.int v3, .int v3]) (rest := [.ref 295]) rfl ly295 rfl rfl (ok_fM_timesWide_II sc v3 v3 m ho4) ?_
      refine tk_Ps  4 (pc' := 256) (ls' := [(8, .int s0), (0, .ref 295), (1, .ref v1), (2, .ref v2), (3, .int v3), (4, .int v4), (5, .int v5), (6, .int v6), (7, .int v7)]) (st' := [.int v7, .int v6, .ref 295, .ref 295, .int o4.1, .ref 295]) rfl ?_
      obtain ⟨o5, ho5, h⟩ := tk_bnd h
      refine tk_cV1  rfl rfl (r := 295) (as := [.int v6, .int v7]) (rest := [.ref 295, .int o4.1, .ref 295]) rfl ly295 rfl rfl (ok_fM_plusWide sc v6 v7 o4.2 ho5) ?_
      obtain ⟨o6, ho6, h⟩ := tk_bnd h
      refine tk_cV1  rfl rfl (r := 295) (as := [.int o5.1]) (rest := [.int o4.1, .ref 295]) rfl ly295 rfl rfl (ok_fM_turned sc o5.1 o5.2 ho6) ?_
      obtain ⟨o7, ho7, h⟩ := tk_bnd h
      refine tk_cV1  rfl rfl (r := 295) (as := [.int o4.1, .int o6.1]) (rest := []) rfl ly295 rfl rfl (ok_fM_plusWide sc o4.1 o6.1 o6.2 ho7) ?_
      refine tk_Ps  6 (pc' := 274) (ls' := [(9, .int o7.1), (8, .int s0), (0, .ref 295), (1, .ref v1), (2, .ref v2), (3, .int v3), (4, .int v4), (5, .int v5), (6, .int v6), (7, .int v7)]) (st' := [.int v5, .int v4, .ref 295, .ref 295, .ref 295]) rfl ?_
      obtain ⟨o8, ho8, h⟩ := tk_bnd h
      refine tk_cV1  rfl rfl (r := 295) (as := [.int v4, .int v5]) (rest := [.ref 295, .ref 295]) rfl ly295 rfl rfl (ok_fM_timesWide_II sc v4 v5 o7.2 ho8) ?_
      refine tk_Ps  2 (pc' := 281) (ls' := [(9, .int o7.1), (8, .int s0), (0, .ref 295), (1, .ref v1), (2, .ref v2), (3, .int v3), (4, .int v4), (5, .int v5), (6, .int v6), (7, .int v7)]) (st' := [.long (2 : Int64), .ref 295, .int o8.1, .ref 295, .ref 295]) rfl ?_
      obtain ⟨o9, ho9, h⟩ := tk_bnd h
      refine tk_cV1  rfl rfl (r := 295) (as := [.long (2 : Int64)]) (rest := [.int o8.1, .ref 295, .ref 295]) rfl ly295 rfl rfl (ok_fM_widens sc (2 : Int64) o8.2 ho9) ?_
      obtain ⟨o10, ho10, h⟩ := tk_bnd h
      refine tk_cV1  rfl rfl (r := 295) (as := [.int o8.1, .int o9.1]) (rest := [.ref 295]) rfl ly295 rfl rfl (ok_fM_timesWide_II sc o8.1 o9.1 o9.2 ho10) ?_
      obtain ⟨o11, ho11, h⟩ := tk_bnd h
      refine tk_cV1  rfl rfl (r := 295) (as := [.int o10.1]) (rest := []) rfl ly295 rfl rfl (ok_fM_turned sc o10.1 o10.2 ho11) ?_
      refine tk_Ps  6 (pc' := 299) (ls' := [(10, .int o11.1), (9, .int o7.1), (8, .int s0), (0, .ref 295), (1, .ref v1), (2, .ref v2), (3, .int v3), (4, .int v4), (5, .int v5), (6, .int v6), (7, .int v7)]) (st' := [.int (2 : Int32), .ref v1, .int o11.1, .int o7.1, .ref 295]) rfl ?_
      obtain ⟨hg12, h⟩ := tk_grd h
      refine tk_HJa  rfl rfl hv1 hg12 ?_
      refine tk_Ps  2 (pc' := 302) (ls' := [(10, .int o11.1), (9, .int o7.1), (8, .int s0), (0, .ref 295), (1, .ref v1), (2, .ref v2), (3, .int v3), (4, .int v4), (5, .int v5), (6, .int v6), (7, .int v7)]) (st' := [.int (2 : Int32), .ref v2, .long (o11.2.2.1 v1 (tk_n (2 : Int32))), .int o11.1, .int o7.1, .ref 295]) rfl ?_
      obtain ⟨hg13, h⟩ := tk_grd h
      refine tk_HJa  rfl rfl hv2 hg13 ?_
      refine tk_Ps  1 (pc' := 304) (ls' := [(10, .int o11.1), (9, .int o7.1), (8, .int s0), (0, .ref 295), (1, .ref v1), (2, .ref v2), (3, .int v3), (4, .int v4), (5, .int v5), (6, .int v6), (7, .int v7)]) (st' := [.long ((o11.2.2.1 v1 (tk_n (2 : Int32))) * (o11.2.2.1 v2 (tk_n (2 : Int32)))), .int o11.1, .int o7.1, .ref 295]) rfl ?_
      obtain ⟨o14, ho14, h⟩ := tk_bnd h
      refine tk_cV1  rfl rfl (r := 295) (as := [.int o7.1, .int o11.1, .long ((o11.2.2.1 v1 (tk_n (2 : Int32))) * (o11.2.2.1 v2 (tk_n (2 : Int32))))]) (rest := []) rfl ly295 rfl rfl (ok_fM_signOf sc o7.1 o11.1 ((o11.2.2.1 v1 (tk_n (2 : Int32))) * (o11.2.2.1 v2 (tk_n (2 : Int32)))) o11.2 ho14) ?_
      by_cases hc15 : o14.1 ≤ 0
      · replace h := tk_ifT hc15 h
        refine tk_bT  rfl rfl rfl (c := o14.1 ≤ 0) hc15 (pc' := 319) (ls' := [(10, .int o11.1), (9, .int o7.1), (8, .int s0), (0, .ref 295), (1, .ref v1), (2, .ref v2), (3, .int v3), (4, .int v4), (5, .int v5), (6, .int v6), (7, .int v7)]) (st' := []) ?_
        refine tk_Ps  1 (pc' := 321) (ls' := [(10, .int o11.1), (9, .int o7.1), (8, .int s0), (0, .ref 295), (1, .ref v1), (2, .ref v2), (3, .int v3), (4, .int v4), (5, .int v5), (6, .int v6), (7, .int v7)]) (st' := [.int s0]) rfl ?_
        replace h := Option.some.inj h
        subst h
        exact tk_RI  rfl rfl rfl
      · replace h := tk_ifF hc15 h
        refine tk_bF  rfl rfl rfl (c := o14.1 ≤ 0) hc15 (pc' := 310) (ls' := [(10, .int o11.1), (9, .int o7.1), (8, .int s0), (0, .ref 295), (1, .ref v1), (2, .ref v2), (3, .int v3), (4, .int v4), (5, .int v5), (6, .int v6), (7, .int v7)]) (st' := []) ?_
        refine tk_Ps  1 (pc' := 311) (ls' := [(10, .int o11.1), (9, .int o7.1), (8, .int s0), (0, .ref 295), (1, .ref v1), (2, .ref v2), (3, .int v3), (4, .int v4), (5, .int v5), (6, .int v6), (7, .int v7)]) (st' := [.ref 295]) rfl ?_
        refine tk_HR  rfl rfl ly295 rt295_8 ?_
        refine tk_Ps  1 (pc' := 315) (ls' := [(10, .int o11.1), (9, .int o7.1), (8, .int s0), (0, .ref 295), (1, .ref v1), (2, .ref v2), (3, .int v3), (4, .int v4), (5, .int v5), (6, .int v6), (7, .int v7)]) (st' := [.int v3, .ref 348]) rfl ?_
        refine tk_HIa  rfl rfl ly348 hg1 ?_
        refine tk_Ps  1 (pc' := 321) (ls' := [(10, .int o11.1), (9, .int o7.1), (8, .int s0), (0, .ref 295), (1, .ref v1), (2, .ref v2), (3, .int v3), (4, .int v4), (5, .int v5), (6, .int v6), (7, .int v7)]) (st' := [.int (o14.2.1 348 (tk_n v3))]) rfl ?_
        replace h := Option.some.inj h
        subst h
        exact tk_RI  rfl rfl rfl
set_option maxRecDepth 50000 in
theorem ok_fM_compares (sc : tk_X) (a1 : Nat) (a2 : Nat) (m : tk_m) (ha1 : tk_lay[a1]? = some (.inr (1, tk_al a1))) (ha2 : tk_lay[a2]? = some (.inr (1, tk_al a2))) {out : Int32 × tk_m} (h : fM_compares a1 a2 m = some out) : tk_Ru sc 4 236 [.ref 295, .ref a1, .ref a2] (tk_full m) (some (.int out.1), tk_full out.2) := by
  unfold fM_compares at h
  refine tk_Ru0 me236 (ls := [(0, .ref 295), (1, .ref a1), (2, .ref a2)]) rfl rfl ?_
  refine tk_Ps  2 (pc' := 2) (ls' := [(0, .ref 295), (1, .ref a1), (2, .ref a2)]) (st' := [.int (0 : Int32), .ref 295]) rfl ?_
  refine tk_SI  rfl rfl ly295 ?_
  refine tk_Ps  4 (pc' := 9) (ls' := [(0, .ref 295), (1, .ref a1), (2, .ref a2)]) (st' := [.int (0 : Int32), .ref a1, .ref 295, .ref 295]) rfl ?_
  obtain ⟨hg1, h⟩ := tk_grd h
  refine tk_HJa  rfl rfl ha1 hg1 ?_
  refine tk_Ps  2 (pc' := 12) (ls' := [(0, .ref 295), (1, .ref a1), (2, .ref a2)]) (st' := [.int (3 : Int32), .ref a2, .long (m.2.1 a1 (tk_n (0 : Int32))), .ref 295, .ref 295]) rfl ?_
  obtain ⟨hg2, h⟩ := tk_grd h
  refine tk_HJa  rfl rfl ha2 hg2 ?_
  obtain ⟨o3, ho3, h⟩ := tk_bnd h
  refine tk_cV1  rfl rfl (r := 295) (as := [.long (m.2.1 a1 (tk_n (0 : Int32))), .long (m.2.1 a2 (tk_n (3 : Int32)))]) (rest := [.ref 295]) rfl ly295 rfl rfl (ok_fM_timesWide_JJ sc (m.2.1 a1 (tk_n (0 : Int32))) (m.2.1 a2 (tk_n (3 : Int32))) (tk_u2 m.1 295 9 (0 : Int32), m.2.1, m.2.2.1, m.2.2.2) ho3) ?_
  refine tk_Ps  4 (pc' := 20) (ls' := [(0, .ref 295), (1, .ref a1), (2, .ref a2)]) (st' := [.int (0 : Int32), .ref a2, .ref 295, .ref 295, .int o3.1, .ref 295]) rfl ?_
  obtain ⟨hg4, h⟩ := tk_grd h
  refine tk_HJa  rfl rfl ha2 hg4 ?_
  refine tk_Ps  2 (pc' := 23) (ls' := [(0, .ref 295), (1, .ref a1), (2, .ref a2)]) (st' := [.int (3 : Int32), .ref a1, .long (o3.2.2.1 a2 (tk_n (0 : Int32))), .ref 295, .ref 295, .int o3.1, .ref 295]) rfl ?_
  obtain ⟨hg5, h⟩ := tk_grd h
  refine tk_HJa  rfl rfl ha1 hg5 ?_
  obtain ⟨o6, ho6, h⟩ := tk_bnd h
  refine tk_cV1  rfl rfl (r := 295) (as := [.long (o3.2.2.1 a2 (tk_n (0 : Int32))), .long (o3.2.2.1 a1 (tk_n (3 : Int32)))]) (rest := [.ref 295, .int o3.1, .ref 295]) rfl ly295 rfl rfl (ok_fM_timesWide_JJ sc (o3.2.2.1 a2 (tk_n (0 : Int32))) (o3.2.2.1 a1 (tk_n (3 : Int32))) o3.2 ho6) ?_
  obtain ⟨o7, ho7, h⟩ := tk_bnd h
  refine tk_cV1  rfl rfl (r := 295) (as := [.int o6.1]) (rest := [.int o3.1, .ref 295]) rfl ly295 rfl rfl (ok_fM_turned sc o6.1 o6.2 ho7) ?_
  obtain ⟨o8, ho8, h⟩ := tk_bnd h
  refine tk_cV1  rfl rfl (r := 295) (as := [.int o3.1, .int o7.1]) (rest := []) rfl ly295 rfl rfl (ok_fM_plusWide sc o3.1 o7.1 o7.2 ho8) ?_
  refine tk_Ps  4 (pc' := 37) (ls' := [(3, .int o8.1), (0, .ref 295), (1, .ref a1), (2, .ref a2)]) (st' := [.int (1 : Int32), .ref a1, .ref 295]) rfl ?_
  obtain ⟨hg9, h⟩ := tk_grd h
  refine tk_HJa  rfl rfl ha1 hg9 ?_
  refine tk_Ps  2 (pc' := 40) (ls' := [(3, .int o8.1), (0, .ref 295), (1, .ref a1), (2, .ref a2)]) (st' := [.int (3 : Int32), .ref a2, .long (o8.2.2.1 a1 (tk_n (1 : Int32))), .ref 295]) rfl ?_
  refine tk_HJa  rfl rfl ha2 hg2 ?_
  obtain ⟨o10, ho10, h⟩ := tk_bnd h
  refine tk_cV1  rfl rfl (r := 295) (as := [.long (o8.2.2.1 a1 (tk_n (1 : Int32))), .long (o8.2.2.1 a2 (tk_n (3 : Int32)))]) (rest := []) rfl ly295 rfl rfl (ok_fM_timesWide_JJ sc (o8.2.2.1 a1 (tk_n (1 : Int32))) (o8.2.2.1 a2 (tk_n (3 : Int32))) o8.2 ho10) ?_
  refine tk_Ps  5 (pc' := 50) (ls' := [(4, .int o10.1), (3, .int o8.1), (0, .ref 295), (1, .ref a1), (2, .ref a2)]) (st' := [.int (1 : Int32), .ref a2, .ref 295, .ref 295]) rfl ?_
  obtain ⟨hg11, h⟩ := tk_grd h
  refine tk_HJa  rfl rfl ha2 hg11 ?_
  refine tk_Ps  2 (pc' := 53) (ls' := [(4, .int o10.1), (3, .int o8.1), (0, .ref 295), (1, .ref a1), (2, .ref a2)]) (st' := [.int (3 : Int32), .ref a1, .long (o10.2.2.1 a2 (tk_n (1 : Int32))), .ref 295, .ref 295]) rfl ?_
  refine tk_HJa  rfl rfl ha1 hg5 ?_
  obtain ⟨o12, ho12, h⟩ := tk_bnd h
  refine tk_cV1  rfl rfl (r := 295) (as := [.long (o10.2.2.1 a2 (tk_n (1 : Int32))), .long (o10.2.2.1 a1 (tk_n (3 : Int32)))]) (rest := [.ref 295]) rfl ly295 rfl rfl (ok_fM_timesWide_JJ sc (o10.2.2.1 a2 (tk_n (1 : Int32))) (o10.2.2.1 a1 (tk_n (3 : Int32))) o10.2 ho12) ?_
  obtain ⟨o13, ho13, h⟩ := tk_bnd h
  refine tk_cV1  rfl rfl (r := 295) (as := [.int o12.1]) (rest := []) rfl ly295 rfl rfl (ok_fM_turned sc o12.1 o12.2 ho13) ?_
  refine tk_Ps  2 (pc' := 63) (ls' := [(5, .int o13.1), (4, .int o10.1), (3, .int o8.1), (0, .ref 295), (1, .ref a1), (2, .ref a2)]) (st' := [.ref 295]) rfl ?_
  refine tk_HR  rfl rfl ly295 rt295_8 ?_
  refine tk_Ps  1 (pc' := 68) (ls' := [(5, .int o13.1), (4, .int o10.1), (3, .int o8.1), (0, .ref 295), (1, .ref a1), (2, .ref a2)]) (st' := [.int o10.1, .ref 348]) rfl ?_
  obtain ⟨hg14, h⟩ := tk_grd h
  refine tk_HIa  rfl rfl ly348 hg14 ?_
  by_cases hc15 : (o13.2.1 348 (tk_n o10.1)) = 0
  · replace h := tk_ifT hc15 h
    refine tk_bT  rfl rfl rfl (c := (o13.2.1 348 (tk_n o10.1)) = 0) hc15 (pc' := 72) (ls' := [(5, .int o13.1), (4, .int o10.1), (3, .int o8.1), (0, .ref 295), (1, .ref a1), (2, .ref a2)]) (st' := []) ?_
    refine tk_Ps  5 (pc' := 78) (ls' := [(5, .int o13.1), (4, .int o10.1), (3, .int o8.1), (0, .ref 295), (1, .ref a1), (2, .ref a2)]) (st' := [.int (2 : Int32), .ref a2, .int o13.1, .int o8.1, .ref 295]) rfl ?_
    obtain ⟨hg16, h⟩ := tk_grd h
    refine tk_HJa  rfl rfl ha2 hg16 ?_
    obtain ⟨o17, ho17, h⟩ := tk_bnd h
    refine tk_cV1  rfl rfl (r := 295) (as := [.int o8.1, .int o13.1, .long (o13.2.2.1 a2 (tk_n (2 : Int32)))]) (rest := []) rfl ly295 rfl rfl (ok_fM_signOf sc o8.1 o13.1 (o13.2.2.1 a2 (tk_n (2 : Int32))) o13.2 ho17) ?_
    replace h := Option.some.inj h
    subst h
    exact tk_RI  rfl rfl rfl
  · replace h := tk_ifF hc15 h
    refine tk_bF  rfl rfl rfl (c := (o13.2.1 348 (tk_n o10.1)) = 0) hc15 (pc' := 83) (ls' := [(5, .int o13.1), (4, .int o10.1), (3, .int o8.1), (0, .ref 295), (1, .ref a1), (2, .ref a2)]) (st' := []) ?_
    refine tk_Ps  1 (pc' := 84) (ls' := [(5, .int o13.1), (4, .int o10.1), (3, .int o8.1), (0, .ref 295), (1, .ref a1), (2, .ref a2)]) (st' := [.ref 295]) rfl ?_
    refine tk_HR  rfl rfl ly295 rt295_8 ?_
    refine tk_Ps  1 (pc' := 89) (ls' := [(5, .int o13.1), (4, .int o10.1), (3, .int o8.1), (0, .ref 295), (1, .ref a1), (2, .ref a2)]) (st' := [.int o13.1, .ref 348]) rfl ?_
    obtain ⟨hg18, h⟩ := tk_grd h
    refine tk_HIa  rfl rfl ly348 hg18 ?_
    by_cases hc19 : (o13.2.1 348 (tk_n o13.1)) = 0
    · replace h := tk_ifT hc19 h
      refine tk_bT  rfl rfl rfl (c := (o13.2.1 348 (tk_n o13.1)) = 0) hc19 (pc' := 93) (ls' := [(5, .int o13.1), (4, .int o10.1), (3, .int o8.1), (0, .ref 295), (1, .ref a1), (2, .ref a2)]) (st' := []) ?_
      refine tk_Ps  5 (pc' := 99) (ls' := [(5, .int o13.1), (4, .int o10.1), (3, .int o8.1), (0, .ref 295), (1, .ref a1), (2, .ref a2)]) (st' := [.int (2 : Int32), .ref a1, .int o10.1, .int o8.1, .ref 295]) rfl ?_
      obtain ⟨hg20, h⟩ := tk_grd h
      refine tk_HJa  rfl rfl ha1 hg20 ?_
      obtain ⟨o21, ho21, h⟩ := tk_bnd h
      refine tk_cV1  rfl rfl (r := 295) (as := [.int o8.1, .int o10.1, .long (o13.2.2.1 a1 (tk_n (2 : Int32)))]) (rest := []) rfl ly295 rfl rfl (ok_fM_signOf sc o8.1 o10.1 (o13.2.2.1 a1 (tk_n (2 : Int32))) o13.2 ho21) ?_
      replace h := Option.some.inj h
      subst h
      exact tk_RI  rfl rfl rfl
    · replace h := tk_ifF hc19 h
      refine tk_bF  rfl rfl rfl (c := (o13.2.1 348 (tk_n o13.1)) = 0) hc19 (pc' := 104) (ls' := [(5, .int o13.1), (4, .int o10.1), (3, .int o8.1), (0, .ref 295), (1, .ref a1), (2, .ref a2)]) (st' := []) ?_
      refine tk_Ps  2 (pc' := 106) (ls' := [(5, .int o13.1), (4, .int o10.1), (3, .int o8.1), (0, .ref 295), (1, .ref a1), (2, .ref a2)]) (st' := [.int (2 : Int32), .ref a1]) rfl ?_
      obtain ⟨hg22, h⟩ := tk_grd h
      refine tk_HJa  rfl rfl ha1 hg22 ?_
      refine tk_Ps  2 (pc' := 109) (ls' := [(5, .int o13.1), (4, .int o10.1), (3, .int o8.1), (0, .ref 295), (1, .ref a1), (2, .ref a2)]) (st' := [.int (2 : Int32), .ref a2, .long (o13.2.2.1 a1 (tk_n (2 : Int32)))]) rfl ?_
      obtain ⟨hg23, h⟩ := tk_grd h
      refine tk_HJa  rfl rfl ha2 hg23 ?_
      refine tk_Ps  1 (pc' := 111) (ls' := [(5, .int o13.1), (4, .int o10.1), (3, .int o8.1), (0, .ref 295), (1, .ref a1), (2, .ref a2)]) (st' := [.int (lg_cmp (o13.2.2.1 a1 (tk_n (2 : Int32))) (o13.2.2.1 a2 (tk_n (2 : Int32))))]) rfl ?_
      by_cases hc24 : (o13.2.2.1 a1 (tk_n (2 : Int32))) = (o13.2.2.1 a2 (tk_n (2 : Int32)))
      · replace h := tk_ifT hc24 h
        refine tk_bT  rfl rfl tk_eL_ne (c := (o13.2.2.1 a1 (tk_n (2 : Int32))) = (o13.2.2.1 a2 (tk_n (2 : Int32)))) hc24 (pc' := 114) (ls' := [(5, .int o13.1), (4, .int o10.1), (3, .int o8.1), (0, .ref 295), (1, .ref a1), (2, .ref a2)]) (st' := []) ?_
        refine tk_Ps  5 (pc' := 121) (ls' := [(5, .int o13.1), (4, .int o10.1), (3, .int o8.1), (0, .ref 295), (1, .ref a1), (2, .ref a2)]) (st' := [.int o13.1, .int o10.1, .ref 295, .int o8.1, .ref 295]) rfl ?_
        obtain ⟨o25, ho25, h⟩ := tk_bnd h
        refine tk_cV1  rfl rfl (r := 295) (as := [.int o10.1, .int o13.1]) (rest := [.int o8.1, .ref 295]) rfl ly295 rfl rfl (ok_fM_plusWide sc o10.1 o13.1 o13.2 ho25) ?_
        refine tk_Ps  2 (pc' := 126) (ls' := [(5, .int o13.1), (4, .int o10.1), (3, .int o8.1), (0, .ref 295), (1, .ref a1), (2, .ref a2)]) (st' := [.int (2 : Int32), .ref a1, .int o25.1, .int o8.1, .ref 295]) rfl ?_
        refine tk_HJa  rfl rfl ha1 hg22 ?_
        obtain ⟨o26, ho26, h⟩ := tk_bnd h
        refine tk_cV1  rfl rfl (r := 295) (as := [.int o8.1, .int o25.1, .long (o25.2.2.1 a1 (tk_n (2 : Int32)))]) (rest := []) rfl ly295 rfl rfl (ok_fM_signOf sc o8.1 o25.1 (o25.2.2.1 a1 (tk_n (2 : Int32))) o25.2 ho26) ?_
        replace h := Option.some.inj h
        subst h
        exact tk_RI  rfl rfl rfl
      · replace h := tk_ifF hc24 h
        refine tk_bF  rfl rfl tk_eL_ne (c := (o13.2.2.1 a1 (tk_n (2 : Int32))) = (o13.2.2.1 a2 (tk_n (2 : Int32)))) hc24 (pc' := 131) (ls' := [(5, .int o13.1), (4, .int o10.1), (3, .int o8.1), (0, .ref 295), (1, .ref a1), (2, .ref a2)]) (st' := []) ?_
        refine tk_Ps  4 (pc' := 137) (ls' := [(5, .int o13.1), (4, .int o10.1), (3, .int o8.1), (0, .ref 295), (1, .ref a1), (2, .ref a2)]) (st' := [.int o10.1, .int o10.1, .ref 295, .ref 295]) rfl ?_
        obtain ⟨o27, ho27, h⟩ := tk_bnd h
        refine tk_cV1  rfl rfl (r := 295) (as := [.int o10.1, .int o10.1]) (rest := [.ref 295]) rfl ly295 rfl rfl (ok_fM_timesWide_II sc o10.1 o10.1 o13.2 ho27) ?_
        refine tk_Ps  3 (pc' := 143) (ls' := [(5, .int o13.1), (4, .int o10.1), (3, .int o8.1), (0, .ref 295), (1, .ref a1), (2, .ref a2)]) (st' := [.int (2 : Int32), .ref a1, .ref 295, .int o27.1, .ref 295]) rfl ?_
        refine tk_HJa  rfl rfl ha1 hg22 ?_
        obtain ⟨o28, ho28, h⟩ := tk_bnd h
        refine tk_cV1  rfl rfl (r := 295) (as := [.long (o27.2.2.1 a1 (tk_n (2 : Int32)))]) (rest := [.int o27.1, .ref 295]) rfl ly295 rfl rfl (ok_fM_widens sc (o27.2.2.1 a1 (tk_n (2 : Int32))) o27.2 ho28) ?_
        obtain ⟨o29, ho29, h⟩ := tk_bnd h
        refine tk_cV1  rfl rfl (r := 295) (as := [.int o27.1, .int o28.1]) (rest := []) rfl ly295 rfl rfl (ok_fM_timesWide_II sc o27.1 o28.1 o28.2 ho29) ?_
        refine tk_Ps  5 (pc' := 158) (ls' := [(6, .int o29.1), (5, .int o13.1), (4, .int o10.1), (3, .int o8.1), (0, .ref 295), (1, .ref a1), (2, .ref a2)]) (st' := [.int o13.1, .int o13.1, .ref 295, .ref 295]) rfl ?_
        obtain ⟨o30, ho30, h⟩ := tk_bnd h
        refine tk_cV1  rfl rfl (r := 295) (as := [.int o13.1, .int o13.1]) (rest := [.ref 295]) rfl ly295 rfl rfl (ok_fM_timesWide_II sc o13.1 o13.1 o29.2 ho30) ?_
        refine tk_Ps  3 (pc' := 164) (ls' := [(6, .int o29.1), (5, .int o13.1), (4, .int o10.1), (3, .int o8.1), (0, .ref 295), (1, .ref a1), (2, .ref a2)]) (st' := [.int (2 : Int32), .ref a2, .ref 295, .int o30.1, .ref 295]) rfl ?_
        refine tk_HJa  rfl rfl ha2 hg23 ?_
        obtain ⟨o31, ho31, h⟩ := tk_bnd h
        refine tk_cV1  rfl rfl (r := 295) (as := [.long (o30.2.2.1 a2 (tk_n (2 : Int32)))]) (rest := [.int o30.1, .ref 295]) rfl ly295 rfl rfl (ok_fM_widens sc (o30.2.2.1 a2 (tk_n (2 : Int32))) o30.2 ho31) ?_
        obtain ⟨o32, ho32, h⟩ := tk_bnd h
        refine tk_cV1  rfl rfl (r := 295) (as := [.int o30.1, .int o31.1]) (rest := []) rfl ly295 rfl rfl (ok_fM_timesWide_II sc o30.1 o31.1 o31.2 ho32) ?_
        refine tk_Ps  2 (pc' := 174) (ls' := [(7, .int o32.1), (6, .int o29.1), (5, .int o13.1), (4, .int o10.1), (3, .int o8.1), (0, .ref 295), (1, .ref a1), (2, .ref a2)]) (st' := [.ref 295]) rfl ?_
        refine tk_HR  rfl rfl ly295 rt295_8 ?_
        refine tk_Ps  1 (pc' := 179) (ls' := [(7, .int o32.1), (6, .int o29.1), (5, .int o13.1), (4, .int o10.1), (3, .int o8.1), (0, .ref 295), (1, .ref a1), (2, .ref a2)]) (st' := [.int o10.1, .ref 348]) rfl ?_
        refine tk_HIa  rfl rfl ly348 hg14 ?_
        refine tk_Ps  1 (pc' := 181) (ls' := [(7, .int o32.1), (6, .int o29.1), (5, .int o13.1), (4, .int o10.1), (3, .int o8.1), (0, .ref 295), (1, .ref a1), (2, .ref a2)]) (st' := [.ref 295, .int (o32.2.1 348 (tk_n o10.1))]) rfl ?_
        refine tk_HR  rfl rfl ly295 rt295_8 ?_
        refine tk_Ps  1 (pc' := 186) (ls' := [(7, .int o32.1), (6, .int o29.1), (5, .int o13.1), (4, .int o10.1), (3, .int o8.1), (0, .ref 295), (1, .ref a1), (2, .ref a2)]) (st' := [.int o13.1, .ref 348, .int (o32.2.1 348 (tk_n o10.1))]) rfl ?_
        refine tk_HIa  rfl rfl ly348 hg18 ?_
        by_cases hc33 : (o32.2.1 348 (tk_n o10.1)) = (o32.2.1 348 (tk_n o13.1))
        · replace h := tk_ifT hc33 h
          refine tk_bT  rfl rfl rfl (c := (o32.2.1 348 (tk_n o10.1)) = (o32.2.1 348 (tk_n o13.1))) hc33 (pc' := 201) (ls' := [(7, .int o32.1), (6, .int o29.1), (5, .int o13.1), (4, .int o10.1), (3, .int o8.1), (0, .ref 295), (1, .ref a1), (2, .ref a2)]) (st' := []) ?_
          refine tk_Ps  1 (pc' := 202) (ls' := [(7, .int o32.1), (6, .int o29.1), (5, .int o13.1), (4, .int o10.1), (3, .int o8.1), (0, .ref 295), (1, .ref a1), (2, .ref a2)]) (st' := [.ref 295]) rfl ?_
          refine tk_HR  rfl rfl ly295 rt295_8 ?_
          refine tk_Ps  1 (pc' := 207) (ls' := [(7, .int o32.1), (6, .int o29.1), (5, .int o13.1), (4, .int o10.1), (3, .int o8.1), (0, .ref 295), (1, .ref a1), (2, .ref a2)]) (st' := [.int o10.1, .ref 348]) rfl ?_
          refine tk_HIa  rfl rfl ly348 hg14 ?_
          refine tk_Ps  1 (pc' := 218) (ls' := [(7, .int o32.1), (6, .int o29.1), (5, .int o13.1), (4, .int o10.1), (3, .int o8.1), (0, .ref 295), (1, .ref a1), (2, .ref a2)]) (st' := [.int (o32.2.1 348 (tk_n o10.1))]) rfl ?_
          refine tk_Kp  (ls' := [(0, .ref 295), (1, .ref a1), (2, .ref a2), (3, .int o8.1), (4, .int o10.1), (5, .int o13.1), (6, .int o29.1), (7, .int o32.1)]) rfl rfl ?_
          exact ok_fM_compares_218 sc a1 a2 o8.1 o10.1 o13.1 o29.1 o32.1 (o32.2.1 348 (tk_n o10.1)) o32.2 (tk_al_of ha1) (tk_al_of ha2) _ h
        · replace h := tk_ifF hc33 h
          refine tk_bF  rfl rfl rfl (c := (o32.2.1 348 (tk_n o10.1)) = (o32.2.1 348 (tk_n o13.1))) hc33 (pc' := 190) (ls' := [(7, .int o32.1), (6, .int o29.1), (5, .int o13.1), (4, .int o10.1), (3, .int o8.1), (0, .ref 295), (1, .ref a1), (2, .ref a2)]) (st' := []) ?_
          refine tk_Ps  3 (pc' := 195) (ls' := [(7, .int o32.1), (6, .int o29.1), (5, .int o13.1), (4, .int o10.1), (3, .int o8.1), (0, .ref 295), (1, .ref a1), (2, .ref a2)]) (st' := [.int o32.1, .int o29.1, .ref 295]) rfl ?_
          obtain ⟨o34, ho34, h⟩ := tk_bnd h
          refine tk_cV1  rfl rfl (r := 295) (as := [.int o29.1, .int o32.1]) (rest := []) rfl ly295 rfl rfl (ok_fM_compareSizes sc o29.1 o32.1 o32.2 ho34) ?_
          by_cases hc35 : o34 ≤ 0
          · replace h := tk_ifT hc35 h
            refine tk_bT  rfl rfl rfl (c := o34 ≤ 0) hc35 (pc' := 211) (ls' := [(7, .int o32.1), (6, .int o29.1), (5, .int o13.1), (4, .int o10.1), (3, .int o8.1), (0, .ref 295), (1, .ref a1), (2, .ref a2)]) (st' := []) ?_
            refine tk_Ps  1 (pc' := 212) (ls' := [(7, .int o32.1), (6, .int o29.1), (5, .int o13.1), (4, .int o10.1), (3, .int o8.1), (0, .ref 295), (1, .ref a1), (2, .ref a2)]) (st' := [.ref 295]) rfl ?_
            refine tk_HR  rfl rfl ly295 rt295_8 ?_
            refine tk_Ps  1 (pc' := 217) (ls' := [(7, .int o32.1), (6, .int o29.1), (5, .int o13.1), (4, .int o10.1), (3, .int o8.1), (0, .ref 295), (1, .ref a1), (2, .ref a2)]) (st' := [.int o13.1, .ref 348]) rfl ?_
            refine tk_HIa  rfl rfl ly348 hg18 ?_
            refine tk_Kp  (ls' := [(0, .ref 295), (1, .ref a1), (2, .ref a2), (3, .int o8.1), (4, .int o10.1), (5, .int o13.1), (6, .int o29.1), (7, .int o32.1)]) rfl rfl ?_
            exact ok_fM_compares_218 sc a1 a2 o8.1 o10.1 o13.1 o29.1 o32.1 (o32.2.1 348 (tk_n o13.1)) o32.2 (tk_al_of ha1) (tk_al_of ha2) _ h
          · replace h := tk_ifF hc35 h
            refine tk_bF  rfl rfl rfl (c := o34 ≤ 0) hc35 (pc' := 201) (ls' := [(7, .int o32.1), (6, .int o29.1), (5, .int o13.1), (4, .int o10.1), (3, .int o8.1), (0, .ref 295), (1, .ref a1), (2, .ref a2)]) (st' := []) ?_
            refine tk_Ps  1 (pc' := 202) (ls' := [(7, .int o32.1), (6, .int o29.1), (5, .int o13.1), (4, .int o10.1), (3, .int o8.1), (0, .ref 295), (1, .ref a1), (2, .ref a2)]) (st' := [.ref 295]) rfl ?_
            refine tk_HR  rfl rfl ly295 rt295_8 ?_
            refine tk_Ps  1 (pc' := 207) (ls' := [(7, .int o32.1), (6, .int o29.1), (5, .int o13.1), (4, .int o10.1), (3, .int o8.1), (0, .ref 295), (1, .ref a1), (2, .ref a2)]) (st' := [.int o10.1, .ref 348]) rfl ?_
            refine tk_HIa  rfl rfl ly348 hg14 ?_
            refine tk_Ps  1 (pc' := 218) (ls' := [(7, .int o32.1), (6, .int o29.1), (5, .int o13.1), (4, .int o10.1), (3, .int o8.1), (0, .ref 295), (1, .ref a1), (2, .ref a2)]) (st' := [.int (o32.2.1 348 (tk_n o10.1))]) rfl ?_
            refine tk_Kp  (ls' := [(0, .ref 295), (1, .ref a1), (2, .ref a2), (3, .int o8.1), (4, .int o10.1), (5, .int o13.1), (6, .int o29.1), (7, .int o32.1)]) rfl rfl ?_
            exact ok_fM_compares_218 sc a1 a2 o8.1 o10.1 o13.1 o29.1 o32.1 (o32.2.1 348 (tk_n o10.1)) o32.2 (tk_al_of ha1) (tk_al_of ha2) _ h
theorem ok_fM_laysInOrder_183 (sc : tk_X) : ∀ (n : Nat) (v1 : Int32) (v3 : Int32) (m : tk_m) (out : tk_m), fM_laysInOrder_183 n v1 v3 m = some out → tk_Ex sc 4 tk_r235 tk_k235 183 [(0, .ref 295), (1, .int v1), (3, .int v3)] [] (tk_full m) (none, tk_full out) := by
  intro n
  induction n with
  | zero =>
    intro v1 v3 m out h
    cases h
  | succ n ih =>
    intro v1 v3 m out h
    unfold fM_laysInOrder_183 at h
    refine tk_Ps  2 (pc' := 186) (ls' := [(0, .ref 295), (1, .int v1), (3, .int v3)]) (st' := [.int (8 : Int32), .int v3]) rfl ?_
    by_cases hc1 : (8 : Int32) ≤ v3
    · replace h := tk_ifT hc1 h
      refine tk_bT  rfl rfl rfl (c := (8 : Int32) ≤ v3) hc1 (pc' := 235) (ls' := [(0, .ref 295), (1, .int v1), (3, .int v3)]) (st' := []) ?_
      replace h := Option.some.inj h
      subst h
      exact tk_RV  rfl rfl rfl
    · replace h := tk_ifF hc1 h
      refine tk_bF  rfl rfl rfl (c := (8 : Int32) ≤ v3) hc1 (pc' := 189) (ls' := [(0, .ref 295), (1, .int v1), (3, .int v3)]) (st' := []) ?_
      refine tk_Ps  1 (pc' := 190) (ls' := [(0, .ref 295), (1, .int v1), (3, .int v3)]) (st' := [.ref 295]) rfl ?_
      refine tk_HR  rfl rfl ly295 rt295_14 ?_
      refine tk_Ps  1 (pc' := 194) (ls' := [(0, .ref 295), (1, .int v1), (3, .int v3)]) (st' := [.int v1, .ref 415]) rfl ?_
      obtain ⟨hg2, h⟩ := tk_grd h
      refine tk_HQ  rfl rfl ly415 hg2 (la415 _ (hg2).2).1 ?_
      refine tk_Ps  1 (pc' := 196) (ls' := [(0, .ref 295), (1, .int v1), (3, .int v3)]) (st' := [.int v3, .ref (416 + (tk_n v1))]) rfl ?_
      obtain ⟨hg3, h⟩ := tk_grd h
      refine tk_HJa  rfl rfl ((la415 _ (hg2).2).2) hg3 ?_
      refine tk_Ps  2 (pc' := 200) (ls' := [(4, .long (m.2.1 (416 + (tk_n v1)) (tk_n v3))), (0, .ref 295), (1, .int v1), (3, .int v3)]) (st' := [.ref 295]) rfl ?_
      refine tk_HR  rfl rfl ly295 rt295_14 ?_
      refine tk_Ps  1 (pc' := 204) (ls' := [(4, .long (m.2.1 (416 + (tk_n v1)) (tk_n v3))), (0, .ref 295), (1, .int v1), (3, .int v3)]) (st' := [.int v1, .ref 415]) rfl ?_
      refine tk_HQ  rfl rfl ly415 hg2 (la415 _ (hg2).2).1 ?_
      refine tk_Ps  2 (pc' := 207) (ls' := [(4, .long (m.2.1 (416 + (tk_n v1)) (tk_n v3))), (0, .ref 295), (1, .int v1), (3, .int v3)]) (st' := [.ref 295, .int v3, .ref (416 + (tk_n v1))]) rfl ?_
      refine tk_HR  rfl rfl ly295 rt295_14 ?_
      refine tk_Ps  3 (pc' := 213) (ls' := [(4, .long (m.2.1 (416 + (tk_n v1)) (tk_n v3))), (0, .ref 295), (1, .int v1), (3, .int v3)]) (st' := [.int (v1 + (1 : Int32)), .ref 415, .int v3, .ref (416 + (tk_n v1))]) rfl ?_
      obtain ⟨hg4, h⟩ := tk_grd h
      refine tk_HQ  rfl rfl ly415 hg4 (la415 _ (hg4).2).1 ?_
      refine tk_Ps  1 (pc' := 215) (ls' := [(4, .long (m.2.1 (416 + (tk_n v1)) (tk_n v3))), (0, .ref 295), (1, .int v1), (3, .int v3)]) (st' := [.int v3, .ref (416 + (tk_n (v1 + (1 : Int32)))), .int v3, .ref (416 + (tk_n v1))]) rfl ?_
      refine tk_HJa  rfl rfl ((la415 _ (hg4).2).2) hg3 ?_
      refine tk_SJa  rfl rfl ((la415 _ (hg2).2).2) hg3 ?_
      refine tk_Ps  1 (pc' := 218) (ls' := [(4, .long (m.2.1 (416 + (tk_n v1)) (tk_n v3))), (0, .ref 295), (1, .int v1), (3, .int v3)]) (st' := [.ref 295]) rfl ?_
      refine tk_HR  rfl rfl ly295 rt295_14 ?_
      refine tk_Ps  3 (pc' := 224) (ls' := [(4, .long (m.2.1 (416 + (tk_n v1)) (tk_n v3))), (0, .ref 295), (1, .int v1), (3, .int v3)]) (st' := [.int (v1 + (1 : Int32)), .ref 415]) rfl ?_
      refine tk_HQ  rfl rfl ly415 hg4 (la415 _ (hg4).2).1 ?_
      refine tk_Ps  2 (pc' := 228) (ls' := [(4, .long (m.2.1 (416 + (tk_n v1)) (tk_n v3))), (0, .ref 295), (1, .int v1), (3, .int v3)]) (st' := [.long (m.2.1 (416 + (tk_n v1)) (tk_n v3)), .int v3, .ref (416 + (tk_n (v1 + (1 : Int32))))]) rfl ?_
      refine tk_SJa  rfl rfl ((la415 _ (hg4).2).2) hg3 ?_
      refine tk_Ps  2 (pc' := 183) (ls' := [(3, .int (v3 + (1 : Int32))), (4, .long (m.2.1 (416 + (tk_n v1)) (tk_n v3))), (0, .ref 295), (1, .int v1)]) (st' := []) rfl ?_
      refine tk_Kp  (ls' := [(0, .ref 295), (1, .int v1), (3, .int (v3 + (1 : Int32)))]) rfl rfl ?_
      exact ih v1 (v3 + (1 : Int32)) (m.1, tk_u2 (tk_u2 m.2.1 (416 + (tk_n v1)) (tk_n v3) (m.2.1 (416 + (tk_n (v1 + (1 : Int32)))) (tk_n v3))) (416 + (tk_n (v1 + (1 : Int32)))) (tk_n v3) (m.2.1 (416 + (tk_n v1)) (tk_n v3)), m.2.2.1, m.2.2.2) _ h
theorem ok_fM_laysInOrder_111 (sc : tk_X) (r103 : Int32 → Int32 → tk_m → Option tk_m) (H103 : ∀ (v1 : Int32) (v3 : Int32) (m : tk_m) (out : tk_m), r103 v1 v3 m = some out → tk_Ex sc 4 tk_r235 tk_k235 103 [(0, .ref 295), (1, .int v1), (3, .int v3)] [] (tk_full m) (none, tk_full out)) : ∀ (n : Nat) (v1 : Int32) (v3 : Int32) (v4 : Int32) (m : tk_m) (out : tk_m), fM_laysInOrder_111 r103 n v1 v3 v4 m = some out → tk_Ex sc 4 tk_r235 tk_k235 111 [(0, .ref 295), (1, .int v1), (3, .int v3), (4, .int v4)] [] (tk_full m) (none, tk_full out) := by
  intro n
  induction n with
  | zero =>
    intro v1 v3 v4 m out h
    cases h
  | succ n ih =>
    intro v1 v3 v4 m out h
    unfold fM_laysInOrder_111 at h
    refine tk_Ps  2 (pc' := 114) (ls' := [(0, .ref 295), (1, .int v1), (3, .int v3), (4, .int v4)]) (st' := [.int (4 : Int32), .int v4]) rfl ?_
    by_cases hc1 : (4 : Int32) ≤ v4
    · replace h := tk_ifT hc1 h
      refine tk_bT  rfl rfl rfl (c := (4 : Int32) ≤ v4) hc1 (pc' := 175) (ls' := [(0, .ref 295), (1, .int v1), (3, .int v3), (4, .int v4)]) (st' := []) ?_
      refine tk_Ps  2 (pc' := 103) (ls' := [(3, .int (v3 + (1 : Int32))), (0, .ref 295), (1, .int v1), (4, .int v4)]) (st' := []) rfl ?_
      refine tk_Kp  (ls' := [(0, .ref 295), (1, .int v1), (3, .int (v3 + (1 : Int32)))]) rfl rfl ?_
      exact H103 v1 (v3 + (1 : Int32)) m _ h
    · replace h := tk_ifF hc1 h
      refine tk_bF  rfl rfl rfl (c := (4 : Int32) ≤ v4) hc1 (pc' := 117) (ls' := [(0, .ref 295), (1, .int v1), (3, .int v3), (4, .int v4)]) (st' := []) ?_
      refine tk_Ps  1 (pc' := 118) (ls' := [(0, .ref 295), (1, .int v1), (3, .int v3), (4, .int v4)]) (st' := [.ref 295]) rfl ?_
      refine tk_HR  rfl rfl ly295 rt295_13 ?_
      refine tk_Ps  1 (pc' := 122) (ls' := [(0, .ref 295), (1, .int v1), (3, .int v3), (4, .int v4)]) (st' := [.int v1, .ref 350]) rfl ?_
      obtain ⟨hg2, h⟩ := tk_grd h
      refine tk_HQ  rfl rfl ly350 hg2 (la350 _ (hg2).2).1 ?_
      refine tk_Ps  1 (pc' := 124) (ls' := [(0, .ref 295), (1, .int v1), (3, .int v3), (4, .int v4)]) (st' := [.int v3, .ref (351 + 4 * (tk_n v1))]) rfl ?_
      obtain ⟨hg3, h⟩ := tk_grd h
      refine tk_HQ  rfl rfl ((la350 _ (hg2).2).2) hg3 (lbR _ ((hg2).2) _ (hg3).2).1 ?_
      refine tk_Ps  1 (pc' := 127) (ls' := [(0, .ref 295), (1, .int v1), (3, .int v3), (4, .int v4)]) (st' := [.int v4, .ref ((351 + 4 * (tk_n v1)) + 1 + (tk_n v3))]) rfl ?_
      obtain ⟨hg4, h⟩ := tk_grd h
      refine tk_HJa  rfl rfl ((lbR _ ((hg2).2) _ (hg3).2).2) hg4 ?_
      refine tk_Ps  2 (pc' := 131) (ls' := [(5, .long (m.2.1 ((351 + 4 * (tk_n v1)) + 1 + (tk_n v3)) (tk_n v4))), (0, .ref 295), (1, .int v1), (3, .int v3), (4, .int v4)]) (st' := [.ref 295]) rfl ?_
      refine tk_HR  rfl rfl ly295 rt295_13 ?_
      refine tk_Ps  1 (pc' := 135) (ls' := [(5, .long (m.2.1 ((351 + 4 * (tk_n v1)) + 1 + (tk_n v3)) (tk_n v4))), (0, .ref 295), (1, .int v1), (3, .int v3), (4, .int v4)]) (st' := [.int v1, .ref 350]) rfl ?_
      refine tk_HQ  rfl rfl ly350 hg2 (la350 _ (hg2).2).1 ?_
      refine tk_Ps  1 (pc' := 137) (ls' := [(5, .long (m.2.1 ((351 + 4 * (tk_n v1)) + 1 + (tk_n v3)) (tk_n v4))), (0, .ref 295), (1, .int v1), (3, .int v3), (4, .int v4)]) (st' := [.int v3, .ref (351 + 4 * (tk_n v1))]) rfl ?_
      refine tk_HQ  rfl rfl ((la350 _ (hg2).2).2) hg3 (lbR _ ((hg2).2) _ (hg3).2).1 ?_
      refine tk_Ps  2 (pc' := 141) (ls' := [(5, .long (m.2.1 ((351 + 4 * (tk_n v1)) + 1 + (tk_n v3)) (tk_n v4))), (0, .ref 295), (1, .int v1), (3, .int v3), (4, .int v4)]) (st' := [.ref 295, .int v4, .ref ((351 + 4 * (tk_n v1)) + 1 + (tk_n v3))]) rfl ?_
      refine tk_HR  rfl rfl ly295 rt295_13 ?_
      refine tk_Ps  3 (pc' := 147) (ls' := [(5, .long (m.2.1 ((351 + 4 * (tk_n v1)) + 1 + (tk_n v3)) (tk_n v4))), (0, .ref 295), (1, .int v1), (3, .int v3), (4, .int v4)]) (st' := [.int (v1 + (1 : Int32)), .ref 350, .int v4, .ref ((351 + 4 * (tk_n v1)) + 1 + (tk_n v3))]) rfl ?_
      obtain ⟨hg5, h⟩ := tk_grd h
      refine tk_HQ  rfl rfl ly350 hg5 (la350 _ (hg5).2).1 ?_
      refine tk_Ps  1 (pc' := 149) (ls' := [(5, .long (m.2.1 ((351 + 4 * (tk_n v1)) + 1 + (tk_n v3)) (tk_n v4))), (0, .ref 295), (1, .int v1), (3, .int v3), (4, .int v4)]) (st' := [.int v3, .ref (351 + 4 * (tk_n (v1 + (1 : Int32)))), .int v4, .ref ((351 + 4 * (tk_n v1)) + 1 + (tk_n v3))]) rfl ?_
      refine tk_HQ  rfl rfl ((la350 _ (hg5).2).2) hg3 (lbR _ ((hg5).2) _ (hg3).2).1 ?_
      refine tk_Ps  1 (pc' := 152) (ls' := [(5, .long (m.2.1 ((351 + 4 * (tk_n v1)) + 1 + (tk_n v3)) (tk_n v4))), (0, .ref 295), (1, .int v1), (3, .int v3), (4, .int v4)]) (st' := [.int v4, .ref ((351 + 4 * (tk_n (v1 + (1 : Int32)))) + 1 + (tk_n v3)), .int v4, .ref ((351 + 4 * (tk_n v1)) + 1 + (tk_n v3))]) rfl ?_
      refine tk_HJa  rfl rfl ((lbR _ ((hg5).2) _ (hg3).2).2) hg4 ?_
      refine tk_SJa  rfl rfl ((lbR _ ((hg2).2) _ (hg3).2).2) hg4 ?_
      refine tk_Ps  1 (pc' := 155) (ls' := [(5, .long (m.2.1 ((351 + 4 * (tk_n v1)) + 1 + (tk_n v3)) (tk_n v4))), (0, .ref 295), (1, .int v1), (3, .int v3), (4, .int v4)]) (st' := [.ref 295]) rfl ?_
      refine tk_HR  rfl rfl ly295 rt295_13 ?_
      refine tk_Ps  3 (pc' := 161) (ls' := [(5, .long (m.2.1 ((351 + 4 * (tk_n v1)) + 1 + (tk_n v3)) (tk_n v4))), (0, .ref 295), (1, .int v1), (3, .int v3), (4, .int v4)]) (st' := [.int (v1 + (1 : Int32)), .ref 350]) rfl ?_
      refine tk_HQ  rfl rfl ly350 hg5 (la350 _ (hg5).2).1 ?_
      refine tk_Ps  1 (pc' := 163) (ls' := [(5, .long (m.2.1 ((351 + 4 * (tk_n v1)) + 1 + (tk_n v3)) (tk_n v4))), (0, .ref 295), (1, .int v1), (3, .int v3), (4, .int v4)]) (st' := [.int v3, .ref (351 + 4 * (tk_n (v1 + (1 : Int32))))]) rfl ?_
      refine tk_HQ  rfl rfl ((la350 _ (hg5).2).2) hg3 (lbR _ ((hg5).2) _ (hg3).2).1 ?_
      refine tk_Ps  2 (pc' := 168) (ls' := [(5, .long (m.2.1 ((351 + 4 * (tk_n v1)) + 1 + (tk_n v3)) (tk_n v4))), (0, .ref 295), (1, .int v1), (3, .int v3), (4, .int v4)]) (st' := [.long (m.2.1 ((351 + 4 * (tk_n v1)) + 1 + (tk_n v3)) (tk_n v4)), .int v4, .ref ((351 + 4 * (tk_n (v1 + (1 : Int32)))) + 1 + (tk_n v3))]) rfl ?_
      refine tk_SJa  rfl rfl ((lbR _ ((hg5).2) _ (hg3).2).2) hg4 ?_
      refine tk_Ps  2 (pc' := 111) (ls' := [(4, .int (v4 + (1 : Int32))), (5, .long (m.2.1 ((351 + 4 * (tk_n v1)) + 1 + (tk_n v3)) (tk_n v4))), (0, .ref 295), (1, .int v1), (3, .int v3)]) (st' := []) rfl ?_
      refine tk_Kp  (ls' := [(0, .ref 295), (1, .int v1), (3, .int v3), (4, .int (v4 + (1 : Int32)))]) rfl rfl ?_
      exact ih v1 v3 (v4 + (1 : Int32)) (m.1, tk_u2 (tk_u2 m.2.1 ((351 + 4 * (tk_n v1)) + 1 + (tk_n v3)) (tk_n v4) (m.2.1 ((351 + 4 * (tk_n (v1 + (1 : Int32)))) + 1 + (tk_n v3)) (tk_n v4))) ((351 + 4 * (tk_n (v1 + (1 : Int32)))) + 1 + (tk_n v3)) (tk_n v4) (m.2.1 ((351 + 4 * (tk_n v1)) + 1 + (tk_n v3)) (tk_n v4)), m.2.2.1, m.2.2.2) _ h
theorem ok_fM_laysInOrder_103 (sc : tk_X) : ∀ (n : Nat) (v1 : Int32) (v3 : Int32) (m : tk_m) (out : tk_m), fM_laysInOrder_103 n v1 v3 m = some out → tk_Ex sc 4 tk_r235 tk_k235 103 [(0, .ref 295), (1, .int v1), (3, .int v3)] [] (tk_full m) (none, tk_full out) := by
  intro n
  induction n with
  | zero =>
    intro v1 v3 m out h
    cases h
  | succ n ih =>
    intro v1 v3 m out h
    unfold fM_laysInOrder_103 at h
    refine tk_Ps  2 (pc' := 105) (ls' := [(0, .ref 295), (1, .int v1), (3, .int v3)]) (st' := [.int (3 : Int32), .int v3]) rfl ?_
    by_cases hc1 : (3 : Int32) ≤ v3
    · replace h := tk_ifT hc1 h
      refine tk_bT  rfl rfl rfl (c := (3 : Int32) ≤ v3) hc1 (pc' := 181) (ls' := [(0, .ref 295), (1, .int v1), (3, .int v3)]) (st' := []) ?_
      refine tk_Ps  2 (pc' := 183) (ls' := [(3, .int (0 : Int32)), (0, .ref 295), (1, .int v1)]) (st' := []) rfl ?_
      refine tk_Kp  (ls' := [(0, .ref 295), (1, .int v1), (3, .int (0 : Int32))]) rfl rfl ?_
      exact ok_fM_laysInOrder_183 sc tk_F v1 (0 : Int32) m _ h
    · replace h := tk_ifF hc1 h
      refine tk_bF  rfl rfl rfl (c := (3 : Int32) ≤ v3) hc1 (pc' := 108) (ls' := [(0, .ref 295), (1, .int v1), (3, .int v3)]) (st' := []) ?_
      refine tk_Ps  2 (pc' := 111) (ls' := [(4, .int (0 : Int32)), (0, .ref 295), (1, .int v1), (3, .int v3)]) (st' := []) rfl ?_
      refine tk_Kp  (ls' := [(0, .ref 295), (1, .int v1), (3, .int v3), (4, .int (0 : Int32))]) rfl rfl ?_
      exact ok_fM_laysInOrder_111 sc (fM_laysInOrder_103 n) ih tk_F v1 v3 (0 : Int32) m _ h
theorem ok_fM_laysInOrder_64 (sc : tk_X) (v1 : Int32) (s0 : Int32) (m : tk_m) (out : tk_m) (h : fM_laysInOrder_64 v1 s0 m = some out) : tk_Ex sc 4 tk_r235 tk_k235 64 [(0, .ref 295), (1, .int v1)] [.int s0] (tk_full m) (none, tk_full out) := by
  unfold fM_laysInOrder_64 at h
  refine tk_Ps  2 (pc' := 66) (ls' := [(2, .int s0), (0, .ref 295), (1, .int v1)]) (st' := [.int s0]) rfl ?_
  by_cases hc1 : s0 = 0
  · replace h := tk_ifT hc1 h
    refine tk_bT  rfl rfl rfl (c := s0 = 0) hc1 (pc' := 69) (ls' := [(2, .int s0), (0, .ref 295), (1, .int v1)]) (st' := []) ?_
    refine tk_Ps  2 (pc' := 71) (ls' := [(2, .int s0), (0, .ref 295), (1, .int v1)]) (st' := [.ref 295, .ref 295]) rfl ?_
    refine tk_HR  rfl rfl ly295 rt295_13 ?_
    refine tk_Ps  1 (pc' := 75) (ls' := [(2, .int s0), (0, .ref 295), (1, .int v1)]) (st' := [.int v1, .ref 350, .ref 295]) rfl ?_
    obtain ⟨hg2, h⟩ := tk_grd h
    refine tk_HQ  rfl rfl ly350 hg2 (la350 _ (hg2).2).1 ?_
    refine tk_Ps  1 (pc' := 77) (ls' := [(2, .int s0), (0, .ref 295), (1, .int v1)]) (st' := [.int (1 : Int32), .ref (351 + 4 * (tk_n v1)), .ref 295]) rfl ?_
    refine tk_HQ  rfl rfl ((la350 _ (hg2).2).2) (by decide) (lbR _ ((hg2).2) 1 (by decide)).1 ?_
    refine tk_Ps  1 (pc' := 79) (ls' := [(2, .int s0), (0, .ref 295), (1, .int v1)]) (st' := [.ref 295, .ref ((351 + 4 * (tk_n v1)) + 1 + 1), .ref 295]) rfl ?_
    refine tk_HR  rfl rfl ly295 rt295_13 ?_
    refine tk_Ps  3 (pc' := 85) (ls' := [(2, .int s0), (0, .ref 295), (1, .int v1)]) (st' := [.int (v1 + (1 : Int32)), .ref 350, .ref ((351 + 4 * (tk_n v1)) + 1 + 1), .ref 295]) rfl ?_
    obtain ⟨hg3, h⟩ := tk_grd h
    refine tk_HQ  rfl rfl ly350 hg3 (la350 _ (hg3).2).1 ?_
    refine tk_Ps  1 (pc' := 87) (ls' := [(2, .int s0), (0, .ref 295), (1, .int v1)]) (st' := [.int (1 : Int32), .ref (351 + 4 * (tk_n (v1 + (1 : Int32)))), .ref ((351 + 4 * (tk_n v1)) + 1 + 1), .ref 295]) rfl ?_
    refine tk_HQ  rfl rfl ((la350 _ (hg3).2).2) (by decide) (lbR _ ((hg3).2) 1 (by decide)).1 ?_
    obtain ⟨o4, ho4, h⟩ := tk_bnd h
    refine tk_cV1  rfl rfl (r := 295) (as := [.ref ((351 + 4 * (tk_n v1)) + 1 + 1), .ref ((351 + 4 * (tk_n (v1 + (1 : Int32)))) + 1 + 1)]) (rest := []) rfl ly295 rfl rfl (ok_fM_compares sc ((351 + 4 * (tk_n v1)) + 1 + 1) ((351 + 4 * (tk_n (v1 + (1 : Int32)))) + 1 + 1) m (tk_al_of ((lbR _ ((hg2).2) 1 (by decide)).2)) (tk_al_of ((lbR _ ((hg3).2) 1 (by decide)).2)) ho4) ?_
    refine tk_Ps  3 (pc' := 97) (ls' := [(2, .int o4.1), (0, .ref 295), (1, .int v1)]) (st' := [.int o4.1]) rfl ?_
    by_cases hc5 : 0 < o4.1
    · replace h := tk_ifT hc5 h
      refine tk_bT  rfl rfl rfl (c := 0 < o4.1) hc5 (pc' := 101) (ls' := [(2, .int o4.1), (0, .ref 295), (1, .int v1)]) (st' := []) ?_
      refine tk_Ps  2 (pc' := 103) (ls' := [(3, .int (0 : Int32)), (2, .int o4.1), (0, .ref 295), (1, .int v1)]) (st' := []) rfl ?_
      refine tk_Kp  (ls' := [(0, .ref 295), (1, .int v1), (3, .int (0 : Int32))]) rfl rfl ?_
      exact ok_fM_laysInOrder_103 sc tk_F v1 (0 : Int32) o4.2 _ h
    · replace h := tk_ifF hc5 h
      refine tk_bF  rfl rfl rfl (c := 0 < o4.1) hc5 (pc' := 100) (ls' := [(2, .int o4.1), (0, .ref 295), (1, .int v1)]) (st' := []) ?_
      replace h := Option.some.inj h
      subst h
      exact tk_RV  rfl rfl rfl
  · replace h := tk_ifF hc1 h
    refine tk_bF  rfl rfl rfl (c := s0 = 0) hc1 (pc' := 94) (ls' := [(2, .int s0), (0, .ref 295), (1, .int v1)]) (st' := []) ?_
    refine tk_Ps  3 (pc' := 97) (ls' := [(2, .int s0), (0, .ref 295), (1, .int v1)]) (st' := [.int s0]) rfl ?_
    by_cases hc6 : 0 < s0
    · replace h := tk_ifT hc6 h
      refine tk_bT  rfl rfl rfl (c := 0 < s0) hc6 (pc' := 101) (ls' := [(2, .int s0), (0, .ref 295), (1, .int v1)]) (st' := []) ?_
      refine tk_Ps  2 (pc' := 103) (ls' := [(3, .int (0 : Int32)), (2, .int s0), (0, .ref 295), (1, .int v1)]) (st' := []) rfl ?_
      refine tk_Kp  (ls' := [(0, .ref 295), (1, .int v1), (3, .int (0 : Int32))]) rfl rfl ?_
      exact ok_fM_laysInOrder_103 sc tk_F v1 (0 : Int32) m _ h
    · replace h := tk_ifF hc6 h
      refine tk_bF  rfl rfl rfl (c := 0 < s0) hc6 (pc' := 100) (ls' := [(2, .int s0), (0, .ref 295), (1, .int v1)]) (st' := []) ?_
      replace h := Option.some.inj h
      subst h
      exact tk_RV  rfl rfl rfl
theorem ok_fM_laysInOrder (sc : tk_X) (a1 : Int32) (m : tk_m) {out : tk_m} (h : fM_laysInOrder a1 m = some out) : tk_Ru sc 5 235 [.ref 295, .int a1] (tk_full m) (none, tk_full out) := by
  unfold fM_laysInOrder at h
  refine tk_Ru0 me235 (ls := [(0, .ref 295), (1, .int a1)]) rfl rfl ?_
  refine tk_Ps  1 (pc' := 1) (ls' := [(0, .ref 295), (1, .int a1)]) (st' := [.ref 295]) rfl ?_
  refine tk_HI  rfl rfl ly295 ?_
  refine tk_Ps  3 (pc' := 7) (ls' := [(0, .ref 295), (1, .int a1)]) (st' := [.int (2 : Int32), .int ((m.1 295 10) - a1)]) rfl ?_
  by_cases hc1 : (2 : Int32) ≤ ((m.1 295 10) - a1)
  · replace h := tk_ifT hc1 h
    refine tk_bT  rfl rfl rfl (c := (2 : Int32) ≤ ((m.1 295 10) - a1)) hc1 (pc' := 11) (ls' := [(0, .ref 295), (1, .int a1)]) (st' := []) ?_
    refine tk_Ps  2 (pc' := 13) (ls' := [(0, .ref 295), (1, .int a1)]) (st' := [.ref 295, .ref 295]) rfl ?_
    refine tk_HR  rfl rfl ly295 rt295_13 ?_
    refine tk_Ps  1 (pc' := 17) (ls' := [(0, .ref 295), (1, .int a1)]) (st' := [.int a1, .ref 350, .ref 295]) rfl ?_
    obtain ⟨hg2, h⟩ := tk_grd h
    refine tk_HQ  rfl rfl ly350 hg2 (la350 _ (hg2).2).1 ?_
    refine tk_Ps  1 (pc' := 19) (ls' := [(0, .ref 295), (1, .int a1)]) (st' := [.int (2 : Int32), .ref (351 + 4 * (tk_n a1)), .ref 295]) rfl ?_
    refine tk_HQ  rfl rfl ((la350 _ (hg2).2).2) (by decide) (lbR _ ((hg2).2) 2 (by decide)).1 ?_
    refine tk_Ps  1 (pc' := 21) (ls' := [(0, .ref 295), (1, .int a1)]) (st' := [.ref 295, .ref ((351 + 4 * (tk_n a1)) + 1 + 2), .ref 295]) rfl ?_
    refine tk_HR  rfl rfl ly295 rt295_13 ?_
    refine tk_Ps  3 (pc' := 27) (ls' := [(0, .ref 295), (1, .int a1)]) (st' := [.int (a1 + (1 : Int32)), .ref 350, .ref ((351 + 4 * (tk_n a1)) + 1 + 2), .ref 295]) rfl ?_
    obtain ⟨hg3, h⟩ := tk_grd h
    refine tk_HQ  rfl rfl ly350 hg3 (la350 _ (hg3).2).1 ?_
    refine tk_Ps  1 (pc' := 29) (ls' := [(0, .ref 295), (1, .int a1)]) (st' := [.int (2 : Int32), .ref (351 + 4 * (tk_n (a1 + (1 : Int32)))), .ref ((351 + 4 * (tk_n a1)) + 1 + 2), .ref 295]) rfl ?_
    refine tk_HQ  rfl rfl ((la350 _ (hg3).2).2) (by decide) (lbR _ ((hg3).2) 2 (by decide)).1 ?_
    obtain ⟨o4, ho4, h⟩ := tk_bnd h
    refine tk_cV1  rfl rfl (r := 295) (as := [.ref ((351 + 4 * (tk_n a1)) + 1 + 2), .ref ((351 + 4 * (tk_n (a1 + (1 : Int32)))) + 1 + 2)]) (rest := []) rfl ly295 rfl rfl (ok_fM_compares sc ((351 + 4 * (tk_n a1)) + 1 + 2) ((351 + 4 * (tk_n (a1 + (1 : Int32)))) + 1 + 2) m (tk_al_of ((lbR _ ((hg2).2) 2 (by decide)).2)) (tk_al_of ((lbR _ ((hg3).2) 2 (by decide)).2)) ho4) ?_
    refine tk_Ps  2 (pc' := 35) (ls' := [(2, .int o4.1), (0, .ref 295), (1, .int a1)]) (st' := [.int o4.1]) rfl ?_
    by_cases hc5 : o4.1 = 0
    · replace h := tk_ifT hc5 h
      refine tk_bT  rfl rfl rfl (c := o4.1 = 0) hc5 (pc' := 38) (ls' := [(2, .int o4.1), (0, .ref 295), (1, .int a1)]) (st' := []) ?_
      refine tk_Ps  2 (pc' := 40) (ls' := [(2, .int o4.1), (0, .ref 295), (1, .int a1)]) (st' := [.ref 295, .ref 295]) rfl ?_
      refine tk_HR  rfl rfl ly295 rt295_13 ?_
      refine tk_Ps  1 (pc' := 44) (ls' := [(2, .int o4.1), (0, .ref 295), (1, .int a1)]) (st' := [.int a1, .ref 350, .ref 295]) rfl ?_
      refine tk_HQ  rfl rfl ly350 hg2 (la350 _ (hg2).2).1 ?_
      refine tk_Ps  1 (pc' := 46) (ls' := [(2, .int o4.1), (0, .ref 295), (1, .int a1)]) (st' := [.int (0 : Int32), .ref (351 + 4 * (tk_n a1)), .ref 295]) rfl ?_
      refine tk_HQ  rfl rfl ((la350 _ (hg2).2).2) (by decide) (lbR _ ((hg2).2) 0 (by decide)).1 ?_
      refine tk_Ps  1 (pc' := 48) (ls' := [(2, .int o4.1), (0, .ref 295), (1, .int a1)]) (st' := [.ref 295, .ref ((351 + 4 * (tk_n a1)) + 1 + 0), .ref 295]) rfl ?_
      refine tk_HR  rfl rfl ly295 rt295_13 ?_
      refine tk_Ps  3 (pc' := 54) (ls' := [(2, .int o4.1), (0, .ref 295), (1, .int a1)]) (st' := [.int (a1 + (1 : Int32)), .ref 350, .ref ((351 + 4 * (tk_n a1)) + 1 + 0), .ref 295]) rfl ?_
      refine tk_HQ  rfl rfl ly350 hg3 (la350 _ (hg3).2).1 ?_
      refine tk_Ps  1 (pc' := 56) (ls' := [(2, .int o4.1), (0, .ref 295), (1, .int a1)]) (st' := [.int (0 : Int32), .ref (351 + 4 * (tk_n (a1 + (1 : Int32)))), .ref ((351 + 4 * (tk_n a1)) + 1 + 0), .ref 295]) rfl ?_
      refine tk_HQ  rfl rfl ((la350 _ (hg3).2).2) (by decide) (lbR _ ((hg3).2) 0 (by decide)).1 ?_
      obtain ⟨o6, ho6, h⟩ := tk_bnd h
      refine tk_cV1  rfl rfl (r := 295) (as := [.ref ((351 + 4 * (tk_n a1)) + 1 + 0), .ref ((351 + 4 * (tk_n (a1 + (1 : Int32)))) + 1 + 0)]) (rest := []) rfl ly295 rfl rfl (ok_fM_compares sc ((351 + 4 * (tk_n a1)) + 1 + 0) ((351 + 4 * (tk_n (a1 + (1 : Int32)))) + 1 + 0) o4.2 (tk_al_of ((lbR _ ((hg2).2) 0 (by decide)).2)) (tk_al_of ((lbR _ ((hg3).2) 0 (by decide)).2)) ho6) ?_
      refine tk_Ps  1 (pc' := 64) (ls' := [(2, .int o4.1), (0, .ref 295), (1, .int a1)]) (st' := [.int o6.1]) rfl ?_
      refine tk_Kp  (ls' := [(0, .ref 295), (1, .int a1)]) rfl rfl ?_
      exact ok_fM_laysInOrder_64 sc a1 o6.1 o6.2 _ h
    · replace h := tk_ifF hc5 h
      refine tk_bF  rfl rfl rfl (c := o4.1 = 0) hc5 (pc' := 63) (ls' := [(2, .int o4.1), (0, .ref 295), (1, .int a1)]) (st' := []) ?_
      refine tk_Ps  1 (pc' := 64) (ls' := [(2, .int o4.1), (0, .ref 295), (1, .int a1)]) (st' := [.int o4.1]) rfl ?_
      refine tk_Kp  (ls' := [(0, .ref 295), (1, .int a1)]) rfl rfl ?_
      exact ok_fM_laysInOrder_64 sc a1 o4.1 o4.2 _ h
  · replace h := tk_ifF hc1 h
    refine tk_bF  rfl rfl rfl (c := (2 : Int32) ≤ ((m.1 295 10) - a1)) hc1 (pc' := 10) (ls' := [(0, .ref 295), (1, .int a1)]) (st' := []) ?_
    replace h := Option.some.inj h
    subst h
    exact tk_RV  rfl rfl rfl
theorem ok_fM_solves_78 (sc : tk_X) (v1 : Int32) (v4 : Int64) (v8 : Int64) (m : tk_m) (out : tk_m) (h : fM_solves_78 v1 v4 v8 m = some out) : tk_Ex sc 5 tk_r233 tk_k233 78 [(0, .ref 295), (1, .int v1), (4, .long v4), (8, .long v8)] [] (tk_full m) (none, tk_full out) := by
  unfold fM_solves_78 at h
  refine tk_Ps  6 (pc' := 86) (ls' := [(0, .ref 295), (1, .int v1), (4, .long v4), (8, .long v8)]) (st' := [.long (v4 * v8), .long (0 : Int64), .int v1, .ref 295]) rfl ?_
  obtain ⟨o1, ho1, h⟩ := tk_bnd h
  refine tk_cV0  rfl rfl (r := 295) (as := [.int v1, .long (0 : Int64), .long (v4 * v8)]) (rest := []) rfl ly295 rfl rfl (ok_fM_takes sc v1 (0 : Int64) (v4 * v8) m ho1) ?_
  replace h := Option.some.inj h
  subst h
  exact tk_RV  rfl rfl rfl
theorem ok_fM_solves_38 (sc : tk_X) : ∀ (n : Nat) (v1 : Int32) (v4 : Int64) (v6 : Int64) (v8 : Int64) (v11 : Int32) (m : tk_m) (out : tk_m), fM_solves_38 n v1 v4 v6 v8 v11 m = some out → tk_Ex sc 5 tk_r233 tk_k233 38 [(0, .ref 295), (1, .int v1), (4, .long v4), (6, .long v6), (8, .long v8), (11, .int v11)] [] (tk_full m) (none, tk_full out) := by
  intro n
  induction n with
  | zero =>
    intro v1 v4 v6 v8 v11 m out h
    cases h
  | succ n ih =>
    intro v1 v4 v6 v8 v11 m out h
    unfold fM_solves_38 at h
    refine tk_Ps  2 (pc' := 41) (ls' := [(0, .ref 295), (1, .int v1), (4, .long v4), (6, .long v6), (8, .long v8), (11, .int v11)]) (st' := [.int (3 : Int32), .int v11]) rfl ?_
    by_cases hc1 : (3 : Int32) ≤ v11
    · replace h := tk_ifT hc1 h
      refine tk_bT  rfl rfl rfl (c := (3 : Int32) ≤ v11) hc1 (pc' := 78) (ls' := [(0, .ref 295), (1, .int v1), (4, .long v4), (6, .long v6), (8, .long v8), (11, .int v11)]) (st' := []) ?_
      refine tk_Kp  (ls' := [(0, .ref 295), (1, .int v1), (4, .long v4), (8, .long v8)]) rfl rfl ?_
      exact ok_fM_solves_78 sc v1 v4 v8 m _ h
    · replace h := tk_ifF hc1 h
      refine tk_bF  rfl rfl rfl (c := (3 : Int32) ≤ v11) hc1 (pc' := 44) (ls' := [(0, .ref 295), (1, .int v1), (4, .long v4), (6, .long v6), (8, .long v8), (11, .int v11)]) (st' := []) ?_
      refine tk_Ps  1 (pc' := 45) (ls' := [(0, .ref 295), (1, .int v1), (4, .long v4), (6, .long v6), (8, .long v8), (11, .int v11)]) (st' := [.ref 295]) rfl ?_
      refine tk_HR  rfl rfl ly295 rt295_21 ?_
      refine tk_Ps  3 (pc' := 53) (ls' := [(0, .ref 295), (1, .int v1), (4, .long v4), (6, .long v6), (8, .long v8), (11, .int v11)]) (st' := [.ref 295, .long v4, .int v11, .ref 440]) rfl ?_
      refine tk_HR  rfl rfl ly295 rt295_18 ?_
      refine tk_Ps  1 (pc' := 58) (ls' := [(0, .ref 295), (1, .int v1), (4, .long v4), (6, .long v6), (8, .long v8), (11, .int v11)]) (st' := [.int v11, .ref 437, .long v4, .int v11, .ref 440]) rfl ?_
      obtain ⟨hg2, h⟩ := tk_grd h
      refine tk_HJa  rfl rfl ly437 hg2 ?_
      refine tk_Ps  3 (pc' := 63) (ls' := [(0, .ref 295), (1, .int v1), (4, .long v4), (6, .long v6), (8, .long v8), (11, .int v11)]) (st' := [.ref 295, .long v6, .long (v4 * (m.2.1 437 (tk_n v11))), .int v11, .ref 440]) rfl ?_
      refine tk_HR  rfl rfl ly295 rt295_17 ?_
      refine tk_Ps  1 (pc' := 68) (ls' := [(0, .ref 295), (1, .int v1), (4, .long v4), (6, .long v6), (8, .long v8), (11, .int v11)]) (st' := [.int v11, .ref 436, .long v6, .long (v4 * (m.2.1 437 (tk_n v11))), .int v11, .ref 440]) rfl ?_
      refine tk_HJa  rfl rfl ly436 hg2 ?_
      refine tk_Ps  2 (pc' := 71) (ls' := [(0, .ref 295), (1, .int v1), (4, .long v4), (6, .long v6), (8, .long v8), (11, .int v11)]) (st' := [.long ((v4 * (m.2.1 437 (tk_n v11))) - (v6 * (m.2.1 436 (tk_n v11)))), .int v11, .ref 440]) rfl ?_
      refine tk_SJa  rfl rfl ly440 hg2 ?_
      refine tk_Ps  2 (pc' := 38) (ls' := [(11, .int (v11 + (1 : Int32))), (0, .ref 295), (1, .int v1), (4, .long v4), (6, .long v6), (8, .long v8)]) (st' := []) rfl ?_
      refine tk_Kp  (ls' := [(0, .ref 295), (1, .int v1), (4, .long v4), (6, .long v6), (8, .long v8), (11, .int (v11 + (1 : Int32)))]) rfl rfl ?_
      exact ih v1 v4 v6 v8 (v11 + (1 : Int32)) (m.1, tk_u2 m.2.1 440 (tk_n v11) ((v4 * (m.2.1 437 (tk_n v11))) - (v6 * (m.2.1 436 (tk_n v11)))), m.2.2.1, m.2.2.2) _ h
theorem ok_fM_solves_267 (sc : tk_X) (r130 : Int32 → Int64 → Int64 → Int64 → Int32 → Int64 → Int32 → tk_m → Option tk_m) (H130 : ∀ (v1 : Int32) (v2 : Int64) (v4 : Int64) (v8 : Int64) (v10 : Int32) (v11 : Int64) (v13 : Int32) (m : tk_m) (out : tk_m), r130 v1 v2 v4 v8 v10 v11 v13 m = some out → tk_Ex sc 5 tk_r233 tk_k233 130 [(0, .ref 295), (1, .int v1), (2, .long v2), (4, .long v4), (8, .long v8), (10, .int v10), (11, .long v11), (13, .int v13)] [] (tk_full m) (none, tk_full out)) (v1 : Int32) (v2 : Int64) (v4 : Int64) (v8 : Int64) (v10 : Int32) (v11 : Int64) (v13 : Int32) (m : tk_m) (out : tk_m) (h : fM_solves_267 r130 v1 v2 v4 v8 v10 v11 v13 m = some out) : tk_Ex sc 5 tk_r233 tk_k233 267 [(0, .ref 295), (1, .int v1), (2, .long v2), (4, .long v4), (8, .long v8), (10, .int v10), (11, .long v11), (13, .int v13)] [] (tk_full m) (none, tk_full out) := by
  unfold fM_solves_267 at h
  refine tk_Ps  5 (pc' := 273) (ls' := [(0, .ref 295), (1, .int v1), (2, .long v2), (4, .long v4), (8, .long v8), (10, .int v10), (11, .long v11), (13, .int v13)]) (st' := [.int (lg_cmp v11 (0 : Int64)), .int v1, .ref 295]) rfl ?_
  by_cases hc1 : v11 = (0 : Int64)
  · replace h := tk_ifT hc1 h
    refine tk_bT  rfl rfl tk_eL_eq (c := v11 = (0 : Int64)) hc1 (pc' := 285) (ls' := [(0, .ref 295), (1, .int v1), (2, .long v2), (4, .long v4), (8, .long v8), (10, .int v10), (11, .long v11), (13, .int v13)]) (st' := [.int v1, .ref 295]) ?_
    refine tk_Ps  7 (pc' := 301) (ls' := [(0, .ref 295), (1, .int v1), (2, .long v2), (4, .long v4), (8, .long v8), (10, .int v10), (11, .long v11), (13, .int v13)]) (st' := [.long (((2 : Int64) * v2) * v8), .long (0 : Int64), .int v1, .ref 295]) rfl ?_
    obtain ⟨o2, ho2, h⟩ := tk_bnd h
    refine tk_cV0  rfl rfl (r := 295) (as := [.int v1, .long (0 : Int64), .long (((2 : Int64) * v2) * v8)]) (rest := []) rfl ly295 rfl rfl (ok_fM_takes sc v1 (0 : Int64) (((2 : Int64) * v2) * v8) m ho2) ?_
    refine tk_Ps  2 (pc' := 130) (ls' := [(13, .int (v13 + (2 : Int32))), (0, .ref 295), (1, .int v1), (2, .long v2), (4, .long v4), (8, .long v8), (10, .int v10), (11, .long v11)]) (st' := []) rfl ?_
    refine tk_Kp  (ls' := [(0, .ref 295), (1, .int v1), (2, .long v2), (4, .long v4), (8, .long v8), (10, .int v10), (11, .long v11), (13, .int (v13 + (2 : Int32)))]) rfl rfl ?_
    exact H130 v1 v2 v4 v8 v10 v11 (v13 + (2 : Int32)) o2 _ h
  · replace h := tk_ifF hc1 h
    refine tk_bF  rfl rfl tk_eL_eq (c := v11 = (0 : Int64)) hc1 (pc' := 276) (ls' := [(0, .ref 295), (1, .int v1), (2, .long v2), (4, .long v4), (8, .long v8), (10, .int v10), (11, .long v11), (13, .int v13)]) (st' := [.int v1, .ref 295]) ?_
    refine tk_Ps  1 (pc' := 277) (ls' := [(0, .ref 295), (1, .int v1), (2, .long v2), (4, .long v4), (8, .long v8), (10, .int v10), (11, .long v11), (13, .int v13)]) (st' := [.ref 295, .int v1, .ref 295]) rfl ?_
    refine tk_HJ  rfl rfl ly295 ?_
    refine tk_Ps  2 (pc' := 282) (ls' := [(0, .ref 295), (1, .int v1), (2, .long v2), (4, .long v4), (8, .long v8), (10, .int v10), (11, .long v11), (13, .int v13)]) (st' := [.int (lg_cmp (m.2.1 295 6) (1 : Int64)), .int v1, .ref 295]) rfl ?_
    by_cases hc3 : (m.2.1 295 6) = (1 : Int64)
    · replace h := tk_ifT hc3 h
      refine tk_bT  rfl rfl tk_eL_ne (c := (m.2.1 295 6) = (1 : Int64)) hc3 (pc' := 285) (ls' := [(0, .ref 295), (1, .int v1), (2, .long v2), (4, .long v4), (8, .long v8), (10, .int v10), (11, .long v11), (13, .int v13)]) (st' := [.int v1, .ref 295]) ?_
      refine tk_Ps  7 (pc' := 301) (ls' := [(0, .ref 295), (1, .int v1), (2, .long v2), (4, .long v4), (8, .long v8), (10, .int v10), (11, .long v11), (13, .int v13)]) (st' := [.long (((2 : Int64) * v2) * v8), .long (0 : Int64), .int v1, .ref 295]) rfl ?_
      obtain ⟨o4, ho4, h⟩ := tk_bnd h
      refine tk_cV0  rfl rfl (r := 295) (as := [.int v1, .long (0 : Int64), .long (((2 : Int64) * v2) * v8)]) (rest := []) rfl ly295 rfl rfl (ok_fM_takes sc v1 (0 : Int64) (((2 : Int64) * v2) * v8) m ho4) ?_
      refine tk_Ps  2 (pc' := 130) (ls' := [(13, .int (v13 + (2 : Int32))), (0, .ref 295), (1, .int v1), (2, .long v2), (4, .long v4), (8, .long v8), (10, .int v10), (11, .long v11)]) (st' := []) rfl ?_
      refine tk_Kp  (ls' := [(0, .ref 295), (1, .int v1), (2, .long v2), (4, .long v4), (8, .long v8), (10, .int v10), (11, .long v11), (13, .int (v13 + (2 : Int32)))]) rfl rfl ?_
      exact H130 v1 v2 v4 v8 v10 v11 (v13 + (2 : Int32)) o4 _ h
    · replace h := tk_ifF hc3 h
      refine tk_bF  rfl rfl tk_eL_ne (c := (m.2.1 295 6) = (1 : Int64)) hc3 (pc' := 289) (ls' := [(0, .ref 295), (1, .int v1), (2, .long v2), (4, .long v4), (8, .long v8), (10, .int v10), (11, .long v11), (13, .int v13)]) (st' := [.int v1, .ref 295]) ?_
      refine tk_Ps  1 (pc' := 290) (ls' := [(0, .ref 295), (1, .int v1), (2, .long v2), (4, .long v4), (8, .long v8), (10, .int v10), (11, .long v11), (13, .int v13)]) (st' := [.ref 295, .int v1, .ref 295]) rfl ?_
      refine tk_HJ  rfl rfl ly295 ?_
      refine tk_Ps  5 (pc' := 301) (ls' := [(0, .ref 295), (1, .int v1), (2, .long v2), (4, .long v4), (8, .long v8), (10, .int v10), (11, .long v11), (13, .int v13)]) (st' := [.long (((2 : Int64) * v2) * v8), .long (m.2.1 295 6), .int v1, .ref 295]) rfl ?_
      obtain ⟨o5, ho5, h⟩ := tk_bnd h
      refine tk_cV0  rfl rfl (r := 295) (as := [.int v1, .long (m.2.1 295 6), .long (((2 : Int64) * v2) * v8)]) (rest := []) rfl ly295 rfl rfl (ok_fM_takes sc v1 (m.2.1 295 6) (((2 : Int64) * v2) * v8) m ho5) ?_
      refine tk_Ps  2 (pc' := 130) (ls' := [(13, .int (v13 + (2 : Int32))), (0, .ref 295), (1, .int v1), (2, .long v2), (4, .long v4), (8, .long v8), (10, .int v10), (11, .long v11)]) (st' := []) rfl ?_
      refine tk_Kp  (ls' := [(0, .ref 295), (1, .int v1), (2, .long v2), (4, .long v4), (8, .long v8), (10, .int v10), (11, .long v11), (13, .int (v13 + (2 : Int32)))]) rfl rfl ?_
      exact H130 v1 v2 v4 v8 v10 v11 (v13 + (2 : Int32)) o5 _ h
theorem ok_fM_solves_230 (sc : tk_X) (r130 : Int32 → Int64 → Int64 → Int64 → Int32 → Int64 → Int32 → tk_m → Option tk_m) (H130 : ∀ (v1 : Int32) (v2 : Int64) (v4 : Int64) (v8 : Int64) (v10 : Int32) (v11 : Int64) (v13 : Int32) (m : tk_m) (out : tk_m), r130 v1 v2 v4 v8 v10 v11 v13 m = some out → tk_Ex sc 5 tk_r233 tk_k233 130 [(0, .ref 295), (1, .int v1), (2, .long v2), (4, .long v4), (8, .long v8), (10, .int v10), (11, .long v11), (13, .int v13)] [] (tk_full m) (none, tk_full out)) (r150 : Int32 → Int64 → Int64 → Int64 → Int32 → Int64 → Int32 → Int32 → tk_m → Option tk_m) (H150 : ∀ (v1 : Int32) (v2 : Int64) (v4 : Int64) (v8 : Int64) (v10 : Int32) (v11 : Int64) (v13 : Int32) (v14 : Int32) (m : tk_m) (out : tk_m), r150 v1 v2 v4 v8 v10 v11 v13 v14 m = some out → tk_Ex sc 5 tk_r233 tk_k233 150 [(0, .ref 295), (1, .int v1), (2, .long v2), (4, .long v4), (8, .long v8), (10, .int v10), (11, .long v11), (13, .int v13), (14, .int v14)] [] (tk_full m) (none, tk_full out)) (v1 : Int32) (v2 : Int64) (v4 : Int64) (v8 : Int64) (v10 : Int32) (v11 : Int64) (v13 : Int32) (v14 : Int32) (v15 : Int64) (s0 : Int64) (s1 : Int64) (s2 : Int32) (m : tk_m) (out : tk_m) (h : fM_solves_230 r130 r150 v1 v2 v4 v8 v10 v11 v13 v14 v15 s0 s1 s2 m = some out) : tk_Ex sc 5 tk_r233 tk_k233 230 [(0, .ref 295), (1, .int v1), (2, .long v2), (4, .long v4), (8, .long v8), (10, .int v10), (11, .long v11), (13, .int v13), (14, .int v14), (15, .long v15)] [.long s0, .long s1, .int s2, .ref 440] (tk_full m) (none, tk_full out) := by
  unfold fM_solves_230 at h
  refine tk_Ps  1 (pc' := 231) (ls' := [(0, .ref 295), (1, .int v1), (2, .long v2), (4, .long v4), (8, .long v8), (10, .int v10), (11, .long v11), (13, .int v13), (14, .int v14), (15, .long v15)]) (st' := [.long (s1 + s0), .int s2, .ref 440]) rfl ?_
  obtain ⟨hg1, h⟩ := tk_grd h
  refine tk_SJa  rfl rfl ly440 hg1 ?_
  refine tk_Ps  1 (pc' := 233) (ls' := [(0, .ref 295), (1, .int v1), (2, .long v2), (4, .long v4), (8, .long v8), (10, .int v10), (11, .long v11), (13, .int v13), (14, .int v14), (15, .long v15)]) (st' := [.ref 295]) rfl ?_
  refine tk_HR  rfl rfl ly295 rt295_22 ?_
  refine tk_Ps  4 (pc' := 242) (ls' := [(0, .ref 295), (1, .int v1), (2, .long v2), (4, .long v4), (8, .long v8), (10, .int v10), (11, .long v11), (13, .int v13), (14, .int v14), (15, .long v15)]) (st' := [.int (lg_cmp v11 (0 : Int64)), .int v14, .ref 441]) rfl ?_
  by_cases hc2 : v11 = (0 : Int64)
  · replace h := tk_ifT hc2 h
    refine tk_bT  rfl rfl tk_eL_eq (c := v11 = (0 : Int64)) hc2 (pc' := 254) (ls' := [(0, .ref 295), (1, .int v1), (2, .long v2), (4, .long v4), (8, .long v8), (10, .int v10), (11, .long v11), (13, .int v13), (14, .int v14), (15, .long v15)]) (st' := [.int v14, .ref 441]) ?_
    refine tk_Ps  2 (pc' := 260) (ls' := [(0, .ref 295), (1, .int v1), (2, .long v2), (4, .long v4), (8, .long v8), (10, .int v10), (11, .long v11), (13, .int v13), (14, .int v14), (15, .long v15)]) (st' := [.long (0 : Int64), .int v14, .ref 441]) rfl ?_
    obtain ⟨hg3, h⟩ := tk_grd h
    refine tk_SJa  rfl rfl ly441 hg3 ?_
    refine tk_Ps  2 (pc' := 150) (ls' := [(14, .int (v14 + (1 : Int32))), (0, .ref 295), (1, .int v1), (2, .long v2), (4, .long v4), (8, .long v8), (10, .int v10), (11, .long v11), (13, .int v13), (15, .long v15)]) (st' := []) rfl ?_
    refine tk_Kp  (ls' := [(0, .ref 295), (1, .int v1), (2, .long v2), (4, .long v4), (8, .long v8), (10, .int v10), (11, .long v11), (13, .int v13), (14, .int (v14 + (1 : Int32)))]) rfl rfl ?_
    exact H150 v1 v2 v4 v8 v10 v11 v13 (v14 + (1 : Int32)) (m.1, tk_u2 (tk_u2 m.2.1 440 (tk_n s2) (s1 + s0)) 441 (tk_n v14) (0 : Int64), m.2.2.1, m.2.2.2) _ h
  · replace h := tk_ifF hc2 h
    refine tk_bF  rfl rfl tk_eL_eq (c := v11 = (0 : Int64)) hc2 (pc' := 245) (ls' := [(0, .ref 295), (1, .int v1), (2, .long v2), (4, .long v4), (8, .long v8), (10, .int v10), (11, .long v11), (13, .int v13), (14, .int v14), (15, .long v15)]) (st' := [.int v14, .ref 441]) ?_
    refine tk_Ps  1 (pc' := 246) (ls' := [(0, .ref 295), (1, .int v1), (2, .long v2), (4, .long v4), (8, .long v8), (10, .int v10), (11, .long v11), (13, .int v13), (14, .int v14), (15, .long v15)]) (st' := [.ref 295, .int v14, .ref 441]) rfl ?_
    refine tk_HJ  rfl rfl ly295 ?_
    refine tk_Ps  2 (pc' := 251) (ls' := [(0, .ref 295), (1, .int v1), (2, .long v2), (4, .long v4), (8, .long v8), (10, .int v10), (11, .long v11), (13, .int v13), (14, .int v14), (15, .long v15)]) (st' := [.int (lg_cmp (tk_u2 m.2.1 440 (tk_n s2) (s1 + s0) 295 6) (1 : Int64)), .int v14, .ref 441]) rfl ?_
    by_cases hc4 : (tk_u2 m.2.1 440 (tk_n s2) (s1 + s0) 295 6) = (1 : Int64)
    · replace h := tk_ifT hc4 h
      refine tk_bT  rfl rfl tk_eL_ne (c := (tk_u2 m.2.1 440 (tk_n s2) (s1 + s0) 295 6) = (1 : Int64)) hc4 (pc' := 254) (ls' := [(0, .ref 295), (1, .int v1), (2, .long v2), (4, .long v4), (8, .long v8), (10, .int v10), (11, .long v11), (13, .int v13), (14, .int v14), (15, .long v15)]) (st' := [.int v14, .ref 441]) ?_
      refine tk_Ps  2 (pc' := 260) (ls' := [(0, .ref 295), (1, .int v1), (2, .long v2), (4, .long v4), (8, .long v8), (10, .int v10), (11, .long v11), (13, .int v13), (14, .int v14), (15, .long v15)]) (st' := [.long (0 : Int64), .int v14, .ref 441]) rfl ?_
      obtain ⟨hg5, h⟩ := tk_grd h
      refine tk_SJa  rfl rfl ly441 hg5 ?_
      refine tk_Ps  2 (pc' := 150) (ls' := [(14, .int (v14 + (1 : Int32))), (0, .ref 295), (1, .int v1), (2, .long v2), (4, .long v4), (8, .long v8), (10, .int v10), (11, .long v11), (13, .int v13), (15, .long v15)]) (st' := []) rfl ?_
      refine tk_Kp  (ls' := [(0, .ref 295), (1, .int v1), (2, .long v2), (4, .long v4), (8, .long v8), (10, .int v10), (11, .long v11), (13, .int v13), (14, .int (v14 + (1 : Int32)))]) rfl rfl ?_
      exact H150 v1 v2 v4 v8 v10 v11 v13 (v14 + (1 : Int32)) (m.1, tk_u2 (tk_u2 m.2.1 440 (tk_n s2) (s1 + s0)) 441 (tk_n v14) (0 : Int64), m.2.2.1, m.2.2.2) _ h
    · replace h := tk_ifF hc4 h
      refine tk_bF  rfl rfl tk_eL_ne (c := (tk_u2 m.2.1 440 (tk_n s2) (s1 + s0) 295 6) = (1 : Int64)) hc4 (pc' := 258) (ls' := [(0, .ref 295), (1, .int v1), (2, .long v2), (4, .long v4), (8, .long v8), (10, .int v10), (11, .long v11), (13, .int v13), (14, .int v14), (15, .long v15)]) (st' := [.int v14, .ref 441]) ?_
      refine tk_Ps  1 (pc' := 260) (ls' := [(0, .ref 295), (1, .int v1), (2, .long v2), (4, .long v4), (8, .long v8), (10, .int v10), (11, .long v11), (13, .int v13), (14, .int v14), (15, .long v15)]) (st' := [.long v15, .int v14, .ref 441]) rfl ?_
      obtain ⟨hg6, h⟩ := tk_grd h
      refine tk_SJa  rfl rfl ly441 hg6 ?_
      refine tk_Ps  2 (pc' := 150) (ls' := [(14, .int (v14 + (1 : Int32))), (0, .ref 295), (1, .int v1), (2, .long v2), (4, .long v4), (8, .long v8), (10, .int v10), (11, .long v11), (13, .int v13), (15, .long v15)]) (st' := []) rfl ?_
      refine tk_Kp  (ls' := [(0, .ref 295), (1, .int v1), (2, .long v2), (4, .long v4), (8, .long v8), (10, .int v10), (11, .long v11), (13, .int v13), (14, .int (v14 + (1 : Int32)))]) rfl rfl ?_
      exact H150 v1 v2 v4 v8 v10 v11 v13 (v14 + (1 : Int32)) (m.1, tk_u2 (tk_u2 m.2.1 440 (tk_n s2) (s1 + s0)) 441 (tk_n v14) v15, m.2.2.1, m.2.2.2) _ h
theorem ok_fM_solves_183 (sc : tk_X) (r130 : Int32 → Int64 → Int64 → Int64 → Int32 → Int64 → Int32 → tk_m → Option tk_m) (H130 : ∀ (v1 : Int32) (v2 : Int64) (v4 : Int64) (v8 : Int64) (v10 : Int32) (v11 : Int64) (v13 : Int32) (m : tk_m) (out : tk_m), r130 v1 v2 v4 v8 v10 v11 v13 m = some out → tk_Ex sc 5 tk_r233 tk_k233 130 [(0, .ref 295), (1, .int v1), (2, .long v2), (4, .long v4), (8, .long v8), (10, .int v10), (11, .long v11), (13, .int v13)] [] (tk_full m) (none, tk_full out)) (r150 : Int32 → Int64 → Int64 → Int64 → Int32 → Int64 → Int32 → Int32 → tk_m → Option tk_m) (H150 : ∀ (v1 : Int32) (v2 : Int64) (v4 : Int64) (v8 : Int64) (v10 : Int32) (v11 : Int64) (v13 : Int32) (v14 : Int32) (m : tk_m) (out : tk_m), r150 v1 v2 v4 v8 v10 v11 v13 v14 m = some out → tk_Ex sc 5 tk_r233 tk_k233 150 [(0, .ref 295), (1, .int v1), (2, .long v2), (4, .long v4), (8, .long v8), (10, .int v10), (11, .long v11), (13, .int v13), (14, .int v14)] [] (tk_full m) (none, tk_full out)) (v1 : Int32) (v2 : Int64) (v4 : Int64) (v8 : Int64) (v10 : Int32) (v11 : Int64) (v13 : Int32) (v14 : Int32) (s0 : Int64) (m : tk_m) (out : tk_m) (h : fM_solves_183 r130 r150 v1 v2 v4 v8 v10 v11 v13 v14 s0 m = some out) : tk_Ex sc 5 tk_r233 tk_k233 183 [(0, .ref 295), (1, .int v1), (2, .long v2), (4, .long v4), (8, .long v8), (10, .int v10), (11, .long v11), (13, .int v13), (14, .int v14)] [.long s0] (tk_full m) (none, tk_full out) := by
  unfold fM_solves_183 at h
  refine tk_Ps  2 (pc' := 186) (ls' := [(15, .long s0), (0, .ref 295), (1, .int v1), (2, .long v2), (4, .long v4), (8, .long v8), (10, .int v10), (11, .long v11), (13, .int v13), (14, .int v14)]) (st' := [.ref 295]) rfl ?_
  refine tk_HR  rfl rfl ly295 rt295_21 ?_
  refine tk_Ps  5 (pc' := 197) (ls' := [(15, .long s0), (0, .ref 295), (1, .int v1), (2, .long v2), (4, .long v4), (8, .long v8), (10, .int v10), (11, .long v11), (13, .int v13), (14, .int v14)]) (st' := [.ref 295, .long ((2 : Int64) * v2), .int v14, .ref 440]) rfl ?_
  refine tk_HR  rfl rfl ly295 rt295_18 ?_
  refine tk_Ps  1 (pc' := 202) (ls' := [(15, .long s0), (0, .ref 295), (1, .int v1), (2, .long v2), (4, .long v4), (8, .long v8), (10, .int v10), (11, .long v11), (13, .int v13), (14, .int v14)]) (st' := [.int v14, .ref 437, .long ((2 : Int64) * v2), .int v14, .ref 440]) rfl ?_
  obtain ⟨hg1, h⟩ := tk_grd h
  refine tk_HJa  rfl rfl ly437 hg1 ?_
  refine tk_Ps  3 (pc' := 207) (ls' := [(15, .long s0), (0, .ref 295), (1, .int v1), (2, .long v2), (4, .long v4), (8, .long v8), (10, .int v10), (11, .long v11), (13, .int v13), (14, .int v14)]) (st' := [.ref 295, .long v4, .long (((2 : Int64) * v2) * (m.2.1 437 (tk_n v14))), .int v14, .ref 440]) rfl ?_
  refine tk_HR  rfl rfl ly295 rt295_17 ?_
  refine tk_Ps  1 (pc' := 212) (ls' := [(15, .long s0), (0, .ref 295), (1, .int v1), (2, .long v2), (4, .long v4), (8, .long v8), (10, .int v10), (11, .long v11), (13, .int v13), (14, .int v14)]) (st' := [.int v14, .ref 436, .long v4, .long (((2 : Int64) * v2) * (m.2.1 437 (tk_n v14))), .int v14, .ref 440]) rfl ?_
  refine tk_HJa  rfl rfl ly436 hg1 ?_
  refine tk_Ps  3 (pc' := 216) (ls' := [(15, .long s0), (0, .ref 295), (1, .int v1), (2, .long v2), (4, .long v4), (8, .long v8), (10, .int v10), (11, .long v11), (13, .int v13), (14, .int v14)]) (st' := [.ref 295, .long ((((2 : Int64) * v2) * (m.2.1 437 (tk_n v14))) - (v4 * (m.2.1 436 (tk_n v14)))), .int v14, .ref 440]) rfl ?_
  refine tk_HJ  rfl rfl ly295 ?_
  refine tk_Ps  2 (pc' := 221) (ls' := [(15, .long s0), (0, .ref 295), (1, .int v1), (2, .long v2), (4, .long v4), (8, .long v8), (10, .int v10), (11, .long v11), (13, .int v13), (14, .int v14)]) (st' := [.int (lg_cmp (m.2.1 295 6) (1 : Int64)), .long ((((2 : Int64) * v2) * (m.2.1 437 (tk_n v14))) - (v4 * (m.2.1 436 (tk_n v14)))), .int v14, .ref 440]) rfl ?_
  by_cases hc2 : (m.2.1 295 6) = (1 : Int64)
  · replace h := tk_ifT hc2 h
    refine tk_bT  rfl rfl tk_eL_ne (c := (m.2.1 295 6) = (1 : Int64)) hc2 (pc' := 224) (ls' := [(15, .long s0), (0, .ref 295), (1, .int v1), (2, .long v2), (4, .long v4), (8, .long v8), (10, .int v10), (11, .long v11), (13, .int v13), (14, .int v14)]) (st' := [.long ((((2 : Int64) * v2) * (m.2.1 437 (tk_n v14))) - (v4 * (m.2.1 436 (tk_n v14)))), .int v14, .ref 440]) ?_
    refine tk_Ps  2 (pc' := 230) (ls' := [(15, .long s0), (0, .ref 295), (1, .int v1), (2, .long v2), (4, .long v4), (8, .long v8), (10, .int v10), (11, .long v11), (13, .int v13), (14, .int v14)]) (st' := [.long s0, .long ((((2 : Int64) * v2) * (m.2.1 437 (tk_n v14))) - (v4 * (m.2.1 436 (tk_n v14)))), .int v14, .ref 440]) rfl ?_
    refine tk_Kp  (ls' := [(0, .ref 295), (1, .int v1), (2, .long v2), (4, .long v4), (8, .long v8), (10, .int v10), (11, .long v11), (13, .int v13), (14, .int v14), (15, .long s0)]) rfl rfl ?_
    exact ok_fM_solves_230 sc r130 H130 r150 H150 v1 v2 v4 v8 v10 v11 v13 v14 s0 s0 ((((2 : Int64) * v2) * (m.2.1 437 (tk_n v14))) - (v4 * (m.2.1 436 (tk_n v14)))) v14 m _ h
  · replace h := tk_ifF hc2 h
    refine tk_bF  rfl rfl tk_eL_ne (c := (m.2.1 295 6) = (1 : Int64)) hc2 (pc' := 229) (ls' := [(15, .long s0), (0, .ref 295), (1, .int v1), (2, .long v2), (4, .long v4), (8, .long v8), (10, .int v10), (11, .long v11), (13, .int v13), (14, .int v14)]) (st' := [.long ((((2 : Int64) * v2) * (m.2.1 437 (tk_n v14))) - (v4 * (m.2.1 436 (tk_n v14)))), .int v14, .ref 440]) ?_
    refine tk_Ps  1 (pc' := 230) (ls' := [(15, .long s0), (0, .ref 295), (1, .int v1), (2, .long v2), (4, .long v4), (8, .long v8), (10, .int v10), (11, .long v11), (13, .int v13), (14, .int v14)]) (st' := [.long (0 : Int64), .long ((((2 : Int64) * v2) * (m.2.1 437 (tk_n v14))) - (v4 * (m.2.1 436 (tk_n v14)))), .int v14, .ref 440]) rfl ?_
    refine tk_Kp  (ls' := [(0, .ref 295), (1, .int v1), (2, .long v2), (4, .long v4), (8, .long v8), (10, .int v10), (11, .long v11), (13, .int v13), (14, .int v14), (15, .long s0)]) rfl rfl ?_
    exact ok_fM_solves_230 sc r130 H130 r150 H150 v1 v2 v4 v8 v10 v11 v13 v14 s0 (0 : Int64) ((((2 : Int64) * v2) * (m.2.1 437 (tk_n v14))) - (v4 * (m.2.1 436 (tk_n v14)))) v14 m _ h
theorem ok_fM_solves_150 (sc : tk_X) (r130 : Int32 → Int64 → Int64 → Int64 → Int32 → Int64 → Int32 → tk_m → Option tk_m) (H130 : ∀ (v1 : Int32) (v2 : Int64) (v4 : Int64) (v8 : Int64) (v10 : Int32) (v11 : Int64) (v13 : Int32) (m : tk_m) (out : tk_m), r130 v1 v2 v4 v8 v10 v11 v13 m = some out → tk_Ex sc 5 tk_r233 tk_k233 130 [(0, .ref 295), (1, .int v1), (2, .long v2), (4, .long v4), (8, .long v8), (10, .int v10), (11, .long v11), (13, .int v13)] [] (tk_full m) (none, tk_full out)) : ∀ (n : Nat) (v1 : Int32) (v2 : Int64) (v4 : Int64) (v8 : Int64) (v10 : Int32) (v11 : Int64) (v13 : Int32) (v14 : Int32) (m : tk_m) (out : tk_m), fM_solves_150 r130 n v1 v2 v4 v8 v10 v11 v13 v14 m = some out → tk_Ex sc 5 tk_r233 tk_k233 150 [(0, .ref 295), (1, .int v1), (2, .long v2), (4, .long v4), (8, .long v8), (10, .int v10), (11, .long v11), (13, .int v13), (14, .int v14)] [] (tk_full m) (none, tk_full out) := by
  intro n
  induction n with
  | zero =>
    intro v1 v2 v4 v8 v10 v11 v13 v14 m out h
    cases h
  | succ n ih =>
    intro v1 v2 v4 v8 v10 v11 v13 v14 m out h
    unfold fM_solves_150 at h
    refine tk_Ps  2 (pc' := 153) (ls' := [(0, .ref 295), (1, .int v1), (2, .long v2), (4, .long v4), (8, .long v8), (10, .int v10), (11, .long v11), (13, .int v13), (14, .int v14)]) (st' := [.int (3 : Int32), .int v14]) rfl ?_
    by_cases hc1 : (3 : Int32) ≤ v14
    · replace h := tk_ifT hc1 h
      refine tk_bT  rfl rfl rfl (c := (3 : Int32) ≤ v14) hc1 (pc' := 267) (ls' := [(0, .ref 295), (1, .int v1), (2, .long v2), (4, .long v4), (8, .long v8), (10, .int v10), (11, .long v11), (13, .int v13), (14, .int v14)]) (st' := []) ?_
      refine tk_Kp  (ls' := [(0, .ref 295), (1, .int v1), (2, .long v2), (4, .long v4), (8, .long v8), (10, .int v10), (11, .long v11), (13, .int v13)]) rfl rfl ?_
      exact ok_fM_solves_267 sc r130 H130 v1 v2 v4 v8 v10 v11 v13 m _ h
    · replace h := tk_ifF hc1 h
      refine tk_bF  rfl rfl rfl (c := (3 : Int32) ≤ v14) hc1 (pc' := 156) (ls' := [(0, .ref 295), (1, .int v1), (2, .long v2), (4, .long v4), (8, .long v8), (10, .int v10), (11, .long v11), (13, .int v13), (14, .int v14)]) (st' := []) ?_
      refine tk_Ps  3 (pc' := 160) (ls' := [(0, .ref 295), (1, .int v1), (2, .long v2), (4, .long v4), (8, .long v8), (10, .int v10), (11, .long v11), (13, .int v13), (14, .int v14)]) (st' := [.int (lg_cmp v11 (0 : Int64))]) rfl ?_
      by_cases hc2 : v11 = (0 : Int64)
      · replace h := tk_ifT hc2 h
        refine tk_bT  rfl rfl tk_eL_ne (c := v11 = (0 : Int64)) hc2 (pc' := 163) (ls' := [(0, .ref 295), (1, .int v1), (2, .long v2), (4, .long v4), (8, .long v8), (10, .int v10), (11, .long v11), (13, .int v13), (14, .int v14)]) (st' := []) ?_
        refine tk_Ps  2 (pc' := 183) (ls' := [(0, .ref 295), (1, .int v1), (2, .long v2), (4, .long v4), (8, .long v8), (10, .int v10), (11, .long v11), (13, .int v13), (14, .int v14)]) (st' := [.long (0 : Int64)]) rfl ?_
        refine tk_Kp  (ls' := [(0, .ref 295), (1, .int v1), (2, .long v2), (4, .long v4), (8, .long v8), (10, .int v10), (11, .long v11), (13, .int v13), (14, .int v14)]) rfl rfl ?_
        exact ok_fM_solves_183 sc r130 H130 (fM_solves_150 r130 n) ih v1 v2 v4 v8 v10 v11 v13 v14 (0 : Int64) m _ h
      · replace h := tk_ifF hc2 h
        refine tk_bF  rfl rfl tk_eL_ne (c := v11 = (0 : Int64)) hc2 (pc' := 167) (ls' := [(0, .ref 295), (1, .int v1), (2, .long v2), (4, .long v4), (8, .long v8), (10, .int v10), (11, .long v11), (13, .int v13), (14, .int v14)]) (st' := []) ?_
        refine tk_Ps  3 (pc' := 171) (ls' := [(0, .ref 295), (1, .int v1), (2, .long v2), (4, .long v4), (8, .long v8), (10, .int v10), (11, .long v11), (13, .int v13), (14, .int v14)]) (st' := [.ref 295, .long (Int32.toInt64 v13)]) rfl ?_
        refine tk_HR  rfl rfl ly295 rt295_17 ?_
        refine tk_Ps  1 (pc' := 176) (ls' := [(0, .ref 295), (1, .int v1), (2, .long v2), (4, .long v4), (8, .long v8), (10, .int v10), (11, .long v11), (13, .int v13), (14, .int v14)]) (st' := [.int v14, .ref 436, .long (Int32.toInt64 v13)]) rfl ?_
        obtain ⟨hg3, h⟩ := tk_grd h
        refine tk_HJa  rfl rfl ly436 hg3 ?_
        refine tk_Ps  2 (pc' := 179) (ls' := [(0, .ref 295), (1, .int v1), (2, .long v2), (4, .long v4), (8, .long v8), (10, .int v10), (11, .long v11), (13, .int v13), (14, .int v14)]) (st' := [.ref 295, .long ((Int32.toInt64 v13) * (m.2.1 436 (tk_n v14)))]) rfl ?_
        refine tk_HJ  rfl rfl ly295 ?_
        refine tk_Ps  1 (pc' := 183) (ls' := [(0, .ref 295), (1, .int v1), (2, .long v2), (4, .long v4), (8, .long v8), (10, .int v10), (11, .long v11), (13, .int v13), (14, .int v14)]) (st' := [.long (((Int32.toInt64 v13) * (m.2.1 436 (tk_n v14))) * (m.2.1 295 5))]) rfl ?_
        refine tk_Kp  (ls' := [(0, .ref 295), (1, .int v1), (2, .long v2), (4, .long v4), (8, .long v8), (10, .int v10), (11, .long v11), (13, .int v13), (14, .int v14)]) rfl rfl ?_
        exact ok_fM_solves_183 sc r130 H130 (fM_solves_150 r130 n) ih v1 v2 v4 v8 v10 v11 v13 v14 (((Int32.toInt64 v13) * (m.2.1 436 (tk_n v14))) * (m.2.1 295 5)) m _ h
theorem ok_fM_solves_130 (sc : tk_X) : ∀ (n : Nat) (v1 : Int32) (v2 : Int64) (v4 : Int64) (v8 : Int64) (v10 : Int32) (v11 : Int64) (v13 : Int32) (m : tk_m) (out : tk_m), fM_solves_130 n v1 v2 v4 v8 v10 v11 v13 m = some out → tk_Ex sc 5 tk_r233 tk_k233 130 [(0, .ref 295), (1, .int v1), (2, .long v2), (4, .long v4), (8, .long v8), (10, .int v10), (11, .long v11), (13, .int v13)] [] (tk_full m) (none, tk_full out) := by
  intro n
  induction n with
  | zero =>
    intro v1 v2 v4 v8 v10 v11 v13 m out h
    cases h
  | succ n ih =>
    intro v1 v2 v4 v8 v10 v11 v13 m out h
    unfold fM_solves_130 at h
    refine tk_Ps  4 (pc' := 136) (ls' := [(0, .ref 295), (1, .int v1), (2, .long v2), (4, .long v4), (8, .long v8), (10, .int v10), (11, .long v11), (13, .int v13)]) (st' := [.int (lg_cmp v11 (0 : Int64)), .int v13]) rfl ?_
    by_cases hc1 : v11 = (0 : Int64)
    · replace h := tk_ifT hc1 h
      refine tk_bT  rfl rfl tk_eL_ne (c := v11 = (0 : Int64)) hc1 (pc' := 139) (ls' := [(0, .ref 295), (1, .int v1), (2, .long v2), (4, .long v4), (8, .long v8), (10, .int v10), (11, .long v11), (13, .int v13)]) (st' := [.int v13]) ?_
      refine tk_Ps  2 (pc' := 144) (ls' := [(0, .ref 295), (1, .int v1), (2, .long v2), (4, .long v4), (8, .long v8), (10, .int v10), (11, .long v11), (13, .int v13)]) (st' := [.int (-1 : Int32), .int v13]) rfl ?_
      by_cases hc2 : (-1 : Int32) < v13
      · replace h := tk_ifT hc2 h
        refine tk_bT  rfl rfl rfl (c := (-1 : Int32) < v13) hc2 (pc' := 310) (ls' := [(0, .ref 295), (1, .int v1), (2, .long v2), (4, .long v4), (8, .long v8), (10, .int v10), (11, .long v11), (13, .int v13)]) (st' := []) ?_
        refine tk_Ps  2 (pc' := 313) (ls' := [(0, .ref 295), (1, .int v1), (2, .long v2), (4, .long v4), (8, .long v8), (10, .int v10), (11, .long v11), (13, .int v13)]) (st' := [.int v10, .ref 295]) rfl ?_
        obtain ⟨o3, ho3, h⟩ := tk_bnd h
        refine tk_cV0  rfl rfl (r := 295) (as := [.int v10]) (rest := []) rfl ly295 rfl rfl (ok_fM_laysInOrder sc v10 m ho3) ?_
        replace h := Option.some.inj h
        subst h
        exact tk_RV  rfl rfl rfl
      · replace h := tk_ifF hc2 h
        refine tk_bF  rfl rfl rfl (c := (-1 : Int32) < v13) hc2 (pc' := 147) (ls' := [(0, .ref 295), (1, .int v1), (2, .long v2), (4, .long v4), (8, .long v8), (10, .int v10), (11, .long v11), (13, .int v13)]) (st' := []) ?_
        refine tk_Ps  2 (pc' := 150) (ls' := [(14, .int (0 : Int32)), (0, .ref 295), (1, .int v1), (2, .long v2), (4, .long v4), (8, .long v8), (10, .int v10), (11, .long v11), (13, .int v13)]) (st' := []) rfl ?_
        refine tk_Kp  (ls' := [(0, .ref 295), (1, .int v1), (2, .long v2), (4, .long v4), (8, .long v8), (10, .int v10), (11, .long v11), (13, .int v13), (14, .int (0 : Int32))]) rfl rfl ?_
        exact ok_fM_solves_150 sc (fM_solves_130 n) ih tk_F v1 v2 v4 v8 v10 v11 v13 (0 : Int32) m _ h
    · replace h := tk_ifF hc1 h
      refine tk_bF  rfl rfl tk_eL_ne (c := v11 = (0 : Int64)) hc1 (pc' := 143) (ls' := [(0, .ref 295), (1, .int v1), (2, .long v2), (4, .long v4), (8, .long v8), (10, .int v10), (11, .long v11), (13, .int v13)]) (st' := [.int v13]) ?_
      refine tk_Ps  1 (pc' := 144) (ls' := [(0, .ref 295), (1, .int v1), (2, .long v2), (4, .long v4), (8, .long v8), (10, .int v10), (11, .long v11), (13, .int v13)]) (st' := [.int (1 : Int32), .int v13]) rfl ?_
      by_cases hc4 : (1 : Int32) < v13
      · replace h := tk_ifT hc4 h
        refine tk_bT  rfl rfl rfl (c := (1 : Int32) < v13) hc4 (pc' := 310) (ls' := [(0, .ref 295), (1, .int v1), (2, .long v2), (4, .long v4), (8, .long v8), (10, .int v10), (11, .long v11), (13, .int v13)]) (st' := []) ?_
        refine tk_Ps  2 (pc' := 313) (ls' := [(0, .ref 295), (1, .int v1), (2, .long v2), (4, .long v4), (8, .long v8), (10, .int v10), (11, .long v11), (13, .int v13)]) (st' := [.int v10, .ref 295]) rfl ?_
        obtain ⟨o5, ho5, h⟩ := tk_bnd h
        refine tk_cV0  rfl rfl (r := 295) (as := [.int v10]) (rest := []) rfl ly295 rfl rfl (ok_fM_laysInOrder sc v10 m ho5) ?_
        replace h := Option.some.inj h
        subst h
        exact tk_RV  rfl rfl rfl
      · replace h := tk_ifF hc4 h
        refine tk_bF  rfl rfl rfl (c := (1 : Int32) < v13) hc4 (pc' := 147) (ls' := [(0, .ref 295), (1, .int v1), (2, .long v2), (4, .long v4), (8, .long v8), (10, .int v10), (11, .long v11), (13, .int v13)]) (st' := []) ?_
        refine tk_Ps  2 (pc' := 150) (ls' := [(14, .int (0 : Int32)), (0, .ref 295), (1, .int v1), (2, .long v2), (4, .long v4), (8, .long v8), (10, .int v10), (11, .long v11), (13, .int v13)]) (st' := []) rfl ?_
        refine tk_Kp  (ls' := [(0, .ref 295), (1, .int v1), (2, .long v2), (4, .long v4), (8, .long v8), (10, .int v10), (11, .long v11), (13, .int v13), (14, .int (0 : Int32))]) rfl rfl ?_
        exact ok_fM_solves_150 sc (fM_solves_130 n) ih tk_F v1 v2 v4 v8 v10 v11 v13 (0 : Int32) m _ h
theorem ok_fM_solves_29 (sc : tk_X) (v1 : Int32) (v2 : Int64) (v4 : Int64) (v6 : Int64) (v8 : Int64) (v10 : Int32) (m : tk_m) (out : tk_m) (h : fM_solves_29 v1 v2 v4 v6 v8 v10 m = some out) : tk_Ex sc 5 tk_r233 tk_k233 29 [(0, .ref 295), (1, .int v1), (2, .long v2), (4, .long v4), (6, .long v6), (8, .long v8), (10, .int v10)] [] (tk_full m) (none, tk_full out) := by
  unfold fM_solves_29 at h
  refine tk_Ps  3 (pc' := 32) (ls' := [(0, .ref 295), (1, .int v1), (2, .long v2), (4, .long v4), (6, .long v6), (8, .long v8), (10, .int v10)]) (st' := [.int (lg_cmp v2 (0 : Int64))]) rfl ?_
  by_cases hc1 : v2 = (0 : Int64)
  · replace h := tk_ifT hc1 h
    refine tk_bT  rfl rfl tk_eL_ne (c := v2 = (0 : Int64)) hc1 (pc' := 35) (ls' := [(0, .ref 295), (1, .int v1), (2, .long v2), (4, .long v4), (6, .long v6), (8, .long v8), (10, .int v10)]) (st' := []) ?_
    refine tk_Ps  2 (pc' := 38) (ls' := [(11, .int (0 : Int32)), (0, .ref 295), (1, .int v1), (2, .long v2), (4, .long v4), (6, .long v6), (8, .long v8), (10, .int v10)]) (st' := []) rfl ?_
    refine tk_Kp  (ls' := [(0, .ref 295), (1, .int v1), (4, .long v4), (6, .long v6), (8, .long v8), (11, .int (0 : Int32))]) rfl rfl ?_
    exact ok_fM_solves_38 sc tk_F v1 v4 v6 v8 (0 : Int32) m _ h
  · replace h := tk_ifF hc1 h
    refine tk_bF  rfl rfl tk_eL_ne (c := v2 = (0 : Int64)) hc1 (pc' := 90) (ls' := [(0, .ref 295), (1, .int v1), (2, .long v2), (4, .long v4), (6, .long v6), (8, .long v8), (10, .int v10)]) (st' := []) ?_
    refine tk_Ps  13 (pc' := 110) (ls' := [(11, .long ((v4 * v4) - (((4 : Int64) * v2) * v6))), (0, .ref 295), (1, .int v1), (2, .long v2), (4, .long v4), (6, .long v6), (8, .long v8), (10, .int v10)]) (st' := [.int (lg_cmp ((v4 * v4) - (((4 : Int64) * v2) * v6)) (0 : Int64))]) rfl ?_
    by_cases hc2 : (0 : Int64) ≤ ((v4 * v4) - (((4 : Int64) * v2) * v6))
    · replace h := tk_ifT hc2 h
      refine tk_bT  rfl rfl tk_eL_ge (c := (0 : Int64) ≤ ((v4 * v4) - (((4 : Int64) * v2) * v6))) hc2 (pc' := 114) (ls' := [(11, .long ((v4 * v4) - (((4 : Int64) * v2) * v6))), (0, .ref 295), (1, .int v1), (2, .long v2), (4, .long v4), (6, .long v6), (8, .long v8), (10, .int v10)]) (st' := []) ?_
      refine tk_Ps  3 (pc' := 118) (ls' := [(11, .long ((v4 * v4) - (((4 : Int64) * v2) * v6))), (0, .ref 295), (1, .int v1), (2, .long v2), (4, .long v4), (6, .long v6), (8, .long v8), (10, .int v10)]) (st' := [.int (lg_cmp ((v4 * v4) - (((4 : Int64) * v2) * v6)) (0 : Int64))]) rfl ?_
      by_cases hc3 : ((v4 * v4) - (((4 : Int64) * v2) * v6)) ≤ (0 : Int64)
      · replace h := tk_ifT hc3 h
        refine tk_bT  rfl rfl tk_eL_le (c := ((v4 * v4) - (((4 : Int64) * v2) * v6)) ≤ (0 : Int64)) hc3 (pc' := 127) (ls' := [(11, .long ((v4 * v4) - (((4 : Int64) * v2) * v6))), (0, .ref 295), (1, .int v1), (2, .long v2), (4, .long v4), (6, .long v6), (8, .long v8), (10, .int v10)]) (st' := []) ?_
        refine tk_Ps  2 (pc' := 130) (ls' := [(13, .int (-1 : Int32)), (11, .long ((v4 * v4) - (((4 : Int64) * v2) * v6))), (0, .ref 295), (1, .int v1), (2, .long v2), (4, .long v4), (6, .long v6), (8, .long v8), (10, .int v10)]) (st' := []) rfl ?_
        refine tk_Kp  (ls' := [(0, .ref 295), (1, .int v1), (2, .long v2), (4, .long v4), (8, .long v8), (10, .int v10), (11, .long ((v4 * v4) - (((4 : Int64) * v2) * v6))), (13, .int (-1 : Int32))]) rfl rfl ?_
        exact ok_fM_solves_130 sc tk_F v1 v2 v4 v8 v10 ((v4 * v4) - (((4 : Int64) * v2) * v6)) (-1 : Int32) m _ h
      · replace h := tk_ifF hc3 h
        refine tk_bF  rfl rfl tk_eL_le (c := ((v4 * v4) - (((4 : Int64) * v2) * v6)) ≤ (0 : Int64)) hc3 (pc' := 121) (ls' := [(11, .long ((v4 * v4) - (((4 : Int64) * v2) * v6))), (0, .ref 295), (1, .int v1), (2, .long v2), (4, .long v4), (6, .long v6), (8, .long v8), (10, .int v10)]) (st' := []) ?_
        refine tk_Ps  2 (pc' := 124) (ls' := [(11, .long ((v4 * v4) - (((4 : Int64) * v2) * v6))), (0, .ref 295), (1, .int v1), (2, .long v2), (4, .long v4), (6, .long v6), (8, .long v8), (10, .int v10)]) (st' := [.long ((v4 * v4) - (((4 : Int64) * v2) * v6)), .ref 295]) rfl ?_
        obtain ⟨o4, ho4, h⟩ := tk_bnd h
        refine tk_cV0  rfl rfl (r := 295) (as := [.long ((v4 * v4) - (((4 : Int64) * v2) * v6))]) (rest := []) rfl ly295 rfl rfl (ok_fM_parts sc ((v4 * v4) - (((4 : Int64) * v2) * v6)) m ho4) ?_
        refine tk_Ps  2 (pc' := 130) (ls' := [(13, .int (-1 : Int32)), (11, .long ((v4 * v4) - (((4 : Int64) * v2) * v6))), (0, .ref 295), (1, .int v1), (2, .long v2), (4, .long v4), (6, .long v6), (8, .long v8), (10, .int v10)]) (st' := []) rfl ?_
        refine tk_Kp  (ls' := [(0, .ref 295), (1, .int v1), (2, .long v2), (4, .long v4), (8, .long v8), (10, .int v10), (11, .long ((v4 * v4) - (((4 : Int64) * v2) * v6))), (13, .int (-1 : Int32))]) rfl rfl ?_
        exact ok_fM_solves_130 sc tk_F v1 v2 v4 v8 v10 ((v4 * v4) - (((4 : Int64) * v2) * v6)) (-1 : Int32) o4 _ h
    · replace h := tk_ifF hc2 h
      refine tk_bF  rfl rfl tk_eL_ge (c := (0 : Int64) ≤ ((v4 * v4) - (((4 : Int64) * v2) * v6))) hc2 (pc' := 113) (ls' := [(11, .long ((v4 * v4) - (((4 : Int64) * v2) * v6))), (0, .ref 295), (1, .int v1), (2, .long v2), (4, .long v4), (6, .long v6), (8, .long v8), (10, .int v10)]) (st' := []) ?_
      replace h := Option.some.inj h
      subst h
      exact tk_RV  rfl rfl rfl
theorem ok_fM_solves_9 (sc : tk_X) : ∀ (n : Nat) (v1 : Int32) (v2 : Int64) (v4 : Int64) (v6 : Int64) (v8 : Int64) (v10 : Int32) (v11 : Int32) (m : tk_m) (out : tk_m), fM_solves_9 n v1 v2 v4 v6 v8 v10 v11 m = some out → tk_Ex sc 5 tk_r233 tk_k233 9 [(0, .ref 295), (1, .int v1), (2, .long v2), (4, .long v4), (6, .long v6), (8, .long v8), (10, .int v10), (11, .int v11)] [] (tk_full m) (none, tk_full out) := by
  intro n
  induction n with
  | zero =>
    intro v1 v2 v4 v6 v8 v10 v11 m out h
    cases h
  | succ n ih =>
    intro v1 v2 v4 v6 v8 v10 v11 m out h
    unfold fM_solves_9 at h
    refine tk_Ps  2 (pc' := 12) (ls' := [(0, .ref 295), (1, .int v1), (2, .long v2), (4, .long v4), (6, .long v6), (8, .long v8), (10, .int v10), (11, .int v11)]) (st' := [.int (3 : Int32), .int v11]) rfl ?_
    by_cases hc1 : (3 : Int32) ≤ v11
    · replace h := tk_ifT hc1 h
      refine tk_bT  rfl rfl rfl (c := (3 : Int32) ≤ v11) hc1 (pc' := 29) (ls' := [(0, .ref 295), (1, .int v1), (2, .long v2), (4, .long v4), (6, .long v6), (8, .long v8), (10, .int v10), (11, .int v11)]) (st' := []) ?_
      refine tk_Kp  (ls' := [(0, .ref 295), (1, .int v1), (2, .long v2), (4, .long v4), (6, .long v6), (8, .long v8), (10, .int v10)]) rfl rfl ?_
      exact ok_fM_solves_29 sc v1 v2 v4 v6 v8 v10 m _ h
    · replace h := tk_ifF hc1 h
      refine tk_bF  rfl rfl rfl (c := (3 : Int32) ≤ v11) hc1 (pc' := 15) (ls' := [(0, .ref 295), (1, .int v1), (2, .long v2), (4, .long v4), (6, .long v6), (8, .long v8), (10, .int v10), (11, .int v11)]) (st' := []) ?_
      refine tk_Ps  1 (pc' := 16) (ls' := [(0, .ref 295), (1, .int v1), (2, .long v2), (4, .long v4), (6, .long v6), (8, .long v8), (10, .int v10), (11, .int v11)]) (st' := [.ref 295]) rfl ?_
      refine tk_HR  rfl rfl ly295 rt295_22 ?_
      refine tk_Ps  2 (pc' := 22) (ls' := [(0, .ref 295), (1, .int v1), (2, .long v2), (4, .long v4), (6, .long v6), (8, .long v8), (10, .int v10), (11, .int v11)]) (st' := [.long (0 : Int64), .int v11, .ref 441]) rfl ?_
      obtain ⟨hg2, h⟩ := tk_grd h
      refine tk_SJa  rfl rfl ly441 hg2 ?_
      refine tk_Ps  2 (pc' := 9) (ls' := [(11, .int (v11 + (1 : Int32))), (0, .ref 295), (1, .int v1), (2, .long v2), (4, .long v4), (6, .long v6), (8, .long v8), (10, .int v10)]) (st' := []) rfl ?_
      refine tk_Kp  (ls' := [(0, .ref 295), (1, .int v1), (2, .long v2), (4, .long v4), (6, .long v6), (8, .long v8), (10, .int v10), (11, .int (v11 + (1 : Int32)))]) rfl rfl ?_
      exact ih v1 v2 v4 v6 v8 v10 (v11 + (1 : Int32)) (m.1, tk_u2 m.2.1 441 (tk_n v11) (0 : Int64), m.2.2.1, m.2.2.2) _ h
theorem ok_fM_solves (sc : tk_X) (a1 : Int32) (a2 : Int64) (a3 : Int64) (a4 : Int64) (a5 : Int64) (m : tk_m) {out : tk_m} (h : fM_solves a1 a2 a3 a4 a5 m = some out) : tk_Ru sc 6 233 [.ref 295, .int a1, .long a2, .long a3, .long a4, .long a5] (tk_full m) (none, tk_full out) := by
  unfold fM_solves at h
  refine tk_Ru0 me233 (ls := [(0, .ref 295), (1, .int a1), (2, .long a2), (4, .long a3), (6, .long a4), (8, .long a5)]) rfl rfl ?_
  refine tk_Ps  1 (pc' := 1) (ls' := [(0, .ref 295), (1, .int a1), (2, .long a2), (4, .long a3), (6, .long a4), (8, .long a5)]) (st' := [.ref 295]) rfl ?_
  refine tk_HI  rfl rfl ly295 ?_
  refine tk_Ps  3 (pc' := 9) (ls' := [(11, .int (0 : Int32)), (10, .int (m.1 295 10)), (0, .ref 295), (1, .int a1), (2, .long a2), (4, .long a3), (6, .long a4), (8, .long a5)]) (st' := []) rfl ?_
  refine tk_Kp  (ls' := [(0, .ref 295), (1, .int a1), (2, .long a2), (4, .long a3), (6, .long a4), (8, .long a5), (10, .int (m.1 295 10)), (11, .int (0 : Int32))]) rfl rfl ?_
  exact ok_fM_solves_9 sc tk_F a1 a2 a3 a4 a5 (m.1 295 10) (0 : Int32) m _ h

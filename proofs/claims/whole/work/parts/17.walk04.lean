theorem ok_fF_utmost_4 (sc : tk_X) : ∀ (n : Nat) (v1 : Int32) (v2 : Int32) (v3 : Int32) (m : tk_m) (out : Int32 × tk_m), fF_utmost_4 n v1 v2 v3 m = some out → tk_Ex sc 5 tk_r104 tk_k104 4 [(0, .ref 39), (1, .int v1), (2, .int v2), (3, .int v3)] [] (tk_full m) (some (.int out.1), tk_full out.2) := by
  intro n
  induction n with
  | zero =>
    intro v1 v2 v3 m out h
    cases h
  | succ n ih =>
    intro v1 v2 v3 m out h
    unfold fF_utmost_4 at h
    refine tk_Ps  2 (pc' := 6) (ls' := [(0, .ref 39), (1, .int v1), (2, .int v2), (3, .int v3)]) (st' := [.ref 39, .int v3]) rfl ?_
    refine tk_HI  rfl rfl ly39 ?_
    by_cases hc1 : (m.1 39 2) ≤ v3
    · replace h := tk_ifT hc1 h
      refine tk_bT  rfl rfl rfl (c := (m.1 39 2) ≤ v3) hc1 (pc' := 50) (ls' := [(0, .ref 39), (1, .int v1), (2, .int v2), (3, .int v3)]) (st' := []) ?_
      refine tk_Ps  1 (pc' := 51) (ls' := [(0, .ref 39), (1, .int v1), (2, .int v2), (3, .int v3)]) (st' := [.int v2]) rfl ?_
      replace h := Option.some.inj h
      subst h
      exact tk_RI  rfl rfl rfl
    · replace h := tk_ifF hc1 h
      refine tk_bF  rfl rfl rfl (c := (m.1 39 2) ≤ v3) hc1 (pc' := 12) (ls' := [(0, .ref 39), (1, .int v1), (2, .int v2), (3, .int v3)]) (st' := []) ?_
      refine tk_Ps  2 (pc' := 14) (ls' := [(0, .ref 39), (1, .int v1), (2, .int v2), (3, .int v3)]) (st' := [.ref 39, .int v1]) rfl ?_
      refine tk_HR  rfl rfl ly39 rt39_0 ?_
      refine tk_Ps  1 (pc' := 18) (ls' := [(0, .ref 39), (1, .int v1), (2, .int v2), (3, .int v3)]) (st' := [.ref 39, .ref 13, .int v1]) rfl ?_
      refine tk_HR  rfl rfl ly39 rt39_1 ?_
      refine tk_Ps  1 (pc' := 22) (ls' := [(0, .ref 39), (1, .int v1), (2, .int v2), (3, .int v3)]) (st' := [.int v3, .ref 40, .ref 13, .int v1]) rfl ?_
      obtain ⟨hg2, h⟩ := tk_grd h
      refine tk_HQ  rfl rfl ly40 hg2 (la40 _ (hg2).2).1 ?_
      refine tk_HR  rfl rfl ((la40 _ (hg2).2).2) (ro1_5 ((la40 _ (hg2).2).2)) ?_
      refine tk_Ps  1 (pc' := 27) (ls' := [(0, .ref 39), (1, .int v1), (2, .int v2), (3, .int v3)]) (st' := [.ref 39, .ref ((50 + 8 * (tk_n v3)) + 6), .ref 13, .int v1]) rfl ?_
      refine tk_HR  rfl rfl ly39 rt39_1 ?_
      refine tk_Ps  1 (pc' := 31) (ls' := [(0, .ref 39), (1, .int v1), (2, .int v2), (3, .int v3)]) (st' := [.int v2, .ref 40, .ref ((50 + 8 * (tk_n v3)) + 6), .ref 13, .int v1]) rfl ?_
      obtain ⟨hg3, h⟩ := tk_grd h
      refine tk_HQ  rfl rfl ly40 hg3 (la40 _ (hg3).2).1 ?_
      refine tk_HR  rfl rfl ((la40 _ (hg3).2).2) (ro1_5 ((la40 _ (hg3).2).2)) ?_
      obtain ⟨o4, ho4, h⟩ := tk_bnd h
      refine tk_cV1  rfl rfl (r := 13) (as := [.ref ((50 + 8 * (tk_n v3)) + 6), .ref ((50 + 8 * (tk_n v2)) + 6)]) (rest := [.int v1]) rfl ly13 rfl rfl (ok_fJ_order sc ((50 + 8 * (tk_n v3)) + 6) ((50 + 8 * (tk_n v2)) + 6) m (lo1_5 ((la40 _ (hg2).2).2)) (lo1_5 ((la40 _ (hg3).2).2)) ho4) ?_
      refine tk_Ps  1 (pc' := 39) (ls' := [(0, .ref 39), (1, .int v1), (2, .int v2), (3, .int v3)]) (st' := [.int (v1 * o4.1)]) rfl ?_
      by_cases hc5 : (v1 * o4.1) ≤ 0
      · replace h := tk_ifT hc5 h
        refine tk_bT  rfl rfl rfl (c := (v1 * o4.1) ≤ 0) hc5 (pc' := 44) (ls' := [(0, .ref 39), (1, .int v1), (2, .int v2), (3, .int v3)]) (st' := []) ?_
        refine tk_Ps  2 (pc' := 4) (ls' := [(3, .int (v3 + (1 : Int32))), (0, .ref 39), (1, .int v1), (2, .int v2)]) (st' := []) rfl ?_
        refine tk_Kp  (ls' := [(0, .ref 39), (1, .int v1), (2, .int v2), (3, .int (v3 + (1 : Int32)))]) rfl rfl ?_
        exact ih v1 v2 (v3 + (1 : Int32)) o4.2 _ h
      · replace h := tk_ifF hc5 h
        refine tk_bF  rfl rfl rfl (c := (v1 * o4.1) ≤ 0) hc5 (pc' := 42) (ls' := [(0, .ref 39), (1, .int v1), (2, .int v2), (3, .int v3)]) (st' := []) ?_
        refine tk_Ps  4 (pc' := 4) (ls' := [(3, .int (v3 + (1 : Int32))), (2, .int v3), (0, .ref 39), (1, .int v1)]) (st' := []) rfl ?_
        refine tk_Kp  (ls' := [(0, .ref 39), (1, .int v1), (2, .int v3), (3, .int (v3 + (1 : Int32)))]) rfl rfl ?_
        exact ih v1 v3 (v3 + (1 : Int32)) o4.2 _ h
theorem ok_fF_utmost (sc : tk_X) (a1 : Int32) (m : tk_m) {out : Int32 × tk_m} (h : fF_utmost a1 m = some out) : tk_Ru sc 6 104 [.ref 39, .int a1] (tk_full m) (some (.int out.1), tk_full out.2) := by
  unfold fF_utmost at h
  refine tk_Ru0 me104 (ls := [(0, .ref 39), (1, .int a1)]) rfl rfl ?_
  refine tk_Ps  4 (pc' := 4) (ls' := [(3, .int (1 : Int32)), (2, .int (0 : Int32)), (0, .ref 39), (1, .int a1)]) (st' := []) rfl ?_
  refine tk_Kp  (ls' := [(0, .ref 39), (1, .int a1), (2, .int (0 : Int32)), (3, .int (1 : Int32))]) rfl rfl ?_
  exact ok_fF_utmost_4 sc tk_F a1 (0 : Int32) (1 : Int32) m _ h
theorem ok_fX_best (sc : tk_X) (a1 : Int32) (m : tk_m) {out : Int32 × tk_m} (h : fX_best a1 m = some out) : tk_Ru sc 7 103 [.ref 0, .int a1] (tk_full m) (some (.int out.1), tk_full out.2) := by
  unfold fX_best at h
  refine tk_Ru0 me103 (ls := [(0, .ref 0), (1, .int a1)]) rfl rfl ?_
  refine tk_Ps  3 (pc' := 3) (ls' := [(0, .ref 0), (1, .int a1)]) (st' := [.int (1 : Int32), .int (0 : Int32), .int a1]) rfl ?_
  refine tk_cS1  rfl rfl (as := [.int a1, .int (0 : Int32), .int (1 : Int32)]) (rest := []) rfl rfl rfl (ok_fX_isWithin sc a1 (0 : Int32) (1 : Int32) m) ?_
  by_cases hc1 : (fX_isWithin a1 (0 : Int32) (1 : Int32)) = true
  · replace h := tk_ifT hc1 h
    refine tk_bT  rfl rfl tk_eB_ne (c := (fX_isWithin a1 (0 : Int32) (1 : Int32)) = true) hc1 (pc' := 15) (ls' := [(0, .ref 0), (1, .int a1)]) (st' := []) ?_
    refine tk_Ps  2 (pc' := 17) (ls' := [(0, .ref 0), (1, .int a1)]) (st' := [.int (0 : Int32), .ref 0]) rfl ?_
    obtain ⟨o2, ho2, h⟩ := tk_bnd h
    refine tk_cV1  rfl rfl (r := 0) (as := [.int (0 : Int32)]) (rest := []) rfl ly0 rfl rfl (ok_fX_missesAnswer sc (0 : Int32) m ho2) ?_
    refine tk_Ps  2 (pc' := 22) (ls' := [(2, .int o2.1), (0, .ref 0), (1, .int a1)]) (st' := [.int o2.1]) rfl ?_
    by_cases hc3 : o2.1 < 0
    · replace h := tk_ifT hc3 h
      refine tk_bT  rfl rfl rfl (c := o2.1 < 0) hc3 (pc' := 31) (ls' := [(2, .int o2.1), (0, .ref 0), (1, .int a1)]) (st' := []) ?_
      refine tk_Ps  1 (pc' := 32) (ls' := [(2, .int o2.1), (0, .ref 0), (1, .int a1)]) (st' := [.ref 0]) rfl ?_
      refine tk_HR  rfl rfl ly0 rt0_7 ?_
      refine tk_Ps  1 (pc' := 36) (ls' := [(2, .int o2.1), (0, .ref 0), (1, .int a1)]) (st' := [.int a1, .ref 39]) rfl ?_
      by_cases hc4 : a1 = 0
      · replace h := tk_ifT hc4 h
        refine tk_bT  rfl rfl rfl (c := a1 = 0) hc4 (pc' := 39) (ls' := [(2, .int o2.1), (0, .ref 0), (1, .int a1)]) (st' := [.ref 39]) ?_
        refine tk_Ps  2 (pc' := 44) (ls' := [(2, .int o2.1), (0, .ref 0), (1, .int a1)]) (st' := [.int (1 : Int32), .ref 39]) rfl ?_
        obtain ⟨o5, ho5, h⟩ := tk_bnd h
        refine tk_cV1  rfl rfl (r := 39) (as := [.int (1 : Int32)]) (rest := []) rfl ly39 rfl rfl (ok_fF_utmost sc (1 : Int32) o2.2 ho5) ?_
        replace h := Option.some.inj h
        subst h
        exact tk_RI  rfl rfl rfl
      · replace h := tk_ifF hc4 h
        refine tk_bF  rfl rfl rfl (c := a1 = 0) hc4 (pc' := 43) (ls' := [(2, .int o2.1), (0, .ref 0), (1, .int a1)]) (st' := [.ref 39]) ?_
        refine tk_Ps  1 (pc' := 44) (ls' := [(2, .int o2.1), (0, .ref 0), (1, .int a1)]) (st' := [.int (-1 : Int32), .ref 39]) rfl ?_
        obtain ⟨o6, ho6, h⟩ := tk_bnd h
        refine tk_cV1  rfl rfl (r := 39) (as := [.int (-1 : Int32)]) (rest := []) rfl ly39 rfl rfl (ok_fF_utmost sc (-1 : Int32) o2.2 ho6) ?_
        replace h := Option.some.inj h
        subst h
        exact tk_RI  rfl rfl rfl
    · replace h := tk_ifF hc3 h
      refine tk_bF  rfl rfl rfl (c := o2.1 < 0) hc3 (pc' := 25) (ls' := [(2, .int o2.1), (0, .ref 0), (1, .int a1)]) (st' := []) ?_
      refine tk_Ps  2 (pc' := 27) (ls' := [(2, .int o2.1), (0, .ref 0), (1, .int a1)]) (st' := [.int o2.1, .ref 0]) rfl ?_
      obtain ⟨o7, ho7, h⟩ := tk_bnd h
      refine tk_cV1  rfl rfl (r := 0) (as := [.int o2.1]) (rest := []) rfl ly0 rfl rfl (ok_fX_finding sc o2.1 o2.2 ho7) ?_
      replace h := Option.some.inj h
      subst h
      exact tk_RI  rfl rfl rfl
  · replace h := tk_ifF hc1 h
    refine tk_bF  rfl rfl tk_eB_ne (c := (fX_isWithin a1 (0 : Int32) (1 : Int32)) = true) hc1 (pc' := 9) (ls' := [(0, .ref 0), (1, .int a1)]) (st' := []) ?_
    refine tk_Ps  2 (pc' := 11) (ls' := [(0, .ref 0), (1, .int a1)]) (st' := [.int (0 : Int32), .ref 0]) rfl ?_
    obtain ⟨o8, ho8, h⟩ := tk_bnd h
    refine tk_cV1  rfl rfl (r := 0) (as := [.int (0 : Int32)]) (rest := []) rfl ly0 rfl rfl (ok_fX_finding sc (0 : Int32) m ho8) ?_
    replace h := Option.some.inj h
    subst h
    exact tk_RI  rfl rfl rfl
theorem ok_fF_howManyLess_4 (sc : tk_X) : ∀ (n : Nat) (v1 : Nat) (v2 : Int32) (v3 : Int32) (m : tk_m) (hv1 : tk_lay[v1]? = some (.inl 4)) (out : Int32 × tk_m), fF_howManyLess_4 n v1 v2 v3 m = some out → tk_Ex sc 5 tk_r121 tk_k121 4 [(0, .ref 39), (1, .ref v1), (2, .int v2), (3, .int v3)] [] (tk_full m) (some (.int out.1), tk_full out.2) := by
  intro n
  induction n with
  | zero =>
    intro v1 v2 v3 m hv1 out h
    cases h
  | succ n ih =>
    intro v1 v2 v3 m hv1 out h
    unfold fF_howManyLess_4 at h
    refine tk_Ps  2 (pc' := 6) (ls' := [(0, .ref 39), (1, .ref v1), (2, .int v2), (3, .int v3)]) (st' := [.ref 39, .int v3]) rfl ?_
    refine tk_HI  rfl rfl ly39 ?_
    by_cases hc1 : (m.1 39 2) ≤ v3
    · replace h := tk_ifT hc1 h
      refine tk_bT  rfl rfl rfl (c := (m.1 39 2) ≤ v3) hc1 (pc' := 41) (ls' := [(0, .ref 39), (1, .ref v1), (2, .int v2), (3, .int v3)]) (st' := []) ?_
      refine tk_Ps  1 (pc' := 42) (ls' := [(0, .ref 39), (1, .ref v1), (2, .int v2), (3, .int v3)]) (st' := [.int v2]) rfl ?_
      replace h := Option.some.inj h
      subst h
      exact tk_RI  rfl rfl rfl
    · replace h := tk_ifF hc1 h
      refine tk_bF  rfl rfl rfl (c := (m.1 39 2) ≤ v3) hc1 (pc' := 12) (ls' := [(0, .ref 39), (1, .ref v1), (2, .int v2), (3, .int v3)]) (st' := []) ?_
      refine tk_Ps  1 (pc' := 13) (ls' := [(0, .ref 39), (1, .ref v1), (2, .int v2), (3, .int v3)]) (st' := [.ref 39]) rfl ?_
      refine tk_HR  rfl rfl ly39 rt39_0 ?_
      refine tk_Ps  1 (pc' := 17) (ls' := [(0, .ref 39), (1, .ref v1), (2, .int v2), (3, .int v3)]) (st' := [.ref 39, .ref 13]) rfl ?_
      refine tk_HR  rfl rfl ly39 rt39_1 ?_
      refine tk_Ps  1 (pc' := 21) (ls' := [(0, .ref 39), (1, .ref v1), (2, .int v2), (3, .int v3)]) (st' := [.int v3, .ref 40, .ref 13]) rfl ?_
      obtain ⟨hg2, h⟩ := tk_grd h
      refine tk_HQ  rfl rfl ly40 hg2 (la40 _ (hg2).2).1 ?_
      refine tk_HR  rfl rfl ((la40 _ (hg2).2).2) (ro1_5 ((la40 _ (hg2).2).2)) ?_
      refine tk_Ps  1 (pc' := 26) (ls' := [(0, .ref 39), (1, .ref v1), (2, .int v2), (3, .int v3)]) (st' := [.ref v1, .ref ((50 + 8 * (tk_n v3)) + 6), .ref 13]) rfl ?_
      obtain ⟨o3, ho3, h⟩ := tk_bnd h
      refine tk_cV1  rfl rfl (r := 13) (as := [.ref ((50 + 8 * (tk_n v3)) + 6), .ref v1]) (rest := []) rfl ly13 rfl rfl (ok_fJ_order sc ((50 + 8 * (tk_n v3)) + 6) v1 m (lo1_5 ((la40 _ (hg2).2).2)) hv1 ho3) ?_
      by_cases hc4 : 0 ≤ o3.1
      · replace h := tk_ifT hc4 h
        refine tk_bT  rfl rfl rfl (c := 0 ≤ o3.1) hc4 (pc' := 35) (ls' := [(0, .ref 39), (1, .ref v1), (2, .int v2), (3, .int v3)]) (st' := []) ?_
        refine tk_Ps  2 (pc' := 4) (ls' := [(3, .int (v3 + (1 : Int32))), (0, .ref 39), (1, .ref v1), (2, .int v2)]) (st' := []) rfl ?_
        refine tk_Kp  (ls' := [(0, .ref 39), (1, .ref v1), (2, .int v2), (3, .int (v3 + (1 : Int32)))]) rfl rfl ?_
        exact ih v1 v2 (v3 + (1 : Int32)) o3.2 hv1 _ h
      · replace h := tk_ifF hc4 h
        refine tk_bF  rfl rfl rfl (c := 0 ≤ o3.1) hc4 (pc' := 32) (ls' := [(0, .ref 39), (1, .ref v1), (2, .int v2), (3, .int v3)]) (st' := []) ?_
        refine tk_Ps  3 (pc' := 4) (ls' := [(3, .int (v3 + (1 : Int32))), (2, .int (v2 + (1 : Int32))), (0, .ref 39), (1, .ref v1)]) (st' := []) rfl ?_
        refine tk_Kp  (ls' := [(0, .ref 39), (1, .ref v1), (2, .int (v2 + (1 : Int32))), (3, .int (v3 + (1 : Int32)))]) rfl rfl ?_
        exact ih v1 (v2 + (1 : Int32)) (v3 + (1 : Int32)) o3.2 hv1 _ h
theorem ok_fF_howManyLess (sc : tk_X) (a1 : Nat) (m : tk_m) (ha1 : tk_lay[a1]? = some (.inl 4)) {out : Int32 × tk_m} (h : fF_howManyLess a1 m = some out) : tk_Ru sc 6 121 [.ref 39, .ref a1] (tk_full m) (some (.int out.1), tk_full out.2) := by
  unfold fF_howManyLess at h
  refine tk_Ru0 me121 (ls := [(0, .ref 39), (1, .ref a1)]) rfl rfl ?_
  refine tk_Ps  4 (pc' := 4) (ls' := [(3, .int (0 : Int32)), (2, .int (0 : Int32)), (0, .ref 39), (1, .ref a1)]) (st' := []) rfl ?_
  refine tk_Kp  (ls' := [(0, .ref 39), (1, .ref a1), (2, .int (0 : Int32)), (3, .int (0 : Int32))]) rfl rfl ?_
  exact ok_fF_howManyLess_4 sc tk_F a1 (0 : Int32) (0 : Int32) m ha1 _ h
theorem ok_fX_rank (sc : tk_X) (a1 : Int32) (m : tk_m) {out : Int32 × tk_m} (h : fX_rank a1 m = some out) : tk_Ru sc 7 120 [.ref 0, .int a1] (tk_full m) (some (.int out.1), tk_full out.2) := by
  unfold fX_rank at h
  refine tk_Ru0 me120 (ls := [(0, .ref 0), (1, .int a1)]) rfl rfl ?_
  refine tk_Ps  2 (pc' := 2) (ls' := [(0, .ref 0), (1, .int a1)]) (st' := [.int a1, .ref 0]) rfl ?_
  obtain ⟨o1, ho1, h⟩ := tk_bnd h
  refine tk_cV1  rfl rfl (r := 0) (as := [.int a1]) (rest := []) rfl ly0 rfl rfl (ok_fX_missesAnswer sc a1 m ho1) ?_
  refine tk_Ps  2 (pc' := 7) (ls' := [(2, .int o1.1), (0, .ref 0), (1, .int a1)]) (st' := [.int o1.1]) rfl ?_
  by_cases hc2 : o1.1 < 0
  · replace h := tk_ifT hc2 h
    refine tk_bT  rfl rfl rfl (c := o1.1 < 0) hc2 (pc' := 16) (ls' := [(2, .int o1.1), (0, .ref 0), (1, .int a1)]) (st' := []) ?_
    refine tk_Ps  1 (pc' := 17) (ls' := [(2, .int o1.1), (0, .ref 0), (1, .int a1)]) (st' := [.ref 0]) rfl ?_
    refine tk_HR  rfl rfl ly0 rt0_7 ?_
    refine tk_Ps  1 (pc' := 21) (ls' := [(2, .int o1.1), (0, .ref 0), (1, .int a1)]) (st' := [.ref 0, .ref 39]) rfl ?_
    refine tk_HR  rfl rfl ly0 rt0_7 ?_
    refine tk_HR  rfl rfl ly39 rt39_1 ?_
    refine tk_Ps  1 (pc' := 28) (ls' := [(2, .int o1.1), (0, .ref 0), (1, .int a1)]) (st' := [.int a1, .ref 40, .ref 39]) rfl ?_
    obtain ⟨hg3, h⟩ := tk_grd h
    refine tk_HQ  rfl rfl ly40 hg3 (la40 _ (hg3).2).1 ?_
    refine tk_HR  rfl rfl ((la40 _ (hg3).2).2) (ro1_5 ((la40 _ (hg3).2).2)) ?_
    obtain ⟨o4, ho4, h⟩ := tk_bnd h
    refine tk_cV1  rfl rfl (r := 39) (as := [.ref ((50 + 8 * (tk_n a1)) + 6)]) (rest := []) rfl ly39 rfl rfl (ok_fF_howManyLess sc ((50 + 8 * (tk_n a1)) + 6) o1.2 (lo1_5 ((la40 _ (hg3).2).2)) ho4) ?_
    replace h := Option.some.inj h
    subst h
    exact tk_RI  rfl rfl rfl
  · replace h := tk_ifF hc2 h
    refine tk_bF  rfl rfl rfl (c := o1.1 < 0) hc2 (pc' := 10) (ls' := [(2, .int o1.1), (0, .ref 0), (1, .int a1)]) (st' := []) ?_
    refine tk_Ps  2 (pc' := 12) (ls' := [(2, .int o1.1), (0, .ref 0), (1, .int a1)]) (st' := [.int o1.1, .ref 0]) rfl ?_
    obtain ⟨o5, ho5, h⟩ := tk_bnd h
    refine tk_cV1  rfl rfl (r := 0) (as := [.int o1.1]) (rest := []) rfl ly0 rfl rfl (ok_fX_finding sc o1.1 o1.2 ho5) ?_
    replace h := Option.some.inj h
    subst h
    exact tk_RI  rfl rfl rfl
theorem ok_fC_touchesStraight (sc : tk_X) (t : Nat) (a1 : Nat) (a2 : Int32) (m : tk_m) (ht : tk_lay[t]? = some (.inl 1)) (ha1 : tk_lay[a1]? = some (.inl 6)) : tk_Ru sc 2 125 [.ref t, .ref a1, .int a2] (tk_full m) (some (.int (tk_b (fC_touchesStraight t a1 a2 m))), tk_full m) := by
  obtain ⟨out, h⟩ : ∃ out, fC_touchesStraight t a1 a2 m = out := ⟨_, rfl⟩
  rw [h]
  unfold fC_touchesStraight at h
  refine tk_Ru0 me125 (ls := [(0, .ref t), (1, .ref a1), (2, .int a2)]) rfl rfl ?_
  refine tk_Ps  2 (pc' := 2) (ls' := [(0, .ref t), (1, .ref a1), (2, .int a2)]) (st' := [.int a2, .ref a1]) rfl ?_
  refine tk_cV1  rfl rfl (r := a1) (as := [.int a2]) (rest := []) rfl ha1 rfl rfl (ok_fH_slope sc a1 a2 m ha1) ?_
  refine tk_Ps  3 (pc' := 8) (ls' := [(3, .long (Int32.toInt64 (fH_slope a1 a2 m))), (0, .ref t), (1, .ref a1), (2, .int a2)]) (st' := [.ref a1]) rfl ?_
  refine tk_HI  rfl rfl ha1 ?_
  refine tk_Ps  2 (pc' := 13) (ls' := [(3, .long (Int32.toInt64 (fH_slope a1 a2 m))), (0, .ref t), (1, .ref a1), (2, .int a2)]) (st' := [.ref t, .long (Int32.toInt64 (m.1 a1 6))]) rfl ?_
  refine tk_HR  rfl rfl ht (ro1_1 ht) ?_
  refine tk_Ps  1 (pc' := 17) (ls' := [(3, .long (Int32.toInt64 (fH_slope a1 a2 m))), (0, .ref t), (1, .ref a1), (2, .int a2)]) (st' := [.int (0 : Int32), .ref (t + 1), .long (Int32.toInt64 (m.1 a1 6))]) rfl ?_
  refine tk_HJa  rfl rfl (lo1_1 ht) (by decide) ?_
  refine tk_Ps  2 (pc' := 20) (ls' := [(3, .long (Int32.toInt64 (fH_slope a1 a2 m))), (0, .ref t), (1, .ref a1), (2, .int a2)]) (st' := [.ref a1, .long ((Int32.toInt64 (m.1 a1 6)) * (m.2.1 (t + 1) 0))]) rfl ?_
  refine tk_HI  rfl rfl ha1 ?_
  refine tk_Ps  2 (pc' := 25) (ls' := [(3, .long (Int32.toInt64 (fH_slope a1 a2 m))), (0, .ref t), (1, .ref a1), (2, .int a2)]) (st' := [.ref t, .long (Int32.toInt64 (m.1 a1 7)), .long ((Int32.toInt64 (m.1 a1 6)) * (m.2.1 (t + 1) 0))]) rfl ?_
  refine tk_HR  rfl rfl ht (ro1_1 ht) ?_
  refine tk_Ps  1 (pc' := 29) (ls' := [(3, .long (Int32.toInt64 (fH_slope a1 a2 m))), (0, .ref t), (1, .ref a1), (2, .int a2)]) (st' := [.int (1 : Int32), .ref (t + 1), .long (Int32.toInt64 (m.1 a1 7)), .long ((Int32.toInt64 (m.1 a1 6)) * (m.2.1 (t + 1) 0))]) rfl ?_
  refine tk_HJa  rfl rfl (lo1_1 ht) (by decide) ?_
  refine tk_Ps  4 (pc' := 34) (ls' := [(3, .long (Int32.toInt64 (fH_slope a1 a2 m))), (0, .ref t), (1, .ref a1), (2, .int a2)]) (st' := [.ref t, .long (Int32.toInt64 (fH_slope a1 a2 m)), .long (((Int32.toInt64 (m.1 a1 6)) * (m.2.1 (t + 1) 0)) + ((Int32.toInt64 (m.1 a1 7)) * (m.2.1 (t + 1) 1)))]) rfl ?_
  refine tk_HR  rfl rfl ht (ro1_1 ht) ?_
  refine tk_Ps  1 (pc' := 38) (ls' := [(3, .long (Int32.toInt64 (fH_slope a1 a2 m))), (0, .ref t), (1, .ref a1), (2, .int a2)]) (st' := [.int (2 : Int32), .ref (t + 1), .long (Int32.toInt64 (fH_slope a1 a2 m)), .long (((Int32.toInt64 (m.1 a1 6)) * (m.2.1 (t + 1) 0)) + ((Int32.toInt64 (m.1 a1 7)) * (m.2.1 (t + 1) 1)))]) rfl ?_
  refine tk_HJa  rfl rfl (lo1_1 ht) (by decide) ?_
  refine tk_Ps  3 (pc' := 42) (ls' := [(3, .long (Int32.toInt64 (fH_slope a1 a2 m))), (0, .ref t), (1, .ref a1), (2, .int a2)]) (st' := [.ref a1, .long ((((Int32.toInt64 (m.1 a1 6)) * (m.2.1 (t + 1) 0)) + ((Int32.toInt64 (m.1 a1 7)) * (m.2.1 (t + 1) 1))) + ((Int32.toInt64 (fH_slope a1 a2 m)) * (m.2.1 (t + 1) 2)))]) rfl ?_
  refine tk_HI  rfl rfl ha1 ?_
  refine tk_Ps  2 (pc' := 47) (ls' := [(3, .long (Int32.toInt64 (fH_slope a1 a2 m))), (0, .ref t), (1, .ref a1), (2, .int a2)]) (st' := [.ref t, .long (Int32.toInt64 (m.1 a1 5)), .long ((((Int32.toInt64 (m.1 a1 6)) * (m.2.1 (t + 1) 0)) + ((Int32.toInt64 (m.1 a1 7)) * (m.2.1 (t + 1) 1))) + ((Int32.toInt64 (fH_slope a1 a2 m)) * (m.2.1 (t + 1) 2)))]) rfl ?_
  refine tk_HR  rfl rfl ht (ro1_1 ht) ?_
  refine tk_Ps  1 (pc' := 52) (ls' := [(3, .long (Int32.toInt64 (fH_slope a1 a2 m))), (0, .ref t), (1, .ref a1), (2, .int a2)]) (st' := [.int (6 : Int32), .ref (t + 1), .long (Int32.toInt64 (m.1 a1 5)), .long ((((Int32.toInt64 (m.1 a1 6)) * (m.2.1 (t + 1) 0)) + ((Int32.toInt64 (m.1 a1 7)) * (m.2.1 (t + 1) 1))) + ((Int32.toInt64 (fH_slope a1 a2 m)) * (m.2.1 (t + 1) 2)))]) rfl ?_
  refine tk_HJa  rfl rfl (lo1_1 ht) (by decide) ?_
  refine tk_Ps  4 (pc' := 58) (ls' := [(5, .long (((((Int32.toInt64 (m.1 a1 6)) * (m.2.1 (t + 1) 0)) + ((Int32.toInt64 (m.1 a1 7)) * (m.2.1 (t + 1) 1))) + ((Int32.toInt64 (fH_slope a1 a2 m)) * (m.2.1 (t + 1) 2))) - ((Int32.toInt64 (m.1 a1 5)) * (m.2.1 (t + 1) 6)))), (3, .long (Int32.toInt64 (fH_slope a1 a2 m))), (0, .ref t), (1, .ref a1), (2, .int a2)]) (st' := [.ref a1]) rfl ?_
  refine tk_HI  rfl rfl ha1 ?_
  refine tk_Ps  2 (pc' := 63) (ls' := [(5, .long (((((Int32.toInt64 (m.1 a1 6)) * (m.2.1 (t + 1) 0)) + ((Int32.toInt64 (m.1 a1 7)) * (m.2.1 (t + 1) 1))) + ((Int32.toInt64 (fH_slope a1 a2 m)) * (m.2.1 (t + 1) 2))) - ((Int32.toInt64 (m.1 a1 5)) * (m.2.1 (t + 1) 6)))), (3, .long (Int32.toInt64 (fH_slope a1 a2 m))), (0, .ref t), (1, .ref a1), (2, .int a2)]) (st' := [.ref t, .long (Int32.toInt64 (m.1 a1 6))]) rfl ?_
  refine tk_HR  rfl rfl ht (ro1_1 ht) ?_
  refine tk_Ps  1 (pc' := 67) (ls' := [(5, .long (((((Int32.toInt64 (m.1 a1 6)) * (m.2.1 (t + 1) 0)) + ((Int32.toInt64 (m.1 a1 7)) * (m.2.1 (t + 1) 1))) + ((Int32.toInt64 (fH_slope a1 a2 m)) * (m.2.1 (t + 1) 2))) - ((Int32.toInt64 (m.1 a1 5)) * (m.2.1 (t + 1) 6)))), (3, .long (Int32.toInt64 (fH_slope a1 a2 m))), (0, .ref t), (1, .ref a1), (2, .int a2)]) (st' := [.int (3 : Int32), .ref (t + 1), .long (Int32.toInt64 (m.1 a1 6))]) rfl ?_
  refine tk_HJa  rfl rfl (lo1_1 ht) (by decide) ?_
  refine tk_Ps  2 (pc' := 70) (ls' := [(5, .long (((((Int32.toInt64 (m.1 a1 6)) * (m.2.1 (t + 1) 0)) + ((Int32.toInt64 (m.1 a1 7)) * (m.2.1 (t + 1) 1))) + ((Int32.toInt64 (fH_slope a1 a2 m)) * (m.2.1 (t + 1) 2))) - ((Int32.toInt64 (m.1 a1 5)) * (m.2.1 (t + 1) 6)))), (3, .long (Int32.toInt64 (fH_slope a1 a2 m))), (0, .ref t), (1, .ref a1), (2, .int a2)]) (st' := [.ref a1, .long ((Int32.toInt64 (m.1 a1 6)) * (m.2.1 (t + 1) 3))]) rfl ?_
  refine tk_HI  rfl rfl ha1 ?_
  refine tk_Ps  2 (pc' := 75) (ls' := [(5, .long (((((Int32.toInt64 (m.1 a1 6)) * (m.2.1 (t + 1) 0)) + ((Int32.toInt64 (m.1 a1 7)) * (m.2.1 (t + 1) 1))) + ((Int32.toInt64 (fH_slope a1 a2 m)) * (m.2.1 (t + 1) 2))) - ((Int32.toInt64 (m.1 a1 5)) * (m.2.1 (t + 1) 6)))), (3, .long (Int32.toInt64 (fH_slope a1 a2 m))), (0, .ref t), (1, .ref a1), (2, .int a2)]) (st' := [.ref t, .long (Int32.toInt64 (m.1 a1 7)), .long ((Int32.toInt64 (m.1 a1 6)) * (m.2.1 (t + 1) 3))]) rfl ?_
  refine tk_HR  rfl rfl ht (ro1_1 ht) ?_
  refine tk_Ps  1 (pc' := 79) (ls' := [(5, .long (((((Int32.toInt64 (m.1 a1 6)) * (m.2.1 (t + 1) 0)) + ((Int32.toInt64 (m.1 a1 7)) * (m.2.1 (t + 1) 1))) + ((Int32.toInt64 (fH_slope a1 a2 m)) * (m.2.1 (t + 1) 2))) - ((Int32.toInt64 (m.1 a1 5)) * (m.2.1 (t + 1) 6)))), (3, .long (Int32.toInt64 (fH_slope a1 a2 m))), (0, .ref t), (1, .ref a1), (2, .int a2)]) (st' := [.int (4 : Int32), .ref (t + 1), .long (Int32.toInt64 (m.1 a1 7)), .long ((Int32.toInt64 (m.1 a1 6)) * (m.2.1 (t + 1) 3))]) rfl ?_
  refine tk_HJa  rfl rfl (lo1_1 ht) (by decide) ?_
  refine tk_Ps  4 (pc' := 84) (ls' := [(5, .long (((((Int32.toInt64 (m.1 a1 6)) * (m.2.1 (t + 1) 0)) + ((Int32.toInt64 (m.1 a1 7)) * (m.2.1 (t + 1) 1))) + ((Int32.toInt64 (fH_slope a1 a2 m)) * (m.2.1 (t + 1) 2))) - ((Int32.toInt64 (m.1 a1 5)) * (m.2.1 (t + 1) 6)))), (3, .long (Int32.toInt64 (fH_slope a1 a2 m))), (0, .ref t), (1, .ref a1), (2, .int a2)]) (st' := [.ref t, .long (Int32.toInt64 (fH_slope a1 a2 m)), .long (((Int32.toInt64 (m.1 a1 6)) * (m.2.1 (t + 1) 3)) + ((Int32.toInt64 (m.1 a1 7)) * (m.2.1 (t + 1) 4)))]) rfl ?_
  refine tk_HR  rfl rfl ht (ro1_1 ht) ?_
  refine tk_Ps  1 (pc' := 88) (ls' := [(5, .long (((((Int32.toInt64 (m.1 a1 6)) * (m.2.1 (t + 1) 0)) + ((Int32.toInt64 (m.1 a1 7)) * (m.2.1 (t + 1) 1))) + ((Int32.toInt64 (fH_slope a1 a2 m)) * (m.2.1 (t + 1) 2))) - ((Int32.toInt64 (m.1 a1 5)) * (m.2.1 (t + 1) 6)))), (3, .long (Int32.toInt64 (fH_slope a1 a2 m))), (0, .ref t), (1, .ref a1), (2, .int a2)]) (st' := [.int (5 : Int32), .ref (t + 1), .long (Int32.toInt64 (fH_slope a1 a2 m)), .long (((Int32.toInt64 (m.1 a1 6)) * (m.2.1 (t + 1) 3)) + ((Int32.toInt64 (m.1 a1 7)) * (m.2.1 (t + 1) 4)))]) rfl ?_
  refine tk_HJa  rfl rfl (lo1_1 ht) (by decide) ?_
  refine tk_Ps  6 (pc' := 97) (ls' := [(7, .long ((((Int32.toInt64 (m.1 a1 6)) * (m.2.1 (t + 1) 3)) + ((Int32.toInt64 (m.1 a1 7)) * (m.2.1 (t + 1) 4))) + ((Int32.toInt64 (fH_slope a1 a2 m)) * (m.2.1 (t + 1) 5)))), (5, .long (((((Int32.toInt64 (m.1 a1 6)) * (m.2.1 (t + 1) 0)) + ((Int32.toInt64 (m.1 a1 7)) * (m.2.1 (t + 1) 1))) + ((Int32.toInt64 (fH_slope a1 a2 m)) * (m.2.1 (t + 1) 2))) - ((Int32.toInt64 (m.1 a1 5)) * (m.2.1 (t + 1) 6)))), (3, .long (Int32.toInt64 (fH_slope a1 a2 m))), (0, .ref t), (1, .ref a1), (2, .int a2)]) (st' := [.int (lg_cmp (((((Int32.toInt64 (m.1 a1 6)) * (m.2.1 (t + 1) 0)) + ((Int32.toInt64 (m.1 a1 7)) * (m.2.1 (t + 1) 1))) + ((Int32.toInt64 (fH_slope a1 a2 m)) * (m.2.1 (t + 1) 2))) - ((Int32.toInt64 (m.1 a1 5)) * (m.2.1 (t + 1) 6))) (0 : Int64))]) rfl ?_
  by_cases hc1 : (((((Int32.toInt64 (m.1 a1 6)) * (m.2.1 (t + 1) 0)) + ((Int32.toInt64 (m.1 a1 7)) * (m.2.1 (t + 1) 1))) + ((Int32.toInt64 (fH_slope a1 a2 m)) * (m.2.1 (t + 1) 2))) - ((Int32.toInt64 (m.1 a1 5)) * (m.2.1 (t + 1) 6))) = (0 : Int64)
  · replace h := tk_ifT hc1 h
    refine tk_bT  rfl rfl tk_eL_ne (c := (((((Int32.toInt64 (m.1 a1 6)) * (m.2.1 (t + 1) 0)) + ((Int32.toInt64 (m.1 a1 7)) * (m.2.1 (t + 1) 1))) + ((Int32.toInt64 (fH_slope a1 a2 m)) * (m.2.1 (t + 1) 2))) - ((Int32.toInt64 (m.1 a1 5)) * (m.2.1 (t + 1) 6))) = (0 : Int64)) hc1 (pc' := 100) (ls' := [(7, .long ((((Int32.toInt64 (m.1 a1 6)) * (m.2.1 (t + 1) 3)) + ((Int32.toInt64 (m.1 a1 7)) * (m.2.1 (t + 1) 4))) + ((Int32.toInt64 (fH_slope a1 a2 m)) * (m.2.1 (t + 1) 5)))), (5, .long (((((Int32.toInt64 (m.1 a1 6)) * (m.2.1 (t + 1) 0)) + ((Int32.toInt64 (m.1 a1 7)) * (m.2.1 (t + 1) 1))) + ((Int32.toInt64 (fH_slope a1 a2 m)) * (m.2.1 (t + 1) 2))) - ((Int32.toInt64 (m.1 a1 5)) * (m.2.1 (t + 1) 6)))), (3, .long (Int32.toInt64 (fH_slope a1 a2 m))), (0, .ref t), (1, .ref a1), (2, .int a2)]) (st' := []) ?_
    refine tk_Ps  3 (pc' := 104) (ls' := [(7, .long ((((Int32.toInt64 (m.1 a1 6)) * (m.2.1 (t + 1) 3)) + ((Int32.toInt64 (m.1 a1 7)) * (m.2.1 (t + 1) 4))) + ((Int32.toInt64 (fH_slope a1 a2 m)) * (m.2.1 (t + 1) 5)))), (5, .long (((((Int32.toInt64 (m.1 a1 6)) * (m.2.1 (t + 1) 0)) + ((Int32.toInt64 (m.1 a1 7)) * (m.2.1 (t + 1) 1))) + ((Int32.toInt64 (fH_slope a1 a2 m)) * (m.2.1 (t + 1) 2))) - ((Int32.toInt64 (m.1 a1 5)) * (m.2.1 (t + 1) 6)))), (3, .long (Int32.toInt64 (fH_slope a1 a2 m))), (0, .ref t), (1, .ref a1), (2, .int a2)]) (st' := [.int (lg_cmp ((((Int32.toInt64 (m.1 a1 6)) * (m.2.1 (t + 1) 3)) + ((Int32.toInt64 (m.1 a1 7)) * (m.2.1 (t + 1) 4))) + ((Int32.toInt64 (fH_slope a1 a2 m)) * (m.2.1 (t + 1) 5))) (0 : Int64))]) rfl ?_
    by_cases hc2 : ((((Int32.toInt64 (m.1 a1 6)) * (m.2.1 (t + 1) 3)) + ((Int32.toInt64 (m.1 a1 7)) * (m.2.1 (t + 1) 4))) + ((Int32.toInt64 (fH_slope a1 a2 m)) * (m.2.1 (t + 1) 5))) = (0 : Int64)
    · replace h := tk_ifT hc2 h
      refine tk_bT  rfl rfl tk_eL_ne (c := ((((Int32.toInt64 (m.1 a1 6)) * (m.2.1 (t + 1) 3)) + ((Int32.toInt64 (m.1 a1 7)) * (m.2.1 (t + 1) 4))) + ((Int32.toInt64 (fH_slope a1 a2 m)) * (m.2.1 (t + 1) 5))) = (0 : Int64)) hc2 (pc' := 107) (ls' := [(7, .long ((((Int32.toInt64 (m.1 a1 6)) * (m.2.1 (t + 1) 3)) + ((Int32.toInt64 (m.1 a1 7)) * (m.2.1 (t + 1) 4))) + ((Int32.toInt64 (fH_slope a1 a2 m)) * (m.2.1 (t + 1) 5)))), (5, .long (((((Int32.toInt64 (m.1 a1 6)) * (m.2.1 (t + 1) 0)) + ((Int32.toInt64 (m.1 a1 7)) * (m.2.1 (t + 1) 1))) + ((Int32.toInt64 (fH_slope a1 a2 m)) * (m.2.1 (t + 1) 2))) - ((Int32.toInt64 (m.1 a1 5)) * (m.2.1 (t + 1) 6)))), (3, .long (Int32.toInt64 (fH_slope a1 a2 m))), (0, .ref t), (1, .ref a1), (2, .int a2)]) (st' := []) ?_
      refine tk_Ps  2 (pc' := 112) (ls' := [(7, .long ((((Int32.toInt64 (m.1 a1 6)) * (m.2.1 (t + 1) 3)) + ((Int32.toInt64 (m.1 a1 7)) * (m.2.1 (t + 1) 4))) + ((Int32.toInt64 (fH_slope a1 a2 m)) * (m.2.1 (t + 1) 5)))), (5, .long (((((Int32.toInt64 (m.1 a1 6)) * (m.2.1 (t + 1) 0)) + ((Int32.toInt64 (m.1 a1 7)) * (m.2.1 (t + 1) 1))) + ((Int32.toInt64 (fH_slope a1 a2 m)) * (m.2.1 (t + 1) 2))) - ((Int32.toInt64 (m.1 a1 5)) * (m.2.1 (t + 1) 6)))), (3, .long (Int32.toInt64 (fH_slope a1 a2 m))), (0, .ref t), (1, .ref a1), (2, .int a2)]) (st' := [.int (1 : Int32)]) rfl ?_
      subst h
      exact tk_RB (b := true)  rfl rfl rfl
    · replace h := tk_ifF hc2 h
      refine tk_bF  rfl rfl tk_eL_ne (c := ((((Int32.toInt64 (m.1 a1 6)) * (m.2.1 (t + 1) 3)) + ((Int32.toInt64 (m.1 a1 7)) * (m.2.1 (t + 1) 4))) + ((Int32.toInt64 (fH_slope a1 a2 m)) * (m.2.1 (t + 1) 5))) = (0 : Int64)) hc2 (pc' := 111) (ls' := [(7, .long ((((Int32.toInt64 (m.1 a1 6)) * (m.2.1 (t + 1) 3)) + ((Int32.toInt64 (m.1 a1 7)) * (m.2.1 (t + 1) 4))) + ((Int32.toInt64 (fH_slope a1 a2 m)) * (m.2.1 (t + 1) 5)))), (5, .long (((((Int32.toInt64 (m.1 a1 6)) * (m.2.1 (t + 1) 0)) + ((Int32.toInt64 (m.1 a1 7)) * (m.2.1 (t + 1) 1))) + ((Int32.toInt64 (fH_slope a1 a2 m)) * (m.2.1 (t + 1) 2))) - ((Int32.toInt64 (m.1 a1 5)) * (m.2.1 (t + 1) 6)))), (3, .long (Int32.toInt64 (fH_slope a1 a2 m))), (0, .ref t), (1, .ref a1), (2, .int a2)]) (st' := []) ?_
      refine tk_Ps  1 (pc' := 112) (ls' := [(7, .long ((((Int32.toInt64 (m.1 a1 6)) * (m.2.1 (t + 1) 3)) + ((Int32.toInt64 (m.1 a1 7)) * (m.2.1 (t + 1) 4))) + ((Int32.toInt64 (fH_slope a1 a2 m)) * (m.2.1 (t + 1) 5)))), (5, .long (((((Int32.toInt64 (m.1 a1 6)) * (m.2.1 (t + 1) 0)) + ((Int32.toInt64 (m.1 a1 7)) * (m.2.1 (t + 1) 1))) + ((Int32.toInt64 (fH_slope a1 a2 m)) * (m.2.1 (t + 1) 2))) - ((Int32.toInt64 (m.1 a1 5)) * (m.2.1 (t + 1) 6)))), (3, .long (Int32.toInt64 (fH_slope a1 a2 m))), (0, .ref t), (1, .ref a1), (2, .int a2)]) (st' := [.int (0 : Int32)]) rfl ?_
      subst h
      exact tk_RB (b := false)  rfl rfl rfl
  · replace h := tk_ifF hc1 h
    refine tk_bF  rfl rfl tk_eL_ne (c := (((((Int32.toInt64 (m.1 a1 6)) * (m.2.1 (t + 1) 0)) + ((Int32.toInt64 (m.1 a1 7)) * (m.2.1 (t + 1) 1))) + ((Int32.toInt64 (fH_slope a1 a2 m)) * (m.2.1 (t + 1) 2))) - ((Int32.toInt64 (m.1 a1 5)) * (m.2.1 (t + 1) 6))) = (0 : Int64)) hc1 (pc' := 111) (ls' := [(7, .long ((((Int32.toInt64 (m.1 a1 6)) * (m.2.1 (t + 1) 3)) + ((Int32.toInt64 (m.1 a1 7)) * (m.2.1 (t + 1) 4))) + ((Int32.toInt64 (fH_slope a1 a2 m)) * (m.2.1 (t + 1) 5)))), (5, .long (((((Int32.toInt64 (m.1 a1 6)) * (m.2.1 (t + 1) 0)) + ((Int32.toInt64 (m.1 a1 7)) * (m.2.1 (t + 1) 1))) + ((Int32.toInt64 (fH_slope a1 a2 m)) * (m.2.1 (t + 1) 2))) - ((Int32.toInt64 (m.1 a1 5)) * (m.2.1 (t + 1) 6)))), (3, .long (Int32.toInt64 (fH_slope a1 a2 m))), (0, .ref t), (1, .ref a1), (2, .int a2)]) (st' := []) ?_
    refine tk_Ps  1 (pc' := 112) (ls' := [(7, .long ((((Int32.toInt64 (m.1 a1 6)) * (m.2.1 (t + 1) 3)) + ((Int32.toInt64 (m.1 a1 7)) * (m.2.1 (t + 1) 4))) + ((Int32.toInt64 (fH_slope a1 a2 m)) * (m.2.1 (t + 1) 5)))), (5, .long (((((Int32.toInt64 (m.1 a1 6)) * (m.2.1 (t + 1) 0)) + ((Int32.toInt64 (m.1 a1 7)) * (m.2.1 (t + 1) 1))) + ((Int32.toInt64 (fH_slope a1 a2 m)) * (m.2.1 (t + 1) 2))) - ((Int32.toInt64 (m.1 a1 5)) * (m.2.1 (t + 1) 6)))), (3, .long (Int32.toInt64 (fH_slope a1 a2 m))), (0, .ref t), (1, .ref a1), (2, .int a2)]) (st' := [.int (0 : Int32)]) rfl ?_
    subst h
    exact tk_RB (b := false)  rfl rfl rfl
theorem ok_fC_touchesRound (sc : tk_X) (t : Nat) (a1 : Nat) (a2 : Int64) (m : tk_m) (ht : tk_lay[t]? = some (.inl 1)) (ha1 : tk_lay[a1]? = some (.inl 6)) : tk_Ru sc 1 126 [.ref t, .ref a1, .long a2] (tk_full m) (some (.int (tk_b (fC_touchesRound t a1 a2 m))), tk_full m) := by
  obtain ⟨out, h⟩ : ∃ out, fC_touchesRound t a1 a2 m = out := ⟨_, rfl⟩
  rw [h]
  unfold fC_touchesRound at h
  refine tk_Ru0 me126 (ls := [(0, .ref t), (1, .ref a1), (2, .long a2)]) rfl rfl ?_
  refine tk_Ps  1 (pc' := 1) (ls' := [(0, .ref t), (1, .ref a1), (2, .long a2)]) (st' := [.ref t]) rfl ?_
  refine tk_HR  rfl rfl ht (ro1_1 ht) ?_
  refine tk_Ps  1 (pc' := 5) (ls' := [(0, .ref t), (1, .ref a1), (2, .long a2)]) (st' := [.int (0 : Int32), .ref (t + 1)]) rfl ?_
  refine tk_HJa  rfl rfl (lo1_1 ht) (by decide) ?_
  refine tk_Ps  1 (pc' := 7) (ls' := [(0, .ref t), (1, .ref a1), (2, .long a2)]) (st' := [.ref a1, .long (m.2.1 (t + 1) 0)]) rfl ?_
  refine tk_HI  rfl rfl ha1 ?_
  refine tk_Ps  2 (pc' := 12) (ls' := [(0, .ref t), (1, .ref a1), (2, .long a2)]) (st' := [.ref t, .long (Int32.toInt64 (m.1 a1 1)), .long (m.2.1 (t + 1) 0)]) rfl ?_
  refine tk_HR  rfl rfl ht (ro1_1 ht) ?_
  refine tk_Ps  1 (pc' := 17) (ls' := [(0, .ref t), (1, .ref a1), (2, .long a2)]) (st' := [.int (6 : Int32), .ref (t + 1), .long (Int32.toInt64 (m.1 a1 1)), .long (m.2.1 (t + 1) 0)]) rfl ?_
  refine tk_HJa  rfl rfl (lo1_1 ht) (by decide) ?_
  refine tk_Ps  4 (pc' := 23) (ls' := [(4, .long ((m.2.1 (t + 1) 0) - ((Int32.toInt64 (m.1 a1 1)) * (m.2.1 (t + 1) 6)))), (0, .ref t), (1, .ref a1), (2, .long a2)]) (st' := [.ref t]) rfl ?_
  refine tk_HR  rfl rfl ht (ro1_1 ht) ?_
  refine tk_Ps  1 (pc' := 27) (ls' := [(4, .long ((m.2.1 (t + 1) 0) - ((Int32.toInt64 (m.1 a1 1)) * (m.2.1 (t + 1) 6)))), (0, .ref t), (1, .ref a1), (2, .long a2)]) (st' := [.int (1 : Int32), .ref (t + 1)]) rfl ?_
  refine tk_HJa  rfl rfl (lo1_1 ht) (by decide) ?_
  refine tk_Ps  1 (pc' := 29) (ls' := [(4, .long ((m.2.1 (t + 1) 0) - ((Int32.toInt64 (m.1 a1 1)) * (m.2.1 (t + 1) 6)))), (0, .ref t), (1, .ref a1), (2, .long a2)]) (st' := [.ref a1, .long (m.2.1 (t + 1) 1)]) rfl ?_
  refine tk_HI  rfl rfl ha1 ?_
  refine tk_Ps  2 (pc' := 34) (ls' := [(4, .long ((m.2.1 (t + 1) 0) - ((Int32.toInt64 (m.1 a1 1)) * (m.2.1 (t + 1) 6)))), (0, .ref t), (1, .ref a1), (2, .long a2)]) (st' := [.ref t, .long (Int32.toInt64 (m.1 a1 2)), .long (m.2.1 (t + 1) 1)]) rfl ?_
  refine tk_HR  rfl rfl ht (ro1_1 ht) ?_
  refine tk_Ps  1 (pc' := 39) (ls' := [(4, .long ((m.2.1 (t + 1) 0) - ((Int32.toInt64 (m.1 a1 1)) * (m.2.1 (t + 1) 6)))), (0, .ref t), (1, .ref a1), (2, .long a2)]) (st' := [.int (6 : Int32), .ref (t + 1), .long (Int32.toInt64 (m.1 a1 2)), .long (m.2.1 (t + 1) 1)]) rfl ?_
  refine tk_HJa  rfl rfl (lo1_1 ht) (by decide) ?_
  refine tk_Ps  4 (pc' := 45) (ls' := [(6, .long ((m.2.1 (t + 1) 1) - ((Int32.toInt64 (m.1 a1 2)) * (m.2.1 (t + 1) 6)))), (4, .long ((m.2.1 (t + 1) 0) - ((Int32.toInt64 (m.1 a1 1)) * (m.2.1 (t + 1) 6)))), (0, .ref t), (1, .ref a1), (2, .long a2)]) (st' := [.ref t]) rfl ?_
  refine tk_HR  rfl rfl ht (ro1_1 ht) ?_
  refine tk_Ps  1 (pc' := 49) (ls' := [(6, .long ((m.2.1 (t + 1) 1) - ((Int32.toInt64 (m.1 a1 2)) * (m.2.1 (t + 1) 6)))), (4, .long ((m.2.1 (t + 1) 0) - ((Int32.toInt64 (m.1 a1 1)) * (m.2.1 (t + 1) 6)))), (0, .ref t), (1, .ref a1), (2, .long a2)]) (st' := [.int (2 : Int32), .ref (t + 1)]) rfl ?_
  refine tk_HJa  rfl rfl (lo1_1 ht) (by decide) ?_
  refine tk_Ps  2 (pc' := 52) (ls' := [(6, .long ((m.2.1 (t + 1) 1) - ((Int32.toInt64 (m.1 a1 2)) * (m.2.1 (t + 1) 6)))), (4, .long ((m.2.1 (t + 1) 0) - ((Int32.toInt64 (m.1 a1 1)) * (m.2.1 (t + 1) 6)))), (0, .ref t), (1, .ref a1), (2, .long a2)]) (st' := [.ref t, .long a2, .long (m.2.1 (t + 1) 2)]) rfl ?_
  refine tk_HR  rfl rfl ht (ro1_1 ht) ?_
  refine tk_Ps  1 (pc' := 57) (ls' := [(6, .long ((m.2.1 (t + 1) 1) - ((Int32.toInt64 (m.1 a1 2)) * (m.2.1 (t + 1) 6)))), (4, .long ((m.2.1 (t + 1) 0) - ((Int32.toInt64 (m.1 a1 1)) * (m.2.1 (t + 1) 6)))), (0, .ref t), (1, .ref a1), (2, .long a2)]) (st' := [.int (6 : Int32), .ref (t + 1), .long a2, .long (m.2.1 (t + 1) 2)]) rfl ?_
  refine tk_HJa  rfl rfl (lo1_1 ht) (by decide) ?_
  refine tk_Ps  4 (pc' := 63) (ls' := [(8, .long ((m.2.1 (t + 1) 2) + (a2 * (m.2.1 (t + 1) 6)))), (6, .long ((m.2.1 (t + 1) 1) - ((Int32.toInt64 (m.1 a1 2)) * (m.2.1 (t + 1) 6)))), (4, .long ((m.2.1 (t + 1) 0) - ((Int32.toInt64 (m.1 a1 1)) * (m.2.1 (t + 1) 6)))), (0, .ref t), (1, .ref a1), (2, .long a2)]) (st' := [.ref t]) rfl ?_
  refine tk_HR  rfl rfl ht (ro1_1 ht) ?_
  refine tk_Ps  1 (pc' := 67) (ls' := [(8, .long ((m.2.1 (t + 1) 2) + (a2 * (m.2.1 (t + 1) 6)))), (6, .long ((m.2.1 (t + 1) 1) - ((Int32.toInt64 (m.1 a1 2)) * (m.2.1 (t + 1) 6)))), (4, .long ((m.2.1 (t + 1) 0) - ((Int32.toInt64 (m.1 a1 1)) * (m.2.1 (t + 1) 6)))), (0, .ref t), (1, .ref a1), (2, .long a2)]) (st' := [.int (3 : Int32), .ref (t + 1)]) rfl ?_
  refine tk_HJa  rfl rfl (lo1_1 ht) (by decide) ?_
  refine tk_Ps  1 (pc' := 69) (ls' := [(8, .long ((m.2.1 (t + 1) 2) + (a2 * (m.2.1 (t + 1) 6)))), (6, .long ((m.2.1 (t + 1) 1) - ((Int32.toInt64 (m.1 a1 2)) * (m.2.1 (t + 1) 6)))), (4, .long ((m.2.1 (t + 1) 0) - ((Int32.toInt64 (m.1 a1 1)) * (m.2.1 (t + 1) 6)))), (0, .ref t), (1, .ref a1), (2, .long a2)]) (st' := [.ref t, .long (m.2.1 (t + 1) 3)]) rfl ?_
  refine tk_HR  rfl rfl ht (ro1_1 ht) ?_
  refine tk_Ps  1 (pc' := 73) (ls' := [(8, .long ((m.2.1 (t + 1) 2) + (a2 * (m.2.1 (t + 1) 6)))), (6, .long ((m.2.1 (t + 1) 1) - ((Int32.toInt64 (m.1 a1 2)) * (m.2.1 (t + 1) 6)))), (4, .long ((m.2.1 (t + 1) 0) - ((Int32.toInt64 (m.1 a1 1)) * (m.2.1 (t + 1) 6)))), (0, .ref t), (1, .ref a1), (2, .long a2)]) (st' := [.int (3 : Int32), .ref (t + 1), .long (m.2.1 (t + 1) 3)]) rfl ?_
  refine tk_HJa  rfl rfl (lo1_1 ht) (by decide) ?_
  refine tk_Ps  2 (pc' := 76) (ls' := [(8, .long ((m.2.1 (t + 1) 2) + (a2 * (m.2.1 (t + 1) 6)))), (6, .long ((m.2.1 (t + 1) 1) - ((Int32.toInt64 (m.1 a1 2)) * (m.2.1 (t + 1) 6)))), (4, .long ((m.2.1 (t + 1) 0) - ((Int32.toInt64 (m.1 a1 1)) * (m.2.1 (t + 1) 6)))), (0, .ref t), (1, .ref a1), (2, .long a2)]) (st' := [.ref t, .long ((m.2.1 (t + 1) 3) * (m.2.1 (t + 1) 3))]) rfl ?_
  refine tk_HR  rfl rfl ht (ro1_1 ht) ?_
  refine tk_Ps  1 (pc' := 80) (ls' := [(8, .long ((m.2.1 (t + 1) 2) + (a2 * (m.2.1 (t + 1) 6)))), (6, .long ((m.2.1 (t + 1) 1) - ((Int32.toInt64 (m.1 a1 2)) * (m.2.1 (t + 1) 6)))), (4, .long ((m.2.1 (t + 1) 0) - ((Int32.toInt64 (m.1 a1 1)) * (m.2.1 (t + 1) 6)))), (0, .ref t), (1, .ref a1), (2, .long a2)]) (st' := [.int (4 : Int32), .ref (t + 1), .long ((m.2.1 (t + 1) 3) * (m.2.1 (t + 1) 3))]) rfl ?_
  refine tk_HJa  rfl rfl (lo1_1 ht) (by decide) ?_
  refine tk_Ps  1 (pc' := 82) (ls' := [(8, .long ((m.2.1 (t + 1) 2) + (a2 * (m.2.1 (t + 1) 6)))), (6, .long ((m.2.1 (t + 1) 1) - ((Int32.toInt64 (m.1 a1 2)) * (m.2.1 (t + 1) 6)))), (4, .long ((m.2.1 (t + 1) 0) - ((Int32.toInt64 (m.1 a1 1)) * (m.2.1 (t + 1) 6)))), (0, .ref t), (1, .ref a1), (2, .long a2)]) (st' := [.ref t, .long (m.2.1 (t + 1) 4), .long ((m.2.1 (t + 1) 3) * (m.2.1 (t + 1) 3))]) rfl ?_
  refine tk_HR  rfl rfl ht (ro1_1 ht) ?_
  refine tk_Ps  1 (pc' := 86) (ls' := [(8, .long ((m.2.1 (t + 1) 2) + (a2 * (m.2.1 (t + 1) 6)))), (6, .long ((m.2.1 (t + 1) 1) - ((Int32.toInt64 (m.1 a1 2)) * (m.2.1 (t + 1) 6)))), (4, .long ((m.2.1 (t + 1) 0) - ((Int32.toInt64 (m.1 a1 1)) * (m.2.1 (t + 1) 6)))), (0, .ref t), (1, .ref a1), (2, .long a2)]) (st' := [.int (4 : Int32), .ref (t + 1), .long (m.2.1 (t + 1) 4), .long ((m.2.1 (t + 1) 3) * (m.2.1 (t + 1) 3))]) rfl ?_
  refine tk_HJa  rfl rfl (lo1_1 ht) (by decide) ?_
  refine tk_Ps  3 (pc' := 90) (ls' := [(8, .long ((m.2.1 (t + 1) 2) + (a2 * (m.2.1 (t + 1) 6)))), (6, .long ((m.2.1 (t + 1) 1) - ((Int32.toInt64 (m.1 a1 2)) * (m.2.1 (t + 1) 6)))), (4, .long ((m.2.1 (t + 1) 0) - ((Int32.toInt64 (m.1 a1 1)) * (m.2.1 (t + 1) 6)))), (0, .ref t), (1, .ref a1), (2, .long a2)]) (st' := [.ref t, .long (((m.2.1 (t + 1) 3) * (m.2.1 (t + 1) 3)) + ((m.2.1 (t + 1) 4) * (m.2.1 (t + 1) 4)))]) rfl ?_
  refine tk_HR  rfl rfl ht (ro1_1 ht) ?_
  refine tk_Ps  1 (pc' := 94) (ls' := [(8, .long ((m.2.1 (t + 1) 2) + (a2 * (m.2.1 (t + 1) 6)))), (6, .long ((m.2.1 (t + 1) 1) - ((Int32.toInt64 (m.1 a1 2)) * (m.2.1 (t + 1) 6)))), (4, .long ((m.2.1 (t + 1) 0) - ((Int32.toInt64 (m.1 a1 1)) * (m.2.1 (t + 1) 6)))), (0, .ref t), (1, .ref a1), (2, .long a2)]) (st' := [.int (5 : Int32), .ref (t + 1), .long (((m.2.1 (t + 1) 3) * (m.2.1 (t + 1) 3)) + ((m.2.1 (t + 1) 4) * (m.2.1 (t + 1) 4)))]) rfl ?_
  refine tk_HJa  rfl rfl (lo1_1 ht) (by decide) ?_
  refine tk_Ps  1 (pc' := 96) (ls' := [(8, .long ((m.2.1 (t + 1) 2) + (a2 * (m.2.1 (t + 1) 6)))), (6, .long ((m.2.1 (t + 1) 1) - ((Int32.toInt64 (m.1 a1 2)) * (m.2.1 (t + 1) 6)))), (4, .long ((m.2.1 (t + 1) 0) - ((Int32.toInt64 (m.1 a1 1)) * (m.2.1 (t + 1) 6)))), (0, .ref t), (1, .ref a1), (2, .long a2)]) (st' := [.ref t, .long (m.2.1 (t + 1) 5), .long (((m.2.1 (t + 1) 3) * (m.2.1 (t + 1) 3)) + ((m.2.1 (t + 1) 4) * (m.2.1 (t + 1) 4)))]) rfl ?_
  refine tk_HR  rfl rfl ht (ro1_1 ht) ?_
  refine tk_Ps  1 (pc' := 100) (ls' := [(8, .long ((m.2.1 (t + 1) 2) + (a2 * (m.2.1 (t + 1) 6)))), (6, .long ((m.2.1 (t + 1) 1) - ((Int32.toInt64 (m.1 a1 2)) * (m.2.1 (t + 1) 6)))), (4, .long ((m.2.1 (t + 1) 0) - ((Int32.toInt64 (m.1 a1 1)) * (m.2.1 (t + 1) 6)))), (0, .ref t), (1, .ref a1), (2, .long a2)]) (st' := [.int (5 : Int32), .ref (t + 1), .long (m.2.1 (t + 1) 5), .long (((m.2.1 (t + 1) 3) * (m.2.1 (t + 1) 3)) + ((m.2.1 (t + 1) 4) * (m.2.1 (t + 1) 4)))]) rfl ?_
  refine tk_HJa  rfl rfl (lo1_1 ht) (by decide) ?_
  refine tk_Ps  15 (pc' := 123) (ls' := [(10, .long ((((m.2.1 (t + 1) 3) * (m.2.1 (t + 1) 3)) + ((m.2.1 (t + 1) 4) * (m.2.1 (t + 1) 4))) - ((m.2.1 (t + 1) 5) * (m.2.1 (t + 1) 5)))), (8, .long ((m.2.1 (t + 1) 2) + (a2 * (m.2.1 (t + 1) 6)))), (6, .long ((m.2.1 (t + 1) 1) - ((Int32.toInt64 (m.1 a1 2)) * (m.2.1 (t + 1) 6)))), (4, .long ((m.2.1 (t + 1) 0) - ((Int32.toInt64 (m.1 a1 1)) * (m.2.1 (t + 1) 6)))), (0, .ref t), (1, .ref a1), (2, .long a2)]) (st' := [.ref t, .long (((((m.2.1 (t + 1) 0) - ((Int32.toInt64 (m.1 a1 1)) * (m.2.1 (t + 1) 6))) * ((m.2.1 (t + 1) 0) - ((Int32.toInt64 (m.1 a1 1)) * (m.2.1 (t + 1) 6)))) + (((m.2.1 (t + 1) 1) - ((Int32.toInt64 (m.1 a1 2)) * (m.2.1 (t + 1) 6))) * ((m.2.1 (t + 1) 1) - ((Int32.toInt64 (m.1 a1 2)) * (m.2.1 (t + 1) 6))))) - (((m.2.1 (t + 1) 2) + (a2 * (m.2.1 (t + 1) 6))) * ((m.2.1 (t + 1) 2) + (a2 * (m.2.1 (t + 1) 6)))))]) rfl ?_
  refine tk_HJ  rfl rfl ht ?_
  refine tk_Ps  6 (pc' := 135) (ls' := [(12, .long ((((((m.2.1 (t + 1) 0) - ((Int32.toInt64 (m.1 a1 1)) * (m.2.1 (t + 1) 6))) * ((m.2.1 (t + 1) 0) - ((Int32.toInt64 (m.1 a1 1)) * (m.2.1 (t + 1) 6)))) + (((m.2.1 (t + 1) 1) - ((Int32.toInt64 (m.1 a1 2)) * (m.2.1 (t + 1) 6))) * ((m.2.1 (t + 1) 1) - ((Int32.toInt64 (m.1 a1 2)) * (m.2.1 (t + 1) 6))))) - (((m.2.1 (t + 1) 2) + (a2 * (m.2.1 (t + 1) 6))) * ((m.2.1 (t + 1) 2) + (a2 * (m.2.1 (t + 1) 6))))) + ((m.2.1 t 2) * ((((m.2.1 (t + 1) 3) * (m.2.1 (t + 1) 3)) + ((m.2.1 (t + 1) 4) * (m.2.1 (t + 1) 4))) - ((m.2.1 (t + 1) 5) * (m.2.1 (t + 1) 5)))))), (10, .long ((((m.2.1 (t + 1) 3) * (m.2.1 (t + 1) 3)) + ((m.2.1 (t + 1) 4) * (m.2.1 (t + 1) 4))) - ((m.2.1 (t + 1) 5) * (m.2.1 (t + 1) 5)))), (8, .long ((m.2.1 (t + 1) 2) + (a2 * (m.2.1 (t + 1) 6)))), (6, .long ((m.2.1 (t + 1) 1) - ((Int32.toInt64 (m.1 a1 2)) * (m.2.1 (t + 1) 6)))), (4, .long ((m.2.1 (t + 1) 0) - ((Int32.toInt64 (m.1 a1 1)) * (m.2.1 (t + 1) 6)))), (0, .ref t), (1, .ref a1), (2, .long a2)]) (st' := [.ref t, .long ((m.2.1 (t + 1) 0) - ((Int32.toInt64 (m.1 a1 1)) * (m.2.1 (t + 1) 6)))]) rfl ?_
  refine tk_HR  rfl rfl ht (ro1_1 ht) ?_
  refine tk_Ps  1 (pc' := 139) (ls' := [(12, .long ((((((m.2.1 (t + 1) 0) - ((Int32.toInt64 (m.1 a1 1)) * (m.2.1 (t + 1) 6))) * ((m.2.1 (t + 1) 0) - ((Int32.toInt64 (m.1 a1 1)) * (m.2.1 (t + 1) 6)))) + (((m.2.1 (t + 1) 1) - ((Int32.toInt64 (m.1 a1 2)) * (m.2.1 (t + 1) 6))) * ((m.2.1 (t + 1) 1) - ((Int32.toInt64 (m.1 a1 2)) * (m.2.1 (t + 1) 6))))) - (((m.2.1 (t + 1) 2) + (a2 * (m.2.1 (t + 1) 6))) * ((m.2.1 (t + 1) 2) + (a2 * (m.2.1 (t + 1) 6))))) + ((m.2.1 t 2) * ((((m.2.1 (t + 1) 3) * (m.2.1 (t + 1) 3)) + ((m.2.1 (t + 1) 4) * (m.2.1 (t + 1) 4))) - ((m.2.1 (t + 1) 5) * (m.2.1 (t + 1) 5)))))), (10, .long ((((m.2.1 (t + 1) 3) * (m.2.1 (t + 1) 3)) + ((m.2.1 (t + 1) 4) * (m.2.1 (t + 1) 4))) - ((m.2.1 (t + 1) 5) * (m.2.1 (t + 1) 5)))), (8, .long ((m.2.1 (t + 1) 2) + (a2 * (m.2.1 (t + 1) 6)))), (6, .long ((m.2.1 (t + 1) 1) - ((Int32.toInt64 (m.1 a1 2)) * (m.2.1 (t + 1) 6)))), (4, .long ((m.2.1 (t + 1) 0) - ((Int32.toInt64 (m.1 a1 1)) * (m.2.1 (t + 1) 6)))), (0, .ref t), (1, .ref a1), (2, .long a2)]) (st' := [.int (3 : Int32), .ref (t + 1), .long ((m.2.1 (t + 1) 0) - ((Int32.toInt64 (m.1 a1 1)) * (m.2.1 (t + 1) 6)))]) rfl ?_
  refine tk_HJa  rfl rfl (lo1_1 ht) (by decide) ?_
  refine tk_Ps  3 (pc' := 144) (ls' := [(12, .long ((((((m.2.1 (t + 1) 0) - ((Int32.toInt64 (m.1 a1 1)) * (m.2.1 (t + 1) 6))) * ((m.2.1 (t + 1) 0) - ((Int32.toInt64 (m.1 a1 1)) * (m.2.1 (t + 1) 6)))) + (((m.2.1 (t + 1) 1) - ((Int32.toInt64 (m.1 a1 2)) * (m.2.1 (t + 1) 6))) * ((m.2.1 (t + 1) 1) - ((Int32.toInt64 (m.1 a1 2)) * (m.2.1 (t + 1) 6))))) - (((m.2.1 (t + 1) 2) + (a2 * (m.2.1 (t + 1) 6))) * ((m.2.1 (t + 1) 2) + (a2 * (m.2.1 (t + 1) 6))))) + ((m.2.1 t 2) * ((((m.2.1 (t + 1) 3) * (m.2.1 (t + 1) 3)) + ((m.2.1 (t + 1) 4) * (m.2.1 (t + 1) 4))) - ((m.2.1 (t + 1) 5) * (m.2.1 (t + 1) 5)))))), (10, .long ((((m.2.1 (t + 1) 3) * (m.2.1 (t + 1) 3)) + ((m.2.1 (t + 1) 4) * (m.2.1 (t + 1) 4))) - ((m.2.1 (t + 1) 5) * (m.2.1 (t + 1) 5)))), (8, .long ((m.2.1 (t + 1) 2) + (a2 * (m.2.1 (t + 1) 6)))), (6, .long ((m.2.1 (t + 1) 1) - ((Int32.toInt64 (m.1 a1 2)) * (m.2.1 (t + 1) 6)))), (4, .long ((m.2.1 (t + 1) 0) - ((Int32.toInt64 (m.1 a1 1)) * (m.2.1 (t + 1) 6)))), (0, .ref t), (1, .ref a1), (2, .long a2)]) (st' := [.ref t, .long ((m.2.1 (t + 1) 1) - ((Int32.toInt64 (m.1 a1 2)) * (m.2.1 (t + 1) 6))), .long (((m.2.1 (t + 1) 0) - ((Int32.toInt64 (m.1 a1 1)) * (m.2.1 (t + 1) 6))) * (m.2.1 (t + 1) 3))]) rfl ?_
  refine tk_HR  rfl rfl ht (ro1_1 ht) ?_
  refine tk_Ps  1 (pc' := 148) (ls' := [(12, .long ((((((m.2.1 (t + 1) 0) - ((Int32.toInt64 (m.1 a1 1)) * (m.2.1 (t + 1) 6))) * ((m.2.1 (t + 1) 0) - ((Int32.toInt64 (m.1 a1 1)) * (m.2.1 (t + 1) 6)))) + (((m.2.1 (t + 1) 1) - ((Int32.toInt64 (m.1 a1 2)) * (m.2.1 (t + 1) 6))) * ((m.2.1 (t + 1) 1) - ((Int32.toInt64 (m.1 a1 2)) * (m.2.1 (t + 1) 6))))) - (((m.2.1 (t + 1) 2) + (a2 * (m.2.1 (t + 1) 6))) * ((m.2.1 (t + 1) 2) + (a2 * (m.2.1 (t + 1) 6))))) + ((m.2.1 t 2) * ((((m.2.1 (t + 1) 3) * (m.2.1 (t + 1) 3)) + ((m.2.1 (t + 1) 4) * (m.2.1 (t + 1) 4))) - ((m.2.1 (t + 1) 5) * (m.2.1 (t + 1) 5)))))), (10, .long ((((m.2.1 (t + 1) 3) * (m.2.1 (t + 1) 3)) + ((m.2.1 (t + 1) 4) * (m.2.1 (t + 1) 4))) - ((m.2.1 (t + 1) 5) * (m.2.1 (t + 1) 5)))), (8, .long ((m.2.1 (t + 1) 2) + (a2 * (m.2.1 (t + 1) 6)))), (6, .long ((m.2.1 (t + 1) 1) - ((Int32.toInt64 (m.1 a1 2)) * (m.2.1 (t + 1) 6)))), (4, .long ((m.2.1 (t + 1) 0) - ((Int32.toInt64 (m.1 a1 1)) * (m.2.1 (t + 1) 6)))), (0, .ref t), (1, .ref a1), (2, .long a2)]) (st' := [.int (4 : Int32), .ref (t + 1), .long ((m.2.1 (t + 1) 1) - ((Int32.toInt64 (m.1 a1 2)) * (m.2.1 (t + 1) 6))), .long (((m.2.1 (t + 1) 0) - ((Int32.toInt64 (m.1 a1 1)) * (m.2.1 (t + 1) 6))) * (m.2.1 (t + 1) 3))]) rfl ?_
  refine tk_HJa  rfl rfl (lo1_1 ht) (by decide) ?_
  refine tk_Ps  4 (pc' := 154) (ls' := [(12, .long ((((((m.2.1 (t + 1) 0) - ((Int32.toInt64 (m.1 a1 1)) * (m.2.1 (t + 1) 6))) * ((m.2.1 (t + 1) 0) - ((Int32.toInt64 (m.1 a1 1)) * (m.2.1 (t + 1) 6)))) + (((m.2.1 (t + 1) 1) - ((Int32.toInt64 (m.1 a1 2)) * (m.2.1 (t + 1) 6))) * ((m.2.1 (t + 1) 1) - ((Int32.toInt64 (m.1 a1 2)) * (m.2.1 (t + 1) 6))))) - (((m.2.1 (t + 1) 2) + (a2 * (m.2.1 (t + 1) 6))) * ((m.2.1 (t + 1) 2) + (a2 * (m.2.1 (t + 1) 6))))) + ((m.2.1 t 2) * ((((m.2.1 (t + 1) 3) * (m.2.1 (t + 1) 3)) + ((m.2.1 (t + 1) 4) * (m.2.1 (t + 1) 4))) - ((m.2.1 (t + 1) 5) * (m.2.1 (t + 1) 5)))))), (10, .long ((((m.2.1 (t + 1) 3) * (m.2.1 (t + 1) 3)) + ((m.2.1 (t + 1) 4) * (m.2.1 (t + 1) 4))) - ((m.2.1 (t + 1) 5) * (m.2.1 (t + 1) 5)))), (8, .long ((m.2.1 (t + 1) 2) + (a2 * (m.2.1 (t + 1) 6)))), (6, .long ((m.2.1 (t + 1) 1) - ((Int32.toInt64 (m.1 a1 2)) * (m.2.1 (t + 1) 6)))), (4, .long ((m.2.1 (t + 1) 0) - ((Int32.toInt64 (m.1 a1 1)) * (m.2.1 (t + 1) 6)))), (0, .ref t), (1, .ref a1), (2, .long a2)]) (st' := [.ref t, .long ((m.2.1 (t + 1) 2) + (a2 * (m.2.1 (t + 1) 6))), .long ((((m.2.1 (t + 1) 0) - ((Int32.toInt64 (m.1 a1 1)) * (m.2.1 (t + 1) 6))) * (m.2.1 (t + 1) 3)) + (((m.2.1 (t + 1) 1) - ((Int32.toInt64 (m.1 a1 2)) * (m.2.1 (t + 1) 6))) * (m.2.1 (t + 1) 4)))]) rfl ?_
  refine tk_HR  rfl rfl ht (ro1_1 ht) ?_
  refine tk_Ps  1 (pc' := 158) (ls' := [(12, .long ((((((m.2.1 (t + 1) 0) - ((Int32.toInt64 (m.1 a1 1)) * (m.2.1 (t + 1) 6))) * ((m.2.1 (t + 1) 0) - ((Int32.toInt64 (m.1 a1 1)) * (m.2.1 (t + 1) 6)))) + (((m.2.1 (t + 1) 1) - ((Int32.toInt64 (m.1 a1 2)) * (m.2.1 (t + 1) 6))) * ((m.2.1 (t + 1) 1) - ((Int32.toInt64 (m.1 a1 2)) * (m.2.1 (t + 1) 6))))) - (((m.2.1 (t + 1) 2) + (a2 * (m.2.1 (t + 1) 6))) * ((m.2.1 (t + 1) 2) + (a2 * (m.2.1 (t + 1) 6))))) + ((m.2.1 t 2) * ((((m.2.1 (t + 1) 3) * (m.2.1 (t + 1) 3)) + ((m.2.1 (t + 1) 4) * (m.2.1 (t + 1) 4))) - ((m.2.1 (t + 1) 5) * (m.2.1 (t + 1) 5)))))), (10, .long ((((m.2.1 (t + 1) 3) * (m.2.1 (t + 1) 3)) + ((m.2.1 (t + 1) 4) * (m.2.1 (t + 1) 4))) - ((m.2.1 (t + 1) 5) * (m.2.1 (t + 1) 5)))), (8, .long ((m.2.1 (t + 1) 2) + (a2 * (m.2.1 (t + 1) 6)))), (6, .long ((m.2.1 (t + 1) 1) - ((Int32.toInt64 (m.1 a1 2)) * (m.2.1 (t + 1) 6)))), (4, .long ((m.2.1 (t + 1) 0) - ((Int32.toInt64 (m.1 a1 1)) * (m.2.1 (t + 1) 6)))), (0, .ref t), (1, .ref a1), (2, .long a2)]) (st' := [.int (5 : Int32), .ref (t + 1), .long ((m.2.1 (t + 1) 2) + (a2 * (m.2.1 (t + 1) 6))), .long ((((m.2.1 (t + 1) 0) - ((Int32.toInt64 (m.1 a1 1)) * (m.2.1 (t + 1) 6))) * (m.2.1 (t + 1) 3)) + (((m.2.1 (t + 1) 1) - ((Int32.toInt64 (m.1 a1 2)) * (m.2.1 (t + 1) 6))) * (m.2.1 (t + 1) 4)))]) rfl ?_
  refine tk_HJa  rfl rfl (lo1_1 ht) (by decide) ?_
  refine tk_Ps  6 (pc' := 167) (ls' := [(14, .long (((((m.2.1 (t + 1) 0) - ((Int32.toInt64 (m.1 a1 1)) * (m.2.1 (t + 1) 6))) * (m.2.1 (t + 1) 3)) + (((m.2.1 (t + 1) 1) - ((Int32.toInt64 (m.1 a1 2)) * (m.2.1 (t + 1) 6))) * (m.2.1 (t + 1) 4))) - (((m.2.1 (t + 1) 2) + (a2 * (m.2.1 (t + 1) 6))) * (m.2.1 (t + 1) 5)))), (12, .long ((((((m.2.1 (t + 1) 0) - ((Int32.toInt64 (m.1 a1 1)) * (m.2.1 (t + 1) 6))) * ((m.2.1 (t + 1) 0) - ((Int32.toInt64 (m.1 a1 1)) * (m.2.1 (t + 1) 6)))) + (((m.2.1 (t + 1) 1) - ((Int32.toInt64 (m.1 a1 2)) * (m.2.1 (t + 1) 6))) * ((m.2.1 (t + 1) 1) - ((Int32.toInt64 (m.1 a1 2)) * (m.2.1 (t + 1) 6))))) - (((m.2.1 (t + 1) 2) + (a2 * (m.2.1 (t + 1) 6))) * ((m.2.1 (t + 1) 2) + (a2 * (m.2.1 (t + 1) 6))))) + ((m.2.1 t 2) * ((((m.2.1 (t + 1) 3) * (m.2.1 (t + 1) 3)) + ((m.2.1 (t + 1) 4) * (m.2.1 (t + 1) 4))) - ((m.2.1 (t + 1) 5) * (m.2.1 (t + 1) 5)))))), (10, .long ((((m.2.1 (t + 1) 3) * (m.2.1 (t + 1) 3)) + ((m.2.1 (t + 1) 4) * (m.2.1 (t + 1) 4))) - ((m.2.1 (t + 1) 5) * (m.2.1 (t + 1) 5)))), (8, .long ((m.2.1 (t + 1) 2) + (a2 * (m.2.1 (t + 1) 6)))), (6, .long ((m.2.1 (t + 1) 1) - ((Int32.toInt64 (m.1 a1 2)) * (m.2.1 (t + 1) 6)))), (4, .long ((m.2.1 (t + 1) 0) - ((Int32.toInt64 (m.1 a1 1)) * (m.2.1 (t + 1) 6)))), (0, .ref t), (1, .ref a1), (2, .long a2)]) (st' := [.int (lg_cmp ((((((m.2.1 (t + 1) 0) - ((Int32.toInt64 (m.1 a1 1)) * (m.2.1 (t + 1) 6))) * ((m.2.1 (t + 1) 0) - ((Int32.toInt64 (m.1 a1 1)) * (m.2.1 (t + 1) 6)))) + (((m.2.1 (t + 1) 1) - ((Int32.toInt64 (m.1 a1 2)) * (m.2.1 (t + 1) 6))) * ((m.2.1 (t + 1) 1) - ((Int32.toInt64 (m.1 a1 2)) * (m.2.1 (t + 1) 6))))) - (((m.2.1 (t + 1) 2) + (a2 * (m.2.1 (t + 1) 6))) * ((m.2.1 (t + 1) 2) + (a2 * (m.2.1 (t + 1) 6))))) + ((m.2.1 t 2) * ((((m.2.1 (t + 1) 3) * (m.2.1 (t + 1) 3)) + ((m.2.1 (t + 1) 4) * (m.2.1 (t + 1) 4))) - ((m.2.1 (t + 1) 5) * (m.2.1 (t + 1) 5))))) (0 : Int64))]) rfl ?_
  by_cases hc1 : ((((((m.2.1 (t + 1) 0) - ((Int32.toInt64 (m.1 a1 1)) * (m.2.1 (t + 1) 6))) * ((m.2.1 (t + 1) 0) - ((Int32.toInt64 (m.1 a1 1)) * (m.2.1 (t + 1) 6)))) + (((m.2.1 (t + 1) 1) - ((Int32.toInt64 (m.1 a1 2)) * (m.2.1 (t + 1) 6))) * ((m.2.1 (t + 1) 1) - ((Int32.toInt64 (m.1 a1 2)) * (m.2.1 (t + 1) 6))))) - (((m.2.1 (t + 1) 2) + (a2 * (m.2.1 (t + 1) 6))) * ((m.2.1 (t + 1) 2) + (a2 * (m.2.1 (t + 1) 6))))) + ((m.2.1 t 2) * ((((m.2.1 (t + 1) 3) * (m.2.1 (t + 1) 3)) + ((m.2.1 (t + 1) 4) * (m.2.1 (t + 1) 4))) - ((m.2.1 (t + 1) 5) * (m.2.1 (t + 1) 5))))) = (0 : Int64)
  · replace h := tk_ifT hc1 h
    refine tk_bT  rfl rfl tk_eL_ne (c := ((((((m.2.1 (t + 1) 0) - ((Int32.toInt64 (m.1 a1 1)) * (m.2.1 (t + 1) 6))) * ((m.2.1 (t + 1) 0) - ((Int32.toInt64 (m.1 a1 1)) * (m.2.1 (t + 1) 6)))) + (((m.2.1 (t + 1) 1) - ((Int32.toInt64 (m.1 a1 2)) * (m.2.1 (t + 1) 6))) * ((m.2.1 (t + 1) 1) - ((Int32.toInt64 (m.1 a1 2)) * (m.2.1 (t + 1) 6))))) - (((m.2.1 (t + 1) 2) + (a2 * (m.2.1 (t + 1) 6))) * ((m.2.1 (t + 1) 2) + (a2 * (m.2.1 (t + 1) 6))))) + ((m.2.1 t 2) * ((((m.2.1 (t + 1) 3) * (m.2.1 (t + 1) 3)) + ((m.2.1 (t + 1) 4) * (m.2.1 (t + 1) 4))) - ((m.2.1 (t + 1) 5) * (m.2.1 (t + 1) 5))))) = (0 : Int64)) hc1 (pc' := 170) (ls' := [(14, .long (((((m.2.1 (t + 1) 0) - ((Int32.toInt64 (m.1 a1 1)) * (m.2.1 (t + 1) 6))) * (m.2.1 (t + 1) 3)) + (((m.2.1 (t + 1) 1) - ((Int32.toInt64 (m.1 a1 2)) * (m.2.1 (t + 1) 6))) * (m.2.1 (t + 1) 4))) - (((m.2.1 (t + 1) 2) + (a2 * (m.2.1 (t + 1) 6))) * (m.2.1 (t + 1) 5)))), (12, .long ((((((m.2.1 (t + 1) 0) - ((Int32.toInt64 (m.1 a1 1)) * (m.2.1 (t + 1) 6))) * ((m.2.1 (t + 1) 0) - ((Int32.toInt64 (m.1 a1 1)) * (m.2.1 (t + 1) 6)))) + (((m.2.1 (t + 1) 1) - ((Int32.toInt64 (m.1 a1 2)) * (m.2.1 (t + 1) 6))) * ((m.2.1 (t + 1) 1) - ((Int32.toInt64 (m.1 a1 2)) * (m.2.1 (t + 1) 6))))) - (((m.2.1 (t + 1) 2) + (a2 * (m.2.1 (t + 1) 6))) * ((m.2.1 (t + 1) 2) + (a2 * (m.2.1 (t + 1) 6))))) + ((m.2.1 t 2) * ((((m.2.1 (t + 1) 3) * (m.2.1 (t + 1) 3)) + ((m.2.1 (t + 1) 4) * (m.2.1 (t + 1) 4))) - ((m.2.1 (t + 1) 5) * (m.2.1 (t + 1) 5)))))), (10, .long ((((m.2.1 (t + 1) 3) * (m.2.1 (t + 1) 3)) + ((m.2.1 (t + 1) 4) * (m.2.1 (t + 1) 4))) - ((m.2.1 (t + 1) 5) * (m.2.1 (t + 1) 5)))), (8, .long ((m.2.1 (t + 1) 2) + (a2 * (m.2.1 (t + 1) 6)))), (6, .long ((m.2.1 (t + 1) 1) - ((Int32.toInt64 (m.1 a1 2)) * (m.2.1 (t + 1) 6)))), (4, .long ((m.2.1 (t + 1) 0) - ((Int32.toInt64 (m.1 a1 1)) * (m.2.1 (t + 1) 6)))), (0, .ref t), (1, .ref a1), (2, .long a2)]) (st' := []) ?_
    refine tk_Ps  3 (pc' := 174) (ls' := [(14, .long (((((m.2.1 (t + 1) 0) - ((Int32.toInt64 (m.1 a1 1)) * (m.2.1 (t + 1) 6))) * (m.2.1 (t + 1) 3)) + (((m.2.1 (t + 1) 1) - ((Int32.toInt64 (m.1 a1 2)) * (m.2.1 (t + 1) 6))) * (m.2.1 (t + 1) 4))) - (((m.2.1 (t + 1) 2) + (a2 * (m.2.1 (t + 1) 6))) * (m.2.1 (t + 1) 5)))), (12, .long ((((((m.2.1 (t + 1) 0) - ((Int32.toInt64 (m.1 a1 1)) * (m.2.1 (t + 1) 6))) * ((m.2.1 (t + 1) 0) - ((Int32.toInt64 (m.1 a1 1)) * (m.2.1 (t + 1) 6)))) + (((m.2.1 (t + 1) 1) - ((Int32.toInt64 (m.1 a1 2)) * (m.2.1 (t + 1) 6))) * ((m.2.1 (t + 1) 1) - ((Int32.toInt64 (m.1 a1 2)) * (m.2.1 (t + 1) 6))))) - (((m.2.1 (t + 1) 2) + (a2 * (m.2.1 (t + 1) 6))) * ((m.2.1 (t + 1) 2) + (a2 * (m.2.1 (t + 1) 6))))) + ((m.2.1 t 2) * ((((m.2.1 (t + 1) 3) * (m.2.1 (t + 1) 3)) + ((m.2.1 (t + 1) 4) * (m.2.1 (t + 1) 4))) - ((m.2.1 (t + 1) 5) * (m.2.1 (t + 1) 5)))))), (10, .long ((((m.2.1 (t + 1) 3) * (m.2.1 (t + 1) 3)) + ((m.2.1 (t + 1) 4) * (m.2.1 (t + 1) 4))) - ((m.2.1 (t + 1) 5) * (m.2.1 (t + 1) 5)))), (8, .long ((m.2.1 (t + 1) 2) + (a2 * (m.2.1 (t + 1) 6)))), (6, .long ((m.2.1 (t + 1) 1) - ((Int32.toInt64 (m.1 a1 2)) * (m.2.1 (t + 1) 6)))), (4, .long ((m.2.1 (t + 1) 0) - ((Int32.toInt64 (m.1 a1 1)) * (m.2.1 (t + 1) 6)))), (0, .ref t), (1, .ref a1), (2, .long a2)]) (st' := [.int (lg_cmp (((((m.2.1 (t + 1) 0) - ((Int32.toInt64 (m.1 a1 1)) * (m.2.1 (t + 1) 6))) * (m.2.1 (t + 1) 3)) + (((m.2.1 (t + 1) 1) - ((Int32.toInt64 (m.1 a1 2)) * (m.2.1 (t + 1) 6))) * (m.2.1 (t + 1) 4))) - (((m.2.1 (t + 1) 2) + (a2 * (m.2.1 (t + 1) 6))) * (m.2.1 (t + 1) 5))) (0 : Int64))]) rfl ?_
    by_cases hc2 : (((((m.2.1 (t + 1) 0) - ((Int32.toInt64 (m.1 a1 1)) * (m.2.1 (t + 1) 6))) * (m.2.1 (t + 1) 3)) + (((m.2.1 (t + 1) 1) - ((Int32.toInt64 (m.1 a1 2)) * (m.2.1 (t + 1) 6))) * (m.2.1 (t + 1) 4))) - (((m.2.1 (t + 1) 2) + (a2 * (m.2.1 (t + 1) 6))) * (m.2.1 (t + 1) 5))) = (0 : Int64)
    · replace h := tk_ifT hc2 h
      refine tk_bT  rfl rfl tk_eL_ne (c := (((((m.2.1 (t + 1) 0) - ((Int32.toInt64 (m.1 a1 1)) * (m.2.1 (t + 1) 6))) * (m.2.1 (t + 1) 3)) + (((m.2.1 (t + 1) 1) - ((Int32.toInt64 (m.1 a1 2)) * (m.2.1 (t + 1) 6))) * (m.2.1 (t + 1) 4))) - (((m.2.1 (t + 1) 2) + (a2 * (m.2.1 (t + 1) 6))) * (m.2.1 (t + 1) 5))) = (0 : Int64)) hc2 (pc' := 177) (ls' := [(14, .long (((((m.2.1 (t + 1) 0) - ((Int32.toInt64 (m.1 a1 1)) * (m.2.1 (t + 1) 6))) * (m.2.1 (t + 1) 3)) + (((m.2.1 (t + 1) 1) - ((Int32.toInt64 (m.1 a1 2)) * (m.2.1 (t + 1) 6))) * (m.2.1 (t + 1) 4))) - (((m.2.1 (t + 1) 2) + (a2 * (m.2.1 (t + 1) 6))) * (m.2.1 (t + 1) 5)))), (12, .long ((((((m.2.1 (t + 1) 0) - ((Int32.toInt64 (m.1 a1 1)) * (m.2.1 (t + 1) 6))) * ((m.2.1 (t + 1) 0) - ((Int32.toInt64 (m.1 a1 1)) * (m.2.1 (t + 1) 6)))) + (((m.2.1 (t + 1) 1) - ((Int32.toInt64 (m.1 a1 2)) * (m.2.1 (t + 1) 6))) * ((m.2.1 (t + 1) 1) - ((Int32.toInt64 (m.1 a1 2)) * (m.2.1 (t + 1) 6))))) - (((m.2.1 (t + 1) 2) + (a2 * (m.2.1 (t + 1) 6))) * ((m.2.1 (t + 1) 2) + (a2 * (m.2.1 (t + 1) 6))))) + ((m.2.1 t 2) * ((((m.2.1 (t + 1) 3) * (m.2.1 (t + 1) 3)) + ((m.2.1 (t + 1) 4) * (m.2.1 (t + 1) 4))) - ((m.2.1 (t + 1) 5) * (m.2.1 (t + 1) 5)))))), (10, .long ((((m.2.1 (t + 1) 3) * (m.2.1 (t + 1) 3)) + ((m.2.1 (t + 1) 4) * (m.2.1 (t + 1) 4))) - ((m.2.1 (t + 1) 5) * (m.2.1 (t + 1) 5)))), (8, .long ((m.2.1 (t + 1) 2) + (a2 * (m.2.1 (t + 1) 6)))), (6, .long ((m.2.1 (t + 1) 1) - ((Int32.toInt64 (m.1 a1 2)) * (m.2.1 (t + 1) 6)))), (4, .long ((m.2.1 (t + 1) 0) - ((Int32.toInt64 (m.1 a1 1)) * (m.2.1 (t + 1) 6)))), (0, .ref t), (1, .ref a1), (2, .long a2)]) (st' := []) ?_
      refine tk_Ps  2 (pc' := 182) (ls' := [(14, .long (((((m.2.1 (t + 1) 0) - ((Int32.toInt64 (m.1 a1 1)) * (m.2.1 (t + 1) 6))) * (m.2.1 (t + 1) 3)) + (((m.2.1 (t + 1) 1) - ((Int32.toInt64 (m.1 a1 2)) * (m.2.1 (t + 1) 6))) * (m.2.1 (t + 1) 4))) - (((m.2.1 (t + 1) 2) + (a2 * (m.2.1 (t + 1) 6))) * (m.2.1 (t + 1) 5)))), (12, .long ((((((m.2.1 (t + 1) 0) - ((Int32.toInt64 (m.1 a1 1)) * (m.2.1 (t + 1) 6))) * ((m.2.1 (t + 1) 0) - ((Int32.toInt64 (m.1 a1 1)) * (m.2.1 (t + 1) 6)))) + (((m.2.1 (t + 1) 1) - ((Int32.toInt64 (m.1 a1 2)) * (m.2.1 (t + 1) 6))) * ((m.2.1 (t + 1) 1) - ((Int32.toInt64 (m.1 a1 2)) * (m.2.1 (t + 1) 6))))) - (((m.2.1 (t + 1) 2) + (a2 * (m.2.1 (t + 1) 6))) * ((m.2.1 (t + 1) 2) + (a2 * (m.2.1 (t + 1) 6))))) + ((m.2.1 t 2) * ((((m.2.1 (t + 1) 3) * (m.2.1 (t + 1) 3)) + ((m.2.1 (t + 1) 4) * (m.2.1 (t + 1) 4))) - ((m.2.1 (t + 1) 5) * (m.2.1 (t + 1) 5)))))), (10, .long ((((m.2.1 (t + 1) 3) * (m.2.1 (t + 1) 3)) + ((m.2.1 (t + 1) 4) * (m.2.1 (t + 1) 4))) - ((m.2.1 (t + 1) 5) * (m.2.1 (t + 1) 5)))), (8, .long ((m.2.1 (t + 1) 2) + (a2 * (m.2.1 (t + 1) 6)))), (6, .long ((m.2.1 (t + 1) 1) - ((Int32.toInt64 (m.1 a1 2)) * (m.2.1 (t + 1) 6)))), (4, .long ((m.2.1 (t + 1) 0) - ((Int32.toInt64 (m.1 a1 1)) * (m.2.1 (t + 1) 6)))), (0, .ref t), (1, .ref a1), (2, .long a2)]) (st' := [.int (1 : Int32)]) rfl ?_
      subst h
      exact tk_RB (b := true)  rfl rfl rfl
    · replace h := tk_ifF hc2 h
      refine tk_bF  rfl rfl tk_eL_ne (c := (((((m.2.1 (t + 1) 0) - ((Int32.toInt64 (m.1 a1 1)) * (m.2.1 (t + 1) 6))) * (m.2.1 (t + 1) 3)) + (((m.2.1 (t + 1) 1) - ((Int32.toInt64 (m.1 a1 2)) * (m.2.1 (t + 1) 6))) * (m.2.1 (t + 1) 4))) - (((m.2.1 (t + 1) 2) + (a2 * (m.2.1 (t + 1) 6))) * (m.2.1 (t + 1) 5))) = (0 : Int64)) hc2 (pc' := 181) (ls' := [(14, .long (((((m.2.1 (t + 1) 0) - ((Int32.toInt64 (m.1 a1 1)) * (m.2.1 (t + 1) 6))) * (m.2.1 (t + 1) 3)) + (((m.2.1 (t + 1) 1) - ((Int32.toInt64 (m.1 a1 2)) * (m.2.1 (t + 1) 6))) * (m.2.1 (t + 1) 4))) - (((m.2.1 (t + 1) 2) + (a2 * (m.2.1 (t + 1) 6))) * (m.2.1 (t + 1) 5)))), (12, .long ((((((m.2.1 (t + 1) 0) - ((Int32.toInt64 (m.1 a1 1)) * (m.2.1 (t + 1) 6))) * ((m.2.1 (t + 1) 0) - ((Int32.toInt64 (m.1 a1 1)) * (m.2.1 (t + 1) 6)))) + (((m.2.1 (t + 1) 1) - ((Int32.toInt64 (m.1 a1 2)) * (m.2.1 (t + 1) 6))) * ((m.2.1 (t + 1) 1) - ((Int32.toInt64 (m.1 a1 2)) * (m.2.1 (t + 1) 6))))) - (((m.2.1 (t + 1) 2) + (a2 * (m.2.1 (t + 1) 6))) * ((m.2.1 (t + 1) 2) + (a2 * (m.2.1 (t + 1) 6))))) + ((m.2.1 t 2) * ((((m.2.1 (t + 1) 3) * (m.2.1 (t + 1) 3)) + ((m.2.1 (t + 1) 4) * (m.2.1 (t + 1) 4))) - ((m.2.1 (t + 1) 5) * (m.2.1 (t + 1) 5)))))), (10, .long ((((m.2.1 (t + 1) 3) * (m.2.1 (t + 1) 3)) + ((m.2.1 (t + 1) 4) * (m.2.1 (t + 1) 4))) - ((m.2.1 (t + 1) 5) * (m.2.1 (t + 1) 5)))), (8, .long ((m.2.1 (t + 1) 2) + (a2 * (m.2.1 (t + 1) 6)))), (6, .long ((m.2.1 (t + 1) 1) - ((Int32.toInt64 (m.1 a1 2)) * (m.2.1 (t + 1) 6)))), (4, .long ((m.2.1 (t + 1) 0) - ((Int32.toInt64 (m.1 a1 1)) * (m.2.1 (t + 1) 6)))), (0, .ref t), (1, .ref a1), (2, .long a2)]) (st' := []) ?_
      refine tk_Ps  1 (pc' := 182) (ls' := [(14, .long (((((m.2.1 (t + 1) 0) - ((Int32.toInt64 (m.1 a1 1)) * (m.2.1 (t + 1) 6))) * (m.2.1 (t + 1) 3)) + (((m.2.1 (t + 1) 1) - ((Int32.toInt64 (m.1 a1 2)) * (m.2.1 (t + 1) 6))) * (m.2.1 (t + 1) 4))) - (((m.2.1 (t + 1) 2) + (a2 * (m.2.1 (t + 1) 6))) * (m.2.1 (t + 1) 5)))), (12, .long ((((((m.2.1 (t + 1) 0) - ((Int32.toInt64 (m.1 a1 1)) * (m.2.1 (t + 1) 6))) * ((m.2.1 (t + 1) 0) - ((Int32.toInt64 (m.1 a1 1)) * (m.2.1 (t + 1) 6)))) + (((m.2.1 (t + 1) 1) - ((Int32.toInt64 (m.1 a1 2)) * (m.2.1 (t + 1) 6))) * ((m.2.1 (t + 1) 1) - ((Int32.toInt64 (m.1 a1 2)) * (m.2.1 (t + 1) 6))))) - (((m.2.1 (t + 1) 2) + (a2 * (m.2.1 (t + 1) 6))) * ((m.2.1 (t + 1) 2) + (a2 * (m.2.1 (t + 1) 6))))) + ((m.2.1 t 2) * ((((m.2.1 (t + 1) 3) * (m.2.1 (t + 1) 3)) + ((m.2.1 (t + 1) 4) * (m.2.1 (t + 1) 4))) - ((m.2.1 (t + 1) 5) * (m.2.1 (t + 1) 5)))))), (10, .long ((((m.2.1 (t + 1) 3) * (m.2.1 (t + 1) 3)) + ((m.2.1 (t + 1) 4) * (m.2.1 (t + 1) 4))) - ((m.2.1 (t + 1) 5) * (m.2.1 (t + 1) 5)))), (8, .long ((m.2.1 (t + 1) 2) + (a2 * (m.2.1 (t + 1) 6)))), (6, .long ((m.2.1 (t + 1) 1) - ((Int32.toInt64 (m.1 a1 2)) * (m.2.1 (t + 1) 6)))), (4, .long ((m.2.1 (t + 1) 0) - ((Int32.toInt64 (m.1 a1 1)) * (m.2.1 (t + 1) 6)))), (0, .ref t), (1, .ref a1), (2, .long a2)]) (st' := [.int (0 : Int32)]) rfl ?_
      subst h
      exact tk_RB (b := false)  rfl rfl rfl
  · replace h := tk_ifF hc1 h
    refine tk_bF  rfl rfl tk_eL_ne (c := ((((((m.2.1 (t + 1) 0) - ((Int32.toInt64 (m.1 a1 1)) * (m.2.1 (t + 1) 6))) * ((m.2.1 (t + 1) 0) - ((Int32.toInt64 (m.1 a1 1)) * (m.2.1 (t + 1) 6)))) + (((m.2.1 (t + 1) 1) - ((Int32.toInt64 (m.1 a1 2)) * (m.2.1 (t + 1) 6))) * ((m.2.1 (t + 1) 1) - ((Int32.toInt64 (m.1 a1 2)) * (m.2.1 (t + 1) 6))))) - (((m.2.1 (t + 1) 2) + (a2 * (m.2.1 (t + 1) 6))) * ((m.2.1 (t + 1) 2) + (a2 * (m.2.1 (t + 1) 6))))) + ((m.2.1 t 2) * ((((m.2.1 (t + 1) 3) * (m.2.1 (t + 1) 3)) + ((m.2.1 (t + 1) 4) * (m.2.1 (t + 1) 4))) - ((m.2.1 (t + 1) 5) * (m.2.1 (t + 1) 5))))) = (0 : Int64)) hc1 (pc' := 181) (ls' := [(14, .long (((((m.2.1 (t + 1) 0) - ((Int32.toInt64 (m.1 a1 1)) * (m.2.1 (t + 1) 6))) * (m.2.1 (t + 1) 3)) + (((m.2.1 (t + 1) 1) - ((Int32.toInt64 (m.1 a1 2)) * (m.2.1 (t + 1) 6))) * (m.2.1 (t + 1) 4))) - (((m.2.1 (t + 1) 2) + (a2 * (m.2.1 (t + 1) 6))) * (m.2.1 (t + 1) 5)))), (12, .long ((((((m.2.1 (t + 1) 0) - ((Int32.toInt64 (m.1 a1 1)) * (m.2.1 (t + 1) 6))) * ((m.2.1 (t + 1) 0) - ((Int32.toInt64 (m.1 a1 1)) * (m.2.1 (t + 1) 6)))) + (((m.2.1 (t + 1) 1) - ((Int32.toInt64 (m.1 a1 2)) * (m.2.1 (t + 1) 6))) * ((m.2.1 (t + 1) 1) - ((Int32.toInt64 (m.1 a1 2)) * (m.2.1 (t + 1) 6))))) - (((m.2.1 (t + 1) 2) + (a2 * (m.2.1 (t + 1) 6))) * ((m.2.1 (t + 1) 2) + (a2 * (m.2.1 (t + 1) 6))))) + ((m.2.1 t 2) * ((((m.2.1 (t + 1) 3) * (m.2.1 (t + 1) 3)) + ((m.2.1 (t + 1) 4) * (m.2.1 (t + 1) 4))) - ((m.2.1 (t + 1) 5) * (m.2.1 (t + 1) 5)))))), (10, .long ((((m.2.1 (t + 1) 3) * (m.2.1 (t + 1) 3)) + ((m.2.1 (t + 1) 4) * (m.2.1 (t + 1) 4))) - ((m.2.1 (t + 1) 5) * (m.2.1 (t + 1) 5)))), (8, .long ((m.2.1 (t + 1) 2) + (a2 * (m.2.1 (t + 1) 6)))), (6, .long ((m.2.1 (t + 1) 1) - ((Int32.toInt64 (m.1 a1 2)) * (m.2.1 (t + 1) 6)))), (4, .long ((m.2.1 (t + 1) 0) - ((Int32.toInt64 (m.1 a1 1)) * (m.2.1 (t + 1) 6)))), (0, .ref t), (1, .ref a1), (2, .long a2)]) (st' := []) ?_
    refine tk_Ps  1 (pc' := 182) (ls' := [(14, .long (((((m.2.1 (t + 1) 0) - ((Int32.toInt64 (m.1 a1 1)) * (m.2.1 (t + 1) 6))) * (m.2.1 (t + 1) 3)) + (((m.2.1 (t + 1) 1) - ((Int32.toInt64 (m.1 a1 2)) * (m.2.1 (t + 1) 6))) * (m.2.1 (t + 1) 4))) - (((m.2.1 (t + 1) 2) + (a2 * (m.2.1 (t + 1) 6))) * (m.2.1 (t + 1) 5)))), (12, .long ((((((m.2.1 (t + 1) 0) - ((Int32.toInt64 (m.1 a1 1)) * (m.2.1 (t + 1) 6))) * ((m.2.1 (t + 1) 0) - ((Int32.toInt64 (m.1 a1 1)) * (m.2.1 (t + 1) 6)))) + (((m.2.1 (t + 1) 1) - ((Int32.toInt64 (m.1 a1 2)) * (m.2.1 (t + 1) 6))) * ((m.2.1 (t + 1) 1) - ((Int32.toInt64 (m.1 a1 2)) * (m.2.1 (t + 1) 6))))) - (((m.2.1 (t + 1) 2) + (a2 * (m.2.1 (t + 1) 6))) * ((m.2.1 (t + 1) 2) + (a2 * (m.2.1 (t + 1) 6))))) + ((m.2.1 t 2) * ((((m.2.1 (t + 1) 3) * (m.2.1 (t + 1) 3)) + ((m.2.1 (t + 1) 4) * (m.2.1 (t + 1) 4))) - ((m.2.1 (t + 1) 5) * (m.2.1 (t + 1) 5)))))), (10, .long ((((m.2.1 (t + 1) 3) * (m.2.1 (t + 1) 3)) + ((m.2.1 (t + 1) 4) * (m.2.1 (t + 1) 4))) - ((m.2.1 (t + 1) 5) * (m.2.1 (t + 1) 5)))), (8, .long ((m.2.1 (t + 1) 2) + (a2 * (m.2.1 (t + 1) 6)))), (6, .long ((m.2.1 (t + 1) 1) - ((Int32.toInt64 (m.1 a1 2)) * (m.2.1 (t + 1) 6)))), (4, .long ((m.2.1 (t + 1) 0) - ((Int32.toInt64 (m.1 a1 1)) * (m.2.1 (t + 1) 6)))), (0, .ref t), (1, .ref a1), (2, .long a2)]) (st' := [.int (0 : Int32)]) rfl ?_
    subst h
    exact tk_RB (b := false)  rfl rfl rfl
theorem ok_fC_touchesWith (sc : tk_X) (t : Nat) (a1 : Nat) (a2 : Int32) (m : tk_m) (ht : tk_lay[t]? = some (.inl 1)) (ha1 : tk_lay[a1]? = some (.inl 6)) : tk_Ru sc 3 124 [.ref t, .ref a1, .int a2] (tk_full m) (some (.int (tk_b (fC_touchesWith t a1 a2 m))), tk_full m) := by
  obtain ⟨out, h⟩ : ∃ out, fC_touchesWith t a1 a2 m = out := ⟨_, rfl⟩
  rw [h]
  unfold fC_touchesWith at h
  refine tk_Ru0 me124 (ls := [(0, .ref t), (1, .ref a1), (2, .int a2)]) rfl rfl ?_
  refine tk_Ps  1 (pc' := 1) (ls' := [(0, .ref t), (1, .ref a1), (2, .int a2)]) (st' := [.ref a1]) rfl ?_
  refine tk_HB  rfl rfl ha1 ?_
  by_cases hc1 : (m.2.2.1 a1 0) = true
  · replace h := tk_ifT hc1 h
    refine tk_bT  rfl rfl tk_eB_eq (c := (m.2.2.1 a1 0) = true) hc1 (pc' := 7) (ls' := [(0, .ref t), (1, .ref a1), (2, .int a2)]) (st' := []) ?_
    refine tk_Ps  3 (pc' := 10) (ls' := [(0, .ref t), (1, .ref a1), (2, .int a2)]) (st' := [.int a2, .ref a1, .ref t]) rfl ?_
    refine tk_cV1  rfl rfl (r := t) (as := [.ref a1, .int a2]) (rest := []) rfl ht rfl rfl (ok_fC_touchesStraight sc t a1 a2 m ht ha1) ?_
    refine tk_Ps  1 (pc' := 27) (ls' := [(0, .ref t), (1, .ref a1), (2, .int a2)]) (st' := [.int (tk_b (fC_touchesStraight t a1 a2 m))]) rfl ?_
    subst h
    exact tk_RB (b := fC_touchesStraight t a1 a2 m)  rfl rfl rfl
  · replace h := tk_ifF hc1 h
    refine tk_bF  rfl rfl tk_eB_eq (c := (m.2.2.1 a1 0) = true) hc1 (pc' := 16) (ls' := [(0, .ref t), (1, .ref a1), (2, .int a2)]) (st' := []) ?_
    refine tk_Ps  4 (pc' := 20) (ls' := [(0, .ref t), (1, .ref a1), (2, .int a2)]) (st' := [.int a2, .ref a1, .ref a1, .ref t]) rfl ?_
    refine tk_cV1  rfl rfl (r := a1) (as := [.int a2]) (rest := [.ref a1, .ref t]) rfl ha1 rfl rfl (ok_fH_shift sc a1 a2 m ha1) ?_
    refine tk_Ps  1 (pc' := 24) (ls' := [(0, .ref t), (1, .ref a1), (2, .int a2)]) (st' := [.long (Int32.toInt64 (fH_shift a1 a2 m)), .ref a1, .ref t]) rfl ?_
    refine tk_cV1  rfl rfl (r := t) (as := [.ref a1, .long (Int32.toInt64 (fH_shift a1 a2 m))]) (rest := []) rfl ht rfl rfl (ok_fC_touchesRound sc t a1 (Int32.toInt64 (fH_shift a1 a2 m)) m ht ha1) ?_
    subst h
    exact tk_RB (b := fC_touchesRound t a1 (Int32.toInt64 (fH_shift a1 a2 m)) m)  rfl rfl rfl
theorem ok_fC_touch_24 (sc : tk_X) (v0 : Nat) (v1 : Nat) (s0 : Int32) (m : tk_m) (hv0 : tk_lay[v0]? = some (.inl 1)) (hv1 : tk_lay[v1]? = some (.inl 6)) (out : Int32) (h : fC_touch_24 v0 v1 s0 m = out) : tk_Ex sc 3 tk_r123 tk_k123 24 [(0, .ref v0), (1, .ref v1)] [.int s0] (tk_full m) (some (.int out), tk_full m) := by
  unfold fC_touch_24 at h
  refine tk_Ps  2 (pc' := 26) (ls' := [(2, .int s0), (0, .ref v0), (1, .ref v1)]) (st' := [.int s0]) rfl ?_
  by_cases hc1 : s0 = 0
  · replace h := tk_ifT hc1 h
    refine tk_bT  rfl rfl rfl (c := s0 = 0) hc1 (pc' := 42) (ls' := [(2, .int s0), (0, .ref v0), (1, .ref v1)]) (st' := []) ?_
    refine tk_Ps  1 (pc' := 43) (ls' := [(2, .int s0), (0, .ref v0), (1, .ref v1)]) (st' := [.int (0 : Int32)]) rfl ?_
    subst h
    exact tk_RI  rfl rfl rfl
  · replace h := tk_ifF hc1 h
    refine tk_bF  rfl rfl rfl (c := s0 = 0) hc1 (pc' := 29) (ls' := [(2, .int s0), (0, .ref v0), (1, .ref v1)]) (st' := []) ?_
    refine tk_Ps  3 (pc' := 32) (ls' := [(2, .int s0), (0, .ref v0), (1, .ref v1)]) (st' := [.int (1 : Int32), .ref v1, .ref v0]) rfl ?_
    refine tk_cV1  rfl rfl (r := v0) (as := [.ref v1, .int (1 : Int32)]) (rest := []) rfl hv0 rfl rfl (ok_fC_touchesWith sc v0 v1 (1 : Int32) m hv0 hv1) ?_
    by_cases hc2 : (fC_touchesWith v0 v1 (1 : Int32) m) = true
    · replace h := tk_ifT hc2 h
      refine tk_bT  rfl rfl tk_eB_eq (c := (fC_touchesWith v0 v1 (1 : Int32) m) = true) hc2 (pc' := 38) (ls' := [(2, .int s0), (0, .ref v0), (1, .ref v1)]) (st' := []) ?_
      refine tk_Ps  2 (pc' := 43) (ls' := [(2, .int s0), (0, .ref v0), (1, .ref v1)]) (st' := [.int (2 : Int32)]) rfl ?_
      subst h
      exact tk_RI  rfl rfl rfl
    · replace h := tk_ifF hc2 h
      refine tk_bF  rfl rfl tk_eB_eq (c := (fC_touchesWith v0 v1 (1 : Int32) m) = true) hc2 (pc' := 42) (ls' := [(2, .int s0), (0, .ref v0), (1, .ref v1)]) (st' := []) ?_
      refine tk_Ps  1 (pc' := 43) (ls' := [(2, .int s0), (0, .ref v0), (1, .ref v1)]) (st' := [.int (0 : Int32)]) rfl ?_
      subst h
      exact tk_RI  rfl rfl rfl
theorem ok_fC_touch (sc : tk_X) (t : Nat) (a1 : Nat) (m : tk_m) (ht : tk_lay[t]? = some (.inl 1)) (ha1 : tk_lay[a1]? = some (.inl 6)) : tk_Ru sc 4 123 [.ref t, .ref a1] (tk_full m) (some (.int (fC_touch t a1 m)), tk_full m) := by
  obtain ⟨out, h⟩ : ∃ out, fC_touch t a1 m = out := ⟨_, rfl⟩
  rw [h]
  unfold fC_touch at h
  refine tk_Ru0 me123 (ls := [(0, .ref t), (1, .ref a1)]) rfl rfl ?_
  refine tk_Ps  3 (pc' := 3) (ls' := [(0, .ref t), (1, .ref a1)]) (st' := [.int (0 : Int32), .ref a1, .ref t]) rfl ?_
  refine tk_cV1  rfl rfl (r := t) (as := [.ref a1, .int (0 : Int32)]) (rest := []) rfl ht rfl rfl (ok_fC_touchesWith sc t a1 (0 : Int32) m ht ha1) ?_
  by_cases hc1 : (fC_touchesWith t a1 (0 : Int32) m) = true
  · replace h := tk_ifT hc1 h
    refine tk_bT  rfl rfl tk_eB_eq (c := (fC_touchesWith t a1 (0 : Int32) m) = true) hc1 (pc' := 9) (ls' := [(0, .ref t), (1, .ref a1)]) (st' := []) ?_
    refine tk_Ps  1 (pc' := 10) (ls' := [(0, .ref t), (1, .ref a1)]) (st' := [.int (1 : Int32)]) rfl ?_
    subst h
    exact tk_RI  rfl rfl rfl
  · replace h := tk_ifF hc1 h
    refine tk_bF  rfl rfl tk_eB_eq (c := (fC_touchesWith t a1 (0 : Int32) m) = true) hc1 (pc' := 11) (ls' := [(0, .ref t), (1, .ref a1)]) (st' := []) ?_
    refine tk_Ps  1 (pc' := 12) (ls' := [(0, .ref t), (1, .ref a1)]) (st' := [.ref a1]) rfl ?_
    refine tk_cV1  rfl rfl (r := a1) (as := []) (rest := []) rfl ha1 rfl rfl (ok_fH_lowestKind sc a1 m ha1) ?_
    refine tk_Ps  1 (pc' := 16) (ls' := [(0, .ref t), (1, .ref a1)]) (st' := [.int (3 : Int32), .int (fH_lowestKind a1 m)]) rfl ?_
    by_cases hc2 : (fH_lowestKind a1 m) = (3 : Int32)
    · replace h := tk_ifT hc2 h
      refine tk_bT  rfl rfl rfl (c := (fH_lowestKind a1 m) = (3 : Int32)) hc2 (pc' := 23) (ls' := [(0, .ref t), (1, .ref a1)]) (st' := []) ?_
      refine tk_Ps  1 (pc' := 24) (ls' := [(0, .ref t), (1, .ref a1)]) (st' := [.int (0 : Int32)]) rfl ?_
      refine tk_Kp  (ls' := [(0, .ref t), (1, .ref a1)]) rfl rfl ?_
      exact ok_fC_touch_24 sc t a1 (0 : Int32) m ht ha1 _ h
    · replace h := tk_ifF hc2 h
      refine tk_bF  rfl rfl rfl (c := (fH_lowestKind a1 m) = (3 : Int32)) hc2 (pc' := 19) (ls' := [(0, .ref t), (1, .ref a1)]) (st' := []) ?_
      refine tk_Ps  2 (pc' := 24) (ls' := [(0, .ref t), (1, .ref a1)]) (st' := [.int (1 : Int32)]) rfl ?_
      refine tk_Kp  (ls' := [(0, .ref t), (1, .ref a1)]) rfl rfl ?_
      exact ok_fC_touch_24 sc t a1 (1 : Int32) m ht ha1 _ h
theorem ok_fX_touches (sc : tk_X) (a1 : Int32) (a2 : Int32) (m : tk_m) {out : Int32 × tk_m} (h : fX_touches a1 a2 m = some out) : tk_Ru sc 7 122 [.ref 0, .int a1, .int a2] (tk_full m) (some (.int out.1), tk_full out.2) := by
  unfold fX_touches at h
  refine tk_Ru0 me122 (ls := [(0, .ref 0), (1, .int a1), (2, .int a2)]) rfl rfl ?_
  refine tk_Ps  1 (pc' := 1) (ls' := [(0, .ref 0), (1, .int a1), (2, .int a2)]) (st' := [.ref 0]) rfl ?_
  refine tk_HR  rfl rfl ly0 rt0_0 ?_
  refine tk_Ps  1 (pc' := 5) (ls' := [(0, .ref 0), (1, .int a1), (2, .int a2)]) (st' := [.int a2, .ref 1]) rfl ?_
  refine tk_cV1  rfl rfl (r := 1) (as := [.int a2]) (rest := []) rfl ly1 rfl rfl (ok_fS_has sc 1 a2 m ly1) ?_
  by_cases hc1 : (fS_has 1 a2 m) = true
  · replace h := tk_ifT hc1 h
    refine tk_bT  rfl rfl tk_eB_ne (c := (fS_has 1 a2 m) = true) hc1 (pc' := 17) (ls' := [(0, .ref 0), (1, .int a1), (2, .int a2)]) (st' := []) ?_
    refine tk_Ps  2 (pc' := 19) (ls' := [(0, .ref 0), (1, .int a1), (2, .int a2)]) (st' := [.int a1, .ref 0]) rfl ?_
    obtain ⟨o2, ho2, h⟩ := tk_bnd h
    refine tk_cV1  rfl rfl (r := 0) (as := [.int a1]) (rest := []) rfl ly0 rfl rfl (ok_fX_missesAnswer sc a1 m ho2) ?_
    refine tk_Ps  2 (pc' := 24) (ls' := [(3, .int o2.1), (0, .ref 0), (1, .int a1), (2, .int a2)]) (st' := [.int o2.1]) rfl ?_
    by_cases hc3 : o2.1 < 0
    · replace h := tk_ifT hc3 h
      refine tk_bT  rfl rfl rfl (c := o2.1 < 0) hc3 (pc' := 33) (ls' := [(3, .int o2.1), (0, .ref 0), (1, .int a1), (2, .int a2)]) (st' := []) ?_
      refine tk_Ps  1 (pc' := 34) (ls' := [(3, .int o2.1), (0, .ref 0), (1, .int a1), (2, .int a2)]) (st' := [.ref 0]) rfl ?_
      refine tk_HR  rfl rfl ly0 rt0_7 ?_
      refine tk_HR  rfl rfl ly39 rt39_1 ?_
      refine tk_Ps  1 (pc' := 41) (ls' := [(3, .int o2.1), (0, .ref 0), (1, .int a1), (2, .int a2)]) (st' := [.int a1, .ref 40]) rfl ?_
      obtain ⟨hg4, h⟩ := tk_grd h
      refine tk_HQ  rfl rfl ly40 hg4 (la40 _ (hg4).2).1 ?_
      refine tk_Ps  1 (pc' := 43) (ls' := [(3, .int o2.1), (0, .ref 0), (1, .int a1), (2, .int a2)]) (st' := [.ref 0, .ref (50 + 8 * (tk_n a1))]) rfl ?_
      refine tk_HR  rfl rfl ly0 rt0_0 ?_
      refine tk_HR  rfl rfl ly1 rt1_0 ?_
      refine tk_Ps  1 (pc' := 50) (ls' := [(3, .int o2.1), (0, .ref 0), (1, .int a1), (2, .int a2)]) (st' := [.int a2, .ref 2, .ref (50 + 8 * (tk_n a1))]) rfl ?_
      obtain ⟨hg5, h⟩ := tk_grd h
      refine tk_HP  rfl rfl ly2 hg5 ?_
      refine tk_cV1  rfl rfl (r := (50 + 8 * (tk_n a1))) (as := [.ref (2 + 2 + (o2.2.2.2.2 2 (tk_n a2)).val)]) (rest := []) rfl ((la40 _ (hg4).2).2) rfl rfl (ok_fC_touch sc (50 + 8 * (tk_n a1)) (2 + 2 + (o2.2.2.2.2 2 (tk_n a2)).val) o2.2 ((la40 _ (hg4).2).2) (tk_sh ly2 _)) ?_
      replace h := Option.some.inj h
      subst h
      exact tk_RI  rfl rfl rfl
    · replace h := tk_ifF hc3 h
      refine tk_bF  rfl rfl rfl (c := o2.1 < 0) hc3 (pc' := 27) (ls' := [(3, .int o2.1), (0, .ref 0), (1, .int a1), (2, .int a2)]) (st' := []) ?_
      refine tk_Ps  2 (pc' := 29) (ls' := [(3, .int o2.1), (0, .ref 0), (1, .int a1), (2, .int a2)]) (st' := [.int o2.1, .ref 0]) rfl ?_
      obtain ⟨o6, ho6, h⟩ := tk_bnd h
      refine tk_cV1  rfl rfl (r := 0) (as := [.int o2.1]) (rest := []) rfl ly0 rfl rfl (ok_fX_finding sc o2.1 o2.2 ho6) ?_
      replace h := Option.some.inj h
      subst h
      exact tk_RI  rfl rfl rfl
  · replace h := tk_ifF hc1 h
    refine tk_bF  rfl rfl tk_eB_ne (c := (fS_has 1 a2 m) = true) hc1 (pc' := 11) (ls' := [(0, .ref 0), (1, .int a1), (2, .int a2)]) (st' := []) ?_
    refine tk_Ps  2 (pc' := 13) (ls' := [(0, .ref 0), (1, .int a1), (2, .int a2)]) (st' := [.int (0 : Int32), .ref 0]) rfl ?_
    obtain ⟨o7, ho7, h⟩ := tk_bnd h
    refine tk_cV1  rfl rfl (r := 0) (as := [.int (0 : Int32)]) (rest := []) rfl ly0 rfl rfl (ok_fX_finding sc (0 : Int32) m ho7) ?_
    replace h := Option.some.inj h
    subst h
    exact tk_RI  rfl rfl rfl
theorem ok_fX_isSheet (sc : tk_X) (a1 : Int32) (m : tk_m) : tk_Ru sc 2 128 [.int a1] (tk_full m) (some (.int (tk_b (fX_isSheet a1))), tk_full m) := by
  obtain ⟨out, h⟩ : ∃ out, fX_isSheet a1 = out := ⟨_, rfl⟩
  rw [h]
  unfold fX_isSheet at h
  refine tk_Ru0 me128 (ls := [(0, .int a1)]) rfl rfl ?_
  refine tk_Ps  3 (pc' := 3) (ls' := [(0, .int a1)]) (st' := [.int (3 : Int32), .int (0 : Int32), .int a1]) rfl ?_
  refine tk_cS1  rfl rfl (as := [.int a1, .int (0 : Int32), .int (3 : Int32)]) (rest := []) rfl rfl rfl (ok_fX_isWithin sc a1 (0 : Int32) (3 : Int32) m) ?_
  subst h
  exact tk_RB (b := fX_isWithin a1 (0 : Int32) (3 : Int32))  rfl rfl rfl
theorem ok_fT_isMissing (sc : tk_X) (t : Nat) (m : tk_m) (ht : tk_lay[t]? = some (.inl 7)) : tk_Ru sc 1 129 [.ref t] (tk_full m) (some (.int (tk_b (fT_isMissing t m))), tk_full m) := by
  obtain ⟨out, h⟩ : ∃ out, fT_isMissing t m = out := ⟨_, rfl⟩
  rw [h]
  unfold fT_isMissing at h
  refine tk_Ru0 me129 (ls := [(0, .ref t)]) rfl rfl ?_
  refine tk_Ps  1 (pc' := 1) (ls' := [(0, .ref t)]) (st' := [.ref t]) rfl ?_
  refine tk_HI  rfl rfl ht ?_
  refine tk_Ps  1 (pc' := 5) (ls' := [(0, .ref t)]) (st' := [.int (-1 : Int32), .int (m.1 t 0)]) rfl ?_
  by_cases hc1 : (m.1 t 0) = (-1 : Int32)
  · replace h := tk_ifT hc1 h
    refine tk_bT  rfl rfl rfl (c := (m.1 t 0) = (-1 : Int32)) hc1 (pc' := 8) (ls' := [(0, .ref t)]) (st' := []) ?_
    refine tk_Ps  2 (pc' := 13) (ls' := [(0, .ref t)]) (st' := [.int (1 : Int32)]) rfl ?_
    subst h
    exact tk_RB (b := true)  rfl rfl rfl
  · replace h := tk_ifF hc1 h
    refine tk_bF  rfl rfl rfl (c := (m.1 t 0) = (-1 : Int32)) hc1 (pc' := 12) (ls' := [(0, .ref t)]) (st' := []) ?_
    refine tk_Ps  1 (pc' := 13) (ls' := [(0, .ref t)]) (st' := [.int (0 : Int32)]) rfl ?_
    subst h
    exact tk_RB (b := false)  rfl rfl rfl
theorem ok_fT_narrow (sc : tk_X) (t : Nat) (a1 : Int64) (m : tk_m) (ht : tk_lay[t]? = some (.inl 7)) : tk_Ru sc 1 131 [.ref t, .long a1] (tk_full m) (some (.long (fT_narrow t a1 m)), tk_full m) := by
  obtain ⟨out, h⟩ : ∃ out, fT_narrow t a1 m = out := ⟨_, rfl⟩
  rw [h]
  unfold fT_narrow at h
  refine tk_Ru0 me131 (ls := [(0, .ref t), (1, .long a1)]) rfl rfl ?_
  refine tk_Ps  1 (pc' := 1) (ls' := [(0, .ref t), (1, .long a1)]) (st' := [.ref t]) rfl ?_
  refine tk_HI  rfl rfl ht ?_
  by_cases hc1 : (m.1 t 0) = 0
  · replace h := tk_ifT hc1 h
    refine tk_bT  rfl rfl rfl (c := (m.1 t 0) = 0) hc1 (pc' := 7) (ls' := [(0, .ref t), (1, .long a1)]) (st' := []) ?_
    refine tk_Ps  5 (pc' := 29) (ls' := [(0, .ref t), (1, .long a1)]) (st' := [.long (Int32.toInt64 (tk_i2b (Int64.toInt32 a1)))]) rfl ?_
    subst h
    exact tk_RJ  rfl rfl rfl
  · replace h := tk_ifF hc1 h
    refine tk_bF  rfl rfl rfl (c := (m.1 t 0) = 0) hc1 (pc' := 14) (ls' := [(0, .ref t), (1, .long a1)]) (st' := []) ?_
    refine tk_Ps  1 (pc' := 15) (ls' := [(0, .ref t), (1, .long a1)]) (st' := [.ref t]) rfl ?_
    refine tk_HI  rfl rfl ht ?_
    refine tk_Ps  1 (pc' := 19) (ls' := [(0, .ref t), (1, .long a1)]) (st' := [.int (1 : Int32), .int (m.1 t 0)]) rfl ?_
    by_cases hc2 : (m.1 t 0) = (1 : Int32)
    · replace h := tk_ifT hc2 h
      refine tk_bT  rfl rfl rfl (c := (m.1 t 0) = (1 : Int32)) hc2 (pc' := 22) (ls' := [(0, .ref t), (1, .long a1)]) (st' := []) ?_
      refine tk_Ps  4 (pc' := 29) (ls' := [(0, .ref t), (1, .long a1)]) (st' := [.long (Int32.toInt64 (Int64.toInt32 a1))]) rfl ?_
      subst h
      exact tk_RJ  rfl rfl rfl
    · replace h := tk_ifF hc2 h
      refine tk_bF  rfl rfl rfl (c := (m.1 t 0) = (1 : Int32)) hc2 (pc' := 28) (ls' := [(0, .ref t), (1, .long a1)]) (st' := []) ?_
      refine tk_Ps  1 (pc' := 29) (ls' := [(0, .ref t), (1, .long a1)]) (st' := [.long a1]) rfl ?_
      subst h
      exact tk_RJ  rfl rfl rfl
theorem ok_fT_set (sc : tk_X) (t : Nat) (a1 : Int32) (a2 : Int64) (m : tk_m) (ht : tk_lay[t]? = some (.inl 7)) {out : tk_m} (h : fT_set t a1 a2 m = some out) : tk_Ru sc 2 130 [.ref t, .int a1, .long a2] (tk_full m) (none, tk_full out) := by
  unfold fT_set at h
  refine tk_Ru0 me130 (ls := [(0, .ref t), (1, .int a1), (2, .long a2)]) rfl rfl ?_
  refine tk_Ps  1 (pc' := 1) (ls' := [(0, .ref t), (1, .int a1), (2, .long a2)]) (st' := [.ref t]) rfl ?_
  refine tk_HR  rfl rfl ht (ro7_2 ht) ?_
  refine tk_Ps  3 (pc' := 7) (ls' := [(0, .ref t), (1, .int a1), (2, .long a2)]) (st' := [.long a2, .ref t, .int a1, .ref (t + 1)]) rfl ?_
  refine tk_cV1  rfl rfl (r := t) (as := [.long a2]) (rest := [.int a1, .ref (t + 1)]) rfl ht rfl rfl (ok_fT_narrow sc t a2 m ht) ?_
  obtain ⟨hg1, h⟩ := tk_grd h
  refine tk_SJa  rfl rfl (lo7_2 ht) hg1 ?_
  replace h := Option.some.inj h
  subst h
  exact tk_RV  rfl rfl rfl
theorem ok_fX_lays_57 (sc : tk_X) : ∀ (n : Nat) (v2 : Int32) (v3 : Nat) (v4 : Int32) (v5 : Int32) (m : tk_m) (hv3 : tk_lay[v3]? = some (.inl 7)) (out : Int32 × tk_m), fX_lays_57 n v2 v3 v4 v5 m = some out → tk_Ex sc 2 tk_r127 tk_k127 57 [(0, .ref 0), (2, .int v2), (3, .ref v3), (4, .int v4), (5, .int v5)] [] (tk_full m) (some (.int out.1), tk_full out.2) := by
  intro n
  induction n with
  | zero =>
    intro v2 v3 v4 v5 m hv3 out h
    cases h
  | succ n ih =>
    intro v2 v3 v4 v5 m hv3 out h
    unfold fX_lays_57 at h
    refine tk_Ps  2 (pc' := 61) (ls' := [(0, .ref 0), (2, .int v2), (3, .ref v3), (4, .int v4), (5, .int v5)]) (st' := [.int v4, .int v5]) rfl ?_
    by_cases hc1 : v4 ≤ v5
    · replace h := tk_ifT hc1 h
      refine tk_bT  rfl rfl rfl (c := v4 ≤ v5) hc1 (pc' := 91) (ls' := [(0, .ref 0), (2, .int v2), (3, .ref v3), (4, .int v4), (5, .int v5)]) (st' := []) ?_
      refine tk_Ps  1 (pc' := 93) (ls' := [(0, .ref 0), (2, .int v2), (3, .ref v3), (4, .int v4), (5, .int v5)]) (st' := [.int v4]) rfl ?_
      replace h := Option.some.inj h
      subst h
      exact tk_RI  rfl rfl rfl
    · replace h := tk_ifF hc1 h
      refine tk_bF  rfl rfl rfl (c := v4 ≤ v5) hc1 (pc' := 64) (ls' := [(0, .ref 0), (2, .int v2), (3, .ref v3), (4, .int v4), (5, .int v5)]) (st' := []) ?_
      refine tk_Ps  3 (pc' := 68) (ls' := [(0, .ref 0), (2, .int v2), (3, .ref v3), (4, .int v4), (5, .int v5)]) (st' := [.ref 0, .int v5, .ref v3]) rfl ?_
      refine tk_HR  rfl rfl ly0 rt0_0 ?_
      refine tk_HR  rfl rfl ly1 rt1_0 ?_
      refine tk_Ps  1 (pc' := 75) (ls' := [(0, .ref 0), (2, .int v2), (3, .ref v3), (4, .int v4), (5, .int v5)]) (st' := [.int v2, .ref 2, .int v5, .ref v3]) rfl ?_
      obtain ⟨hg2, h⟩ := tk_grd h
      refine tk_HP  rfl rfl ly2 hg2 ?_
      refine tk_Ps  1 (pc' := 78) (ls' := [(0, .ref 0), (2, .int v2), (3, .ref v3), (4, .int v4), (5, .int v5)]) (st' := [.int v5, .ref (2 + 2 + (m.2.2.2 2 (tk_n v2)).val), .int v5, .ref v3]) rfl ?_
      refine tk_cV1  rfl rfl (r := (2 + 2 + (m.2.2.2 2 (tk_n v2)).val)) (as := [.int v5]) (rest := [.int v5, .ref v3]) rfl (tk_sh ly2 _) rfl rfl (ok_fH_formNumber sc (2 + 2 + (m.2.2.2 2 (tk_n v2)).val) v5 m (tk_sh ly2 _)) ?_
      refine tk_Ps  1 (pc' := 82) (ls' := [(0, .ref 0), (2, .int v2), (3, .ref v3), (4, .int v4), (5, .int v5)]) (st' := [.long (Int32.toInt64 (fH_formNumber (2 + 2 + (m.2.2.2 2 (tk_n v2)).val) v5 m)), .int v5, .ref v3]) rfl ?_
      obtain ⟨o3, ho3, h⟩ := tk_bnd h
      refine tk_cV0  rfl rfl (r := v3) (as := [.int v5, .long (Int32.toInt64 (fH_formNumber (2 + 2 + (m.2.2.2 2 (tk_n v2)).val) v5 m))]) (rest := []) rfl hv3 rfl rfl (ok_fT_set sc v3 v5 (Int32.toInt64 (fH_formNumber (2 + 2 + (m.2.2.2 2 (tk_n v2)).val) v5 m)) m hv3 ho3) ?_
      refine tk_Ps  2 (pc' := 57) (ls' := [(5, .int (v5 + (1 : Int32))), (0, .ref 0), (2, .int v2), (3, .ref v3), (4, .int v4)]) (st' := []) rfl ?_
      refine tk_Kp  (ls' := [(0, .ref 0), (2, .int v2), (3, .ref v3), (4, .int v4), (5, .int (v5 + (1 : Int32)))]) rfl rfl ?_
      exact ih v2 v3 v4 (v5 + (1 : Int32)) o3 hv3 _ h
theorem ok_fX_lays (sc : tk_X) (a1 : Int32) (a2 : Int32) (m : tk_m) {out : Int32 × tk_m} (h : fX_lays a1 a2 m = some out) : tk_Ru sc 3 127 [.ref 0, .int a1, .int a2] (tk_full m) (some (.int out.1), tk_full out.2) := by
  unfold fX_lays at h
  refine tk_Ru0 me127 (ls := [(0, .ref 0), (1, .int a1), (2, .int a2)]) rfl rfl ?_
  refine tk_Ps  1 (pc' := 1) (ls' := [(0, .ref 0), (1, .int a1), (2, .int a2)]) (st' := [.int a1]) rfl ?_
  refine tk_cS1  rfl rfl (as := [.int a1]) (rest := []) rfl rfl rfl (ok_fX_isSheet sc a1 m) ?_
  by_cases hc1 : (fX_isSheet a1) = true
  · replace h := tk_ifT hc1 h
    refine tk_bT  rfl rfl tk_eB_eq (c := (fX_isSheet a1) = true) hc1 (pc' := 7) (ls' := [(0, .ref 0), (1, .int a1), (2, .int a2)]) (st' := []) ?_
    refine tk_Ps  1 (pc' := 8) (ls' := [(0, .ref 0), (1, .int a1), (2, .int a2)]) (st' := [.ref 0]) rfl ?_
    refine tk_HR  rfl rfl ly0 rt0_0 ?_
    refine tk_Ps  1 (pc' := 12) (ls' := [(0, .ref 0), (1, .int a1), (2, .int a2)]) (st' := [.int a2, .ref 1]) rfl ?_
    refine tk_cV1  rfl rfl (r := 1) (as := [.int a2]) (rest := []) rfl ly1 rfl rfl (ok_fS_has sc 1 a2 m ly1) ?_
    by_cases hc2 : (fS_has 1 a2 m) = true
    · replace h := tk_ifT hc2 h
      refine tk_bT  rfl rfl tk_eB_ne (c := (fS_has 1 a2 m) = true) hc2 (pc' := 24) (ls' := [(0, .ref 0), (1, .int a1), (2, .int a2)]) (st' := []) ?_
      refine tk_Ps  1 (pc' := 25) (ls' := [(0, .ref 0), (1, .int a1), (2, .int a2)]) (st' := [.ref 0]) rfl ?_
      refine tk_HR  rfl rfl ly0 rt0_4 ?_
      refine tk_Ps  1 (pc' := 29) (ls' := [(0, .ref 0), (1, .int a1), (2, .int a2)]) (st' := [.int a1, .ref 12]) rfl ?_
      obtain ⟨hg3, h⟩ := tk_grd h
      refine tk_HQ  rfl rfl ly12 hg3 (la12 _ (hg3).2).1 ?_
      refine tk_Ps  2 (pc' := 32) (ls' := [(3, .ref (266 + 2 * (tk_n a1))), (0, .ref 0), (1, .int a1), (2, .int a2)]) (st' := [.ref (266 + 2 * (tk_n a1))]) rfl ?_
      refine tk_cV1  rfl rfl (r := (266 + 2 * (tk_n a1))) (as := []) (rest := []) rfl ((la12 _ (hg3).2).2) rfl rfl (ok_fT_isMissing sc (266 + 2 * (tk_n a1)) m ((la12 _ (hg3).2).2)) ?_
      by_cases hc4 : (fT_isMissing (266 + 2 * (tk_n a1)) m) = true
      · replace h := tk_ifT hc4 h
        refine tk_bT  rfl rfl tk_eB_eq (c := (fT_isMissing (266 + 2 * (tk_n a1)) m) = true) hc4 (pc' := 38) (ls' := [(3, .ref (266 + 2 * (tk_n a1))), (0, .ref 0), (1, .int a1), (2, .int a2)]) (st' := []) ?_
        refine tk_Ps  2 (pc' := 40) (ls' := [(3, .ref (266 + 2 * (tk_n a1))), (0, .ref 0), (1, .int a1), (2, .int a2)]) (st' := [.int (5 : Int32), .ref 0]) rfl ?_
        obtain ⟨o5, ho5, h⟩ := tk_bnd h
        refine tk_cV1  rfl rfl (r := 0) (as := [.int (5 : Int32)]) (rest := []) rfl ly0 rfl rfl (ok_fX_finding sc (5 : Int32) m ho5) ?_
        replace h := Option.some.inj h
        subst h
        exact tk_RI  rfl rfl rfl
      · replace h := tk_ifF hc4 h
        refine tk_bF  rfl rfl tk_eB_eq (c := (fT_isMissing (266 + 2 * (tk_n a1)) m) = true) hc4 (pc' := 44) (ls' := [(3, .ref (266 + 2 * (tk_n a1))), (0, .ref 0), (1, .int a1), (2, .int a2)]) (st' := []) ?_
        refine tk_Ps  2 (pc' := 46) (ls' := [(3, .ref (266 + 2 * (tk_n a1))), (0, .ref 0), (1, .int a1), (2, .int a2)]) (st' := [.ref (266 + 2 * (tk_n a1)), .int (4 : Int32)]) rfl ?_
        refine tk_HI  rfl rfl ((la12 _ (hg3).2).2) ?_
        refine tk_cS1  rfl rfl (as := [.int (4 : Int32), .int (m.1 (266 + 2 * (tk_n a1)) 1)]) (rest := []) rfl rfl rfl (ok_fZ_min_I sc (4 : Int32) (m.1 (266 + 2 * (tk_n a1)) 1) m) ?_
        refine tk_Ps  3 (pc' := 57) (ls' := [(5, .int (0 : Int32)), (4, .int (fZ_min_I (4 : Int32) (m.1 (266 + 2 * (tk_n a1)) 1))), (3, .ref (266 + 2 * (tk_n a1))), (0, .ref 0), (1, .int a1), (2, .int a2)]) (st' := []) rfl ?_
        refine tk_Kp  (ls' := [(0, .ref 0), (2, .int a2), (3, .ref (266 + 2 * (tk_n a1))), (4, .int (fZ_min_I (4 : Int32) (m.1 (266 + 2 * (tk_n a1)) 1))), (5, .int (0 : Int32))]) rfl rfl ?_
        exact ok_fX_lays_57 sc tk_F a2 (266 + 2 * (tk_n a1)) (fZ_min_I (4 : Int32) (m.1 (266 + 2 * (tk_n a1)) 1)) (0 : Int32) m ((la12 _ (hg3).2).2) _ h
    · replace h := tk_ifF hc2 h
      refine tk_bF  rfl rfl tk_eB_ne (c := (fS_has 1 a2 m) = true) hc2 (pc' := 18) (ls' := [(0, .ref 0), (1, .int a1), (2, .int a2)]) (st' := []) ?_
      refine tk_Ps  2 (pc' := 20) (ls' := [(0, .ref 0), (1, .int a1), (2, .int a2)]) (st' := [.int (0 : Int32), .ref 0]) rfl ?_
      obtain ⟨o6, ho6, h⟩ := tk_bnd h
      refine tk_cV1  rfl rfl (r := 0) (as := [.int (0 : Int32)]) (rest := []) rfl ly0 rfl rfl (ok_fX_finding sc (0 : Int32) m ho6) ?_
      replace h := Option.some.inj h
      subst h
      exact tk_RI  rfl rfl rfl
  · replace h := tk_ifF hc1 h
    refine tk_bF  rfl rfl tk_eB_eq (c := (fX_isSheet a1) = true) hc1 (pc' := 18) (ls' := [(0, .ref 0), (1, .int a1), (2, .int a2)]) (st' := []) ?_
    refine tk_Ps  2 (pc' := 20) (ls' := [(0, .ref 0), (1, .int a1), (2, .int a2)]) (st' := [.int (0 : Int32), .ref 0]) rfl ?_
    obtain ⟨o7, ho7, h⟩ := tk_bnd h
    refine tk_cV1  rfl rfl (r := 0) (as := [.int (0 : Int32)]) (rest := []) rfl ly0 rfl rfl (ok_fX_finding sc (0 : Int32) m ho7) ?_
    replace h := Option.some.inj h
    subst h
    exact tk_RI  rfl rfl rfl
theorem ok_fT_isFormZero_2 (sc : tk_X) : ∀ (n : Nat) (v0 : Nat) (v1 : Int32) (m : tk_m) (hv0 : tk_lay[v0]? = some (.inl 7)) (out : Bool), fT_isFormZero_2 n v0 v1 m = some out → tk_Ex sc 0 tk_r133 tk_k133 2 [(0, .ref v0), (1, .int v1)] [] (tk_full m) (some (.int (tk_b out)), tk_full m) := by
  intro n
  induction n with
  | zero =>
    intro v0 v1 m hv0 out h
    cases h
  | succ n ih =>
    intro v0 v1 m hv0 out h
    unfold fT_isFormZero_2 at h
    refine tk_Ps  2 (pc' := 4) (ls' := [(0, .ref v0), (1, .int v1)]) (st' := [.int (4 : Int32), .int v1]) rfl ?_
    by_cases hc1 : (4 : Int32) ≤ v1
    · replace h := tk_ifT hc1 h
      refine tk_bT  rfl rfl rfl (c := (4 : Int32) ≤ v1) hc1 (pc' := 26) (ls' := [(0, .ref v0), (1, .int v1)]) (st' := []) ?_
      refine tk_Ps  1 (pc' := 27) (ls' := [(0, .ref v0), (1, .int v1)]) (st' := [.int (1 : Int32)]) rfl ?_
      replace h := Option.some.inj h
      subst h
      exact tk_RB (b := true)  rfl rfl rfl
    · replace h := tk_ifF hc1 h
      refine tk_bF  rfl rfl rfl (c := (4 : Int32) ≤ v1) hc1 (pc' := 7) (ls' := [(0, .ref v0), (1, .int v1)]) (st' := []) ?_
      refine tk_Ps  1 (pc' := 8) (ls' := [(0, .ref v0), (1, .int v1)]) (st' := [.ref v0]) rfl ?_
      refine tk_HR  rfl rfl hv0 (ro7_2 hv0) ?_
      refine tk_Ps  1 (pc' := 12) (ls' := [(0, .ref v0), (1, .int v1)]) (st' := [.int v1, .ref (v0 + 1)]) rfl ?_
      obtain ⟨hg2, h⟩ := tk_grd h
      refine tk_HJa  rfl rfl (lo7_2 hv0) hg2 ?_
      refine tk_Ps  2 (pc' := 15) (ls' := [(0, .ref v0), (1, .int v1)]) (st' := [.int (lg_cmp (m.2.1 (v0 + 1) (tk_n v1)) (0 : Int64))]) rfl ?_
      by_cases hc3 : (m.2.1 (v0 + 1) (tk_n v1)) = (0 : Int64)
      · replace h := tk_ifT hc3 h
        refine tk_bT  rfl rfl tk_eL_eq (c := (m.2.1 (v0 + 1) (tk_n v1)) = (0 : Int64)) hc3 (pc' := 20) (ls' := [(0, .ref v0), (1, .int v1)]) (st' := []) ?_
        refine tk_Ps  2 (pc' := 2) (ls' := [(1, .int (v1 + (1 : Int32))), (0, .ref v0)]) (st' := []) rfl ?_
        refine tk_Kp  (ls' := [(0, .ref v0), (1, .int (v1 + (1 : Int32)))]) rfl rfl ?_
        exact ih v0 (v1 + (1 : Int32)) m hv0 _ h
      · replace h := tk_ifF hc3 h
        refine tk_bF  rfl rfl tk_eL_eq (c := (m.2.1 (v0 + 1) (tk_n v1)) = (0 : Int64)) hc3 (pc' := 18) (ls' := [(0, .ref v0), (1, .int v1)]) (st' := []) ?_
        refine tk_Ps  1 (pc' := 19) (ls' := [(0, .ref v0), (1, .int v1)]) (st' := [.int (0 : Int32)]) rfl ?_
        replace h := Option.some.inj h
        subst h
        exact tk_RB (b := false)  rfl rfl rfl
theorem ok_fT_isFormZero (sc : tk_X) (t : Nat) (m : tk_m) (ht : tk_lay[t]? = some (.inl 7)) {out : Bool} (h : fT_isFormZero t m = some out) : tk_Ru sc 1 133 [.ref t] (tk_full m) (some (.int (tk_b out)), tk_full m) := by
  unfold fT_isFormZero at h
  refine tk_Ru0 me133 (ls := [(0, .ref t)]) rfl rfl ?_
  refine tk_Ps  2 (pc' := 2) (ls' := [(1, .int (0 : Int32)), (0, .ref t)]) (st' := []) rfl ?_
  refine tk_Kp  (ls' := [(0, .ref t), (1, .int (0 : Int32))]) rfl rfl ?_
  exact ok_fT_isFormZero_2 sc tk_F t (0 : Int32) m ht _ h
theorem ok_fK_times (sc : tk_X) (a1 : Int64) (a2 : Int64) (m : tk_m) {out : Int64 × tk_m} (h : fK_times a1 a2 m = some out) : tk_Ru sc 1 135 [.ref 34, .long a1, .long a2] (tk_full m) (some (.long out.1), tk_full out.2) := by
  unfold fK_times at h
  refine tk_Ru0 me135 (ls := [(0, .ref 34), (1, .long a1), (3, .long a2)]) rfl rfl ?_
  refine tk_Ps  7 (pc' := 8) (ls' := [(5, .long (a1 * a2)), (0, .ref 34), (1, .long a1), (3, .long a2)]) (st' := [.int (lg_cmp a1 (0 : Int64))]) rfl ?_
  by_cases hc1 : a1 = (0 : Int64)
  · replace h := tk_ifT hc1 h
    refine tk_bT  rfl rfl tk_eL_eq (c := a1 = (0 : Int64)) hc1 (pc' := 41) (ls' := [(5, .long (a1 * a2)), (0, .ref 34), (1, .long a1), (3, .long a2)]) (st' := []) ?_
    refine tk_Ps  1 (pc' := 43) (ls' := [(5, .long (a1 * a2)), (0, .ref 34), (1, .long a1), (3, .long a2)]) (st' := [.long (a1 * a2)]) rfl ?_
    replace h := Option.some.inj h
    subst h
    exact tk_RJ  rfl rfl rfl
  · replace h := tk_ifF hc1 h
    refine tk_bF  rfl rfl tk_eL_eq (c := a1 = (0 : Int64)) hc1 (pc' := 11) (ls' := [(5, .long (a1 * a2)), (0, .ref 34), (1, .long a1), (3, .long a2)]) (st' := []) ?_
    refine tk_Ps  2 (pc' := 14) (ls' := [(5, .long (a1 * a2)), (0, .ref 34), (1, .long a1), (3, .long a2)]) (st' := [.long a1, .long (a1 * a2)]) rfl ?_
    obtain ⟨hz2, h⟩ := tk_grn h
    refine tk_ldiv  rfl rfl hz2 ?_
    refine tk_Ps  2 (pc' := 17) (ls' := [(5, .long (a1 * a2)), (0, .ref 34), (1, .long a1), (3, .long a2)]) (st' := [.int (lg_cmp ((a1 * a2) / a1) a2)]) rfl ?_
    by_cases hc3 : ((a1 * a2) / a1) = a2
    · replace h := tk_ifT hc3 h
      refine tk_bT  rfl rfl tk_eL_ne (c := ((a1 * a2) / a1) = a2) hc3 (pc' := 20) (ls' := [(5, .long (a1 * a2)), (0, .ref 34), (1, .long a1), (3, .long a2)]) (st' := []) ?_
      refine tk_Ps  3 (pc' := 25) (ls' := [(5, .long (a1 * a2)), (0, .ref 34), (1, .long a1), (3, .long a2)]) (st' := [.int (lg_cmp a1 (-1 : Int64))]) rfl ?_
      by_cases hc4 : a1 = (-1 : Int64)
      · replace h := tk_ifT hc4 h
        refine tk_bT  rfl rfl tk_eL_ne (c := a1 = (-1 : Int64)) hc4 (pc' := 28) (ls' := [(5, .long (a1 * a2)), (0, .ref 34), (1, .long a1), (3, .long a2)]) (st' := []) ?_
        refine tk_Ps  3 (pc' := 33) (ls' := [(5, .long (a1 * a2)), (0, .ref 34), (1, .long a1), (3, .long a2)]) (st' := [.int (lg_cmp a2 (-9223372036854775808 : Int64))]) rfl ?_
        by_cases hc5 : a2 = (-9223372036854775808 : Int64)
        · replace h := tk_ifT hc5 h
          refine tk_bT  rfl rfl tk_eL_ne (c := a2 = (-9223372036854775808 : Int64)) hc5 (pc' := 36) (ls' := [(5, .long (a1 * a2)), (0, .ref 34), (1, .long a1), (3, .long a2)]) (st' := []) ?_
          refine tk_Ps  2 (pc' := 38) (ls' := [(5, .long (a1 * a2)), (0, .ref 34), (1, .long a1), (3, .long a2)]) (st' := [.int (1 : Int32), .ref 34]) rfl ?_
          refine tk_SB (b := true)  rfl rfl ly34 ?_
          refine tk_Ps  1 (pc' := 43) (ls' := [(5, .long (a1 * a2)), (0, .ref 34), (1, .long a1), (3, .long a2)]) (st' := [.long (a1 * a2)]) rfl ?_
          replace h := Option.some.inj h
          subst h
          exact tk_RJ  rfl rfl rfl
        · replace h := tk_ifF hc5 h
          refine tk_bF  rfl rfl tk_eL_ne (c := a2 = (-9223372036854775808 : Int64)) hc5 (pc' := 41) (ls' := [(5, .long (a1 * a2)), (0, .ref 34), (1, .long a1), (3, .long a2)]) (st' := []) ?_
          refine tk_Ps  1 (pc' := 43) (ls' := [(5, .long (a1 * a2)), (0, .ref 34), (1, .long a1), (3, .long a2)]) (st' := [.long (a1 * a2)]) rfl ?_
          replace h := Option.some.inj h
          subst h
          exact tk_RJ  rfl rfl rfl
      · replace h := tk_ifF hc4 h
        refine tk_bF  rfl rfl tk_eL_ne (c := a1 = (-1 : Int64)) hc4 (pc' := 41) (ls' := [(5, .long (a1 * a2)), (0, .ref 34), (1, .long a1), (3, .long a2)]) (st' := []) ?_
        refine tk_Ps  1 (pc' := 43) (ls' := [(5, .long (a1 * a2)), (0, .ref 34), (1, .long a1), (3, .long a2)]) (st' := [.long (a1 * a2)]) rfl ?_
        replace h := Option.some.inj h
        subst h
        exact tk_RJ  rfl rfl rfl
    · replace h := tk_ifF hc3 h
      refine tk_bF  rfl rfl tk_eL_ne (c := ((a1 * a2) / a1) = a2) hc3 (pc' := 36) (ls' := [(5, .long (a1 * a2)), (0, .ref 34), (1, .long a1), (3, .long a2)]) (st' := []) ?_
      refine tk_Ps  2 (pc' := 38) (ls' := [(5, .long (a1 * a2)), (0, .ref 34), (1, .long a1), (3, .long a2)]) (st' := [.int (1 : Int32), .ref 34]) rfl ?_
      refine tk_SB (b := true)  rfl rfl ly34 ?_
      refine tk_Ps  1 (pc' := 43) (ls' := [(5, .long (a1 * a2)), (0, .ref 34), (1, .long a1), (3, .long a2)]) (st' := [.long (a1 * a2)]) rfl ?_
      replace h := Option.some.inj h
      subst h
      exact tk_RJ  rfl rfl rfl
theorem ok_fK_plus (sc : tk_X) (a1 : Int64) (a2 : Int64) (m : tk_m) {out : Int64 × tk_m} (h : fK_plus a1 a2 m = out) : tk_Ru sc 1 136 [.ref 34, .long a1, .long a2] (tk_full m) (some (.long out.1), tk_full out.2) := by
  unfold fK_plus at h
  refine tk_Ru0 me136 (ls := [(0, .ref 34), (1, .long a1), (3, .long a2)]) rfl rfl ?_
  refine tk_Ps  13 (pc' := 16) (ls' := [(5, .long (a1 + a2)), (0, .ref 34), (1, .long a1), (3, .long a2)]) (st' := [.int (lg_cmp ((a1 ^^^ (a1 + a2)) &&& (a2 ^^^ (a1 + a2))) (0 : Int64))]) rfl ?_
  by_cases hc1 : (0 : Int64) ≤ ((a1 ^^^ (a1 + a2)) &&& (a2 ^^^ (a1 + a2)))
  · replace h := tk_ifT hc1 h
    refine tk_bT  rfl rfl tk_eL_ge (c := (0 : Int64) ≤ ((a1 ^^^ (a1 + a2)) &&& (a2 ^^^ (a1 + a2)))) hc1 (pc' := 24) (ls' := [(5, .long (a1 + a2)), (0, .ref 34), (1, .long a1), (3, .long a2)]) (st' := []) ?_
    refine tk_Ps  1 (pc' := 26) (ls' := [(5, .long (a1 + a2)), (0, .ref 34), (1, .long a1), (3, .long a2)]) (st' := [.long (a1 + a2)]) rfl ?_
    subst h
    exact tk_RJ  rfl rfl rfl
  · replace h := tk_ifF hc1 h
    refine tk_bF  rfl rfl tk_eL_ge (c := (0 : Int64) ≤ ((a1 ^^^ (a1 + a2)) &&& (a2 ^^^ (a1 + a2)))) hc1 (pc' := 19) (ls' := [(5, .long (a1 + a2)), (0, .ref 34), (1, .long a1), (3, .long a2)]) (st' := []) ?_
    refine tk_Ps  2 (pc' := 21) (ls' := [(5, .long (a1 + a2)), (0, .ref 34), (1, .long a1), (3, .long a2)]) (st' := [.int (1 : Int32), .ref 34]) rfl ?_
    refine tk_SB (b := true)  rfl rfl ly34 ?_
    refine tk_Ps  1 (pc' := 26) (ls' := [(5, .long (a1 + a2)), (0, .ref 34), (1, .long a1), (3, .long a2)]) (st' := [.long (a1 + a2)]) rfl ?_
    subst h
    exact tk_RJ  rfl rfl rfl
theorem ok_fK_minus (sc : tk_X) (a1 : Int64) (a2 : Int64) (m : tk_m) {out : Int64 × tk_m} (h : fK_minus a1 a2 m = out) : tk_Ru sc 1 137 [.ref 34, .long a1, .long a2] (tk_full m) (some (.long out.1), tk_full out.2) := by
  unfold fK_minus at h
  refine tk_Ru0 me137 (ls := [(0, .ref 34), (1, .long a1), (3, .long a2)]) rfl rfl ?_
  refine tk_Ps  13 (pc' := 15) (ls' := [(5, .long (a1 - a2)), (0, .ref 34), (1, .long a1), (3, .long a2)]) (st' := [.int (lg_cmp ((a1 ^^^ a2) &&& (a1 ^^^ (a1 - a2))) (0 : Int64))]) rfl ?_
  by_cases hc1 : (0 : Int64) ≤ ((a1 ^^^ a2) &&& (a1 ^^^ (a1 - a2)))
  · replace h := tk_ifT hc1 h
    refine tk_bT  rfl rfl tk_eL_ge (c := (0 : Int64) ≤ ((a1 ^^^ a2) &&& (a1 ^^^ (a1 - a2)))) hc1 (pc' := 23) (ls' := [(5, .long (a1 - a2)), (0, .ref 34), (1, .long a1), (3, .long a2)]) (st' := []) ?_
    refine tk_Ps  1 (pc' := 25) (ls' := [(5, .long (a1 - a2)), (0, .ref 34), (1, .long a1), (3, .long a2)]) (st' := [.long (a1 - a2)]) rfl ?_
    subst h
    exact tk_RJ  rfl rfl rfl
  · replace h := tk_ifF hc1 h
    refine tk_bF  rfl rfl tk_eL_ge (c := (0 : Int64) ≤ ((a1 ^^^ a2) &&& (a1 ^^^ (a1 - a2)))) hc1 (pc' := 18) (ls' := [(5, .long (a1 - a2)), (0, .ref 34), (1, .long a1), (3, .long a2)]) (st' := []) ?_
    refine tk_Ps  2 (pc' := 20) (ls' := [(5, .long (a1 - a2)), (0, .ref 34), (1, .long a1), (3, .long a2)]) (st' := [.int (1 : Int32), .ref 34]) rfl ?_
    refine tk_SB (b := true)  rfl rfl ly34 ?_
    refine tk_Ps  1 (pc' := 25) (ls' := [(5, .long (a1 - a2)), (0, .ref 34), (1, .long a1), (3, .long a2)]) (st' := [.long (a1 - a2)]) rfl ?_
    subst h
    exact tk_RJ  rfl rfl rfl
theorem ok_fK_firstNotZero_2 (sc : tk_X) : ∀ (n : Nat) (v0 : Nat) (v1 : Int32) (m : tk_m) (hv0 : tk_lay[v0]? = some (.inr (1, tk_al v0))) (out : Int32), fK_firstNotZero_2 n v0 v1 m = some out → tk_Ex sc 0 tk_r138 tk_k138 2 [(0, .ref v0), (1, .int v1)] [] (tk_full m) (some (.int out), tk_full m) := by
  intro n
  induction n with
  | zero =>
    intro v0 v1 m hv0 out h
    cases h
  | succ n ih =>
    intro v0 v1 m hv0 out h
    unfold fK_firstNotZero_2 at h
    refine tk_Ps  2 (pc' := 4) (ls' := [(0, .ref v0), (1, .int v1)]) (st' := [.ref v0, .int v1]) rfl ?_
    refine tk_HL  rfl rfl hv0 ?_
    by_cases hc1 : (Int32.ofNat (tk_al v0)) ≤ v1
    · replace h := tk_ifT hc1 h
      refine tk_bT  rfl rfl rfl (c := (Int32.ofNat (tk_al v0)) ≤ v1) hc1 (pc' := 24) (ls' := [(0, .ref v0), (1, .int v1)]) (st' := []) ?_
      refine tk_Ps  1 (pc' := 25) (ls' := [(0, .ref v0), (1, .int v1)]) (st' := [.int (-1 : Int32)]) rfl ?_
      replace h := Option.some.inj h
      subst h
      exact tk_RI  rfl rfl rfl
    · replace h := tk_ifF hc1 h
      refine tk_bF  rfl rfl rfl (c := (Int32.ofNat (tk_al v0)) ≤ v1) hc1 (pc' := 8) (ls' := [(0, .ref v0), (1, .int v1)]) (st' := []) ?_
      refine tk_Ps  2 (pc' := 10) (ls' := [(0, .ref v0), (1, .int v1)]) (st' := [.int v1, .ref v0]) rfl ?_
      obtain ⟨hg2, h⟩ := tk_grd h
      refine tk_HJa  rfl rfl hv0 hg2 ?_
      refine tk_Ps  2 (pc' := 13) (ls' := [(0, .ref v0), (1, .int v1)]) (st' := [.int (lg_cmp (m.2.1 v0 (tk_n v1)) (0 : Int64))]) rfl ?_
      by_cases hc3 : (m.2.1 v0 (tk_n v1)) = (0 : Int64)
      · replace h := tk_ifT hc3 h
        refine tk_bT  rfl rfl tk_eL_eq (c := (m.2.1 v0 (tk_n v1)) = (0 : Int64)) hc3 (pc' := 18) (ls' := [(0, .ref v0), (1, .int v1)]) (st' := []) ?_
        refine tk_Ps  2 (pc' := 2) (ls' := [(1, .int (v1 + (1 : Int32))), (0, .ref v0)]) (st' := []) rfl ?_
        refine tk_Kp  (ls' := [(0, .ref v0), (1, .int (v1 + (1 : Int32)))]) rfl rfl ?_
        exact ih v0 (v1 + (1 : Int32)) m (tk_al_of hv0) _ h
      · replace h := tk_ifF hc3 h
        refine tk_bF  rfl rfl tk_eL_eq (c := (m.2.1 v0 (tk_n v1)) = (0 : Int64)) hc3 (pc' := 16) (ls' := [(0, .ref v0), (1, .int v1)]) (st' := []) ?_
        refine tk_Ps  1 (pc' := 17) (ls' := [(0, .ref v0), (1, .int v1)]) (st' := [.int v1]) rfl ?_
        replace h := Option.some.inj h
        subst h
        exact tk_RI  rfl rfl rfl
theorem ok_fK_firstNotZero (sc : tk_X) (a1 : Nat) (m : tk_m) (ha1 : tk_lay[a1]? = some (.inr (1, tk_al a1))) {out : Int32} (h : fK_firstNotZero a1 m = some out) : tk_Ru sc 1 138 [.ref a1] (tk_full m) (some (.int out), tk_full m) := by
  unfold fK_firstNotZero at h
  refine tk_Ru0 me138 (ls := [(0, .ref a1)]) rfl rfl ?_
  refine tk_Ps  2 (pc' := 2) (ls' := [(1, .int (0 : Int32)), (0, .ref a1)]) (st' := []) rfl ?_
  refine tk_Kp  (ls' := [(0, .ref a1), (1, .int (0 : Int32))]) rfl rfl ?_
  exact ok_fK_firstNotZero_2 sc tk_F a1 (0 : Int32) m (tk_al_of ha1) _ h
theorem ok_fK_turnInsideOut (sc : tk_X) (a1 : Nat) (a2 : Int32) (a3 : Int32) (a4 : Int32) (m : tk_m) (ha1 : tk_lay[a1]? = some (.inr (1, tk_al a1))) {out : Bool × tk_m} (h : fK_turnInsideOut a1 a2 a3 a4 m = some out) : tk_Ru sc 3 134 [.ref 34, .ref a1, .int a2, .int a3, .int a4] (tk_full m) (some (.int (tk_b out.1)), tk_full out.2) := by
  unfold fK_turnInsideOut at h
  refine tk_Ru0 me134 (ls := [(0, .ref 34), (1, .ref a1), (2, .int a2), (3, .int a3), (4, .int a4)]) rfl rfl ?_
  refine tk_Ps  1 (pc' := 1) (ls' := [(0, .ref 34), (1, .ref a1), (2, .int a2), (3, .int a3), (4, .int a4)]) (st' := [.ref a1]) rfl ?_
  refine tk_HL  rfl rfl ha1 ?_
  refine tk_Ps  1 (pc' := 3) (ls' := [(0, .ref 34), (1, .ref a1), (2, .int a2), (3, .int a3), (4, .int a4)]) (st' := [.int (4 : Int32), .int (Int32.ofNat (tk_al a1))]) rfl ?_
  by_cases hc1 : (4 : Int32) ≤ (Int32.ofNat (tk_al a1))
  · replace h := tk_ifT hc1 h
    refine tk_bT  rfl rfl rfl (c := (4 : Int32) ≤ (Int32.ofNat (tk_al a1))) hc1 (pc' := 8) (ls' := [(0, .ref 34), (1, .ref a1), (2, .int a2), (3, .int a3), (4, .int a4)]) (st' := []) ?_
    refine tk_Ps  2 (pc' := 10) (ls' := [(0, .ref 34), (1, .ref a1), (2, .int a2), (3, .int a3), (4, .int a4)]) (st' := [.int (0 : Int32), .ref 34]) rfl ?_
    refine tk_SB (b := false)  rfl rfl ly34 ?_
    refine tk_Ps  2 (pc' := 15) (ls' := [(0, .ref 34), (1, .ref a1), (2, .int a2), (3, .int a3), (4, .int a4)]) (st' := [.int (0 : Int32), .ref a1]) rfl ?_
    obtain ⟨hg2, h⟩ := tk_grd h
    refine tk_HJa  rfl rfl ha1 hg2 ?_
    refine tk_Ps  16 (pc' := 34) (ls' := [(7, .long (((Int32.toInt64 a2) * (Int32.toInt64 a2)) + ((Int32.toInt64 a3) * (Int32.toInt64 a3)))), (5, .long (m.2.1 a1 (tk_n (0 : Int32)))), (0, .ref 34), (1, .ref a1), (2, .int a2), (3, .int a3), (4, .int a4)]) (st' := [.int (1 : Int32), .ref a1, .ref 34]) rfl ?_
    obtain ⟨hg3, h⟩ := tk_grd h
    refine tk_HJa  rfl rfl ha1 hg3 ?_
    refine tk_Ps  4 (pc' := 42) (ls' := [(7, .long (((Int32.toInt64 a2) * (Int32.toInt64 a2)) + ((Int32.toInt64 a3) * (Int32.toInt64 a3)))), (5, .long (m.2.1 a1 (tk_n (0 : Int32)))), (0, .ref 34), (1, .ref a1), (2, .int a2), (3, .int a3), (4, .int a4)]) (st' := [.long (m.2.1 a1 (tk_n (0 : Int32))), .long (2 : Int64), .ref 34, .ref 34, .long (m.2.1 a1 (tk_n (1 : Int32))), .ref 34]) rfl ?_
    obtain ⟨o4, ho4, h⟩ := tk_bnd h
    refine tk_cV1  rfl rfl (r := 34) (as := [.long (2 : Int64), .long (m.2.1 a1 (tk_n (0 : Int32)))]) (rest := [.ref 34, .long (m.2.1 a1 (tk_n (1 : Int32))), .ref 34]) rfl ly34 rfl rfl (ok_fK_times sc (2 : Int64) (m.2.1 a1 (tk_n (0 : Int32))) (m.1, m.2.1, tk_u2 m.2.2.1 34 0 false, m.2.2.2) ho4) ?_
    refine tk_Ps  2 (pc' := 47) (ls' := [(7, .long (((Int32.toInt64 a2) * (Int32.toInt64 a2)) + ((Int32.toInt64 a3) * (Int32.toInt64 a3)))), (5, .long (m.2.1 a1 (tk_n (0 : Int32)))), (0, .ref 34), (1, .ref a1), (2, .int a2), (3, .int a3), (4, .int a4)]) (st' := [.long (Int32.toInt64 a2), .long o4.1, .ref 34, .long (m.2.1 a1 (tk_n (1 : Int32))), .ref 34]) rfl ?_
    obtain ⟨o5, ho5, h⟩ := tk_bnd h
    refine tk_cV1  rfl rfl (r := 34) (as := [.long o4.1, .long (Int32.toInt64 a2)]) (rest := [.long (m.2.1 a1 (tk_n (1 : Int32))), .ref 34]) rfl ly34 rfl rfl (ok_fK_times sc o4.1 (Int32.toInt64 a2) o4.2 ho5) ?_
    obtain ⟨o6, ho6, h⟩ := tk_lete h
    refine tk_cV1  rfl rfl (r := 34) (as := [.long (m.2.1 a1 (tk_n (1 : Int32))), .long o5.1]) (rest := []) rfl ly34 rfl rfl (ok_fK_plus sc (m.2.1 a1 (tk_n (1 : Int32))) o5.1 o5.2 ho6) ?_
    refine tk_Ps  4 (pc' := 58) (ls' := [(9, .long o6.1), (7, .long (((Int32.toInt64 a2) * (Int32.toInt64 a2)) + ((Int32.toInt64 a3) * (Int32.toInt64 a3)))), (5, .long (m.2.1 a1 (tk_n (0 : Int32)))), (0, .ref 34), (1, .ref a1), (2, .int a2), (3, .int a3), (4, .int a4)]) (st' := [.int (2 : Int32), .ref a1, .ref 34]) rfl ?_
    obtain ⟨hg7, h⟩ := tk_grd h
    refine tk_HJa  rfl rfl ha1 hg7 ?_
    refine tk_Ps  4 (pc' := 66) (ls' := [(9, .long o6.1), (7, .long (((Int32.toInt64 a2) * (Int32.toInt64 a2)) + ((Int32.toInt64 a3) * (Int32.toInt64 a3)))), (5, .long (m.2.1 a1 (tk_n (0 : Int32)))), (0, .ref 34), (1, .ref a1), (2, .int a2), (3, .int a3), (4, .int a4)]) (st' := [.long (m.2.1 a1 (tk_n (0 : Int32))), .long (2 : Int64), .ref 34, .ref 34, .long (o6.2.2.1 a1 (tk_n (2 : Int32))), .ref 34]) rfl ?_
    obtain ⟨o8, ho8, h⟩ := tk_bnd h
    refine tk_cV1  rfl rfl (r := 34) (as := [.long (2 : Int64), .long (m.2.1 a1 (tk_n (0 : Int32)))]) (rest := [.ref 34, .long (o6.2.2.1 a1 (tk_n (2 : Int32))), .ref 34]) rfl ly34 rfl rfl (ok_fK_times sc (2 : Int64) (m.2.1 a1 (tk_n (0 : Int32))) o6.2 ho8) ?_
    refine tk_Ps  2 (pc' := 71) (ls' := [(9, .long o6.1), (7, .long (((Int32.toInt64 a2) * (Int32.toInt64 a2)) + ((Int32.toInt64 a3) * (Int32.toInt64 a3)))), (5, .long (m.2.1 a1 (tk_n (0 : Int32)))), (0, .ref 34), (1, .ref a1), (2, .int a2), (3, .int a3), (4, .int a4)]) (st' := [.long (Int32.toInt64 a3), .long o8.1, .ref 34, .long (o6.2.2.1 a1 (tk_n (2 : Int32))), .ref 34]) rfl ?_
    obtain ⟨o9, ho9, h⟩ := tk_bnd h
    refine tk_cV1  rfl rfl (r := 34) (as := [.long o8.1, .long (Int32.toInt64 a3)]) (rest := [.long (o6.2.2.1 a1 (tk_n (2 : Int32))), .ref 34]) rfl ly34 rfl rfl (ok_fK_times sc o8.1 (Int32.toInt64 a3) o8.2 ho9) ?_
    obtain ⟨o10, ho10, h⟩ := tk_lete h
    refine tk_cV1  rfl rfl (r := 34) (as := [.long (o6.2.2.1 a1 (tk_n (2 : Int32))), .long o9.1]) (rest := []) rfl ly34 rfl rfl (ok_fK_plus sc (o6.2.2.1 a1 (tk_n (2 : Int32))) o9.1 o9.2 ho10) ?_
    refine tk_Ps  7 (pc' := 87) (ls' := [(11, .long o10.1), (9, .long o6.1), (7, .long (((Int32.toInt64 a2) * (Int32.toInt64 a2)) + ((Int32.toInt64 a3) * (Int32.toInt64 a3)))), (5, .long (m.2.1 a1 (tk_n (0 : Int32)))), (0, .ref 34), (1, .ref a1), (2, .int a2), (3, .int a3), (4, .int a4)]) (st' := [.long (((Int32.toInt64 a2) * (Int32.toInt64 a2)) + ((Int32.toInt64 a3) * (Int32.toInt64 a3))), .long (m.2.1 a1 (tk_n (0 : Int32))), .ref 34, .ref 34, .ref 34, .ref 34]) rfl ?_
    obtain ⟨o11, ho11, h⟩ := tk_bnd h
    refine tk_cV1  rfl rfl (r := 34) (as := [.long (m.2.1 a1 (tk_n (0 : Int32))), .long (((Int32.toInt64 a2) * (Int32.toInt64 a2)) + ((Int32.toInt64 a3) * (Int32.toInt64 a3)))]) (rest := [.ref 34, .ref 34, .ref 34]) rfl ly34 rfl rfl (ok_fK_times sc (m.2.1 a1 (tk_n (0 : Int32))) (((Int32.toInt64 a2) * (Int32.toInt64 a2)) + ((Int32.toInt64 a3) * (Int32.toInt64 a3))) o10.2 ho11) ?_
    refine tk_Ps  3 (pc' := 93) (ls' := [(11, .long o10.1), (9, .long o6.1), (7, .long (((Int32.toInt64 a2) * (Int32.toInt64 a2)) + ((Int32.toInt64 a3) * (Int32.toInt64 a3)))), (5, .long (m.2.1 a1 (tk_n (0 : Int32)))), (0, .ref 34), (1, .ref a1), (2, .int a2), (3, .int a3), (4, .int a4)]) (st' := [.int (1 : Int32), .ref a1, .ref 34, .long o11.1, .ref 34, .ref 34, .ref 34]) rfl ?_
    refine tk_HJa  rfl rfl ha1 hg3 ?_
    refine tk_Ps  2 (pc' := 96) (ls' := [(11, .long o10.1), (9, .long o6.1), (7, .long (((Int32.toInt64 a2) * (Int32.toInt64 a2)) + ((Int32.toInt64 a3) * (Int32.toInt64 a3)))), (5, .long (m.2.1 a1 (tk_n (0 : Int32)))), (0, .ref 34), (1, .ref a1), (2, .int a2), (3, .int a3), (4, .int a4)]) (st' := [.long (Int32.toInt64 a2), .long (o11.2.2.1 a1 (tk_n (1 : Int32))), .ref 34, .long o11.1, .ref 34, .ref 34, .ref 34]) rfl ?_
    obtain ⟨o12, ho12, h⟩ := tk_bnd h
    refine tk_cV1  rfl rfl (r := 34) (as := [.long (o11.2.2.1 a1 (tk_n (1 : Int32))), .long (Int32.toInt64 a2)]) (rest := [.long o11.1, .ref 34, .ref 34, .ref 34]) rfl ly34 rfl rfl (ok_fK_times sc (o11.2.2.1 a1 (tk_n (1 : Int32))) (Int32.toInt64 a2) o11.2 ho12) ?_
    obtain ⟨o13, ho13, h⟩ := tk_lete h
    refine tk_cV1  rfl rfl (r := 34) (as := [.long o11.1, .long o12.1]) (rest := [.ref 34, .ref 34]) rfl ly34 rfl rfl (ok_fK_plus sc o11.1 o12.1 o12.2 ho13) ?_
    refine tk_Ps  3 (pc' := 105) (ls' := [(11, .long o10.1), (9, .long o6.1), (7, .long (((Int32.toInt64 a2) * (Int32.toInt64 a2)) + ((Int32.toInt64 a3) * (Int32.toInt64 a3)))), (5, .long (m.2.1 a1 (tk_n (0 : Int32)))), (0, .ref 34), (1, .ref a1), (2, .int a2), (3, .int a3), (4, .int a4)]) (st' := [.int (2 : Int32), .ref a1, .ref 34, .long o13.1, .ref 34, .ref 34]) rfl ?_
    refine tk_HJa  rfl rfl ha1 hg7 ?_
    refine tk_Ps  2 (pc' := 108) (ls' := [(11, .long o10.1), (9, .long o6.1), (7, .long (((Int32.toInt64 a2) * (Int32.toInt64 a2)) + ((Int32.toInt64 a3) * (Int32.toInt64 a3)))), (5, .long (m.2.1 a1 (tk_n (0 : Int32)))), (0, .ref 34), (1, .ref a1), (2, .int a2), (3, .int a3), (4, .int a4)]) (st' := [.long (Int32.toInt64 a3), .long (o13.2.2.1 a1 (tk_n (2 : Int32))), .ref 34, .long o13.1, .ref 34, .ref 34]) rfl ?_
    obtain ⟨o14, ho14, h⟩ := tk_bnd h
    refine tk_cV1  rfl rfl (r := 34) (as := [.long (o13.2.2.1 a1 (tk_n (2 : Int32))), .long (Int32.toInt64 a3)]) (rest := [.long o13.1, .ref 34, .ref 34]) rfl ly34 rfl rfl (ok_fK_times sc (o13.2.2.1 a1 (tk_n (2 : Int32))) (Int32.toInt64 a3) o13.2 ho14) ?_
    obtain ⟨o15, ho15, h⟩ := tk_lete h
    refine tk_cV1  rfl rfl (r := 34) (as := [.long o13.1, .long o14.1]) (rest := [.ref 34]) rfl ly34 rfl rfl (ok_fK_plus sc o13.1 o14.1 o14.2 ho15) ?_
    refine tk_Ps  2 (pc' := 116) (ls' := [(11, .long o10.1), (9, .long o6.1), (7, .long (((Int32.toInt64 a2) * (Int32.toInt64 a2)) + ((Int32.toInt64 a3) * (Int32.toInt64 a3)))), (5, .long (m.2.1 a1 (tk_n (0 : Int32)))), (0, .ref 34), (1, .ref a1), (2, .int a2), (3, .int a3), (4, .int a4)]) (st' := [.int (3 : Int32), .ref a1, .long o15.1, .ref 34]) rfl ?_
    obtain ⟨hg16, h⟩ := tk_grd h
    refine tk_HJa  rfl rfl ha1 hg16 ?_
    obtain ⟨o17, ho17, h⟩ := tk_lete h
    refine tk_cV1  rfl rfl (r := 34) (as := [.long o15.1, .long (o15.2.2.1 a1 (tk_n (3 : Int32)))]) (rest := []) rfl ly34 rfl rfl (ok_fK_plus sc o15.1 (o15.2.2.1 a1 (tk_n (3 : Int32))) o15.2 ho17) ?_
    refine tk_Ps  2 (pc' := 123) (ls' := [(13, .long o17.1), (11, .long o10.1), (9, .long o6.1), (7, .long (((Int32.toInt64 a2) * (Int32.toInt64 a2)) + ((Int32.toInt64 a3) * (Int32.toInt64 a3)))), (5, .long (m.2.1 a1 (tk_n (0 : Int32)))), (0, .ref 34), (1, .ref a1), (2, .int a2), (3, .int a3), (4, .int a4)]) (st' := [.ref 34]) rfl ?_
    refine tk_HR  rfl rfl ly34 rt34_2 ?_
    refine tk_Ps  2 (pc' := 129) (ls' := [(13, .long o17.1), (11, .long o10.1), (9, .long o6.1), (7, .long (((Int32.toInt64 a2) * (Int32.toInt64 a2)) + ((Int32.toInt64 a3) * (Int32.toInt64 a3)))), (5, .long (m.2.1 a1 (tk_n (0 : Int32)))), (0, .ref 34), (1, .ref a1), (2, .int a2), (3, .int a3), (4, .int a4)]) (st' := [.long o17.1, .int (0 : Int32), .ref 37]) rfl ?_
    refine tk_SJa  rfl rfl ly37 (by decide) ?_
    refine tk_Ps  1 (pc' := 131) (ls' := [(13, .long o17.1), (11, .long o10.1), (9, .long o6.1), (7, .long (((Int32.toInt64 a2) * (Int32.toInt64 a2)) + ((Int32.toInt64 a3) * (Int32.toInt64 a3)))), (5, .long (m.2.1 a1 (tk_n (0 : Int32)))), (0, .ref 34), (1, .ref a1), (2, .int a2), (3, .int a3), (4, .int a4)]) (st' := [.ref 34]) rfl ?_
    refine tk_HR  rfl rfl ly34 rt34_2 ?_
    refine tk_Ps  6 (pc' := 142) (ls' := [(13, .long o17.1), (11, .long o10.1), (9, .long o6.1), (7, .long (((Int32.toInt64 a2) * (Int32.toInt64 a2)) + ((Int32.toInt64 a3) * (Int32.toInt64 a3)))), (5, .long (m.2.1 a1 (tk_n (0 : Int32)))), (0, .ref 34), (1, .ref a1), (2, .int a2), (3, .int a3), (4, .int a4)]) (st' := [.long o6.1, .long (Int32.toInt64 a4), .ref 34, .ref 34, .int (1 : Int32), .ref 37]) rfl ?_
    obtain ⟨o18, ho18, h⟩ := tk_bnd h
    refine tk_cV1  rfl rfl (r := 34) (as := [.long (Int32.toInt64 a4), .long o6.1]) (rest := [.ref 34, .int (1 : Int32), .ref 37]) rfl ly34 rfl rfl (ok_fK_times sc (Int32.toInt64 a4) o6.1 (o17.2.1, tk_u2 o17.2.2.1 37 0 o17.1, o17.2.2.2.1, o17.2.2.2.2) ho18) ?_
    refine tk_Ps  4 (pc' := 152) (ls' := [(13, .long o17.1), (11, .long o10.1), (9, .long o6.1), (7, .long (((Int32.toInt64 a2) * (Int32.toInt64 a2)) + ((Int32.toInt64 a3) * (Int32.toInt64 a3)))), (5, .long (m.2.1 a1 (tk_n (0 : Int32)))), (0, .ref 34), (1, .ref a1), (2, .int a2), (3, .int a3), (4, .int a4)]) (st' := [.long o17.1, .long (2 : Int64), .ref 34, .ref 34, .long o18.1, .ref 34, .int (1 : Int32), .ref 37]) rfl ?_
    obtain ⟨o19, ho19, h⟩ := tk_bnd h
    refine tk_cV1  rfl rfl (r := 34) (as := [.long (2 : Int64), .long o17.1]) (rest := [.ref 34, .long o18.1, .ref 34, .int (1 : Int32), .ref 37]) rfl ly34 rfl rfl (ok_fK_times sc (2 : Int64) o17.1 o18.2 ho19) ?_
    refine tk_Ps  2 (pc' := 157) (ls' := [(13, .long o17.1), (11, .long o10.1), (9, .long o6.1), (7, .long (((Int32.toInt64 a2) * (Int32.toInt64 a2)) + ((Int32.toInt64 a3) * (Int32.toInt64 a3)))), (5, .long (m.2.1 a1 (tk_n (0 : Int32)))), (0, .ref 34), (1, .ref a1), (2, .int a2), (3, .int a3), (4, .int a4)]) (st' := [.long (Int32.toInt64 a2), .long o19.1, .ref 34, .long o18.1, .ref 34, .int (1 : Int32), .ref 37]) rfl ?_
    obtain ⟨o20, ho20, h⟩ := tk_bnd h
    refine tk_cV1  rfl rfl (r := 34) (as := [.long o19.1, .long (Int32.toInt64 a2)]) (rest := [.long o18.1, .ref 34, .int (1 : Int32), .ref 37]) rfl ly34 rfl rfl (ok_fK_times sc o19.1 (Int32.toInt64 a2) o19.2 ho20) ?_
    obtain ⟨o21, ho21, h⟩ := tk_lete h
    refine tk_cV1  rfl rfl (r := 34) (as := [.long o18.1, .long o20.1]) (rest := [.int (1 : Int32), .ref 37]) rfl ly34 rfl rfl (ok_fK_minus sc o18.1 o20.1 o20.2 ho21) ?_
    refine tk_SJa  rfl rfl ly37 (by decide) ?_
    refine tk_Ps  1 (pc' := 165) (ls' := [(13, .long o17.1), (11, .long o10.1), (9, .long o6.1), (7, .long (((Int32.toInt64 a2) * (Int32.toInt64 a2)) + ((Int32.toInt64 a3) * (Int32.toInt64 a3)))), (5, .long (m.2.1 a1 (tk_n (0 : Int32)))), (0, .ref 34), (1, .ref a1), (2, .int a2), (3, .int a3), (4, .int a4)]) (st' := [.ref 34]) rfl ?_
    refine tk_HR  rfl rfl ly34 rt34_2 ?_
    refine tk_Ps  6 (pc' := 176) (ls' := [(13, .long o17.1), (11, .long o10.1), (9, .long o6.1), (7, .long (((Int32.toInt64 a2) * (Int32.toInt64 a2)) + ((Int32.toInt64 a3) * (Int32.toInt64 a3)))), (5, .long (m.2.1 a1 (tk_n (0 : Int32)))), (0, .ref 34), (1, .ref a1), (2, .int a2), (3, .int a3), (4, .int a4)]) (st' := [.long o10.1, .long (Int32.toInt64 a4), .ref 34, .ref 34, .int (2 : Int32), .ref 37]) rfl ?_
    obtain ⟨o22, ho22, h⟩ := tk_bnd h
    refine tk_cV1  rfl rfl (r := 34) (as := [.long (Int32.toInt64 a4), .long o10.1]) (rest := [.ref 34, .int (2 : Int32), .ref 37]) rfl ly34 rfl rfl (ok_fK_times sc (Int32.toInt64 a4) o10.1 (o21.2.1, tk_u2 o21.2.2.1 37 1 o21.1, o21.2.2.2.1, o21.2.2.2.2) ho22) ?_
    refine tk_Ps  4 (pc' := 186) (ls' := [(13, .long o17.1), (11, .long o10.1), (9, .long o6.1), (7, .long (((Int32.toInt64 a2) * (Int32.toInt64 a2)) + ((Int32.toInt64 a3) * (Int32.toInt64 a3)))), (5, .long (m.2.1 a1 (tk_n (0 : Int32)))), (0, .ref 34), (1, .ref a1), (2, .int a2), (3, .int a3), (4, .int a4)]) (st' := [.long o17.1, .long (2 : Int64), .ref 34, .ref 34, .long o22.1, .ref 34, .int (2 : Int32), .ref 37]) rfl ?_
    obtain ⟨o23, ho23, h⟩ := tk_bnd h
    refine tk_cV1  rfl rfl (r := 34) (as := [.long (2 : Int64), .long o17.1]) (rest := [.ref 34, .long o22.1, .ref 34, .int (2 : Int32), .ref 37]) rfl ly34 rfl rfl (ok_fK_times sc (2 : Int64) o17.1 o22.2 ho23) ?_
    refine tk_Ps  2 (pc' := 191) (ls' := [(13, .long o17.1), (11, .long o10.1), (9, .long o6.1), (7, .long (((Int32.toInt64 a2) * (Int32.toInt64 a2)) + ((Int32.toInt64 a3) * (Int32.toInt64 a3)))), (5, .long (m.2.1 a1 (tk_n (0 : Int32)))), (0, .ref 34), (1, .ref a1), (2, .int a2), (3, .int a3), (4, .int a4)]) (st' := [.long (Int32.toInt64 a3), .long o23.1, .ref 34, .long o22.1, .ref 34, .int (2 : Int32), .ref 37]) rfl ?_
    obtain ⟨o24, ho24, h⟩ := tk_bnd h
    refine tk_cV1  rfl rfl (r := 34) (as := [.long o23.1, .long (Int32.toInt64 a3)]) (rest := [.long o22.1, .ref 34, .int (2 : Int32), .ref 37]) rfl ly34 rfl rfl (ok_fK_times sc o23.1 (Int32.toInt64 a3) o23.2 ho24) ?_
    obtain ⟨o25, ho25, h⟩ := tk_lete h
    refine tk_cV1  rfl rfl (r := 34) (as := [.long o22.1, .long o24.1]) (rest := [.int (2 : Int32), .ref 37]) rfl ly34 rfl rfl (ok_fK_minus sc o22.1 o24.1 o24.2 ho25) ?_
    refine tk_SJa  rfl rfl ly37 (by decide) ?_
    refine tk_Ps  4 (pc' := 204) (ls' := [(13, .long o17.1), (11, .long o10.1), (9, .long o6.1), (7, .long (((Int32.toInt64 a2) * (Int32.toInt64 a2)) + ((Int32.toInt64 a3) * (Int32.toInt64 a3)))), (5, .long (m.2.1 a1 (tk_n (0 : Int32)))), (0, .ref 34), (1, .ref a1), (2, .int a2), (3, .int a3), (4, .int a4)]) (st' := [.long (((Int32.toInt64 a2) * (Int32.toInt64 a2)) + ((Int32.toInt64 a3) * (Int32.toInt64 a3))), .long o17.1, .ref 34, .ref 34]) rfl ?_
    obtain ⟨o26, ho26, h⟩ := tk_bnd h
    refine tk_cV1  rfl rfl (r := 34) (as := [.long o17.1, .long (((Int32.toInt64 a2) * (Int32.toInt64 a2)) + ((Int32.toInt64 a3) * (Int32.toInt64 a3)))]) (rest := [.ref 34]) rfl ly34 rfl rfl (ok_fK_times sc o17.1 (((Int32.toInt64 a2) * (Int32.toInt64 a2)) + ((Int32.toInt64 a3) * (Int32.toInt64 a3))) (o25.2.1, tk_u2 o25.2.2.1 37 2 o25.1, o25.2.2.2.1, o25.2.2.2.2) ho26) ?_
    refine tk_Ps  5 (pc' := 214) (ls' := [(13, .long o17.1), (11, .long o10.1), (9, .long o6.1), (7, .long (((Int32.toInt64 a2) * (Int32.toInt64 a2)) + ((Int32.toInt64 a3) * (Int32.toInt64 a3)))), (5, .long (m.2.1 a1 (tk_n (0 : Int32)))), (0, .ref 34), (1, .ref a1), (2, .int a2), (3, .int a3), (4, .int a4)]) (st' := [.long o6.1, .long (Int32.toInt64 a4), .ref 34, .ref 34, .long o26.1, .ref 34]) rfl ?_
    obtain ⟨o27, ho27, h⟩ := tk_bnd h
    refine tk_cV1  rfl rfl (r := 34) (as := [.long (Int32.toInt64 a4), .long o6.1]) (rest := [.ref 34, .long o26.1, .ref 34]) rfl ly34 rfl rfl (ok_fK_times sc (Int32.toInt64 a4) o6.1 o26.2 ho27) ?_
    refine tk_Ps  2 (pc' := 219) (ls' := [(13, .long o17.1), (11, .long o10.1), (9, .long o6.1), (7, .long (((Int32.toInt64 a2) * (Int32.toInt64 a2)) + ((Int32.toInt64 a3) * (Int32.toInt64 a3)))), (5, .long (m.2.1 a1 (tk_n (0 : Int32)))), (0, .ref 34), (1, .ref a1), (2, .int a2), (3, .int a3), (4, .int a4)]) (st' := [.long (Int32.toInt64 a2), .long o27.1, .ref 34, .long o26.1, .ref 34]) rfl ?_
    obtain ⟨o28, ho28, h⟩ := tk_bnd h
    refine tk_cV1  rfl rfl (r := 34) (as := [.long o27.1, .long (Int32.toInt64 a2)]) (rest := [.long o26.1, .ref 34]) rfl ly34 rfl rfl (ok_fK_times sc o27.1 (Int32.toInt64 a2) o27.2 ho28) ?_
    obtain ⟨o29, ho29, h⟩ := tk_lete h
    refine tk_cV1  rfl rfl (r := 34) (as := [.long o26.1, .long o28.1]) (rest := []) rfl ly34 rfl rfl (ok_fK_minus sc o26.1 o28.1 o28.2 ho29) ?_
    refine tk_Ps  2 (pc' := 228) (ls' := [(15, .long o29.1), (13, .long o17.1), (11, .long o10.1), (9, .long o6.1), (7, .long (((Int32.toInt64 a2) * (Int32.toInt64 a2)) + ((Int32.toInt64 a3) * (Int32.toInt64 a3)))), (5, .long (m.2.1 a1 (tk_n (0 : Int32)))), (0, .ref 34), (1, .ref a1), (2, .int a2), (3, .int a3), (4, .int a4)]) (st' := [.ref 34]) rfl ?_
    refine tk_HR  rfl rfl ly34 rt34_2 ?_
    refine tk_Ps  9 (pc' := 243) (ls' := [(15, .long o29.1), (13, .long o17.1), (11, .long o10.1), (9, .long o6.1), (7, .long (((Int32.toInt64 a2) * (Int32.toInt64 a2)) + ((Int32.toInt64 a3) * (Int32.toInt64 a3)))), (5, .long (m.2.1 a1 (tk_n (0 : Int32)))), (0, .ref 34), (1, .ref a1), (2, .int a2), (3, .int a3), (4, .int a4)]) (st' := [.long o10.1, .long (Int32.toInt64 a4), .ref 34, .ref 34, .long o29.1, .ref 34, .ref 34, .int (3 : Int32), .ref 37]) rfl ?_
    obtain ⟨o30, ho30, h⟩ := tk_bnd h
    refine tk_cV1  rfl rfl (r := 34) (as := [.long (Int32.toInt64 a4), .long o10.1]) (rest := [.ref 34, .long o29.1, .ref 34, .ref 34, .int (3 : Int32), .ref 37]) rfl ly34 rfl rfl (ok_fK_times sc (Int32.toInt64 a4) o10.1 o29.2 ho30) ?_
    refine tk_Ps  2 (pc' := 248) (ls' := [(15, .long o29.1), (13, .long o17.1), (11, .long o10.1), (9, .long o6.1), (7, .long (((Int32.toInt64 a2) * (Int32.toInt64 a2)) + ((Int32.toInt64 a3) * (Int32.toInt64 a3)))), (5, .long (m.2.1 a1 (tk_n (0 : Int32)))), (0, .ref 34), (1, .ref a1), (2, .int a2), (3, .int a3), (4, .int a4)]) (st' := [.long (Int32.toInt64 a3), .long o30.1, .ref 34, .long o29.1, .ref 34, .ref 34, .int (3 : Int32), .ref 37]) rfl ?_
    obtain ⟨o31, ho31, h⟩ := tk_bnd h
    refine tk_cV1  rfl rfl (r := 34) (as := [.long o30.1, .long (Int32.toInt64 a3)]) (rest := [.long o29.1, .ref 34, .ref 34, .int (3 : Int32), .ref 37]) rfl ly34 rfl rfl (ok_fK_times sc o30.1 (Int32.toInt64 a3) o30.2 ho31) ?_
    obtain ⟨o32, ho32, h⟩ := tk_lete h
    refine tk_cV1  rfl rfl (r := 34) (as := [.long o29.1, .long o31.1]) (rest := [.ref 34, .int (3 : Int32), .ref 37]) rfl ly34 rfl rfl (ok_fK_minus sc o29.1 o31.1 o31.2 ho32) ?_
    refine tk_Ps  7 (pc' := 264) (ls' := [(15, .long o29.1), (13, .long o17.1), (11, .long o10.1), (9, .long o6.1), (7, .long (((Int32.toInt64 a2) * (Int32.toInt64 a2)) + ((Int32.toInt64 a3) * (Int32.toInt64 a3)))), (5, .long (m.2.1 a1 (tk_n (0 : Int32)))), (0, .ref 34), (1, .ref a1), (2, .int a2), (3, .int a3), (4, .int a4)]) (st' := [.long (m.2.1 a1 (tk_n (0 : Int32))), .long ((Int32.toInt64 a4) * (Int32.toInt64 a4)), .ref 34, .long o32.1, .ref 34, .int (3 : Int32), .ref 37]) rfl ?_
    obtain ⟨o33, ho33, h⟩ := tk_bnd h
    refine tk_cV1  rfl rfl (r := 34) (as := [.long ((Int32.toInt64 a4) * (Int32.toInt64 a4)), .long (m.2.1 a1 (tk_n (0 : Int32)))]) (rest := [.long o32.1, .ref 34, .int (3 : Int32), .ref 37]) rfl ly34 rfl rfl (ok_fK_times sc ((Int32.toInt64 a4) * (Int32.toInt64 a4)) (m.2.1 a1 (tk_n (0 : Int32))) o32.2 ho33) ?_
    obtain ⟨o34, ho34, h⟩ := tk_lete h
    refine tk_cV1  rfl rfl (r := 34) (as := [.long o32.1, .long o33.1]) (rest := [.int (3 : Int32), .ref 37]) rfl ly34 rfl rfl (ok_fK_plus sc o32.1 o33.1 o33.2 ho34) ?_
    refine tk_SJa  rfl rfl ly37 (by decide) ?_
    refine tk_Ps  1 (pc' := 272) (ls' := [(15, .long o29.1), (13, .long o17.1), (11, .long o10.1), (9, .long o6.1), (7, .long (((Int32.toInt64 a2) * (Int32.toInt64 a2)) + ((Int32.toInt64 a3) * (Int32.toInt64 a3)))), (5, .long (m.2.1 a1 (tk_n (0 : Int32)))), (0, .ref 34), (1, .ref a1), (2, .int a2), (3, .int a3), (4, .int a4)]) (st' := [.ref 34]) rfl ?_
    refine tk_HB  rfl rfl ly34 ?_
    by_cases hc35 : (o34.2.2.2.1 34 0) = true
    · replace h := tk_ifT hc35 h
      refine tk_bT  rfl rfl tk_eB_ne (c := (o34.2.2.2.1 34 0) = true) hc35 (pc' := 299) (ls' := [(15, .long o29.1), (13, .long o17.1), (11, .long o10.1), (9, .long o6.1), (7, .long (((Int32.toInt64 a2) * (Int32.toInt64 a2)) + ((Int32.toInt64 a3) * (Int32.toInt64 a3)))), (5, .long (m.2.1 a1 (tk_n (0 : Int32)))), (0, .ref 34), (1, .ref a1), (2, .int a2), (3, .int a3), (4, .int a4)]) (st' := []) ?_
      refine tk_Ps  1 (pc' := 300) (ls' := [(15, .long o29.1), (13, .long o17.1), (11, .long o10.1), (9, .long o6.1), (7, .long (((Int32.toInt64 a2) * (Int32.toInt64 a2)) + ((Int32.toInt64 a3) * (Int32.toInt64 a3)))), (5, .long (m.2.1 a1 (tk_n (0 : Int32)))), (0, .ref 34), (1, .ref a1), (2, .int a2), (3, .int a3), (4, .int a4)]) (st' := [.int (0 : Int32)]) rfl ?_
      replace h := Option.some.inj h
      subst h
      exact tk_RB (b := false)  rfl rfl rfl
    · replace h := tk_ifF hc35 h
      refine tk_bF  rfl rfl tk_eB_ne (c := (o34.2.2.2.1 34 0) = true) hc35 (pc' := 278) (ls' := [(15, .long o29.1), (13, .long o17.1), (11, .long o10.1), (9, .long o6.1), (7, .long (((Int32.toInt64 a2) * (Int32.toInt64 a2)) + ((Int32.toInt64 a3) * (Int32.toInt64 a3)))), (5, .long (m.2.1 a1 (tk_n (0 : Int32)))), (0, .ref 34), (1, .ref a1), (2, .int a2), (3, .int a3), (4, .int a4)]) (st' := []) ?_
      refine tk_Ps  1 (pc' := 279) (ls' := [(15, .long o29.1), (13, .long o17.1), (11, .long o10.1), (9, .long o6.1), (7, .long (((Int32.toInt64 a2) * (Int32.toInt64 a2)) + ((Int32.toInt64 a3) * (Int32.toInt64 a3)))), (5, .long (m.2.1 a1 (tk_n (0 : Int32)))), (0, .ref 34), (1, .ref a1), (2, .int a2), (3, .int a3), (4, .int a4)]) (st' := [.ref 34]) rfl ?_
      refine tk_HR  rfl rfl ly34 rt34_2 ?_
      refine tk_Ps  1 (pc' := 283) (ls' := [(15, .long o29.1), (13, .long o17.1), (11, .long o10.1), (9, .long o6.1), (7, .long (((Int32.toInt64 a2) * (Int32.toInt64 a2)) + ((Int32.toInt64 a3) * (Int32.toInt64 a3)))), (5, .long (m.2.1 a1 (tk_n (0 : Int32)))), (0, .ref 34), (1, .ref a1), (2, .int a2), (3, .int a3), (4, .int a4)]) (st' := [.ref 34, .ref 37]) rfl ?_
      refine tk_HR  rfl rfl ly34 rt34_2 ?_
      obtain ⟨o36, ho36, h⟩ := tk_bnd h
      refine tk_cS1  rfl rfl (as := [.ref 37]) (rest := [.ref 37]) rfl rfl rfl (ok_fK_firstNotZero sc 37 (o34.2.1, tk_u2 o34.2.2.1 37 3 o34.1, o34.2.2.2.1, o34.2.2.2.2) (tk_al_of ly37) ho36) ?_
      obtain ⟨o37, ho37, h⟩ := tk_bnd h
      refine tk_cS1  rfl rfl (as := [.ref 37, .int o36]) (rest := []) rfl rfl rfl (ok_fK_lower sc 37 o36 (o34.2.1, tk_u2 o34.2.2.1 37 3 o34.1, o34.2.2.2.1, o34.2.2.2.2) (tk_al_of ly37) ho37) ?_
      by_cases hc38 : o37.1 = true
      · replace h := tk_ifT hc38 h
        refine tk_bT  rfl rfl tk_eB_eq (c := o37.1 = true) hc38 (pc' := 295) (ls' := [(15, .long o29.1), (13, .long o17.1), (11, .long o10.1), (9, .long o6.1), (7, .long (((Int32.toInt64 a2) * (Int32.toInt64 a2)) + ((Int32.toInt64 a3) * (Int32.toInt64 a3)))), (5, .long (m.2.1 a1 (tk_n (0 : Int32)))), (0, .ref 34), (1, .ref a1), (2, .int a2), (3, .int a3), (4, .int a4)]) (st' := []) ?_
        refine tk_Ps  2 (pc' := 300) (ls' := [(15, .long o29.1), (13, .long o17.1), (11, .long o10.1), (9, .long o6.1), (7, .long (((Int32.toInt64 a2) * (Int32.toInt64 a2)) + ((Int32.toInt64 a3) * (Int32.toInt64 a3)))), (5, .long (m.2.1 a1 (tk_n (0 : Int32)))), (0, .ref 34), (1, .ref a1), (2, .int a2), (3, .int a3), (4, .int a4)]) (st' := [.int (1 : Int32)]) rfl ?_
        replace h := Option.some.inj h
        subst h
        exact tk_RB (b := true)  rfl rfl rfl
      · replace h := tk_ifF hc38 h
        refine tk_bF  rfl rfl tk_eB_eq (c := o37.1 = true) hc38 (pc' := 299) (ls' := [(15, .long o29.1), (13, .long o17.1), (11, .long o10.1), (9, .long o6.1), (7, .long (((Int32.toInt64 a2) * (Int32.toInt64 a2)) + ((Int32.toInt64 a3) * (Int32.toInt64 a3)))), (5, .long (m.2.1 a1 (tk_n (0 : Int32)))), (0, .ref 34), (1, .ref a1), (2, .int a2), (3, .int a3), (4, .int a4)]) (st' := []) ?_
        refine tk_Ps  1 (pc' := 300) (ls' := [(15, .long o29.1), (13, .long o17.1), (11, .long o10.1), (9, .long o6.1), (7, .long (((Int32.toInt64 a2) * (Int32.toInt64 a2)) + ((Int32.toInt64 a3) * (Int32.toInt64 a3)))), (5, .long (m.2.1 a1 (tk_n (0 : Int32)))), (0, .ref 34), (1, .ref a1), (2, .int a2), (3, .int a3), (4, .int a4)]) (st' := [.int (0 : Int32)]) rfl ?_
        replace h := Option.some.inj h
        subst h
        exact tk_RB (b := false)  rfl rfl rfl
  · replace h := tk_ifF hc1 h
    refine tk_bF  rfl rfl rfl (c := (4 : Int32) ≤ (Int32.ofNat (tk_al a1))) hc1 (pc' := 6) (ls' := [(0, .ref 34), (1, .ref a1), (2, .int a2), (3, .int a3), (4, .int a4)]) (st' := []) ?_
    refine tk_Ps  1 (pc' := 7) (ls' := [(0, .ref 34), (1, .ref a1), (2, .int a2), (3, .int a3), (4, .int a4)]) (st' := [.int (0 : Int32)]) rfl ?_
    replace h := Option.some.inj h
    subst h
    exact tk_RB (b := false)  rfl rfl rfl

theorem ok_fX_lie (sc : tk_X) (a1 : Int32) (a2 : Int32) (m : tk_m) {out : Int32 × tk_m} (h : fX_lie a1 a2 m = some out) : tk_Ru sc 5 40 [.ref 0, .int a1, .int a2] (tk_full m) (some (.int out.1), tk_full out.2) := by
  unfold fX_lie at h
  refine tk_Ru0 me40 (ls := [(0, .ref 0), (1, .int a1), (2, .int a2)]) rfl rfl ?_
  refine tk_Ps  3 (pc' := 3) (ls' := [(0, .ref 0), (1, .int a1), (2, .int a2)]) (st' := [.int a2, .int a1, .ref 0]) rfl ?_
  refine tk_cV1  rfl rfl (r := 0) (as := [.int a1, .int a2]) (rest := []) rfl ly0 rfl rfl (ok_fX_areTwoShapes sc a1 a2 m) ?_
  by_cases hc1 : (fX_areTwoShapes a1 a2 m) = true
  · replace h := tk_ifT hc1 h
    refine tk_bT  rfl rfl tk_eB_ne (c := (fX_areTwoShapes a1 a2 m) = true) hc1 (pc' := 15) (ls' := [(0, .ref 0), (1, .int a1), (2, .int a2)]) (st' := []) ?_
    refine tk_Ps  1 (pc' := 16) (ls' := [(0, .ref 0), (1, .int a1), (2, .int a2)]) (st' := [.ref 0]) rfl ?_
    refine tk_HR  rfl rfl ly0 rt0_0 ?_
    refine tk_HR  rfl rfl ly1 rt1_0 ?_
    refine tk_Ps  1 (pc' := 23) (ls' := [(0, .ref 0), (1, .int a1), (2, .int a2)]) (st' := [.int a1, .ref 2]) rfl ?_
    obtain ⟨hg2, h⟩ := tk_grd h
    refine tk_HP  rfl rfl ly2 hg2 ?_
    refine tk_Ps  1 (pc' := 25) (ls' := [(0, .ref 0), (1, .int a1), (2, .int a2)]) (st' := [.ref 0, .ref (2 + 2 + (m.2.2.2 2 (tk_n a1)).val)]) rfl ?_
    refine tk_HR  rfl rfl ly0 rt0_0 ?_
    refine tk_HR  rfl rfl ly1 rt1_0 ?_
    refine tk_Ps  1 (pc' := 32) (ls' := [(0, .ref 0), (1, .int a1), (2, .int a2)]) (st' := [.int a2, .ref 2, .ref (2 + 2 + (m.2.2.2 2 (tk_n a1)).val)]) rfl ?_
    obtain ⟨hg3, h⟩ := tk_grd h
    refine tk_HP  rfl rfl ly2 hg3 ?_
    refine tk_cV1  rfl rfl (r := (2 + 2 + (m.2.2.2 2 (tk_n a1)).val)) (as := [.ref (2 + 2 + (m.2.2.2 2 (tk_n a2)).val)]) (rest := []) rfl (tk_sh ly2 _) rfl rfl (ok_fH_commonWith sc (2 + 2 + (m.2.2.2 2 (tk_n a1)).val) (2 + 2 + (m.2.2.2 2 (tk_n a2)).val) m (tk_sh ly2 _) (tk_sh ly2 _)) ?_
    replace h := Option.some.inj h
    subst h
    exact tk_RI  rfl rfl rfl
  · replace h := tk_ifF hc1 h
    refine tk_bF  rfl rfl tk_eB_ne (c := (fX_areTwoShapes a1 a2 m) = true) hc1 (pc' := 9) (ls' := [(0, .ref 0), (1, .int a1), (2, .int a2)]) (st' := []) ?_
    refine tk_Ps  2 (pc' := 11) (ls' := [(0, .ref 0), (1, .int a1), (2, .int a2)]) (st' := [.int (0 : Int32), .ref 0]) rfl ?_
    obtain ⟨o4, ho4, h⟩ := tk_bnd h
    refine tk_cV1  rfl rfl (r := 0) (as := [.int (0 : Int32)]) (rest := []) rfl ly0 rfl rfl (ok_fX_finding sc (0 : Int32) m ho4) ?_
    replace h := Option.some.inj h
    subst h
    exact tk_RI  rfl rfl rfl
theorem ok_fX_power (sc : tk_X) (a1 : Int32) (a2 : Int32) (a3 : Int32) (m : tk_m) {out : Int32 × tk_m} (h : fX_power a1 a2 a3 m = some out) : tk_Ru sc 3 48 [.ref 0, .int a1, .int a2, .int a3] (tk_full m) (some (.int out.1), tk_full out.2) := by
  unfold fX_power at h
  refine tk_Ru0 me48 (ls := [(0, .ref 0), (1, .int a1), (2, .int a2), (3, .int a3)]) rfl rfl ?_
  refine tk_Ps  1 (pc' := 1) (ls' := [(0, .ref 0), (1, .int a1), (2, .int a2), (3, .int a3)]) (st' := [.ref 0]) rfl ?_
  refine tk_HR  rfl rfl ly0 rt0_0 ?_
  refine tk_Ps  1 (pc' := 5) (ls' := [(0, .ref 0), (1, .int a1), (2, .int a2), (3, .int a3)]) (st' := [.int a1, .ref 1]) rfl ?_
  refine tk_cV1  rfl rfl (r := 1) (as := [.int a1]) (rest := []) rfl ly1 rfl rfl (ok_fS_has sc 1 a1 m ly1) ?_
  by_cases hc1 : (fS_has 1 a1 m) = true
  · replace h := tk_ifT hc1 h
    refine tk_bT  rfl rfl tk_eB_eq (c := (fS_has 1 a1 m) = true) hc1 (pc' := 11) (ls' := [(0, .ref 0), (1, .int a1), (2, .int a2), (3, .int a3)]) (st' := []) ?_
    refine tk_Ps  3 (pc' := 16) (ls' := [(0, .ref 0), (1, .int a1), (2, .int a2), (3, .int a3)]) (st' := [.int (99 : Int32), .int (-99 : Int32), .int a2]) rfl ?_
    refine tk_cS1  rfl rfl (as := [.int a2, .int (-99 : Int32), .int (99 : Int32)]) (rest := []) rfl rfl rfl (ok_fX_isWithin sc a2 (-99 : Int32) (99 : Int32) m) ?_
    by_cases hc2 : (fX_isWithin a2 (-99 : Int32) (99 : Int32)) = true
    · replace h := tk_ifT hc2 h
      refine tk_bT  rfl rfl tk_eB_eq (c := (fX_isWithin a2 (-99 : Int32) (99 : Int32)) = true) hc2 (pc' := 22) (ls' := [(0, .ref 0), (1, .int a1), (2, .int a2), (3, .int a3)]) (st' := []) ?_
      refine tk_Ps  3 (pc' := 27) (ls' := [(0, .ref 0), (1, .int a1), (2, .int a2), (3, .int a3)]) (st' := [.int (99 : Int32), .int (-99 : Int32), .int a3]) rfl ?_
      refine tk_cS1  rfl rfl (as := [.int a3, .int (-99 : Int32), .int (99 : Int32)]) (rest := []) rfl rfl rfl (ok_fX_isWithin sc a3 (-99 : Int32) (99 : Int32) m) ?_
      by_cases hc3 : (fX_isWithin a3 (-99 : Int32) (99 : Int32)) = true
      · replace h := tk_ifT hc3 h
        refine tk_bT  rfl rfl tk_eB_ne (c := (fX_isWithin a3 (-99 : Int32) (99 : Int32)) = true) hc3 (pc' := 39) (ls' := [(0, .ref 0), (1, .int a1), (2, .int a2), (3, .int a3)]) (st' := []) ?_
        refine tk_Ps  1 (pc' := 40) (ls' := [(0, .ref 0), (1, .int a1), (2, .int a2), (3, .int a3)]) (st' := [.ref 0]) rfl ?_
        refine tk_HR  rfl rfl ly0 rt0_0 ?_
        refine tk_HR  rfl rfl ly1 rt1_0 ?_
        refine tk_Ps  1 (pc' := 47) (ls' := [(0, .ref 0), (1, .int a1), (2, .int a2), (3, .int a3)]) (st' := [.int a1, .ref 2]) rfl ?_
        obtain ⟨hg4, h⟩ := tk_grd h
        refine tk_HP  rfl rfl ly2 hg4 ?_
        refine tk_Ps  2 (pc' := 50) (ls' := [(0, .ref 0), (1, .int a1), (2, .int a2), (3, .int a3)]) (st' := [.int a3, .int a2, .ref (2 + 2 + (m.2.2.2 2 (tk_n a1)).val)]) rfl ?_
        refine tk_cV1  rfl rfl (r := (2 + 2 + (m.2.2.2 2 (tk_n a1)).val)) (as := [.int a2, .int a3]) (rest := []) rfl (tk_sh ly2 _) rfl rfl (ok_fH_powerIn sc (2 + 2 + (m.2.2.2 2 (tk_n a1)).val) a2 a3 m (tk_sh ly2 _)) ?_
        replace h := Option.some.inj h
        subst h
        exact tk_RI  rfl rfl rfl
      · replace h := tk_ifF hc3 h
        refine tk_bF  rfl rfl tk_eB_ne (c := (fX_isWithin a3 (-99 : Int32) (99 : Int32)) = true) hc3 (pc' := 33) (ls' := [(0, .ref 0), (1, .int a1), (2, .int a2), (3, .int a3)]) (st' := []) ?_
        refine tk_Ps  2 (pc' := 35) (ls' := [(0, .ref 0), (1, .int a1), (2, .int a2), (3, .int a3)]) (st' := [.int (0 : Int32), .ref 0]) rfl ?_
        obtain ⟨o5, ho5, h⟩ := tk_bnd h
        refine tk_cV1  rfl rfl (r := 0) (as := [.int (0 : Int32)]) (rest := []) rfl ly0 rfl rfl (ok_fX_finding sc (0 : Int32) m ho5) ?_
        replace h := Option.some.inj h
        subst h
        exact tk_RI  rfl rfl rfl
    · replace h := tk_ifF hc2 h
      refine tk_bF  rfl rfl tk_eB_eq (c := (fX_isWithin a2 (-99 : Int32) (99 : Int32)) = true) hc2 (pc' := 33) (ls' := [(0, .ref 0), (1, .int a1), (2, .int a2), (3, .int a3)]) (st' := []) ?_
      refine tk_Ps  2 (pc' := 35) (ls' := [(0, .ref 0), (1, .int a1), (2, .int a2), (3, .int a3)]) (st' := [.int (0 : Int32), .ref 0]) rfl ?_
      obtain ⟨o6, ho6, h⟩ := tk_bnd h
      refine tk_cV1  rfl rfl (r := 0) (as := [.int (0 : Int32)]) (rest := []) rfl ly0 rfl rfl (ok_fX_finding sc (0 : Int32) m ho6) ?_
      replace h := Option.some.inj h
      subst h
      exact tk_RI  rfl rfl rfl
  · replace h := tk_ifF hc1 h
    refine tk_bF  rfl rfl tk_eB_eq (c := (fS_has 1 a1 m) = true) hc1 (pc' := 33) (ls' := [(0, .ref 0), (1, .int a1), (2, .int a2), (3, .int a3)]) (st' := []) ?_
    refine tk_Ps  2 (pc' := 35) (ls' := [(0, .ref 0), (1, .int a1), (2, .int a2), (3, .int a3)]) (st' := [.int (0 : Int32), .ref 0]) rfl ?_
    obtain ⟨o7, ho7, h⟩ := tk_bnd h
    refine tk_cV1  rfl rfl (r := 0) (as := [.int (0 : Int32)]) (rest := []) rfl ly0 rfl rfl (ok_fX_finding sc (0 : Int32) m ho7) ?_
    replace h := Option.some.inj h
    subst h
    exact tk_RI  rfl rfl rfl
theorem ok_fK_negativeDivisor_20 (sc : tk_X) : ∀ (n : Nat) (v4 : Int64) (v6 : Int64) (v8 : Int32) (m : tk_m) (out : Int64), fK_negativeDivisor_20 n v4 v6 v8 = some out → tk_Ex sc 0 tk_r52 tk_k52 20 [(4, .long v4), (6, .long v6), (8, .int v8)] [] (tk_full m) (some (.long out), tk_full m) := by
  intro n
  induction n with
  | zero =>
    intro v4 v6 v8 m out h
    cases h
  | succ n ih =>
    intro v4 v6 v8 m out h
    unfold fK_negativeDivisor_20 at h
    refine tk_Ps  2 (pc' := 25) (ls' := [(4, .long v4), (6, .long v6), (8, .int v8)]) (st' := [.int (200 : Int32), .int v8]) rfl ?_
    by_cases hc1 : (200 : Int32) ≤ v8
    · replace h := tk_ifT hc1 h
      refine tk_bT  rfl rfl rfl (c := (200 : Int32) ≤ v8) hc1 (pc' := 56) (ls' := [(4, .long v4), (6, .long v6), (8, .int v8)]) (st' := []) ?_
      refine tk_Ps  1 (pc' := 58) (ls' := [(4, .long v4), (6, .long v6), (8, .int v8)]) (st' := [.long v4]) rfl ?_
      replace h := Option.some.inj h
      subst h
      exact tk_RJ  rfl rfl rfl
    · replace h := tk_ifF hc1 h
      refine tk_bF  rfl rfl rfl (c := (200 : Int32) ≤ v8) hc1 (pc' := 28) (ls' := [(4, .long v4), (6, .long v6), (8, .int v8)]) (st' := []) ?_
      refine tk_Ps  3 (pc' := 32) (ls' := [(4, .long v4), (6, .long v6), (8, .int v8)]) (st' := [.int (lg_cmp v6 (0 : Int64))]) rfl ?_
      by_cases hc2 : v6 = (0 : Int64)
      · replace h := tk_ifT hc2 h
        refine tk_bT  rfl rfl tk_eL_eq (c := v6 = (0 : Int64)) hc2 (pc' := 56) (ls' := [(4, .long v4), (6, .long v6), (8, .int v8)]) (st' := []) ?_
        refine tk_Ps  1 (pc' := 58) (ls' := [(4, .long v4), (6, .long v6), (8, .int v8)]) (st' := [.long v4]) rfl ?_
        replace h := Option.some.inj h
        subst h
        exact tk_RJ  rfl rfl rfl
      · replace h := tk_ifF hc2 h
        refine tk_bF  rfl rfl tk_eL_eq (c := v6 = (0 : Int64)) hc2 (pc' := 35) (ls' := [(4, .long v4), (6, .long v6), (8, .int v8)]) (st' := []) ?_
        refine tk_Ps  2 (pc' := 39) (ls' := [(4, .long v4), (6, .long v6), (8, .int v8)]) (st' := [.long v6, .long v4]) rfl ?_
        obtain ⟨hz3, h⟩ := tk_grn h
        refine tk_lremR  rfl rfl hz3 ?_
        refine tk_Ps  7 (pc' := 20) (ls' := [(8, .int (v8 + (1 : Int32))), (6, .long (tk_lrem v4 v6)), (4, .long v6), (9, .long (tk_lrem v4 v6))]) (st' := []) rfl ?_
        refine tk_Kp  (ls' := [(4, .long v6), (6, .long (tk_lrem v4 v6)), (8, .int (v8 + (1 : Int32)))]) rfl rfl ?_
        exact ih v6 (tk_lrem v4 v6) (v8 + (1 : Int32)) m _ h
theorem ok_fK_negativeDivisor (sc : tk_X) (a1 : Int64) (a2 : Int64) (m : tk_m) {out : Int64} (h : fK_negativeDivisor a1 a2 = some out) : tk_Ru sc 1 52 [.long a1, .long a2] (tk_full m) (some (.long out), tk_full m) := by
  unfold fK_negativeDivisor at h
  refine tk_Ru0 me52 (ls := [(0, .long a1), (2, .long a2)]) rfl rfl ?_
  refine tk_Ps  5 (pc' := 6) (ls' := [(4, .long a1), (0, .long a1), (2, .long a2)]) (st' := [.int (lg_cmp a2 (0 : Int64))]) rfl ?_
  by_cases hc1 : a2 ≤ (0 : Int64)
  · replace h := tk_ifT hc1 h
    refine tk_bT  rfl rfl tk_eL_le (c := a2 ≤ (0 : Int64)) hc1 (pc' := 14) (ls' := [(4, .long a1), (0, .long a1), (2, .long a2)]) (st' := []) ?_
    refine tk_Ps  4 (pc' := 20) (ls' := [(8, .int (0 : Int32)), (6, .long a2), (4, .long a1), (0, .long a1), (2, .long a2)]) (st' := []) rfl ?_
    refine tk_Kp  (ls' := [(4, .long a1), (6, .long a2), (8, .int (0 : Int32))]) rfl rfl ?_
    exact ok_fK_negativeDivisor_20 sc tk_F a1 a2 (0 : Int32) m _ h
  · replace h := tk_ifF hc1 h
    refine tk_bF  rfl rfl tk_eL_le (c := a2 ≤ (0 : Int64)) hc1 (pc' := 9) (ls' := [(4, .long a1), (0, .long a1), (2, .long a2)]) (st' := []) ?_
    refine tk_Ps  6 (pc' := 20) (ls' := [(8, .int (0 : Int32)), (6, .long (-a2)), (4, .long a1), (0, .long a1), (2, .long a2)]) (st' := []) rfl ?_
    refine tk_Kp  (ls' := [(4, .long a1), (6, .long (-a2)), (8, .int (0 : Int32))]) rfl rfl ?_
    exact ok_fK_negativeDivisor_20 sc tk_F a1 (-a2) (0 : Int32) m _ h
theorem ok_fK_lower_111 (sc : tk_X) : ∀ (n : Nat) (v0 : Nat) (v4 : Int64) (v6 : Int32) (m : tk_m) (hv0 : tk_lay[v0]? = some (.inr (1, tk_al v0))) (out : Bool × tk_m), fK_lower_111 n v0 v4 v6 m = some out → tk_Ex sc 1 tk_r51 tk_k51 111 [(0, .ref v0), (4, .long v4), (6, .int v6)] [] (tk_full m) (some (.int (tk_b out.1)), tk_full out.2) := by
  intro n
  induction n with
  | zero =>
    intro v0 v4 v6 m hv0 out h
    cases h
  | succ n ih =>
    intro v0 v4 v6 m hv0 out h
    unfold fK_lower_111 at h
    refine tk_Ps  2 (pc' := 114) (ls' := [(0, .ref v0), (4, .long v4), (6, .int v6)]) (st' := [.ref v0, .int v6]) rfl ?_
    refine tk_HL  rfl rfl hv0 ?_
    by_cases hc1 : (Int32.ofNat (tk_al v0)) ≤ v6
    · replace h := tk_ifT hc1 h
      refine tk_bT  rfl rfl rfl (c := (Int32.ofNat (tk_al v0)) ≤ v6) hc1 (pc' := 133) (ls' := [(0, .ref v0), (4, .long v4), (6, .int v6)]) (st' := []) ?_
      refine tk_Ps  1 (pc' := 134) (ls' := [(0, .ref v0), (4, .long v4), (6, .int v6)]) (st' := [.int (1 : Int32)]) rfl ?_
      replace h := Option.some.inj h
      subst h
      exact tk_RB (b := true)  rfl rfl rfl
    · replace h := tk_ifF hc1 h
      refine tk_bF  rfl rfl rfl (c := (Int32.ofNat (tk_al v0)) ≤ v6) hc1 (pc' := 118) (ls' := [(0, .ref v0), (4, .long v4), (6, .int v6)]) (st' := []) ?_
      refine tk_Ps  3 (pc' := 122) (ls' := [(0, .ref v0), (4, .long v4), (6, .int v6)]) (st' := [.int v6, .ref v0, .int v6, .ref v0]) rfl ?_
      obtain ⟨hg2, h⟩ := tk_grd h
      refine tk_HJa  rfl rfl hv0 hg2 ?_
      refine tk_Ps  1 (pc' := 125) (ls' := [(0, .ref v0), (4, .long v4), (6, .int v6)]) (st' := [.long v4, .long (m.2.1 v0 (tk_n v6)), .int v6, .ref v0]) rfl ?_
      obtain ⟨hz3, h⟩ := tk_grn h
      refine tk_ldiv  rfl rfl hz3 ?_
      refine tk_SJa  rfl rfl hv0 hg2 ?_
      refine tk_Ps  2 (pc' := 111) (ls' := [(6, .int (v6 + (1 : Int32))), (0, .ref v0), (4, .long v4)]) (st' := []) rfl ?_
      refine tk_Kp  (ls' := [(0, .ref v0), (4, .long v4), (6, .int (v6 + (1 : Int32)))]) rfl rfl ?_
      exact ih v0 v4 (v6 + (1 : Int32)) (m.1, tk_u2 m.2.1 v0 (tk_n v6) ((m.2.1 v0 (tk_n v6)) / v4), m.2.2.1, m.2.2.2) (tk_al_of hv0) _ h
theorem ok_fK_lower_66 (sc : tk_X) : ∀ (n : Nat) (v0 : Nat) (v4 : Int64) (v6 : Int32) (m : tk_m) (hv0 : tk_lay[v0]? = some (.inr (1, tk_al v0))) (out : Bool × tk_m), fK_lower_66 n v0 v4 v6 m = some out → tk_Ex sc 1 tk_r51 tk_k51 66 [(0, .ref v0), (4, .long v4), (6, .int v6)] [] (tk_full m) (some (.int (tk_b out.1)), tk_full out.2) := by
  intro n
  induction n with
  | zero =>
    intro v0 v4 v6 m hv0 out h
    cases h
  | succ n ih =>
    intro v0 v4 v6 m hv0 out h
    unfold fK_lower_66 at h
    refine tk_Ps  2 (pc' := 69) (ls' := [(0, .ref v0), (4, .long v4), (6, .int v6)]) (st' := [.ref v0, .int v6]) rfl ?_
    refine tk_HL  rfl rfl hv0 ?_
    by_cases hc1 : (Int32.ofNat (tk_al v0)) ≤ v6
    · replace h := tk_ifT hc1 h
      refine tk_bT  rfl rfl rfl (c := (Int32.ofNat (tk_al v0)) ≤ v6) hc1 (pc' := 108) (ls' := [(0, .ref v0), (4, .long v4), (6, .int v6)]) (st' := []) ?_
      refine tk_Ps  2 (pc' := 111) (ls' := [(6, .int (0 : Int32)), (0, .ref v0), (4, .long v4)]) (st' := []) rfl ?_
      refine tk_Kp  (ls' := [(0, .ref v0), (4, .long v4), (6, .int (0 : Int32))]) rfl rfl ?_
      exact ok_fK_lower_111 sc tk_F v0 v4 (0 : Int32) m (tk_al_of hv0) _ h
    · replace h := tk_ifF hc1 h
      refine tk_bF  rfl rfl rfl (c := (Int32.ofNat (tk_al v0)) ≤ v6) hc1 (pc' := 73) (ls' := [(0, .ref v0), (4, .long v4), (6, .int v6)]) (st' := []) ?_
      refine tk_Ps  3 (pc' := 77) (ls' := [(0, .ref v0), (4, .long v4), (6, .int v6)]) (st' := [.int (lg_cmp v4 (0 : Int64))]) rfl ?_
      by_cases hc2 : v4 = (0 : Int64)
      · replace h := tk_ifT hc2 h
        refine tk_bT  rfl rfl tk_eL_eq (c := v4 = (0 : Int64)) hc2 (pc' := 100) (ls' := [(0, .ref v0), (4, .long v4), (6, .int v6)]) (st' := []) ?_
        refine tk_Ps  1 (pc' := 101) (ls' := [(0, .ref v0), (4, .long v4), (6, .int v6)]) (st' := [.int (0 : Int32)]) rfl ?_
        replace h := Option.some.inj h
        subst h
        exact tk_RB (b := false)  rfl rfl rfl
      · replace h := tk_ifF hc2 h
        refine tk_bF  rfl rfl tk_eL_eq (c := v4 = (0 : Int64)) hc2 (pc' := 80) (ls' := [(0, .ref v0), (4, .long v4), (6, .int v6)]) (st' := []) ?_
        refine tk_Ps  3 (pc' := 86) (ls' := [(0, .ref v0), (4, .long v4), (6, .int v6)]) (st' := [.int (lg_cmp v4 (-1 : Int64))]) rfl ?_
        by_cases hc3 : v4 = (-1 : Int64)
        · replace h := tk_ifT hc3 h
          refine tk_bT  rfl rfl tk_eL_ne (c := v4 = (-1 : Int64)) hc3 (pc' := 89) (ls' := [(0, .ref v0), (4, .long v4), (6, .int v6)]) (st' := []) ?_
          refine tk_Ps  2 (pc' := 92) (ls' := [(0, .ref v0), (4, .long v4), (6, .int v6)]) (st' := [.int v6, .ref v0]) rfl ?_
          obtain ⟨hg4, h⟩ := tk_grd h
          refine tk_HJa  rfl rfl hv0 hg4 ?_
          refine tk_Ps  2 (pc' := 97) (ls' := [(0, .ref v0), (4, .long v4), (6, .int v6)]) (st' := [.int (lg_cmp (m.2.1 v0 (tk_n v6)) (-9223372036854775808 : Int64))]) rfl ?_
          by_cases hc5 : (m.2.1 v0 (tk_n v6)) = (-9223372036854775808 : Int64)
          · replace h := tk_ifT hc5 h
            refine tk_bT  rfl rfl tk_eL_ne (c := (m.2.1 v0 (tk_n v6)) = (-9223372036854775808 : Int64)) hc5 (pc' := 100) (ls' := [(0, .ref v0), (4, .long v4), (6, .int v6)]) (st' := []) ?_
            refine tk_Ps  1 (pc' := 101) (ls' := [(0, .ref v0), (4, .long v4), (6, .int v6)]) (st' := [.int (0 : Int32)]) rfl ?_
            replace h := Option.some.inj h
            subst h
            exact tk_RB (b := false)  rfl rfl rfl
          · replace h := tk_ifF hc5 h
            refine tk_bF  rfl rfl tk_eL_ne (c := (m.2.1 v0 (tk_n v6)) = (-9223372036854775808 : Int64)) hc5 (pc' := 102) (ls' := [(0, .ref v0), (4, .long v4), (6, .int v6)]) (st' := []) ?_
            refine tk_Ps  2 (pc' := 66) (ls' := [(6, .int (v6 + (1 : Int32))), (0, .ref v0), (4, .long v4)]) (st' := []) rfl ?_
            refine tk_Kp  (ls' := [(0, .ref v0), (4, .long v4), (6, .int (v6 + (1 : Int32)))]) rfl rfl ?_
            exact ih v0 v4 (v6 + (1 : Int32)) m (tk_al_of hv0) _ h
        · replace h := tk_ifF hc3 h
          refine tk_bF  rfl rfl tk_eL_ne (c := v4 = (-1 : Int64)) hc3 (pc' := 102) (ls' := [(0, .ref v0), (4, .long v4), (6, .int v6)]) (st' := []) ?_
          refine tk_Ps  2 (pc' := 66) (ls' := [(6, .int (v6 + (1 : Int32))), (0, .ref v0), (4, .long v4)]) (st' := []) rfl ?_
          refine tk_Kp  (ls' := [(0, .ref v0), (4, .long v4), (6, .int (v6 + (1 : Int32)))]) rfl rfl ?_
          exact ih v0 v4 (v6 + (1 : Int32)) m (tk_al_of hv0) _ h
theorem ok_fK_lower_47 (sc : tk_X) (v0 : Nat) (v1 : Int32) (v2 : Int64) (m : tk_m) (hv0 : tk_lay[v0]? = some (.inr (1, tk_al v0))) (out : Bool × tk_m) (h : fK_lower_47 v0 v1 v2 m = some out) : tk_Ex sc 1 tk_r51 tk_k51 47 [(0, .ref v0), (1, .int v1), (2, .long v2)] [] (tk_full m) (some (.int (tk_b out.1)), tk_full out.2) := by
  unfold fK_lower_47 at h
  refine tk_Ps  2 (pc' := 49) (ls' := [(0, .ref v0), (1, .int v1), (2, .long v2)]) (st' := [.int v1, .ref v0]) rfl ?_
  obtain ⟨hg1, h⟩ := tk_grd h
  refine tk_HJa  rfl rfl hv0 hg1 ?_
  refine tk_Ps  2 (pc' := 52) (ls' := [(0, .ref v0), (1, .int v1), (2, .long v2)]) (st' := [.int (lg_cmp (m.2.1 v0 (tk_n v1)) (0 : Int64))]) rfl ?_
  by_cases hc2 : (0 : Int64) ≤ (m.2.1 v0 (tk_n v1))
  · replace h := tk_ifT hc2 h
    refine tk_bT  rfl rfl tk_eL_ge (c := (0 : Int64) ≤ (m.2.1 v0 (tk_n v1))) hc2 (pc' := 59) (ls' := [(0, .ref v0), (1, .int v1), (2, .long v2)]) (st' := []) ?_
    refine tk_Ps  5 (pc' := 66) (ls' := [(6, .int (0 : Int32)), (4, .long (-v2)), (0, .ref v0), (1, .int v1), (2, .long v2)]) (st' := []) rfl ?_
    refine tk_Kp  (ls' := [(0, .ref v0), (4, .long (-v2)), (6, .int (0 : Int32))]) rfl rfl ?_
    exact ok_fK_lower_66 sc tk_F v0 (-v2) (0 : Int32) m (tk_al_of hv0) _ h
  · replace h := tk_ifF hc2 h
    refine tk_bF  rfl rfl tk_eL_ge (c := (0 : Int64) ≤ (m.2.1 v0 (tk_n v1))) hc2 (pc' := 55) (ls' := [(0, .ref v0), (1, .int v1), (2, .long v2)]) (st' := []) ?_
    refine tk_Ps  5 (pc' := 66) (ls' := [(6, .int (0 : Int32)), (4, .long v2), (0, .ref v0), (1, .int v1), (2, .long v2)]) (st' := []) rfl ?_
    refine tk_Kp  (ls' := [(0, .ref v0), (4, .long v2), (6, .int (0 : Int32))]) rfl rfl ?_
    exact ok_fK_lower_66 sc tk_F v0 v2 (0 : Int32) m (tk_al_of hv0) _ h
theorem ok_fK_lower_25 (sc : tk_X) : ∀ (n : Nat) (v0 : Nat) (v1 : Int32) (v2 : Int64) (v4 : Int32) (m : tk_m) (hv0 : tk_lay[v0]? = some (.inr (1, tk_al v0))) (out : Bool × tk_m), fK_lower_25 n v0 v1 v2 v4 m = some out → tk_Ex sc 1 tk_r51 tk_k51 25 [(0, .ref v0), (1, .int v1), (2, .long v2), (4, .int v4)] [] (tk_full m) (some (.int (tk_b out.1)), tk_full out.2) := by
  intro n
  induction n with
  | zero =>
    intro v0 v1 v2 v4 m hv0 out h
    cases h
  | succ n ih =>
    intro v0 v1 v2 v4 m hv0 out h
    unfold fK_lower_25 at h
    refine tk_Ps  2 (pc' := 28) (ls' := [(0, .ref v0), (1, .int v1), (2, .long v2), (4, .int v4)]) (st' := [.ref v0, .int v4]) rfl ?_
    refine tk_HL  rfl rfl hv0 ?_
    by_cases hc1 : (Int32.ofNat (tk_al v0)) ≤ v4
    · replace h := tk_ifT hc1 h
      refine tk_bT  rfl rfl rfl (c := (Int32.ofNat (tk_al v0)) ≤ v4) hc1 (pc' := 47) (ls' := [(0, .ref v0), (1, .int v1), (2, .long v2), (4, .int v4)]) (st' := []) ?_
      refine tk_Kp  (ls' := [(0, .ref v0), (1, .int v1), (2, .long v2)]) rfl rfl ?_
      exact ok_fK_lower_47 sc v0 v1 v2 m (tk_al_of hv0) _ h
    · replace h := tk_ifF hc1 h
      refine tk_bF  rfl rfl rfl (c := (Int32.ofNat (tk_al v0)) ≤ v4) hc1 (pc' := 32) (ls' := [(0, .ref v0), (1, .int v1), (2, .long v2), (4, .int v4)]) (st' := []) ?_
      refine tk_Ps  3 (pc' := 36) (ls' := [(0, .ref v0), (1, .int v1), (2, .long v2), (4, .int v4)]) (st' := [.int v4, .ref v0, .long v2]) rfl ?_
      obtain ⟨hg2, h⟩ := tk_grd h
      refine tk_HJa  rfl rfl hv0 hg2 ?_
      obtain ⟨o3, ho3, h⟩ := tk_bnd h
      refine tk_cS1  rfl rfl (as := [.long v2, .long (m.2.1 v0 (tk_n v4))]) (rest := []) rfl rfl rfl (ok_fK_negativeDivisor sc v2 (m.2.1 v0 (tk_n v4)) m ho3) ?_
      refine tk_Ps  3 (pc' := 25) (ls' := [(4, .int (v4 + (1 : Int32))), (2, .long o3), (0, .ref v0), (1, .int v1)]) (st' := []) rfl ?_
      refine tk_Kp  (ls' := [(0, .ref v0), (1, .int v1), (2, .long o3), (4, .int (v4 + (1 : Int32)))]) rfl rfl ?_
      exact ih v0 v1 o3 (v4 + (1 : Int32)) m (tk_al_of hv0) _ h
theorem ok_fK_lower (sc : tk_X) (a1 : Nat) (a2 : Int32) (m : tk_m) (ha1 : tk_lay[a1]? = some (.inr (1, tk_al a1))) {out : Bool × tk_m} (h : fK_lower a1 a2 m = some out) : tk_Ru sc 2 51 [.ref a1, .int a2] (tk_full m) (some (.int (tk_b out.1)), tk_full out.2) := by
  unfold fK_lower at h
  refine tk_Ru0 me51 (ls := [(0, .ref a1), (1, .int a2)]) rfl rfl ?_
  refine tk_Ps  1 (pc' := 1) (ls' := [(0, .ref a1), (1, .int a2)]) (st' := [.int a2]) rfl ?_
  by_cases hc1 : a2 < 0
  · replace h := tk_ifT hc1 h
    refine tk_bT  rfl rfl rfl (c := a2 < 0) hc1 (pc' := 18) (ls' := [(0, .ref a1), (1, .int a2)]) (st' := []) ?_
    refine tk_Ps  1 (pc' := 19) (ls' := [(0, .ref a1), (1, .int a2)]) (st' := [.int (0 : Int32)]) rfl ?_
    replace h := Option.some.inj h
    subst h
    exact tk_RB (b := false)  rfl rfl rfl
  · replace h := tk_ifF hc1 h
    refine tk_bF  rfl rfl rfl (c := a2 < 0) hc1 (pc' := 4) (ls' := [(0, .ref a1), (1, .int a2)]) (st' := []) ?_
    refine tk_Ps  2 (pc' := 6) (ls' := [(0, .ref a1), (1, .int a2)]) (st' := [.ref a1, .int a2]) rfl ?_
    refine tk_HL  rfl rfl ha1 ?_
    by_cases hc2 : (Int32.ofNat (tk_al a1)) ≤ a2
    · replace h := tk_ifT hc2 h
      refine tk_bT  rfl rfl rfl (c := (Int32.ofNat (tk_al a1)) ≤ a2) hc2 (pc' := 18) (ls' := [(0, .ref a1), (1, .int a2)]) (st' := []) ?_
      refine tk_Ps  1 (pc' := 19) (ls' := [(0, .ref a1), (1, .int a2)]) (st' := [.int (0 : Int32)]) rfl ?_
      replace h := Option.some.inj h
      subst h
      exact tk_RB (b := false)  rfl rfl rfl
    · replace h := tk_ifF hc2 h
      refine tk_bF  rfl rfl rfl (c := (Int32.ofNat (tk_al a1)) ≤ a2) hc2 (pc' := 10) (ls' := [(0, .ref a1), (1, .int a2)]) (st' := []) ?_
      refine tk_Ps  2 (pc' := 12) (ls' := [(0, .ref a1), (1, .int a2)]) (st' := [.int a2, .ref a1]) rfl ?_
      obtain ⟨hg3, h⟩ := tk_grd h
      refine tk_HJa  rfl rfl ha1 hg3 ?_
      refine tk_Ps  2 (pc' := 15) (ls' := [(0, .ref a1), (1, .int a2)]) (st' := [.int (lg_cmp (m.2.1 a1 (tk_n a2)) (0 : Int64))]) rfl ?_
      by_cases hc4 : (m.2.1 a1 (tk_n a2)) = (0 : Int64)
      · replace h := tk_ifT hc4 h
        refine tk_bT  rfl rfl tk_eL_ne (c := (m.2.1 a1 (tk_n a2)) = (0 : Int64)) hc4 (pc' := 18) (ls' := [(0, .ref a1), (1, .int a2)]) (st' := []) ?_
        refine tk_Ps  1 (pc' := 19) (ls' := [(0, .ref a1), (1, .int a2)]) (st' := [.int (0 : Int32)]) rfl ?_
        replace h := Option.some.inj h
        subst h
        exact tk_RB (b := false)  rfl rfl rfl
      · replace h := tk_ifF hc4 h
        refine tk_bF  rfl rfl tk_eL_ne (c := (m.2.1 a1 (tk_n a2)) = (0 : Int64)) hc4 (pc' := 20) (ls' := [(0, .ref a1), (1, .int a2)]) (st' := []) ?_
        refine tk_Ps  4 (pc' := 25) (ls' := [(4, .int (0 : Int32)), (2, .long (0 : Int64)), (0, .ref a1), (1, .int a2)]) (st' := []) rfl ?_
        refine tk_Kp  (ls' := [(0, .ref a1), (1, .int a2), (2, .long (0 : Int64)), (4, .int (0 : Int32))]) rfl rfl ?_
        exact ok_fK_lower_25 sc tk_F a1 a2 (0 : Int64) (0 : Int32) m (tk_al_of ha1) _ h
theorem ok_fK_equalPowers_74 (sc : tk_X) (v3 : Int32) (s0 : Int32) (m : tk_m) (out : Int32 × tk_m) (h : fK_equalPowers_74 v3 s0 m = some out) : tk_Ex sc 2 tk_r50 tk_k50 74 [(0, .ref 34), (3, .int v3)] [.int s0, .ref 38] (tk_full m) (some (.int out.1), tk_full out.2) := by
  unfold fK_equalPowers_74 at h
  obtain ⟨o1, ho1, h⟩ := tk_bnd h
  refine tk_cS1  rfl rfl (as := [.ref 38, .int s0]) (rest := []) rfl rfl rfl (ok_fK_lower sc 38 s0 m (tk_al_of ly38) ho1) ?_
  refine tk_Ps  2 (pc' := 79) (ls' := [(0, .ref 34), (3, .int v3)]) (st' := [.int v3]) rfl ?_
  by_cases hc2 : v3 < 0
  · replace h := tk_ifT hc2 h
    refine tk_bT  rfl rfl rfl (c := v3 < 0) hc2 (pc' := 101) (ls' := [(0, .ref 34), (3, .int v3)]) (st' := []) ?_
    refine tk_Ps  1 (pc' := 102) (ls' := [(0, .ref 34), (3, .int v3)]) (st' := [.int (0 : Int32)]) rfl ?_
    replace h := Option.some.inj h
    subst h
    exact tk_RI  rfl rfl rfl
  · replace h := tk_ifF hc2 h
    refine tk_bF  rfl rfl rfl (c := v3 < 0) hc2 (pc' := 82) (ls' := [(0, .ref 34), (3, .int v3)]) (st' := []) ?_
    refine tk_Ps  2 (pc' := 84) (ls' := [(0, .ref 34), (3, .int v3)]) (st' := [.ref 34, .int v3]) rfl ?_
    refine tk_HR  rfl rfl ly34 rt34_3 ?_
    refine tk_HL  rfl rfl ly38 ?_
    by_cases hc3 : (3 : Int32) ≤ v3
    · replace h := tk_ifT hc3 h
      refine tk_bT  rfl rfl rfl (c := (3 : Int32) ≤ v3) hc3 (pc' := 101) (ls' := [(0, .ref 34), (3, .int v3)]) (st' := []) ?_
      refine tk_Ps  1 (pc' := 102) (ls' := [(0, .ref 34), (3, .int v3)]) (st' := [.int (0 : Int32)]) rfl ?_
      replace h := Option.some.inj h
      subst h
      exact tk_RI  rfl rfl rfl
    · replace h := tk_ifF hc3 h
      refine tk_bF  rfl rfl rfl (c := (3 : Int32) ≤ v3) hc3 (pc' := 91) (ls' := [(0, .ref 34), (3, .int v3)]) (st' := []) ?_
      refine tk_Ps  1 (pc' := 92) (ls' := [(0, .ref 34), (3, .int v3)]) (st' := [.ref 34]) rfl ?_
      refine tk_HR  rfl rfl ly34 rt34_3 ?_
      refine tk_Ps  1 (pc' := 96) (ls' := [(0, .ref 34), (3, .int v3)]) (st' := [.int v3, .ref 38]) rfl ?_
      obtain ⟨hg4, h⟩ := tk_grd h
      refine tk_HJa  rfl rfl ly38 hg4 ?_
      refine tk_Ps  2 (pc' := 102) (ls' := [(0, .ref 34), (3, .int v3)]) (st' := [.int (Int64.toInt32 (o1.2.2.1 38 (tk_n v3)))]) rfl ?_
      replace h := Option.some.inj h
      subst h
      exact tk_RI  rfl rfl rfl
theorem ok_fK_equalPowers (sc : tk_X) (a1 : Nat) (a2 : Nat) (a3 : Int32) (m : tk_m) (ha1 : tk_lay[a1]? = some (.inl 6)) (ha2 : tk_lay[a2]? = some (.inl 6)) {out : Int32 × tk_m} (h : fK_equalPowers a1 a2 a3 m = some out) : tk_Ru sc 3 50 [.ref 34, .ref a1, .ref a2, .int a3] (tk_full m) (some (.int out.1), tk_full out.2) := by
  unfold fK_equalPowers at h
  refine tk_Ru0 me50 (ls := [(0, .ref 34), (1, .ref a1), (2, .ref a2), (3, .int a3)]) rfl rfl ?_
  refine tk_Ps  1 (pc' := 1) (ls' := [(0, .ref 34), (1, .ref a1), (2, .ref a2), (3, .int a3)]) (st' := [.ref 34]) rfl ?_
  refine tk_HR  rfl rfl ly34 rt34_3 ?_
  refine tk_Ps  3 (pc' := 7) (ls' := [(0, .ref 34), (1, .ref a1), (2, .ref a2), (3, .int a3)]) (st' := [.int (1 : Int32), .ref a1, .int (0 : Int32), .ref 38]) rfl ?_
  refine tk_cV1  rfl rfl (r := a1) (as := [.int (1 : Int32)]) (rest := [.int (0 : Int32), .ref 38]) rfl ha1 rfl rfl (ok_fH_formNumber sc a1 (1 : Int32) m ha1) ?_
  refine tk_Ps  2 (pc' := 12) (ls' := [(0, .ref 34), (1, .ref a1), (2, .ref a2), (3, .int a3)]) (st' := [.int (1 : Int32), .ref a2, .int (fH_formNumber a1 (1 : Int32) m), .int (0 : Int32), .ref 38]) rfl ?_
  refine tk_cV1  rfl rfl (r := a2) (as := [.int (1 : Int32)]) (rest := [.int (fH_formNumber a1 (1 : Int32) m), .int (0 : Int32), .ref 38]) rfl ha2 rfl rfl (ok_fH_formNumber sc a2 (1 : Int32) m ha2) ?_
  refine tk_Ps  2 (pc' := 17) (ls' := [(0, .ref 34), (1, .ref a1), (2, .ref a2), (3, .int a3)]) (st' := [.long (Int32.toInt64 ((fH_formNumber a1 (1 : Int32) m) - (fH_formNumber a2 (1 : Int32) m))), .int (0 : Int32), .ref 38]) rfl ?_
  refine tk_SJa  rfl rfl ly38 (by decide) ?_
  refine tk_Ps  1 (pc' := 19) (ls' := [(0, .ref 34), (1, .ref a1), (2, .ref a2), (3, .int a3)]) (st' := [.ref 34]) rfl ?_
  refine tk_HR  rfl rfl ly34 rt34_3 ?_
  refine tk_Ps  3 (pc' := 25) (ls' := [(0, .ref 34), (1, .ref a1), (2, .ref a2), (3, .int a3)]) (st' := [.int (2 : Int32), .ref a1, .int (1 : Int32), .ref 38]) rfl ?_
  refine tk_cV1  rfl rfl (r := a1) (as := [.int (2 : Int32)]) (rest := [.int (1 : Int32), .ref 38]) rfl ha1 rfl rfl (ok_fH_formNumber sc a1 (2 : Int32) (m.1, tk_u2 m.2.1 38 0 (Int32.toInt64 ((fH_formNumber a1 (1 : Int32) m) - (fH_formNumber a2 (1 : Int32) m))), m.2.2.1, m.2.2.2) ha1) ?_
  refine tk_Ps  2 (pc' := 30) (ls' := [(0, .ref 34), (1, .ref a1), (2, .ref a2), (3, .int a3)]) (st' := [.int (2 : Int32), .ref a2, .int (fH_formNumber a1 (2 : Int32) (m.1, tk_u2 m.2.1 38 0 (Int32.toInt64 ((fH_formNumber a1 (1 : Int32) m) - (fH_formNumber a2 (1 : Int32) m))), m.2.2.1, m.2.2.2)), .int (1 : Int32), .ref 38]) rfl ?_
  refine tk_cV1  rfl rfl (r := a2) (as := [.int (2 : Int32)]) (rest := [.int (fH_formNumber a1 (2 : Int32) (m.1, tk_u2 m.2.1 38 0 (Int32.toInt64 ((fH_formNumber a1 (1 : Int32) m) - (fH_formNumber a2 (1 : Int32) m))), m.2.2.1, m.2.2.2)), .int (1 : Int32), .ref 38]) rfl ha2 rfl rfl (ok_fH_formNumber sc a2 (2 : Int32) (m.1, tk_u2 m.2.1 38 0 (Int32.toInt64 ((fH_formNumber a1 (1 : Int32) m) - (fH_formNumber a2 (1 : Int32) m))), m.2.2.1, m.2.2.2) ha2) ?_
  refine tk_Ps  2 (pc' := 35) (ls' := [(0, .ref 34), (1, .ref a1), (2, .ref a2), (3, .int a3)]) (st' := [.long (Int32.toInt64 ((fH_formNumber a1 (2 : Int32) (m.1, tk_u2 m.2.1 38 0 (Int32.toInt64 ((fH_formNumber a1 (1 : Int32) m) - (fH_formNumber a2 (1 : Int32) m))), m.2.2.1, m.2.2.2)) - (fH_formNumber a2 (2 : Int32) (m.1, tk_u2 m.2.1 38 0 (Int32.toInt64 ((fH_formNumber a1 (1 : Int32) m) - (fH_formNumber a2 (1 : Int32) m))), m.2.2.1, m.2.2.2)))), .int (1 : Int32), .ref 38]) rfl ?_
  refine tk_SJa  rfl rfl ly38 (by decide) ?_
  refine tk_Ps  1 (pc' := 37) (ls' := [(0, .ref 34), (1, .ref a1), (2, .ref a2), (3, .int a3)]) (st' := [.ref 34]) rfl ?_
  refine tk_HR  rfl rfl ly34 rt34_3 ?_
  refine tk_Ps  3 (pc' := 43) (ls' := [(0, .ref 34), (1, .ref a1), (2, .ref a2), (3, .int a3)]) (st' := [.int (3 : Int32), .ref a2, .int (2 : Int32), .ref 38]) rfl ?_
  refine tk_cV1  rfl rfl (r := a2) (as := [.int (3 : Int32)]) (rest := [.int (2 : Int32), .ref 38]) rfl ha2 rfl rfl (ok_fH_formNumber sc a2 (3 : Int32) (m.1, tk_u2 (tk_u2 m.2.1 38 0 (Int32.toInt64 ((fH_formNumber a1 (1 : Int32) m) - (fH_formNumber a2 (1 : Int32) m)))) 38 1 (Int32.toInt64 ((fH_formNumber a1 (2 : Int32) (m.1, tk_u2 m.2.1 38 0 (Int32.toInt64 ((fH_formNumber a1 (1 : Int32) m) - (fH_formNumber a2 (1 : Int32) m))), m.2.2.1, m.2.2.2)) - (fH_formNumber a2 (2 : Int32) (m.1, tk_u2 m.2.1 38 0 (Int32.toInt64 ((fH_formNumber a1 (1 : Int32) m) - (fH_formNumber a2 (1 : Int32) m))), m.2.2.1, m.2.2.2)))), m.2.2.1, m.2.2.2) ha2) ?_
  refine tk_Ps  2 (pc' := 48) (ls' := [(0, .ref 34), (1, .ref a1), (2, .ref a2), (3, .int a3)]) (st' := [.int (3 : Int32), .ref a1, .int (fH_formNumber a2 (3 : Int32) (m.1, tk_u2 (tk_u2 m.2.1 38 0 (Int32.toInt64 ((fH_formNumber a1 (1 : Int32) m) - (fH_formNumber a2 (1 : Int32) m)))) 38 1 (Int32.toInt64 ((fH_formNumber a1 (2 : Int32) (m.1, tk_u2 m.2.1 38 0 (Int32.toInt64 ((fH_formNumber a1 (1 : Int32) m) - (fH_formNumber a2 (1 : Int32) m))), m.2.2.1, m.2.2.2)) - (fH_formNumber a2 (2 : Int32) (m.1, tk_u2 m.2.1 38 0 (Int32.toInt64 ((fH_formNumber a1 (1 : Int32) m) - (fH_formNumber a2 (1 : Int32) m))), m.2.2.1, m.2.2.2)))), m.2.2.1, m.2.2.2)), .int (2 : Int32), .ref 38]) rfl ?_
  refine tk_cV1  rfl rfl (r := a1) (as := [.int (3 : Int32)]) (rest := [.int (fH_formNumber a2 (3 : Int32) (m.1, tk_u2 (tk_u2 m.2.1 38 0 (Int32.toInt64 ((fH_formNumber a1 (1 : Int32) m) - (fH_formNumber a2 (1 : Int32) m)))) 38 1 (Int32.toInt64 ((fH_formNumber a1 (2 : Int32) (m.1, tk_u2 m.2.1 38 0 (Int32.toInt64 ((fH_formNumber a1 (1 : Int32) m) - (fH_formNumber a2 (1 : Int32) m))), m.2.2.1, m.2.2.2)) - (fH_formNumber a2 (2 : Int32) (m.1, tk_u2 m.2.1 38 0 (Int32.toInt64 ((fH_formNumber a1 (1 : Int32) m) - (fH_formNumber a2 (1 : Int32) m))), m.2.2.1, m.2.2.2)))), m.2.2.1, m.2.2.2)), .int (2 : Int32), .ref 38]) rfl ha1 rfl rfl (ok_fH_formNumber sc a1 (3 : Int32) (m.1, tk_u2 (tk_u2 m.2.1 38 0 (Int32.toInt64 ((fH_formNumber a1 (1 : Int32) m) - (fH_formNumber a2 (1 : Int32) m)))) 38 1 (Int32.toInt64 ((fH_formNumber a1 (2 : Int32) (m.1, tk_u2 m.2.1 38 0 (Int32.toInt64 ((fH_formNumber a1 (1 : Int32) m) - (fH_formNumber a2 (1 : Int32) m))), m.2.2.1, m.2.2.2)) - (fH_formNumber a2 (2 : Int32) (m.1, tk_u2 m.2.1 38 0 (Int32.toInt64 ((fH_formNumber a1 (1 : Int32) m) - (fH_formNumber a2 (1 : Int32) m))), m.2.2.1, m.2.2.2)))), m.2.2.1, m.2.2.2) ha1) ?_
  refine tk_Ps  2 (pc' := 53) (ls' := [(0, .ref 34), (1, .ref a1), (2, .ref a2), (3, .int a3)]) (st' := [.long (Int32.toInt64 ((fH_formNumber a2 (3 : Int32) (m.1, tk_u2 (tk_u2 m.2.1 38 0 (Int32.toInt64 ((fH_formNumber a1 (1 : Int32) m) - (fH_formNumber a2 (1 : Int32) m)))) 38 1 (Int32.toInt64 ((fH_formNumber a1 (2 : Int32) (m.1, tk_u2 m.2.1 38 0 (Int32.toInt64 ((fH_formNumber a1 (1 : Int32) m) - (fH_formNumber a2 (1 : Int32) m))), m.2.2.1, m.2.2.2)) - (fH_formNumber a2 (2 : Int32) (m.1, tk_u2 m.2.1 38 0 (Int32.toInt64 ((fH_formNumber a1 (1 : Int32) m) - (fH_formNumber a2 (1 : Int32) m))), m.2.2.1, m.2.2.2)))), m.2.2.1, m.2.2.2)) - (fH_formNumber a1 (3 : Int32) (m.1, tk_u2 (tk_u2 m.2.1 38 0 (Int32.toInt64 ((fH_formNumber a1 (1 : Int32) m) - (fH_formNumber a2 (1 : Int32) m)))) 38 1 (Int32.toInt64 ((fH_formNumber a1 (2 : Int32) (m.1, tk_u2 m.2.1 38 0 (Int32.toInt64 ((fH_formNumber a1 (1 : Int32) m) - (fH_formNumber a2 (1 : Int32) m))), m.2.2.1, m.2.2.2)) - (fH_formNumber a2 (2 : Int32) (m.1, tk_u2 m.2.1 38 0 (Int32.toInt64 ((fH_formNumber a1 (1 : Int32) m) - (fH_formNumber a2 (1 : Int32) m))), m.2.2.1, m.2.2.2)))), m.2.2.1, m.2.2.2)))), .int (2 : Int32), .ref 38]) rfl ?_
  refine tk_SJa  rfl rfl ly38 (by decide) ?_
  refine tk_Ps  1 (pc' := 55) (ls' := [(0, .ref 34), (1, .ref a1), (2, .ref a2), (3, .int a3)]) (st' := [.ref 34]) rfl ?_
  refine tk_HR  rfl rfl ly34 rt34_3 ?_
  refine tk_Ps  1 (pc' := 59) (ls' := [(0, .ref 34), (1, .ref a1), (2, .ref a2), (3, .int a3)]) (st' := [.ref 34, .ref 38]) rfl ?_
  refine tk_HR  rfl rfl ly34 rt34_3 ?_
  refine tk_Ps  1 (pc' := 63) (ls' := [(0, .ref 34), (1, .ref a1), (2, .ref a2), (3, .int a3)]) (st' := [.int (0 : Int32), .ref 38, .ref 38]) rfl ?_
  refine tk_HJa  rfl rfl ly38 (by decide) ?_
  refine tk_Ps  2 (pc' := 66) (ls' := [(0, .ref 34), (1, .ref a1), (2, .ref a2), (3, .int a3)]) (st' := [.int (lg_cmp (tk_u2 (tk_u2 (tk_u2 m.2.1 38 0 (Int32.toInt64 ((fH_formNumber a1 (1 : Int32) m) - (fH_formNumber a2 (1 : Int32) m)))) 38 1 (Int32.toInt64 ((fH_formNumber a1 (2 : Int32) (m.1, tk_u2 m.2.1 38 0 (Int32.toInt64 ((fH_formNumber a1 (1 : Int32) m) - (fH_formNumber a2 (1 : Int32) m))), m.2.2.1, m.2.2.2)) - (fH_formNumber a2 (2 : Int32) (m.1, tk_u2 m.2.1 38 0 (Int32.toInt64 ((fH_formNumber a1 (1 : Int32) m) - (fH_formNumber a2 (1 : Int32) m))), m.2.2.1, m.2.2.2))))) 38 2 (Int32.toInt64 ((fH_formNumber a2 (3 : Int32) (m.1, tk_u2 (tk_u2 m.2.1 38 0 (Int32.toInt64 ((fH_formNumber a1 (1 : Int32) m) - (fH_formNumber a2 (1 : Int32) m)))) 38 1 (Int32.toInt64 ((fH_formNumber a1 (2 : Int32) (m.1, tk_u2 m.2.1 38 0 (Int32.toInt64 ((fH_formNumber a1 (1 : Int32) m) - (fH_formNumber a2 (1 : Int32) m))), m.2.2.1, m.2.2.2)) - (fH_formNumber a2 (2 : Int32) (m.1, tk_u2 m.2.1 38 0 (Int32.toInt64 ((fH_formNumber a1 (1 : Int32) m) - (fH_formNumber a2 (1 : Int32) m))), m.2.2.1, m.2.2.2)))), m.2.2.1, m.2.2.2)) - (fH_formNumber a1 (3 : Int32) (m.1, tk_u2 (tk_u2 m.2.1 38 0 (Int32.toInt64 ((fH_formNumber a1 (1 : Int32) m) - (fH_formNumber a2 (1 : Int32) m)))) 38 1 (Int32.toInt64 ((fH_formNumber a1 (2 : Int32) (m.1, tk_u2 m.2.1 38 0 (Int32.toInt64 ((fH_formNumber a1 (1 : Int32) m) - (fH_formNumber a2 (1 : Int32) m))), m.2.2.1, m.2.2.2)) - (fH_formNumber a2 (2 : Int32) (m.1, tk_u2 m.2.1 38 0 (Int32.toInt64 ((fH_formNumber a1 (1 : Int32) m) - (fH_formNumber a2 (1 : Int32) m))), m.2.2.1, m.2.2.2)))), m.2.2.1, m.2.2.2)))) 38 0) (0 : Int64)), .ref 38]) rfl ?_
  by_cases hc1 : (tk_u2 (tk_u2 (tk_u2 m.2.1 38 0 (Int32.toInt64 ((fH_formNumber a1 (1 : Int32) m) - (fH_formNumber a2 (1 : Int32) m)))) 38 1 (Int32.toInt64 ((fH_formNumber a1 (2 : Int32) (m.1, tk_u2 m.2.1 38 0 (Int32.toInt64 ((fH_formNumber a1 (1 : Int32) m) - (fH_formNumber a2 (1 : Int32) m))), m.2.2.1, m.2.2.2)) - (fH_formNumber a2 (2 : Int32) (m.1, tk_u2 m.2.1 38 0 (Int32.toInt64 ((fH_formNumber a1 (1 : Int32) m) - (fH_formNumber a2 (1 : Int32) m))), m.2.2.1, m.2.2.2))))) 38 2 (Int32.toInt64 ((fH_formNumber a2 (3 : Int32) (m.1, tk_u2 (tk_u2 m.2.1 38 0 (Int32.toInt64 ((fH_formNumber a1 (1 : Int32) m) - (fH_formNumber a2 (1 : Int32) m)))) 38 1 (Int32.toInt64 ((fH_formNumber a1 (2 : Int32) (m.1, tk_u2 m.2.1 38 0 (Int32.toInt64 ((fH_formNumber a1 (1 : Int32) m) - (fH_formNumber a2 (1 : Int32) m))), m.2.2.1, m.2.2.2)) - (fH_formNumber a2 (2 : Int32) (m.1, tk_u2 m.2.1 38 0 (Int32.toInt64 ((fH_formNumber a1 (1 : Int32) m) - (fH_formNumber a2 (1 : Int32) m))), m.2.2.1, m.2.2.2)))), m.2.2.1, m.2.2.2)) - (fH_formNumber a1 (3 : Int32) (m.1, tk_u2 (tk_u2 m.2.1 38 0 (Int32.toInt64 ((fH_formNumber a1 (1 : Int32) m) - (fH_formNumber a2 (1 : Int32) m)))) 38 1 (Int32.toInt64 ((fH_formNumber a1 (2 : Int32) (m.1, tk_u2 m.2.1 38 0 (Int32.toInt64 ((fH_formNumber a1 (1 : Int32) m) - (fH_formNumber a2 (1 : Int32) m))), m.2.2.1, m.2.2.2)) - (fH_formNumber a2 (2 : Int32) (m.1, tk_u2 m.2.1 38 0 (Int32.toInt64 ((fH_formNumber a1 (1 : Int32) m) - (fH_formNumber a2 (1 : Int32) m))), m.2.2.1, m.2.2.2)))), m.2.2.1, m.2.2.2)))) 38 0) = (0 : Int64)
  · replace h := tk_ifT hc1 h
    refine tk_bT  rfl rfl tk_eL_eq (c := (tk_u2 (tk_u2 (tk_u2 m.2.1 38 0 (Int32.toInt64 ((fH_formNumber a1 (1 : Int32) m) - (fH_formNumber a2 (1 : Int32) m)))) 38 1 (Int32.toInt64 ((fH_formNumber a1 (2 : Int32) (m.1, tk_u2 m.2.1 38 0 (Int32.toInt64 ((fH_formNumber a1 (1 : Int32) m) - (fH_formNumber a2 (1 : Int32) m))), m.2.2.1, m.2.2.2)) - (fH_formNumber a2 (2 : Int32) (m.1, tk_u2 m.2.1 38 0 (Int32.toInt64 ((fH_formNumber a1 (1 : Int32) m) - (fH_formNumber a2 (1 : Int32) m))), m.2.2.1, m.2.2.2))))) 38 2 (Int32.toInt64 ((fH_formNumber a2 (3 : Int32) (m.1, tk_u2 (tk_u2 m.2.1 38 0 (Int32.toInt64 ((fH_formNumber a1 (1 : Int32) m) - (fH_formNumber a2 (1 : Int32) m)))) 38 1 (Int32.toInt64 ((fH_formNumber a1 (2 : Int32) (m.1, tk_u2 m.2.1 38 0 (Int32.toInt64 ((fH_formNumber a1 (1 : Int32) m) - (fH_formNumber a2 (1 : Int32) m))), m.2.2.1, m.2.2.2)) - (fH_formNumber a2 (2 : Int32) (m.1, tk_u2 m.2.1 38 0 (Int32.toInt64 ((fH_formNumber a1 (1 : Int32) m) - (fH_formNumber a2 (1 : Int32) m))), m.2.2.1, m.2.2.2)))), m.2.2.1, m.2.2.2)) - (fH_formNumber a1 (3 : Int32) (m.1, tk_u2 (tk_u2 m.2.1 38 0 (Int32.toInt64 ((fH_formNumber a1 (1 : Int32) m) - (fH_formNumber a2 (1 : Int32) m)))) 38 1 (Int32.toInt64 ((fH_formNumber a1 (2 : Int32) (m.1, tk_u2 m.2.1 38 0 (Int32.toInt64 ((fH_formNumber a1 (1 : Int32) m) - (fH_formNumber a2 (1 : Int32) m))), m.2.2.1, m.2.2.2)) - (fH_formNumber a2 (2 : Int32) (m.1, tk_u2 m.2.1 38 0 (Int32.toInt64 ((fH_formNumber a1 (1 : Int32) m) - (fH_formNumber a2 (1 : Int32) m))), m.2.2.1, m.2.2.2)))), m.2.2.1, m.2.2.2)))) 38 0) = (0 : Int64)) hc1 (pc' := 73) (ls' := [(0, .ref 34), (1, .ref a1), (2, .ref a2), (3, .int a3)]) (st' := [.ref 38]) ?_
    refine tk_Ps  1 (pc' := 74) (ls' := [(0, .ref 34), (1, .ref a1), (2, .ref a2), (3, .int a3)]) (st' := [.int (1 : Int32), .ref 38]) rfl ?_
    refine tk_Kp  (ls' := [(0, .ref 34), (3, .int a3)]) rfl rfl ?_
    exact ok_fK_equalPowers_74 sc a3 (1 : Int32) (m.1, tk_u2 (tk_u2 (tk_u2 m.2.1 38 0 (Int32.toInt64 ((fH_formNumber a1 (1 : Int32) m) - (fH_formNumber a2 (1 : Int32) m)))) 38 1 (Int32.toInt64 ((fH_formNumber a1 (2 : Int32) (m.1, tk_u2 m.2.1 38 0 (Int32.toInt64 ((fH_formNumber a1 (1 : Int32) m) - (fH_formNumber a2 (1 : Int32) m))), m.2.2.1, m.2.2.2)) - (fH_formNumber a2 (2 : Int32) (m.1, tk_u2 m.2.1 38 0 (Int32.toInt64 ((fH_formNumber a1 (1 : Int32) m) - (fH_formNumber a2 (1 : Int32) m))), m.2.2.1, m.2.2.2))))) 38 2 (Int32.toInt64 ((fH_formNumber a2 (3 : Int32) (m.1, tk_u2 (tk_u2 m.2.1 38 0 (Int32.toInt64 ((fH_formNumber a1 (1 : Int32) m) - (fH_formNumber a2 (1 : Int32) m)))) 38 1 (Int32.toInt64 ((fH_formNumber a1 (2 : Int32) (m.1, tk_u2 m.2.1 38 0 (Int32.toInt64 ((fH_formNumber a1 (1 : Int32) m) - (fH_formNumber a2 (1 : Int32) m))), m.2.2.1, m.2.2.2)) - (fH_formNumber a2 (2 : Int32) (m.1, tk_u2 m.2.1 38 0 (Int32.toInt64 ((fH_formNumber a1 (1 : Int32) m) - (fH_formNumber a2 (1 : Int32) m))), m.2.2.1, m.2.2.2)))), m.2.2.1, m.2.2.2)) - (fH_formNumber a1 (3 : Int32) (m.1, tk_u2 (tk_u2 m.2.1 38 0 (Int32.toInt64 ((fH_formNumber a1 (1 : Int32) m) - (fH_formNumber a2 (1 : Int32) m)))) 38 1 (Int32.toInt64 ((fH_formNumber a1 (2 : Int32) (m.1, tk_u2 m.2.1 38 0 (Int32.toInt64 ((fH_formNumber a1 (1 : Int32) m) - (fH_formNumber a2 (1 : Int32) m))), m.2.2.1, m.2.2.2)) - (fH_formNumber a2 (2 : Int32) (m.1, tk_u2 m.2.1 38 0 (Int32.toInt64 ((fH_formNumber a1 (1 : Int32) m) - (fH_formNumber a2 (1 : Int32) m))), m.2.2.1, m.2.2.2)))), m.2.2.1, m.2.2.2)))), m.2.2.1, m.2.2.2) _ h
  · replace h := tk_ifF hc1 h
    refine tk_bF  rfl rfl tk_eL_eq (c := (tk_u2 (tk_u2 (tk_u2 m.2.1 38 0 (Int32.toInt64 ((fH_formNumber a1 (1 : Int32) m) - (fH_formNumber a2 (1 : Int32) m)))) 38 1 (Int32.toInt64 ((fH_formNumber a1 (2 : Int32) (m.1, tk_u2 m.2.1 38 0 (Int32.toInt64 ((fH_formNumber a1 (1 : Int32) m) - (fH_formNumber a2 (1 : Int32) m))), m.2.2.1, m.2.2.2)) - (fH_formNumber a2 (2 : Int32) (m.1, tk_u2 m.2.1 38 0 (Int32.toInt64 ((fH_formNumber a1 (1 : Int32) m) - (fH_formNumber a2 (1 : Int32) m))), m.2.2.1, m.2.2.2))))) 38 2 (Int32.toInt64 ((fH_formNumber a2 (3 : Int32) (m.1, tk_u2 (tk_u2 m.2.1 38 0 (Int32.toInt64 ((fH_formNumber a1 (1 : Int32) m) - (fH_formNumber a2 (1 : Int32) m)))) 38 1 (Int32.toInt64 ((fH_formNumber a1 (2 : Int32) (m.1, tk_u2 m.2.1 38 0 (Int32.toInt64 ((fH_formNumber a1 (1 : Int32) m) - (fH_formNumber a2 (1 : Int32) m))), m.2.2.1, m.2.2.2)) - (fH_formNumber a2 (2 : Int32) (m.1, tk_u2 m.2.1 38 0 (Int32.toInt64 ((fH_formNumber a1 (1 : Int32) m) - (fH_formNumber a2 (1 : Int32) m))), m.2.2.1, m.2.2.2)))), m.2.2.1, m.2.2.2)) - (fH_formNumber a1 (3 : Int32) (m.1, tk_u2 (tk_u2 m.2.1 38 0 (Int32.toInt64 ((fH_formNumber a1 (1 : Int32) m) - (fH_formNumber a2 (1 : Int32) m)))) 38 1 (Int32.toInt64 ((fH_formNumber a1 (2 : Int32) (m.1, tk_u2 m.2.1 38 0 (Int32.toInt64 ((fH_formNumber a1 (1 : Int32) m) - (fH_formNumber a2 (1 : Int32) m))), m.2.2.1, m.2.2.2)) - (fH_formNumber a2 (2 : Int32) (m.1, tk_u2 m.2.1 38 0 (Int32.toInt64 ((fH_formNumber a1 (1 : Int32) m) - (fH_formNumber a2 (1 : Int32) m))), m.2.2.1, m.2.2.2)))), m.2.2.1, m.2.2.2)))) 38 0) = (0 : Int64)) hc1 (pc' := 69) (ls' := [(0, .ref 34), (1, .ref a1), (2, .ref a2), (3, .int a3)]) (st' := [.ref 38]) ?_
    refine tk_Ps  2 (pc' := 74) (ls' := [(0, .ref 34), (1, .ref a1), (2, .ref a2), (3, .int a3)]) (st' := [.int (0 : Int32), .ref 38]) rfl ?_
    refine tk_Kp  (ls' := [(0, .ref 34), (3, .int a3)]) rfl rfl ?_
    exact ok_fK_equalPowers_74 sc a3 (0 : Int32) (m.1, tk_u2 (tk_u2 (tk_u2 m.2.1 38 0 (Int32.toInt64 ((fH_formNumber a1 (1 : Int32) m) - (fH_formNumber a2 (1 : Int32) m)))) 38 1 (Int32.toInt64 ((fH_formNumber a1 (2 : Int32) (m.1, tk_u2 m.2.1 38 0 (Int32.toInt64 ((fH_formNumber a1 (1 : Int32) m) - (fH_formNumber a2 (1 : Int32) m))), m.2.2.1, m.2.2.2)) - (fH_formNumber a2 (2 : Int32) (m.1, tk_u2 m.2.1 38 0 (Int32.toInt64 ((fH_formNumber a1 (1 : Int32) m) - (fH_formNumber a2 (1 : Int32) m))), m.2.2.1, m.2.2.2))))) 38 2 (Int32.toInt64 ((fH_formNumber a2 (3 : Int32) (m.1, tk_u2 (tk_u2 m.2.1 38 0 (Int32.toInt64 ((fH_formNumber a1 (1 : Int32) m) - (fH_formNumber a2 (1 : Int32) m)))) 38 1 (Int32.toInt64 ((fH_formNumber a1 (2 : Int32) (m.1, tk_u2 m.2.1 38 0 (Int32.toInt64 ((fH_formNumber a1 (1 : Int32) m) - (fH_formNumber a2 (1 : Int32) m))), m.2.2.1, m.2.2.2)) - (fH_formNumber a2 (2 : Int32) (m.1, tk_u2 m.2.1 38 0 (Int32.toInt64 ((fH_formNumber a1 (1 : Int32) m) - (fH_formNumber a2 (1 : Int32) m))), m.2.2.1, m.2.2.2)))), m.2.2.1, m.2.2.2)) - (fH_formNumber a1 (3 : Int32) (m.1, tk_u2 (tk_u2 m.2.1 38 0 (Int32.toInt64 ((fH_formNumber a1 (1 : Int32) m) - (fH_formNumber a2 (1 : Int32) m)))) 38 1 (Int32.toInt64 ((fH_formNumber a1 (2 : Int32) (m.1, tk_u2 m.2.1 38 0 (Int32.toInt64 ((fH_formNumber a1 (1 : Int32) m) - (fH_formNumber a2 (1 : Int32) m))), m.2.2.1, m.2.2.2)) - (fH_formNumber a2 (2 : Int32) (m.1, tk_u2 m.2.1 38 0 (Int32.toInt64 ((fH_formNumber a1 (1 : Int32) m) - (fH_formNumber a2 (1 : Int32) m))), m.2.2.1, m.2.2.2)))), m.2.2.1, m.2.2.2)))), m.2.2.1, m.2.2.2) _ h
theorem ok_fX_radical (sc : tk_X) (a1 : Int32) (a2 : Int32) (a3 : Int32) (m : tk_m) {out : Int32 × tk_m} (h : fX_radical a1 a2 a3 m = some out) : tk_Ru sc 4 49 [.ref 0, .int a1, .int a2, .int a3] (tk_full m) (some (.int out.1), tk_full out.2) := by
  unfold fX_radical at h
  refine tk_Ru0 me49 (ls := [(0, .ref 0), (1, .int a1), (2, .int a2), (3, .int a3)]) rfl rfl ?_
  refine tk_Ps  3 (pc' := 3) (ls' := [(0, .ref 0), (1, .int a1), (2, .int a2), (3, .int a3)]) (st' := [.int a2, .int a1, .ref 0]) rfl ?_
  refine tk_cV1  rfl rfl (r := 0) (as := [.int a1, .int a2]) (rest := []) rfl ly0 rfl rfl (ok_fX_areTwoShapes sc a1 a2 m) ?_
  by_cases hc1 : (fX_areTwoShapes a1 a2 m) = true
  · replace h := tk_ifT hc1 h
    refine tk_bT  rfl rfl tk_eB_eq (c := (fX_areTwoShapes a1 a2 m) = true) hc1 (pc' := 9) (ls' := [(0, .ref 0), (1, .int a1), (2, .int a2), (3, .int a3)]) (st' := []) ?_
    refine tk_Ps  3 (pc' := 12) (ls' := [(0, .ref 0), (1, .int a1), (2, .int a2), (3, .int a3)]) (st' := [.int (2 : Int32), .int (0 : Int32), .int a3]) rfl ?_
    refine tk_cS1  rfl rfl (as := [.int a3, .int (0 : Int32), .int (2 : Int32)]) (rest := []) rfl rfl rfl (ok_fX_isWithin sc a3 (0 : Int32) (2 : Int32) m) ?_
    by_cases hc2 : (fX_isWithin a3 (0 : Int32) (2 : Int32)) = true
    · replace h := tk_ifT hc2 h
      refine tk_bT  rfl rfl tk_eB_ne (c := (fX_isWithin a3 (0 : Int32) (2 : Int32)) = true) hc2 (pc' := 24) (ls' := [(0, .ref 0), (1, .int a1), (2, .int a2), (3, .int a3)]) (st' := []) ?_
      refine tk_Ps  1 (pc' := 25) (ls' := [(0, .ref 0), (1, .int a1), (2, .int a2), (3, .int a3)]) (st' := [.ref 0]) rfl ?_
      refine tk_HR  rfl rfl ly0 rt0_0 ?_
      refine tk_HR  rfl rfl ly1 rt1_0 ?_
      refine tk_Ps  1 (pc' := 32) (ls' := [(0, .ref 0), (1, .int a1), (2, .int a2), (3, .int a3)]) (st' := [.int a1, .ref 2]) rfl ?_
      obtain ⟨hg3, h⟩ := tk_grd h
      refine tk_HP  rfl rfl ly2 hg3 ?_
      refine tk_Ps  2 (pc' := 36) (ls' := [(4, .ref (2 + 2 + (m.2.2.2 2 (tk_n a1)).val)), (0, .ref 0), (1, .int a1), (2, .int a2), (3, .int a3)]) (st' := [.ref 0]) rfl ?_
      refine tk_HR  rfl rfl ly0 rt0_0 ?_
      refine tk_HR  rfl rfl ly1 rt1_0 ?_
      refine tk_Ps  1 (pc' := 43) (ls' := [(4, .ref (2 + 2 + (m.2.2.2 2 (tk_n a1)).val)), (0, .ref 0), (1, .int a1), (2, .int a2), (3, .int a3)]) (st' := [.int a2, .ref 2]) rfl ?_
      obtain ⟨hg4, h⟩ := tk_grd h
      refine tk_HP  rfl rfl ly2 hg4 ?_
      refine tk_Ps  2 (pc' := 48) (ls' := [(5, .ref (2 + 2 + (m.2.2.2 2 (tk_n a2)).val)), (4, .ref (2 + 2 + (m.2.2.2 2 (tk_n a1)).val)), (0, .ref 0), (1, .int a1), (2, .int a2), (3, .int a3)]) (st' := [.ref (2 + 2 + (m.2.2.2 2 (tk_n a1)).val)]) rfl ?_
      refine tk_HB  rfl rfl (tk_sh ly2 _) ?_
      by_cases hc5 : (m.2.2.1 (2 + 2 + (m.2.2.2 2 (tk_n a1)).val) 0) = true
      · replace h := tk_ifT hc5 h
        refine tk_bT  rfl rfl tk_eB_ne (c := (m.2.2.1 (2 + 2 + (m.2.2.2 2 (tk_n a1)).val) 0) = true) hc5 (pc' := 62) (ls' := [(5, .ref (2 + 2 + (m.2.2.2 2 (tk_n a2)).val)), (4, .ref (2 + 2 + (m.2.2.2 2 (tk_n a1)).val)), (0, .ref 0), (1, .int a1), (2, .int a2), (3, .int a3)]) (st' := []) ?_
        refine tk_Ps  2 (pc' := 64) (ls' := [(5, .ref (2 + 2 + (m.2.2.2 2 (tk_n a2)).val)), (4, .ref (2 + 2 + (m.2.2.2 2 (tk_n a1)).val)), (0, .ref 0), (1, .int a1), (2, .int a2), (3, .int a3)]) (st' := [.int (2 : Int32), .ref 0]) rfl ?_
        obtain ⟨o6, ho6, h⟩ := tk_bnd h
        refine tk_cV1  rfl rfl (r := 0) (as := [.int (2 : Int32)]) (rest := []) rfl ly0 rfl rfl (ok_fX_finding sc (2 : Int32) m ho6) ?_
        replace h := Option.some.inj h
        subst h
        exact tk_RI  rfl rfl rfl
      · replace h := tk_ifF hc5 h
        refine tk_bF  rfl rfl tk_eB_ne (c := (m.2.2.1 (2 + 2 + (m.2.2.2 2 (tk_n a1)).val) 0) = true) hc5 (pc' := 54) (ls' := [(5, .ref (2 + 2 + (m.2.2.2 2 (tk_n a2)).val)), (4, .ref (2 + 2 + (m.2.2.2 2 (tk_n a1)).val)), (0, .ref 0), (1, .int a1), (2, .int a2), (3, .int a3)]) (st' := []) ?_
        refine tk_Ps  1 (pc' := 56) (ls' := [(5, .ref (2 + 2 + (m.2.2.2 2 (tk_n a2)).val)), (4, .ref (2 + 2 + (m.2.2.2 2 (tk_n a1)).val)), (0, .ref 0), (1, .int a1), (2, .int a2), (3, .int a3)]) (st' := [.ref (2 + 2 + (m.2.2.2 2 (tk_n a2)).val)]) rfl ?_
        refine tk_HB  rfl rfl (tk_sh ly2 _) ?_
        by_cases hc7 : (m.2.2.1 (2 + 2 + (m.2.2.2 2 (tk_n a2)).val) 0) = true
        · replace h := tk_ifT hc7 h
          refine tk_bT  rfl rfl tk_eB_eq (c := (m.2.2.1 (2 + 2 + (m.2.2.2 2 (tk_n a2)).val) 0) = true) hc7 (pc' := 62) (ls' := [(5, .ref (2 + 2 + (m.2.2.2 2 (tk_n a2)).val)), (4, .ref (2 + 2 + (m.2.2.2 2 (tk_n a1)).val)), (0, .ref 0), (1, .int a1), (2, .int a2), (3, .int a3)]) (st' := []) ?_
          refine tk_Ps  2 (pc' := 64) (ls' := [(5, .ref (2 + 2 + (m.2.2.2 2 (tk_n a2)).val)), (4, .ref (2 + 2 + (m.2.2.2 2 (tk_n a1)).val)), (0, .ref 0), (1, .int a1), (2, .int a2), (3, .int a3)]) (st' := [.int (2 : Int32), .ref 0]) rfl ?_
          obtain ⟨o8, ho8, h⟩ := tk_bnd h
          refine tk_cV1  rfl rfl (r := 0) (as := [.int (2 : Int32)]) (rest := []) rfl ly0 rfl rfl (ok_fX_finding sc (2 : Int32) m ho8) ?_
          replace h := Option.some.inj h
          subst h
          exact tk_RI  rfl rfl rfl
        · replace h := tk_ifF hc7 h
          refine tk_bF  rfl rfl tk_eB_eq (c := (m.2.2.1 (2 + 2 + (m.2.2.2 2 (tk_n a2)).val) 0) = true) hc7 (pc' := 68) (ls' := [(5, .ref (2 + 2 + (m.2.2.2 2 (tk_n a2)).val)), (4, .ref (2 + 2 + (m.2.2.2 2 (tk_n a1)).val)), (0, .ref 0), (1, .int a1), (2, .int a2), (3, .int a3)]) (st' := []) ?_
          refine tk_Ps  1 (pc' := 70) (ls' := [(5, .ref (2 + 2 + (m.2.2.2 2 (tk_n a2)).val)), (4, .ref (2 + 2 + (m.2.2.2 2 (tk_n a1)).val)), (0, .ref 0), (1, .int a1), (2, .int a2), (3, .int a3)]) (st' := [.ref (2 + 2 + (m.2.2.2 2 (tk_n a1)).val)]) rfl ?_
          refine tk_HI  rfl rfl (tk_sh ly2 _) ?_
          refine tk_Ps  1 (pc' := 75) (ls' := [(5, .ref (2 + 2 + (m.2.2.2 2 (tk_n a2)).val)), (4, .ref (2 + 2 + (m.2.2.2 2 (tk_n a1)).val)), (0, .ref 0), (1, .int a1), (2, .int a2), (3, .int a3)]) (st' := [.ref (2 + 2 + (m.2.2.2 2 (tk_n a2)).val), .int (m.1 (2 + 2 + (m.2.2.2 2 (tk_n a1)).val) 1)]) rfl ?_
          refine tk_HI  rfl rfl (tk_sh ly2 _) ?_
          by_cases hc9 : (m.1 (2 + 2 + (m.2.2.2 2 (tk_n a1)).val) 1) = (m.1 (2 + 2 + (m.2.2.2 2 (tk_n a2)).val) 1)
          · replace h := tk_ifT hc9 h
            refine tk_bT  rfl rfl rfl (c := (m.1 (2 + 2 + (m.2.2.2 2 (tk_n a1)).val) 1) = (m.1 (2 + 2 + (m.2.2.2 2 (tk_n a2)).val) 1)) hc9 (pc' := 81) (ls' := [(5, .ref (2 + 2 + (m.2.2.2 2 (tk_n a2)).val)), (4, .ref (2 + 2 + (m.2.2.2 2 (tk_n a1)).val)), (0, .ref 0), (1, .int a1), (2, .int a2), (3, .int a3)]) (st' := []) ?_
            refine tk_Ps  1 (pc' := 83) (ls' := [(5, .ref (2 + 2 + (m.2.2.2 2 (tk_n a2)).val)), (4, .ref (2 + 2 + (m.2.2.2 2 (tk_n a1)).val)), (0, .ref 0), (1, .int a1), (2, .int a2), (3, .int a3)]) (st' := [.ref (2 + 2 + (m.2.2.2 2 (tk_n a1)).val)]) rfl ?_
            refine tk_HI  rfl rfl (tk_sh ly2 _) ?_
            refine tk_Ps  1 (pc' := 88) (ls' := [(5, .ref (2 + 2 + (m.2.2.2 2 (tk_n a2)).val)), (4, .ref (2 + 2 + (m.2.2.2 2 (tk_n a1)).val)), (0, .ref 0), (1, .int a1), (2, .int a2), (3, .int a3)]) (st' := [.ref (2 + 2 + (m.2.2.2 2 (tk_n a2)).val), .int (m.1 (2 + 2 + (m.2.2.2 2 (tk_n a1)).val) 2)]) rfl ?_
            refine tk_HI  rfl rfl (tk_sh ly2 _) ?_
            by_cases hc10 : (m.1 (2 + 2 + (m.2.2.2 2 (tk_n a1)).val) 2) = (m.1 (2 + 2 + (m.2.2.2 2 (tk_n a2)).val) 2)
            · replace h := tk_ifT hc10 h
              refine tk_bT  rfl rfl rfl (c := (m.1 (2 + 2 + (m.2.2.2 2 (tk_n a1)).val) 2) = (m.1 (2 + 2 + (m.2.2.2 2 (tk_n a2)).val) 2)) hc10 (pc' := 94) (ls' := [(5, .ref (2 + 2 + (m.2.2.2 2 (tk_n a2)).val)), (4, .ref (2 + 2 + (m.2.2.2 2 (tk_n a1)).val)), (0, .ref 0), (1, .int a1), (2, .int a2), (3, .int a3)]) (st' := []) ?_
              refine tk_Ps  2 (pc' := 96) (ls' := [(5, .ref (2 + 2 + (m.2.2.2 2 (tk_n a2)).val)), (4, .ref (2 + 2 + (m.2.2.2 2 (tk_n a1)).val)), (0, .ref 0), (1, .int a1), (2, .int a2), (3, .int a3)]) (st' := [.int (3 : Int32), .ref 0]) rfl ?_
              obtain ⟨o11, ho11, h⟩ := tk_bnd h
              refine tk_cV1  rfl rfl (r := 0) (as := [.int (3 : Int32)]) (rest := []) rfl ly0 rfl rfl (ok_fX_finding sc (3 : Int32) m ho11) ?_
              replace h := Option.some.inj h
              subst h
              exact tk_RI  rfl rfl rfl
            · replace h := tk_ifF hc10 h
              refine tk_bF  rfl rfl rfl (c := (m.1 (2 + 2 + (m.2.2.2 2 (tk_n a1)).val) 2) = (m.1 (2 + 2 + (m.2.2.2 2 (tk_n a2)).val) 2)) hc10 (pc' := 100) (ls' := [(5, .ref (2 + 2 + (m.2.2.2 2 (tk_n a2)).val)), (4, .ref (2 + 2 + (m.2.2.2 2 (tk_n a1)).val)), (0, .ref 0), (1, .int a1), (2, .int a2), (3, .int a3)]) (st' := []) ?_
              refine tk_Ps  1 (pc' := 101) (ls' := [(5, .ref (2 + 2 + (m.2.2.2 2 (tk_n a2)).val)), (4, .ref (2 + 2 + (m.2.2.2 2 (tk_n a1)).val)), (0, .ref 0), (1, .int a1), (2, .int a2), (3, .int a3)]) (st' := [.ref 0]) rfl ?_
              refine tk_HR  rfl rfl ly0 rt0_6 ?_
              refine tk_Ps  3 (pc' := 109) (ls' := [(5, .ref (2 + 2 + (m.2.2.2 2 (tk_n a2)).val)), (4, .ref (2 + 2 + (m.2.2.2 2 (tk_n a1)).val)), (0, .ref 0), (1, .int a1), (2, .int a2), (3, .int a3)]) (st' := [.int a3, .ref (2 + 2 + (m.2.2.2 2 (tk_n a2)).val), .ref (2 + 2 + (m.2.2.2 2 (tk_n a1)).val), .ref 34]) rfl ?_
              obtain ⟨o12, ho12, h⟩ := tk_bnd h
              refine tk_cV1  rfl rfl (r := 34) (as := [.ref (2 + 2 + (m.2.2.2 2 (tk_n a1)).val), .ref (2 + 2 + (m.2.2.2 2 (tk_n a2)).val), .int a3]) (rest := []) rfl ly34 rfl rfl (ok_fK_equalPowers sc (2 + 2 + (m.2.2.2 2 (tk_n a1)).val) (2 + 2 + (m.2.2.2 2 (tk_n a2)).val) a3 m (tk_sh ly2 _) (tk_sh ly2 _) ho12) ?_
              replace h := Option.some.inj h
              subst h
              exact tk_RI  rfl rfl rfl
          · replace h := tk_ifF hc9 h
            refine tk_bF  rfl rfl rfl (c := (m.1 (2 + 2 + (m.2.2.2 2 (tk_n a1)).val) 1) = (m.1 (2 + 2 + (m.2.2.2 2 (tk_n a2)).val) 1)) hc9 (pc' := 100) (ls' := [(5, .ref (2 + 2 + (m.2.2.2 2 (tk_n a2)).val)), (4, .ref (2 + 2 + (m.2.2.2 2 (tk_n a1)).val)), (0, .ref 0), (1, .int a1), (2, .int a2), (3, .int a3)]) (st' := []) ?_
            refine tk_Ps  1 (pc' := 101) (ls' := [(5, .ref (2 + 2 + (m.2.2.2 2 (tk_n a2)).val)), (4, .ref (2 + 2 + (m.2.2.2 2 (tk_n a1)).val)), (0, .ref 0), (1, .int a1), (2, .int a2), (3, .int a3)]) (st' := [.ref 0]) rfl ?_
            refine tk_HR  rfl rfl ly0 rt0_6 ?_
            refine tk_Ps  3 (pc' := 109) (ls' := [(5, .ref (2 + 2 + (m.2.2.2 2 (tk_n a2)).val)), (4, .ref (2 + 2 + (m.2.2.2 2 (tk_n a1)).val)), (0, .ref 0), (1, .int a1), (2, .int a2), (3, .int a3)]) (st' := [.int a3, .ref (2 + 2 + (m.2.2.2 2 (tk_n a2)).val), .ref (2 + 2 + (m.2.2.2 2 (tk_n a1)).val), .ref 34]) rfl ?_
            obtain ⟨o13, ho13, h⟩ := tk_bnd h
            refine tk_cV1  rfl rfl (r := 34) (as := [.ref (2 + 2 + (m.2.2.2 2 (tk_n a1)).val), .ref (2 + 2 + (m.2.2.2 2 (tk_n a2)).val), .int a3]) (rest := []) rfl ly34 rfl rfl (ok_fK_equalPowers sc (2 + 2 + (m.2.2.2 2 (tk_n a1)).val) (2 + 2 + (m.2.2.2 2 (tk_n a2)).val) a3 m (tk_sh ly2 _) (tk_sh ly2 _) ho13) ?_
            replace h := Option.some.inj h
            subst h
            exact tk_RI  rfl rfl rfl
    · replace h := tk_ifF hc2 h
      refine tk_bF  rfl rfl tk_eB_ne (c := (fX_isWithin a3 (0 : Int32) (2 : Int32)) = true) hc2 (pc' := 18) (ls' := [(0, .ref 0), (1, .int a1), (2, .int a2), (3, .int a3)]) (st' := []) ?_
      refine tk_Ps  2 (pc' := 20) (ls' := [(0, .ref 0), (1, .int a1), (2, .int a2), (3, .int a3)]) (st' := [.int (0 : Int32), .ref 0]) rfl ?_
      obtain ⟨o14, ho14, h⟩ := tk_bnd h
      refine tk_cV1  rfl rfl (r := 0) (as := [.int (0 : Int32)]) (rest := []) rfl ly0 rfl rfl (ok_fX_finding sc (0 : Int32) m ho14) ?_
      replace h := Option.some.inj h
      subst h
      exact tk_RI  rfl rfl rfl
  · replace h := tk_ifF hc1 h
    refine tk_bF  rfl rfl tk_eB_eq (c := (fX_areTwoShapes a1 a2 m) = true) hc1 (pc' := 18) (ls' := [(0, .ref 0), (1, .int a1), (2, .int a2), (3, .int a3)]) (st' := []) ?_
    refine tk_Ps  2 (pc' := 20) (ls' := [(0, .ref 0), (1, .int a1), (2, .int a2), (3, .int a3)]) (st' := [.int (0 : Int32), .ref 0]) rfl ?_
    obtain ⟨o15, ho15, h⟩ := tk_bnd h
    refine tk_cV1  rfl rfl (r := 0) (as := [.int (0 : Int32)]) (rest := []) rfl ly0 rfl rfl (ok_fX_finding sc (0 : Int32) m ho15) ?_
    replace h := Option.some.inj h
    subst h
    exact tk_RI  rfl rfl rfl
theorem ok_fZ_abs_I (sc : tk_X) (a1 : Int32) (m : tk_m) : tk_Ru sc 1 55 [.int a1] (tk_full m) (some (.int (fZ_abs_I a1)), tk_full m) := by
  obtain ⟨out, h⟩ : ∃ out, fZ_abs_I a1 = out := ⟨_, rfl⟩
  rw [h]
  unfold fZ_abs_I at h
  refine tk_Ru0 me55 (ls := [(0, .int a1)]) rfl rfl ?_
  refine tk_Ps  1 (pc' := 1) (ls' := [(0, .int a1)]) (st' := [.int a1]) rfl ?_
  by_cases hc1 : 0 ≤ a1
  · replace h := tk_ifT hc1 h
    refine tk_bT  rfl rfl rfl (c := 0 ≤ a1) hc1 (pc' := 9) (ls' := [(0, .int a1)]) (st' := []) ?_
    refine tk_Ps  1 (pc' := 10) (ls' := [(0, .int a1)]) (st' := [.int a1]) rfl ?_
    subst h
    exact tk_RI  rfl rfl rfl
  · replace h := tk_ifF hc1 h
    refine tk_bF  rfl rfl rfl (c := 0 ≤ a1) hc1 (pc' := 4) (ls' := [(0, .int a1)]) (st' := []) ?_
    refine tk_Ps  3 (pc' := 10) (ls' := [(0, .int a1)]) (st' := [.int (-a1)]) rfl ?_
    subst h
    exact tk_RI  rfl rfl rfl
theorem ok_fH_ringWith (sc : tk_X) (t : Nat) (a1 : Nat) (m : tk_m) (ht : tk_lay[t]? = some (.inl 6)) (ha1 : tk_lay[a1]? = some (.inl 6)) : tk_Ru sc 2 54 [.ref t, .ref a1] (tk_full m) (some (.int (fH_ringWith t a1 m)), tk_full m) := by
  obtain ⟨out, h⟩ : ∃ out, fH_ringWith t a1 m = out := ⟨_, rfl⟩
  rw [h]
  unfold fH_ringWith at h
  refine tk_Ru0 me54 (ls := [(0, .ref t), (1, .ref a1)]) rfl rfl ?_
  refine tk_Ps  1 (pc' := 1) (ls' := [(0, .ref t), (1, .ref a1)]) (st' := [.ref t]) rfl ?_
  refine tk_HI  rfl rfl ht ?_
  refine tk_Ps  1 (pc' := 5) (ls' := [(0, .ref t), (1, .ref a1)]) (st' := [.ref t, .int (m.1 t 3)]) rfl ?_
  refine tk_HI  rfl rfl ht ?_
  refine tk_Ps  2 (pc' := 10) (ls' := [(0, .ref t), (1, .ref a1)]) (st' := [.ref a1, .int ((m.1 t 3) * (m.1 t 3))]) rfl ?_
  refine tk_HI  rfl rfl ha1 ?_
  refine tk_Ps  1 (pc' := 14) (ls' := [(0, .ref t), (1, .ref a1)]) (st' := [.ref a1, .int (m.1 a1 3), .int ((m.1 t 3) * (m.1 t 3))]) rfl ?_
  refine tk_HI  rfl rfl ha1 ?_
  refine tk_Ps  4 (pc' := 21) (ls' := [(0, .ref t), (1, .ref a1)]) (st' := [.ref a1, .ref t, .int (((m.1 t 3) * (m.1 t 3)) + ((m.1 a1 3) * (m.1 a1 3)))]) rfl ?_
  refine tk_cV1  rfl rfl (r := t) (as := [.ref a1]) (rest := [.int (((m.1 t 3) * (m.1 t 3)) + ((m.1 a1 3) * (m.1 a1 3)))]) rfl ht rfl rfl (ok_fH_apartSquared sc t a1 m ht ha1) ?_
  refine tk_Ps  1 (pc' := 25) (ls' := [(0, .ref t), (1, .ref a1)]) (st' := [.int ((((m.1 t 3) * (m.1 t 3)) + ((m.1 a1 3) * (m.1 a1 3))) - (fH_apartSquared t a1 m))]) rfl ?_
  refine tk_cS1  rfl rfl (as := [.int ((((m.1 t 3) * (m.1 t 3)) + ((m.1 a1 3) * (m.1 a1 3))) - (fH_apartSquared t a1 m))]) (rest := []) rfl rfl rfl (ok_fZ_abs_I sc ((((m.1 t 3) * (m.1 t 3)) + ((m.1 a1 3) * (m.1 a1 3))) - (fH_apartSquared t a1 m)) m) ?_
  refine tk_Ps  3 (pc' := 31) (ls' := [(2, .int (fZ_abs_I ((((m.1 t 3) * (m.1 t 3)) + ((m.1 a1 3) * (m.1 a1 3))) - (fH_apartSquared t a1 m)))), (0, .ref t), (1, .ref a1)]) (st' := [.ref t, .int (2 : Int32)]) rfl ?_
  refine tk_HI  rfl rfl ht ?_
  refine tk_Ps  2 (pc' := 36) (ls' := [(2, .int (fZ_abs_I ((((m.1 t 3) * (m.1 t 3)) + ((m.1 a1 3) * (m.1 a1 3))) - (fH_apartSquared t a1 m)))), (0, .ref t), (1, .ref a1)]) (st' := [.ref a1, .int ((2 : Int32) * (m.1 t 3))]) rfl ?_
  refine tk_HI  rfl rfl ha1 ?_
  refine tk_Ps  8 (pc' := 47) (ls' := [(3, .int (((2 : Int32) * (m.1 t 3)) * (m.1 a1 3))), (2, .int (fZ_abs_I ((((m.1 t 3) * (m.1 t 3)) + ((m.1 a1 3) * (m.1 a1 3))) - (fH_apartSquared t a1 m)))), (0, .ref t), (1, .ref a1)]) (st' := [.int ((5 : Int32) * (((2 : Int32) * (m.1 t 3)) * (m.1 a1 3))), .int ((3 : Int32) * (fZ_abs_I ((((m.1 t 3) * (m.1 t 3)) + ((m.1 a1 3) * (m.1 a1 3))) - (fH_apartSquared t a1 m))))]) rfl ?_
  by_cases hc1 : ((3 : Int32) * (fZ_abs_I ((((m.1 t 3) * (m.1 t 3)) + ((m.1 a1 3) * (m.1 a1 3))) - (fH_apartSquared t a1 m)))) = ((5 : Int32) * (((2 : Int32) * (m.1 t 3)) * (m.1 a1 3)))
  · replace h := tk_ifT hc1 h
    refine tk_bT  rfl rfl rfl (c := ((3 : Int32) * (fZ_abs_I ((((m.1 t 3) * (m.1 t 3)) + ((m.1 a1 3) * (m.1 a1 3))) - (fH_apartSquared t a1 m)))) = ((5 : Int32) * (((2 : Int32) * (m.1 t 3)) * (m.1 a1 3)))) hc1 (pc' := 50) (ls' := [(3, .int (((2 : Int32) * (m.1 t 3)) * (m.1 a1 3))), (2, .int (fZ_abs_I ((((m.1 t 3) * (m.1 t 3)) + ((m.1 a1 3) * (m.1 a1 3))) - (fH_apartSquared t a1 m)))), (0, .ref t), (1, .ref a1)]) (st' := []) ?_
    refine tk_Ps  1 (pc' := 52) (ls' := [(3, .int (((2 : Int32) * (m.1 t 3)) * (m.1 a1 3))), (2, .int (fZ_abs_I ((((m.1 t 3) * (m.1 t 3)) + ((m.1 a1 3) * (m.1 a1 3))) - (fH_apartSquared t a1 m)))), (0, .ref t), (1, .ref a1)]) (st' := [.int (6 : Int32)]) rfl ?_
    subst h
    exact tk_RI  rfl rfl rfl
  · replace h := tk_ifF hc1 h
    refine tk_bF  rfl rfl rfl (c := ((3 : Int32) * (fZ_abs_I ((((m.1 t 3) * (m.1 t 3)) + ((m.1 a1 3) * (m.1 a1 3))) - (fH_apartSquared t a1 m)))) = ((5 : Int32) * (((2 : Int32) * (m.1 t 3)) * (m.1 a1 3)))) hc1 (pc' := 53) (ls' := [(3, .int (((2 : Int32) * (m.1 t 3)) * (m.1 a1 3))), (2, .int (fZ_abs_I ((((m.1 t 3) * (m.1 t 3)) + ((m.1 a1 3) * (m.1 a1 3))) - (fH_apartSquared t a1 m)))), (0, .ref t), (1, .ref a1)]) (st' := []) ?_
    refine tk_Ps  4 (pc' := 57) (ls' := [(3, .int (((2 : Int32) * (m.1 t 3)) * (m.1 a1 3))), (2, .int (fZ_abs_I ((((m.1 t 3) * (m.1 t 3)) + ((m.1 a1 3) * (m.1 a1 3))) - (fH_apartSquared t a1 m)))), (0, .ref t), (1, .ref a1)]) (st' := [.int ((3 : Int32) * (((2 : Int32) * (m.1 t 3)) * (m.1 a1 3))), .int (fZ_abs_I ((((m.1 t 3) * (m.1 t 3)) + ((m.1 a1 3) * (m.1 a1 3))) - (fH_apartSquared t a1 m)))]) rfl ?_
    by_cases hc2 : (fZ_abs_I ((((m.1 t 3) * (m.1 t 3)) + ((m.1 a1 3) * (m.1 a1 3))) - (fH_apartSquared t a1 m))) = ((3 : Int32) * (((2 : Int32) * (m.1 t 3)) * (m.1 a1 3)))
    · replace h := tk_ifT hc2 h
      refine tk_bT  rfl rfl rfl (c := (fZ_abs_I ((((m.1 t 3) * (m.1 t 3)) + ((m.1 a1 3) * (m.1 a1 3))) - (fH_apartSquared t a1 m))) = ((3 : Int32) * (((2 : Int32) * (m.1 t 3)) * (m.1 a1 3)))) hc2 (pc' := 60) (ls' := [(3, .int (((2 : Int32) * (m.1 t 3)) * (m.1 a1 3))), (2, .int (fZ_abs_I ((((m.1 t 3) * (m.1 t 3)) + ((m.1 a1 3) * (m.1 a1 3))) - (fH_apartSquared t a1 m)))), (0, .ref t), (1, .ref a1)]) (st' := []) ?_
      refine tk_Ps  1 (pc' := 61) (ls' := [(3, .int (((2 : Int32) * (m.1 t 3)) * (m.1 a1 3))), (2, .int (fZ_abs_I ((((m.1 t 3) * (m.1 t 3)) + ((m.1 a1 3) * (m.1 a1 3))) - (fH_apartSquared t a1 m)))), (0, .ref t), (1, .ref a1)]) (st' := [.int (4 : Int32)]) rfl ?_
      subst h
      exact tk_RI  rfl rfl rfl
    · replace h := tk_ifF hc2 h
      refine tk_bF  rfl rfl rfl (c := (fZ_abs_I ((((m.1 t 3) * (m.1 t 3)) + ((m.1 a1 3) * (m.1 a1 3))) - (fH_apartSquared t a1 m))) = ((3 : Int32) * (((2 : Int32) * (m.1 t 3)) * (m.1 a1 3)))) hc2 (pc' := 62) (ls' := [(3, .int (((2 : Int32) * (m.1 t 3)) * (m.1 a1 3))), (2, .int (fZ_abs_I ((((m.1 t 3) * (m.1 t 3)) + ((m.1 a1 3) * (m.1 a1 3))) - (fH_apartSquared t a1 m)))), (0, .ref t), (1, .ref a1)]) (st' := []) ?_
      refine tk_Ps  4 (pc' := 67) (ls' := [(3, .int (((2 : Int32) * (m.1 t 3)) * (m.1 a1 3))), (2, .int (fZ_abs_I ((((m.1 t 3) * (m.1 t 3)) + ((m.1 a1 3) * (m.1 a1 3))) - (fH_apartSquared t a1 m)))), (0, .ref t), (1, .ref a1)]) (st' := [.int ((7 : Int32) * (((2 : Int32) * (m.1 t 3)) * (m.1 a1 3))), .int (fZ_abs_I ((((m.1 t 3) * (m.1 t 3)) + ((m.1 a1 3) * (m.1 a1 3))) - (fH_apartSquared t a1 m)))]) rfl ?_
      by_cases hc3 : (fZ_abs_I ((((m.1 t 3) * (m.1 t 3)) + ((m.1 a1 3) * (m.1 a1 3))) - (fH_apartSquared t a1 m))) = ((7 : Int32) * (((2 : Int32) * (m.1 t 3)) * (m.1 a1 3)))
      · replace h := tk_ifT hc3 h
        refine tk_bT  rfl rfl rfl (c := (fZ_abs_I ((((m.1 t 3) * (m.1 t 3)) + ((m.1 a1 3) * (m.1 a1 3))) - (fH_apartSquared t a1 m))) = ((7 : Int32) * (((2 : Int32) * (m.1 t 3)) * (m.1 a1 3)))) hc3 (pc' := 70) (ls' := [(3, .int (((2 : Int32) * (m.1 t 3)) * (m.1 a1 3))), (2, .int (fZ_abs_I ((((m.1 t 3) * (m.1 t 3)) + ((m.1 a1 3) * (m.1 a1 3))) - (fH_apartSquared t a1 m)))), (0, .ref t), (1, .ref a1)]) (st' := []) ?_
        refine tk_Ps  2 (pc' := 75) (ls' := [(3, .int (((2 : Int32) * (m.1 t 3)) * (m.1 a1 3))), (2, .int (fZ_abs_I ((((m.1 t 3) * (m.1 t 3)) + ((m.1 a1 3) * (m.1 a1 3))) - (fH_apartSquared t a1 m)))), (0, .ref t), (1, .ref a1)]) (st' := [.int (3 : Int32)]) rfl ?_
        subst h
        exact tk_RI  rfl rfl rfl
      · replace h := tk_ifF hc3 h
        refine tk_bF  rfl rfl rfl (c := (fZ_abs_I ((((m.1 t 3) * (m.1 t 3)) + ((m.1 a1 3) * (m.1 a1 3))) - (fH_apartSquared t a1 m))) = ((7 : Int32) * (((2 : Int32) * (m.1 t 3)) * (m.1 a1 3)))) hc3 (pc' := 74) (ls' := [(3, .int (((2 : Int32) * (m.1 t 3)) * (m.1 a1 3))), (2, .int (fZ_abs_I ((((m.1 t 3) * (m.1 t 3)) + ((m.1 a1 3) * (m.1 a1 3))) - (fH_apartSquared t a1 m)))), (0, .ref t), (1, .ref a1)]) (st' := []) ?_
        refine tk_Ps  1 (pc' := 75) (ls' := [(3, .int (((2 : Int32) * (m.1 t 3)) * (m.1 a1 3))), (2, .int (fZ_abs_I ((((m.1 t 3) * (m.1 t 3)) + ((m.1 a1 3) * (m.1 a1 3))) - (fH_apartSquared t a1 m)))), (0, .ref t), (1, .ref a1)]) (st' := [.int (0 : Int32)]) rfl ?_
        subst h
        exact tk_RI  rfl rfl rfl
theorem ok_fX_ring (sc : tk_X) (a1 : Int32) (a2 : Int32) (m : tk_m) {out : Int32 × tk_m} (h : fX_ring a1 a2 m = some out) : tk_Ru sc 5 53 [.ref 0, .int a1, .int a2] (tk_full m) (some (.int out.1), tk_full out.2) := by
  unfold fX_ring at h
  refine tk_Ru0 me53 (ls := [(0, .ref 0), (1, .int a1), (2, .int a2)]) rfl rfl ?_
  refine tk_Ps  3 (pc' := 3) (ls' := [(0, .ref 0), (1, .int a1), (2, .int a2)]) (st' := [.int a2, .int a1, .ref 0]) rfl ?_
  refine tk_cV1  rfl rfl (r := 0) (as := [.int a1, .int a2]) (rest := []) rfl ly0 rfl rfl (ok_fX_areTwoShapes sc a1 a2 m) ?_
  by_cases hc1 : (fX_areTwoShapes a1 a2 m) = true
  · replace h := tk_ifT hc1 h
    refine tk_bT  rfl rfl tk_eB_ne (c := (fX_areTwoShapes a1 a2 m) = true) hc1 (pc' := 15) (ls' := [(0, .ref 0), (1, .int a1), (2, .int a2)]) (st' := []) ?_
    refine tk_Ps  1 (pc' := 16) (ls' := [(0, .ref 0), (1, .int a1), (2, .int a2)]) (st' := [.ref 0]) rfl ?_
    refine tk_HR  rfl rfl ly0 rt0_0 ?_
    refine tk_HR  rfl rfl ly1 rt1_0 ?_
    refine tk_Ps  1 (pc' := 23) (ls' := [(0, .ref 0), (1, .int a1), (2, .int a2)]) (st' := [.int a1, .ref 2]) rfl ?_
    obtain ⟨hg2, h⟩ := tk_grd h
    refine tk_HP  rfl rfl ly2 hg2 ?_
    refine tk_Ps  2 (pc' := 26) (ls' := [(3, .ref (2 + 2 + (m.2.2.2 2 (tk_n a1)).val)), (0, .ref 0), (1, .int a1), (2, .int a2)]) (st' := [.ref 0]) rfl ?_
    refine tk_HR  rfl rfl ly0 rt0_0 ?_
    refine tk_HR  rfl rfl ly1 rt1_0 ?_
    refine tk_Ps  1 (pc' := 33) (ls' := [(3, .ref (2 + 2 + (m.2.2.2 2 (tk_n a1)).val)), (0, .ref 0), (1, .int a1), (2, .int a2)]) (st' := [.int a2, .ref 2]) rfl ?_
    obtain ⟨hg3, h⟩ := tk_grd h
    refine tk_HP  rfl rfl ly2 hg3 ?_
    refine tk_Ps  2 (pc' := 37) (ls' := [(4, .ref (2 + 2 + (m.2.2.2 2 (tk_n a2)).val)), (3, .ref (2 + 2 + (m.2.2.2 2 (tk_n a1)).val)), (0, .ref 0), (1, .int a1), (2, .int a2)]) (st' := [.ref (2 + 2 + (m.2.2.2 2 (tk_n a1)).val)]) rfl ?_
    refine tk_cV1  rfl rfl (r := (2 + 2 + (m.2.2.2 2 (tk_n a1)).val)) (as := []) (rest := []) rfl (tk_sh ly2 _) rfl rfl (ok_fH_lowestKind sc (2 + 2 + (m.2.2.2 2 (tk_n a1)).val) m (tk_sh ly2 _)) ?_
    refine tk_Ps  1 (pc' := 41) (ls' := [(4, .ref (2 + 2 + (m.2.2.2 2 (tk_n a2)).val)), (3, .ref (2 + 2 + (m.2.2.2 2 (tk_n a1)).val)), (0, .ref 0), (1, .int a1), (2, .int a2)]) (st' := [.int (1 : Int32), .int (fH_lowestKind (2 + 2 + (m.2.2.2 2 (tk_n a1)).val) m)]) rfl ?_
    by_cases hc4 : (fH_lowestKind (2 + 2 + (m.2.2.2 2 (tk_n a1)).val) m) = (1 : Int32)
    · replace h := tk_ifT hc4 h
      refine tk_bT  rfl rfl rfl (c := (fH_lowestKind (2 + 2 + (m.2.2.2 2 (tk_n a1)).val) m) = (1 : Int32)) hc4 (pc' := 44) (ls' := [(4, .ref (2 + 2 + (m.2.2.2 2 (tk_n a2)).val)), (3, .ref (2 + 2 + (m.2.2.2 2 (tk_n a1)).val)), (0, .ref 0), (1, .int a1), (2, .int a2)]) (st' := []) ?_
      refine tk_Ps  1 (pc' := 46) (ls' := [(4, .ref (2 + 2 + (m.2.2.2 2 (tk_n a2)).val)), (3, .ref (2 + 2 + (m.2.2.2 2 (tk_n a1)).val)), (0, .ref 0), (1, .int a1), (2, .int a2)]) (st' := [.ref (2 + 2 + (m.2.2.2 2 (tk_n a2)).val)]) rfl ?_
      refine tk_cV1  rfl rfl (r := (2 + 2 + (m.2.2.2 2 (tk_n a2)).val)) (as := []) (rest := []) rfl (tk_sh ly2 _) rfl rfl (ok_fH_lowestKind sc (2 + 2 + (m.2.2.2 2 (tk_n a2)).val) m (tk_sh ly2 _)) ?_
      refine tk_Ps  1 (pc' := 50) (ls' := [(4, .ref (2 + 2 + (m.2.2.2 2 (tk_n a2)).val)), (3, .ref (2 + 2 + (m.2.2.2 2 (tk_n a1)).val)), (0, .ref 0), (1, .int a1), (2, .int a2)]) (st' := [.int (1 : Int32), .int (fH_lowestKind (2 + 2 + (m.2.2.2 2 (tk_n a2)).val) m)]) rfl ?_
      by_cases hc5 : (fH_lowestKind (2 + 2 + (m.2.2.2 2 (tk_n a2)).val) m) = (1 : Int32)
      · replace h := tk_ifT hc5 h
        refine tk_bT  rfl rfl rfl (c := (fH_lowestKind (2 + 2 + (m.2.2.2 2 (tk_n a2)).val) m) = (1 : Int32)) hc5 (pc' := 59) (ls' := [(4, .ref (2 + 2 + (m.2.2.2 2 (tk_n a2)).val)), (3, .ref (2 + 2 + (m.2.2.2 2 (tk_n a1)).val)), (0, .ref 0), (1, .int a1), (2, .int a2)]) (st' := []) ?_
        refine tk_Ps  2 (pc' := 62) (ls' := [(4, .ref (2 + 2 + (m.2.2.2 2 (tk_n a2)).val)), (3, .ref (2 + 2 + (m.2.2.2 2 (tk_n a1)).val)), (0, .ref 0), (1, .int a1), (2, .int a2)]) (st' := [.ref (2 + 2 + (m.2.2.2 2 (tk_n a2)).val), .ref (2 + 2 + (m.2.2.2 2 (tk_n a1)).val)]) rfl ?_
        refine tk_cV1  rfl rfl (r := (2 + 2 + (m.2.2.2 2 (tk_n a1)).val)) (as := [.ref (2 + 2 + (m.2.2.2 2 (tk_n a2)).val)]) (rest := []) rfl (tk_sh ly2 _) rfl rfl (ok_fH_commonWith sc (2 + 2 + (m.2.2.2 2 (tk_n a1)).val) (2 + 2 + (m.2.2.2 2 (tk_n a2)).val) m (tk_sh ly2 _) (tk_sh ly2 _)) ?_
        by_cases hc6 : (fH_commonWith (2 + 2 + (m.2.2.2 2 (tk_n a1)).val) (2 + 2 + (m.2.2.2 2 (tk_n a2)).val) m) = 0
        · replace h := tk_ifT hc6 h
          refine tk_bT  rfl rfl rfl (c := (fH_commonWith (2 + 2 + (m.2.2.2 2 (tk_n a1)).val) (2 + 2 + (m.2.2.2 2 (tk_n a2)).val) m) = 0) hc6 (pc' := 74) (ls' := [(4, .ref (2 + 2 + (m.2.2.2 2 (tk_n a2)).val)), (3, .ref (2 + 2 + (m.2.2.2 2 (tk_n a1)).val)), (0, .ref 0), (1, .int a1), (2, .int a2)]) (st' := []) ?_
          refine tk_Ps  2 (pc' := 77) (ls' := [(4, .ref (2 + 2 + (m.2.2.2 2 (tk_n a2)).val)), (3, .ref (2 + 2 + (m.2.2.2 2 (tk_n a1)).val)), (0, .ref 0), (1, .int a1), (2, .int a2)]) (st' := [.ref (2 + 2 + (m.2.2.2 2 (tk_n a2)).val), .ref (2 + 2 + (m.2.2.2 2 (tk_n a1)).val)]) rfl ?_
          refine tk_cV1  rfl rfl (r := (2 + 2 + (m.2.2.2 2 (tk_n a1)).val)) (as := [.ref (2 + 2 + (m.2.2.2 2 (tk_n a2)).val)]) (rest := []) rfl (tk_sh ly2 _) rfl rfl (ok_fH_ringWith sc (2 + 2 + (m.2.2.2 2 (tk_n a1)).val) (2 + 2 + (m.2.2.2 2 (tk_n a2)).val) m (tk_sh ly2 _) (tk_sh ly2 _)) ?_
          refine tk_Ps  2 (pc' := 84) (ls' := [(5, .int (fH_ringWith (2 + 2 + (m.2.2.2 2 (tk_n a1)).val) (2 + 2 + (m.2.2.2 2 (tk_n a2)).val) m)), (4, .ref (2 + 2 + (m.2.2.2 2 (tk_n a2)).val)), (3, .ref (2 + 2 + (m.2.2.2 2 (tk_n a1)).val)), (0, .ref 0), (1, .int a1), (2, .int a2)]) (st' := [.int (fH_ringWith (2 + 2 + (m.2.2.2 2 (tk_n a1)).val) (2 + 2 + (m.2.2.2 2 (tk_n a2)).val) m)]) rfl ?_
          by_cases hc7 : (fH_ringWith (2 + 2 + (m.2.2.2 2 (tk_n a1)).val) (2 + 2 + (m.2.2.2 2 (tk_n a2)).val) m) = 0
          · replace h := tk_ifT hc7 h
            refine tk_bT  rfl rfl rfl (c := (fH_ringWith (2 + 2 + (m.2.2.2 2 (tk_n a1)).val) (2 + 2 + (m.2.2.2 2 (tk_n a2)).val) m) = 0) hc7 (pc' := 87) (ls' := [(5, .int (fH_ringWith (2 + 2 + (m.2.2.2 2 (tk_n a1)).val) (2 + 2 + (m.2.2.2 2 (tk_n a2)).val) m)), (4, .ref (2 + 2 + (m.2.2.2 2 (tk_n a2)).val)), (3, .ref (2 + 2 + (m.2.2.2 2 (tk_n a1)).val)), (0, .ref 0), (1, .int a1), (2, .int a2)]) (st' := []) ?_
            refine tk_Ps  2 (pc' := 89) (ls' := [(5, .int (fH_ringWith (2 + 2 + (m.2.2.2 2 (tk_n a1)).val) (2 + 2 + (m.2.2.2 2 (tk_n a2)).val) m)), (4, .ref (2 + 2 + (m.2.2.2 2 (tk_n a2)).val)), (3, .ref (2 + 2 + (m.2.2.2 2 (tk_n a1)).val)), (0, .ref 0), (1, .int a1), (2, .int a2)]) (st' := [.int (3 : Int32), .ref 0]) rfl ?_
            obtain ⟨o8, ho8, h⟩ := tk_bnd h
            refine tk_cV1  rfl rfl (r := 0) (as := [.int (3 : Int32)]) (rest := []) rfl ly0 rfl rfl (ok_fX_finding sc (3 : Int32) m ho8) ?_
            refine tk_Ps  1 (pc' := 97) (ls' := [(5, .int (fH_ringWith (2 + 2 + (m.2.2.2 2 (tk_n a1)).val) (2 + 2 + (m.2.2.2 2 (tk_n a2)).val) m)), (4, .ref (2 + 2 + (m.2.2.2 2 (tk_n a2)).val)), (3, .ref (2 + 2 + (m.2.2.2 2 (tk_n a1)).val)), (0, .ref 0), (1, .int a1), (2, .int a2)]) (st' := [.int o8.1]) rfl ?_
            replace h := Option.some.inj h
            subst h
            exact tk_RI  rfl rfl rfl
          · replace h := tk_ifF hc7 h
            refine tk_bF  rfl rfl rfl (c := (fH_ringWith (2 + 2 + (m.2.2.2 2 (tk_n a1)).val) (2 + 2 + (m.2.2.2 2 (tk_n a2)).val) m) = 0) hc7 (pc' := 95) (ls' := [(5, .int (fH_ringWith (2 + 2 + (m.2.2.2 2 (tk_n a1)).val) (2 + 2 + (m.2.2.2 2 (tk_n a2)).val) m)), (4, .ref (2 + 2 + (m.2.2.2 2 (tk_n a2)).val)), (3, .ref (2 + 2 + (m.2.2.2 2 (tk_n a1)).val)), (0, .ref 0), (1, .int a1), (2, .int a2)]) (st' := []) ?_
            refine tk_Ps  1 (pc' := 97) (ls' := [(5, .int (fH_ringWith (2 + 2 + (m.2.2.2 2 (tk_n a1)).val) (2 + 2 + (m.2.2.2 2 (tk_n a2)).val) m)), (4, .ref (2 + 2 + (m.2.2.2 2 (tk_n a2)).val)), (3, .ref (2 + 2 + (m.2.2.2 2 (tk_n a1)).val)), (0, .ref 0), (1, .int a1), (2, .int a2)]) (st' := [.int (fH_ringWith (2 + 2 + (m.2.2.2 2 (tk_n a1)).val) (2 + 2 + (m.2.2.2 2 (tk_n a2)).val) m)]) rfl ?_
            replace h := Option.some.inj h
            subst h
            exact tk_RI  rfl rfl rfl
        · replace h := tk_ifF hc6 h
          refine tk_bF  rfl rfl rfl (c := (fH_commonWith (2 + 2 + (m.2.2.2 2 (tk_n a1)).val) (2 + 2 + (m.2.2.2 2 (tk_n a2)).val) m) = 0) hc6 (pc' := 68) (ls' := [(4, .ref (2 + 2 + (m.2.2.2 2 (tk_n a2)).val)), (3, .ref (2 + 2 + (m.2.2.2 2 (tk_n a1)).val)), (0, .ref 0), (1, .int a1), (2, .int a2)]) (st' := []) ?_
          refine tk_Ps  2 (pc' := 70) (ls' := [(4, .ref (2 + 2 + (m.2.2.2 2 (tk_n a2)).val)), (3, .ref (2 + 2 + (m.2.2.2 2 (tk_n a1)).val)), (0, .ref 0), (1, .int a1), (2, .int a2)]) (st' := [.int (4 : Int32), .ref 0]) rfl ?_
          obtain ⟨o9, ho9, h⟩ := tk_bnd h
          refine tk_cV1  rfl rfl (r := 0) (as := [.int (4 : Int32)]) (rest := []) rfl ly0 rfl rfl (ok_fX_finding sc (4 : Int32) m ho9) ?_
          replace h := Option.some.inj h
          subst h
          exact tk_RI  rfl rfl rfl
      · replace h := tk_ifF hc5 h
        refine tk_bF  rfl rfl rfl (c := (fH_lowestKind (2 + 2 + (m.2.2.2 2 (tk_n a2)).val) m) = (1 : Int32)) hc5 (pc' := 53) (ls' := [(4, .ref (2 + 2 + (m.2.2.2 2 (tk_n a2)).val)), (3, .ref (2 + 2 + (m.2.2.2 2 (tk_n a1)).val)), (0, .ref 0), (1, .int a1), (2, .int a2)]) (st' := []) ?_
        refine tk_Ps  2 (pc' := 55) (ls' := [(4, .ref (2 + 2 + (m.2.2.2 2 (tk_n a2)).val)), (3, .ref (2 + 2 + (m.2.2.2 2 (tk_n a1)).val)), (0, .ref 0), (1, .int a1), (2, .int a2)]) (st' := [.int (2 : Int32), .ref 0]) rfl ?_
        obtain ⟨o10, ho10, h⟩ := tk_bnd h
        refine tk_cV1  rfl rfl (r := 0) (as := [.int (2 : Int32)]) (rest := []) rfl ly0 rfl rfl (ok_fX_finding sc (2 : Int32) m ho10) ?_
        replace h := Option.some.inj h
        subst h
        exact tk_RI  rfl rfl rfl
    · replace h := tk_ifF hc4 h
      refine tk_bF  rfl rfl rfl (c := (fH_lowestKind (2 + 2 + (m.2.2.2 2 (tk_n a1)).val) m) = (1 : Int32)) hc4 (pc' := 53) (ls' := [(4, .ref (2 + 2 + (m.2.2.2 2 (tk_n a2)).val)), (3, .ref (2 + 2 + (m.2.2.2 2 (tk_n a1)).val)), (0, .ref 0), (1, .int a1), (2, .int a2)]) (st' := []) ?_
      refine tk_Ps  2 (pc' := 55) (ls' := [(4, .ref (2 + 2 + (m.2.2.2 2 (tk_n a2)).val)), (3, .ref (2 + 2 + (m.2.2.2 2 (tk_n a1)).val)), (0, .ref 0), (1, .int a1), (2, .int a2)]) (st' := [.int (2 : Int32), .ref 0]) rfl ?_
      obtain ⟨o11, ho11, h⟩ := tk_bnd h
      refine tk_cV1  rfl rfl (r := 0) (as := [.int (2 : Int32)]) (rest := []) rfl ly0 rfl rfl (ok_fX_finding sc (2 : Int32) m ho11) ?_
      replace h := Option.some.inj h
      subst h
      exact tk_RI  rfl rfl rfl
  · replace h := tk_ifF hc1 h
    refine tk_bF  rfl rfl tk_eB_ne (c := (fX_areTwoShapes a1 a2 m) = true) hc1 (pc' := 9) (ls' := [(0, .ref 0), (1, .int a1), (2, .int a2)]) (st' := []) ?_
    refine tk_Ps  2 (pc' := 11) (ls' := [(0, .ref 0), (1, .int a1), (2, .int a2)]) (st' := [.int (0 : Int32), .ref 0]) rfl ?_
    obtain ⟨o12, ho12, h⟩ := tk_bnd h
    refine tk_cV1  rfl rfl (r := 0) (as := [.int (0 : Int32)]) (rest := []) rfl ly0 rfl rfl (ok_fX_finding sc (0 : Int32) m ho12) ?_
    replace h := Option.some.inj h
    subst h
    exact tk_RI  rfl rfl rfl
theorem ok_fS_choose (sc : tk_X) (t : Nat) (a1 : Int32) (a2 : Int32) (a3 : Int32) (m : tk_m) (ht : tk_lay[t]? = some (.inl 5)) {out : tk_m} (h : fS_choose t a1 a2 a3 m = out) : tk_Ru sc 1 57 [.ref t, .int a1, .int a2, .int a3] (tk_full m) (none, tk_full out) := by
  unfold fS_choose at h
  refine tk_Ru0 me57 (ls := [(0, .ref t), (1, .int a1), (2, .int a2), (3, .int a3)]) rfl rfl ?_
  refine tk_Ps  1 (pc' := 1) (ls' := [(0, .ref t), (1, .int a1), (2, .int a2), (3, .int a3)]) (st' := [.ref t]) rfl ?_
  refine tk_HR  rfl rfl ht (ro5_2 ht) ?_
  refine tk_Ps  2 (pc' := 6) (ls' := [(0, .ref t), (1, .int a1), (2, .int a2), (3, .int a3)]) (st' := [.int a1, .int (0 : Int32), .ref (t + 2)]) rfl ?_
  refine tk_SIa  rfl rfl (lo5_2 ht) (by decide) ?_
  refine tk_Ps  1 (pc' := 8) (ls' := [(0, .ref t), (1, .int a1), (2, .int a2), (3, .int a3)]) (st' := [.ref t]) rfl ?_
  refine tk_HR  rfl rfl ht (ro5_2 ht) ?_
  refine tk_Ps  2 (pc' := 13) (ls' := [(0, .ref t), (1, .int a1), (2, .int a2), (3, .int a3)]) (st' := [.int a2, .int (1 : Int32), .ref (t + 2)]) rfl ?_
  refine tk_SIa  rfl rfl (lo5_2 ht) (by decide) ?_
  refine tk_Ps  1 (pc' := 15) (ls' := [(0, .ref t), (1, .int a1), (2, .int a2), (3, .int a3)]) (st' := [.ref t]) rfl ?_
  refine tk_HR  rfl rfl ht (ro5_2 ht) ?_
  refine tk_Ps  2 (pc' := 20) (ls' := [(0, .ref t), (1, .int a1), (2, .int a2), (3, .int a3)]) (st' := [.int a3, .int (2 : Int32), .ref (t + 2)]) rfl ?_
  refine tk_SIa  rfl rfl (lo5_2 ht) (by decide) ?_
  refine tk_Ps  2 (pc' := 23) (ls' := [(0, .ref t), (1, .int a1), (2, .int a2), (3, .int a3)]) (st' := [.int (1 : Int32), .ref t]) rfl ?_
  refine tk_SB (b := true)  rfl rfl ht ?_
  subst h
  exact tk_RV  rfl rfl rfl
theorem ok_fX_three (sc : tk_X) (a1 : Int32) (a2 : Int32) (a3 : Int32) (m : tk_m) {out : Int32 × tk_m} (h : fX_three a1 a2 a3 m = some out) : tk_Ru sc 3 56 [.ref 0, .int a1, .int a2, .int a3] (tk_full m) (some (.int out.1), tk_full out.2) := by
  unfold fX_three at h
  refine tk_Ru0 me56 (ls := [(0, .ref 0), (1, .int a1), (2, .int a2), (3, .int a3)]) rfl rfl ?_
  refine tk_Ps  3 (pc' := 3) (ls' := [(0, .ref 0), (1, .int a1), (2, .int a2), (3, .int a3)]) (st' := [.int a2, .int a1, .ref 0]) rfl ?_
  refine tk_cV1  rfl rfl (r := 0) (as := [.int a1, .int a2]) (rest := []) rfl ly0 rfl rfl (ok_fX_areTwoShapes sc a1 a2 m) ?_
  by_cases hc1 : (fX_areTwoShapes a1 a2 m) = true
  · replace h := tk_ifT hc1 h
    refine tk_bT  rfl rfl tk_eB_eq (c := (fX_areTwoShapes a1 a2 m) = true) hc1 (pc' := 9) (ls' := [(0, .ref 0), (1, .int a1), (2, .int a2), (3, .int a3)]) (st' := []) ?_
    refine tk_Ps  3 (pc' := 12) (ls' := [(0, .ref 0), (1, .int a1), (2, .int a2), (3, .int a3)]) (st' := [.int a3, .int a2, .ref 0]) rfl ?_
    refine tk_cV1  rfl rfl (r := 0) (as := [.int a2, .int a3]) (rest := []) rfl ly0 rfl rfl (ok_fX_areTwoShapes sc a2 a3 m) ?_
    by_cases hc2 : (fX_areTwoShapes a2 a3 m) = true
    · replace h := tk_ifT hc2 h
      refine tk_bT  rfl rfl tk_eB_eq (c := (fX_areTwoShapes a2 a3 m) = true) hc2 (pc' := 18) (ls' := [(0, .ref 0), (1, .int a1), (2, .int a2), (3, .int a3)]) (st' := []) ?_
      refine tk_Ps  2 (pc' := 20) (ls' := [(0, .ref 0), (1, .int a1), (2, .int a2), (3, .int a3)]) (st' := [.int a3, .int a1]) rfl ?_
      by_cases hc3 : a1 = a3
      · replace h := tk_ifT hc3 h
        refine tk_bT  rfl rfl rfl (c := a1 = a3) hc3 (pc' := 23) (ls' := [(0, .ref 0), (1, .int a1), (2, .int a2), (3, .int a3)]) (st' := []) ?_
        refine tk_Ps  2 (pc' := 25) (ls' := [(0, .ref 0), (1, .int a1), (2, .int a2), (3, .int a3)]) (st' := [.int (0 : Int32), .ref 0]) rfl ?_
        obtain ⟨o4, ho4, h⟩ := tk_bnd h
        refine tk_cV1  rfl rfl (r := 0) (as := [.int (0 : Int32)]) (rest := []) rfl ly0 rfl rfl (ok_fX_finding sc (0 : Int32) m ho4) ?_
        replace h := Option.some.inj h
        subst h
        exact tk_RI  rfl rfl rfl
      · replace h := tk_ifF hc3 h
        refine tk_bF  rfl rfl rfl (c := a1 = a3) hc3 (pc' := 29) (ls' := [(0, .ref 0), (1, .int a1), (2, .int a2), (3, .int a3)]) (st' := []) ?_
        refine tk_Ps  1 (pc' := 30) (ls' := [(0, .ref 0), (1, .int a1), (2, .int a2), (3, .int a3)]) (st' := [.ref 0]) rfl ?_
        refine tk_HR  rfl rfl ly0 rt0_0 ?_
        refine tk_Ps  3 (pc' := 36) (ls' := [(0, .ref 0), (1, .int a1), (2, .int a2), (3, .int a3)]) (st' := [.int a3, .int a2, .int a1, .ref 1]) rfl ?_
        obtain ⟨o5, ho5, h⟩ := tk_lete h
        refine tk_cV0  rfl rfl (r := 1) (as := [.int a1, .int a2, .int a3]) (rest := []) rfl ly1 rfl rfl (ok_fS_choose sc 1 a1 a2 a3 m ly1 ho5) ?_
        refine tk_Ps  1 (pc' := 40) (ls' := [(0, .ref 0), (1, .int a1), (2, .int a2), (3, .int a3)]) (st' := [.int (1 : Int32)]) rfl ?_
        replace h := Option.some.inj h
        subst h
        exact tk_RI  rfl rfl rfl
    · replace h := tk_ifF hc2 h
      refine tk_bF  rfl rfl tk_eB_eq (c := (fX_areTwoShapes a2 a3 m) = true) hc2 (pc' := 23) (ls' := [(0, .ref 0), (1, .int a1), (2, .int a2), (3, .int a3)]) (st' := []) ?_
      refine tk_Ps  2 (pc' := 25) (ls' := [(0, .ref 0), (1, .int a1), (2, .int a2), (3, .int a3)]) (st' := [.int (0 : Int32), .ref 0]) rfl ?_
      obtain ⟨o6, ho6, h⟩ := tk_bnd h
      refine tk_cV1  rfl rfl (r := 0) (as := [.int (0 : Int32)]) (rest := []) rfl ly0 rfl rfl (ok_fX_finding sc (0 : Int32) m ho6) ?_
      replace h := Option.some.inj h
      subst h
      exact tk_RI  rfl rfl rfl
  · replace h := tk_ifF hc1 h
    refine tk_bF  rfl rfl tk_eB_eq (c := (fX_areTwoShapes a1 a2 m) = true) hc1 (pc' := 23) (ls' := [(0, .ref 0), (1, .int a1), (2, .int a2), (3, .int a3)]) (st' := []) ?_
    refine tk_Ps  2 (pc' := 25) (ls' := [(0, .ref 0), (1, .int a1), (2, .int a2), (3, .int a3)]) (st' := [.int (0 : Int32), .ref 0]) rfl ?_
    obtain ⟨o7, ho7, h⟩ := tk_bnd h
    refine tk_cV1  rfl rfl (r := 0) (as := [.int (0 : Int32)]) (rest := []) rfl ly0 rfl rfl (ok_fX_finding sc (0 : Int32) m ho7) ?_
    replace h := Option.some.inj h
    subst h
    exact tk_RI  rfl rfl rfl
theorem ok_fX_ofThree (sc : tk_X) (a1 : Int32) (m : tk_m) {out : Int32 × tk_m} (h : fX_ofThree a1 m = some out) : tk_Ru sc 3 58 [.ref 0, .int a1] (tk_full m) (some (.int out.1), tk_full out.2) := by
  unfold fX_ofThree at h
  refine tk_Ru0 me58 (ls := [(0, .ref 0), (1, .int a1)]) rfl rfl ?_
  refine tk_Ps  3 (pc' := 3) (ls' := [(0, .ref 0), (1, .int a1)]) (st' := [.int (2 : Int32), .int (0 : Int32), .int a1]) rfl ?_
  refine tk_cS1  rfl rfl (as := [.int a1, .int (0 : Int32), .int (2 : Int32)]) (rest := []) rfl rfl rfl (ok_fX_isWithin sc a1 (0 : Int32) (2 : Int32) m) ?_
  by_cases hc1 : (fX_isWithin a1 (0 : Int32) (2 : Int32)) = true
  · replace h := tk_ifT hc1 h
    refine tk_bT  rfl rfl tk_eB_ne (c := (fX_isWithin a1 (0 : Int32) (2 : Int32)) = true) hc1 (pc' := 15) (ls' := [(0, .ref 0), (1, .int a1)]) (st' := []) ?_
    refine tk_Ps  1 (pc' := 16) (ls' := [(0, .ref 0), (1, .int a1)]) (st' := [.ref 0]) rfl ?_
    refine tk_HR  rfl rfl ly0 rt0_0 ?_
    refine tk_HR  rfl rfl ly1 rt1_2 ?_
    refine tk_Ps  1 (pc' := 23) (ls' := [(0, .ref 0), (1, .int a1)]) (st' := [.int a1, .ref 3]) rfl ?_
    obtain ⟨hg2, h⟩ := tk_grd h
    refine tk_HIa  rfl rfl ly3 hg2 ?_
    replace h := Option.some.inj h
    subst h
    exact tk_RI  rfl rfl rfl
  · replace h := tk_ifF hc1 h
    refine tk_bF  rfl rfl tk_eB_ne (c := (fX_isWithin a1 (0 : Int32) (2 : Int32)) = true) hc1 (pc' := 9) (ls' := [(0, .ref 0), (1, .int a1)]) (st' := []) ?_
    refine tk_Ps  2 (pc' := 11) (ls' := [(0, .ref 0), (1, .int a1)]) (st' := [.int (0 : Int32), .ref 0]) rfl ?_
    obtain ⟨o3, ho3, h⟩ := tk_bnd h
    refine tk_cV1  rfl rfl (r := 0) (as := [.int (0 : Int32)]) (rest := []) rfl ly0 rfl rfl (ok_fX_finding sc (0 : Int32) m ho3) ?_
    replace h := Option.some.inj h
    subst h
    exact tk_RI  rfl rfl rfl
theorem ok_fS_chooseSet_32 (sc : tk_X) (r4 : Nat → Int32 → Int32 → Int32 → tk_m → Option tk_m) (H4 : ∀ (v0 : Nat) (v1 : Int32) (v2 : Int32) (v3 : Int32) (m : tk_m) (hv0 : tk_lay[v0]? = some (.inl 5)) (out : tk_m), r4 v0 v1 v2 v3 m = some out → tk_Ex sc 1 tk_r61 tk_k61 4 [(0, .ref v0), (1, .int v1), (2, .int v2), (3, .int v3)] [] (tk_full m) (none, tk_full out)) (r17 : Nat → Int32 → Int32 → Int32 → Int32 → tk_m → Option tk_m) (H17 : ∀ (v0 : Nat) (v1 : Int32) (v2 : Int32) (v3 : Int32) (v4 : Int32) (m : tk_m) (hv0 : tk_lay[v0]? = some (.inl 5)) (out : tk_m), r17 v0 v1 v2 v3 v4 m = some out → tk_Ex sc 1 tk_r61 tk_k61 17 [(0, .ref v0), (1, .int v1), (2, .int v2), (3, .int v3), (4, .int v4)] [] (tk_full m) (none, tk_full out)) : ∀ (n : Nat) (v0 : Nat) (v1 : Int32) (v2 : Int32) (v3 : Int32) (v4 : Int32) (v5 : Int32) (m : tk_m) (hv0 : tk_lay[v0]? = some (.inl 5)) (out : tk_m), fS_chooseSet_32 r4 r17 n v0 v1 v2 v3 v4 v5 m = some out → tk_Ex sc 1 tk_r61 tk_k61 32 [(0, .ref v0), (1, .int v1), (2, .int v2), (3, .int v3), (4, .int v4), (5, .int v5)] [] (tk_full m) (none, tk_full out) := by
  intro n
  induction n with
  | zero =>
    intro v0 v1 v2 v3 v4 v5 m hv0 out h
    cases h
  | succ n ih =>
    intro v0 v1 v2 v3 v4 v5 m hv0 out h
    unfold fS_chooseSet_32 at h
    refine tk_Ps  2 (pc' := 35) (ls' := [(0, .ref v0), (1, .int v1), (2, .int v2), (3, .int v3), (4, .int v4), (5, .int v5)]) (st' := [.ref v0, .int v5]) rfl ?_
    refine tk_HI  rfl rfl hv0 ?_
    by_cases hc1 : (m.1 v0 1) ≤ v5
    · replace h := tk_ifT hc1 h
      refine tk_bT  rfl rfl rfl (c := (m.1 v0 1) ≤ v5) hc1 (pc' := 64) (ls' := [(0, .ref v0), (1, .int v1), (2, .int v2), (3, .int v3), (4, .int v4), (5, .int v5)]) (st' := []) ?_
      refine tk_Ps  2 (pc' := 17) (ls' := [(4, .int (v4 + (1 : Int32))), (0, .ref v0), (1, .int v1), (2, .int v2), (3, .int v3), (5, .int v5)]) (st' := []) rfl ?_
      refine tk_Kp  (ls' := [(0, .ref v0), (1, .int v1), (2, .int v2), (3, .int v3), (4, .int (v4 + (1 : Int32)))]) rfl rfl ?_
      exact H17 v0 v1 v2 v3 (v4 + (1 : Int32)) m hv0 _ h
    · replace h := tk_ifF hc1 h
      refine tk_bF  rfl rfl rfl (c := (m.1 v0 1) ≤ v5) hc1 (pc' := 41) (ls' := [(0, .ref v0), (1, .int v1), (2, .int v2), (3, .int v3), (4, .int v4), (5, .int v5)]) (st' := []) ?_
      refine tk_Ps  2 (pc' := 43) (ls' := [(0, .ref v0), (1, .int v1), (2, .int v2), (3, .int v3), (4, .int v4), (5, .int v5)]) (st' := [.int v1, .int v2]) rfl ?_
      by_cases hc2 : v2 = v1
      · replace h := tk_ifT hc2 h
        refine tk_bT  rfl rfl rfl (c := v2 = v1) hc2 (pc' := 46) (ls' := [(0, .ref v0), (1, .int v1), (2, .int v2), (3, .int v3), (4, .int v4), (5, .int v5)]) (st' := []) ?_
        refine tk_Ps  4 (pc' := 52) (ls' := [(0, .ref v0), (1, .int v1), (2, .int v2), (3, .int v3), (4, .int v4), (5, .int v5)]) (st' := [.int v5, .int v4, .int v3, .ref v0]) rfl ?_
        obtain ⟨o3, ho3, h⟩ := tk_lete h
        refine tk_cV0  rfl rfl (r := v0) (as := [.int v3, .int v4, .int v5]) (rest := []) rfl hv0 rfl rfl (ok_fS_choose sc v0 v3 v4 v5 m hv0 ho3) ?_
        refine tk_Ps  3 (pc' := 32) (ls' := [(5, .int (v5 + (1 : Int32))), (2, .int (v2 + (1 : Int32))), (0, .ref v0), (1, .int v1), (3, .int v3), (4, .int v4)]) (st' := []) rfl ?_
        refine tk_Kp  (ls' := [(0, .ref v0), (1, .int v1), (2, .int (v2 + (1 : Int32))), (3, .int v3), (4, .int v4), (5, .int (v5 + (1 : Int32)))]) rfl rfl ?_
        exact ih v0 v1 (v2 + (1 : Int32)) v3 v4 (v5 + (1 : Int32)) o3 hv0 _ h
      · replace h := tk_ifF hc2 h
        refine tk_bF  rfl rfl rfl (c := v2 = v1) hc2 (pc' := 55) (ls' := [(0, .ref v0), (1, .int v1), (2, .int v2), (3, .int v3), (4, .int v4), (5, .int v5)]) (st' := []) ?_
        refine tk_Ps  3 (pc' := 32) (ls' := [(5, .int (v5 + (1 : Int32))), (2, .int (v2 + (1 : Int32))), (0, .ref v0), (1, .int v1), (3, .int v3), (4, .int v4)]) (st' := []) rfl ?_
        refine tk_Kp  (ls' := [(0, .ref v0), (1, .int v1), (2, .int (v2 + (1 : Int32))), (3, .int v3), (4, .int v4), (5, .int (v5 + (1 : Int32)))]) rfl rfl ?_
        exact ih v0 v1 (v2 + (1 : Int32)) v3 v4 (v5 + (1 : Int32)) m hv0 _ h
theorem ok_fS_chooseSet_17 (sc : tk_X) (r4 : Nat → Int32 → Int32 → Int32 → tk_m → Option tk_m) (H4 : ∀ (v0 : Nat) (v1 : Int32) (v2 : Int32) (v3 : Int32) (m : tk_m) (hv0 : tk_lay[v0]? = some (.inl 5)) (out : tk_m), r4 v0 v1 v2 v3 m = some out → tk_Ex sc 1 tk_r61 tk_k61 4 [(0, .ref v0), (1, .int v1), (2, .int v2), (3, .int v3)] [] (tk_full m) (none, tk_full out)) : ∀ (n : Nat) (v0 : Nat) (v1 : Int32) (v2 : Int32) (v3 : Int32) (v4 : Int32) (m : tk_m) (hv0 : tk_lay[v0]? = some (.inl 5)) (out : tk_m), fS_chooseSet_17 r4 n v0 v1 v2 v3 v4 m = some out → tk_Ex sc 1 tk_r61 tk_k61 17 [(0, .ref v0), (1, .int v1), (2, .int v2), (3, .int v3), (4, .int v4)] [] (tk_full m) (none, tk_full out) := by
  intro n
  induction n with
  | zero =>
    intro v0 v1 v2 v3 v4 m hv0 out h
    cases h
  | succ n ih =>
    intro v0 v1 v2 v3 v4 m hv0 out h
    unfold fS_chooseSet_17 at h
    refine tk_Ps  2 (pc' := 20) (ls' := [(0, .ref v0), (1, .int v1), (2, .int v2), (3, .int v3), (4, .int v4)]) (st' := [.ref v0, .int v4]) rfl ?_
    refine tk_HI  rfl rfl hv0 ?_
    by_cases hc1 : (m.1 v0 1) ≤ v4
    · replace h := tk_ifT hc1 h
      refine tk_bT  rfl rfl rfl (c := (m.1 v0 1) ≤ v4) hc1 (pc' := 70) (ls' := [(0, .ref v0), (1, .int v1), (2, .int v2), (3, .int v3), (4, .int v4)]) (st' := []) ?_
      refine tk_Ps  2 (pc' := 4) (ls' := [(3, .int (v3 + (1 : Int32))), (0, .ref v0), (1, .int v1), (2, .int v2), (4, .int v4)]) (st' := []) rfl ?_
      refine tk_Kp  (ls' := [(0, .ref v0), (1, .int v1), (2, .int v2), (3, .int (v3 + (1 : Int32)))]) rfl rfl ?_
      exact H4 v0 v1 v2 (v3 + (1 : Int32)) m hv0 _ h
    · replace h := tk_ifF hc1 h
      refine tk_bF  rfl rfl rfl (c := (m.1 v0 1) ≤ v4) hc1 (pc' := 26) (ls' := [(0, .ref v0), (1, .int v1), (2, .int v2), (3, .int v3), (4, .int v4)]) (st' := []) ?_
      refine tk_Ps  4 (pc' := 32) (ls' := [(5, .int (v4 + (1 : Int32))), (0, .ref v0), (1, .int v1), (2, .int v2), (3, .int v3), (4, .int v4)]) (st' := []) rfl ?_
      refine tk_Kp  (ls' := [(0, .ref v0), (1, .int v1), (2, .int v2), (3, .int v3), (4, .int v4), (5, .int (v4 + (1 : Int32)))]) rfl rfl ?_
      exact ok_fS_chooseSet_32 sc r4 H4 (fS_chooseSet_17 r4 n) ih tk_F v0 v1 v2 v3 v4 (v4 + (1 : Int32)) m hv0 _ h
theorem ok_fS_chooseSet_4 (sc : tk_X) : ∀ (n : Nat) (v0 : Nat) (v1 : Int32) (v2 : Int32) (v3 : Int32) (m : tk_m) (hv0 : tk_lay[v0]? = some (.inl 5)) (out : tk_m), fS_chooseSet_4 n v0 v1 v2 v3 m = some out → tk_Ex sc 1 tk_r61 tk_k61 4 [(0, .ref v0), (1, .int v1), (2, .int v2), (3, .int v3)] [] (tk_full m) (none, tk_full out) := by
  intro n
  induction n with
  | zero =>
    intro v0 v1 v2 v3 m hv0 out h
    cases h
  | succ n ih =>
    intro v0 v1 v2 v3 m hv0 out h
    unfold fS_chooseSet_4 at h
    refine tk_Ps  2 (pc' := 6) (ls' := [(0, .ref v0), (1, .int v1), (2, .int v2), (3, .int v3)]) (st' := [.ref v0, .int v3]) rfl ?_
    refine tk_HI  rfl rfl hv0 ?_
    by_cases hc1 : (m.1 v0 1) ≤ v3
    · replace h := tk_ifT hc1 h
      refine tk_bT  rfl rfl rfl (c := (m.1 v0 1) ≤ v3) hc1 (pc' := 76) (ls' := [(0, .ref v0), (1, .int v1), (2, .int v2), (3, .int v3)]) (st' := []) ?_
      replace h := Option.some.inj h
      subst h
      exact tk_RV  rfl rfl rfl
    · replace h := tk_ifF hc1 h
      refine tk_bF  rfl rfl rfl (c := (m.1 v0 1) ≤ v3) hc1 (pc' := 12) (ls' := [(0, .ref v0), (1, .int v1), (2, .int v2), (3, .int v3)]) (st' := []) ?_
      refine tk_Ps  4 (pc' := 17) (ls' := [(4, .int (v3 + (1 : Int32))), (0, .ref v0), (1, .int v1), (2, .int v2), (3, .int v3)]) (st' := []) rfl ?_
      refine tk_Kp  (ls' := [(0, .ref v0), (1, .int v1), (2, .int v2), (3, .int v3), (4, .int (v3 + (1 : Int32)))]) rfl rfl ?_
      exact ok_fS_chooseSet_17 sc (fS_chooseSet_4 n) ih tk_F v0 v1 v2 v3 (v3 + (1 : Int32)) m hv0 _ h
theorem ok_fS_chooseSet (sc : tk_X) (t : Nat) (a1 : Int32) (m : tk_m) (ht : tk_lay[t]? = some (.inl 5)) {out : tk_m} (h : fS_chooseSet t a1 m = some out) : tk_Ru sc 2 61 [.ref t, .int a1] (tk_full m) (none, tk_full out) := by
  unfold fS_chooseSet at h
  refine tk_Ru0 me61 (ls := [(0, .ref t), (1, .int a1)]) rfl rfl ?_
  refine tk_Ps  4 (pc' := 4) (ls' := [(3, .int (0 : Int32)), (2, .int (0 : Int32)), (0, .ref t), (1, .int a1)]) (st' := []) rfl ?_
  refine tk_Kp  (ls' := [(0, .ref t), (1, .int a1), (2, .int (0 : Int32)), (3, .int (0 : Int32))]) rfl rfl ?_
  exact ok_fS_chooseSet_4 sc tk_F t a1 (0 : Int32) (0 : Int32) m ht _ h
theorem ok_fS_drawThree (sc : tk_X) (t : Nat) (m : tk_m) (ht : tk_lay[t]? = some (.inl 5)) {out : Int32 × tk_m} (h : fS_drawThree t m = some out) : tk_Ru sc 3 60 [.ref t] (tk_full m) (some (.int out.1), tk_full out.2) := by
  unfold fS_drawThree at h
  refine tk_Ru0 me60 (ls := [(0, .ref t)]) rfl rfl ?_
  refine tk_Ps  1 (pc' := 1) (ls' := [(0, .ref t)]) (st' := [.ref t]) rfl ?_
  refine tk_HI  rfl rfl ht ?_
  refine tk_Ps  1 (pc' := 5) (ls' := [(0, .ref t)]) (st' := [.ref t, .int (m.1 t 1)]) rfl ?_
  refine tk_HI  rfl rfl ht ?_
  refine tk_Ps  4 (pc' := 12) (ls' := [(0, .ref t)]) (st' := [.ref t, .int ((m.1 t 1) * ((m.1 t 1) - (1 : Int32)))]) rfl ?_
  refine tk_HI  rfl rfl ht ?_
  refine tk_Ps  8 (pc' := 24) (ls' := [(1, .int ((((m.1 t 1) * ((m.1 t 1) - (1 : Int32))) * ((m.1 t 1) - (2 : Int32))) / (6 : Int32))), (0, .ref t)]) (st' := [.ref t, .ref t]) rfl ?_
  refine tk_HI  rfl rfl ht ?_
  refine tk_Ps  4 (pc' := 34) (ls' := [(1, .int ((((m.1 t 1) * ((m.1 t 1) - (1 : Int32))) * ((m.1 t 1) - (2 : Int32))) / (6 : Int32))), (0, .ref t)]) (st' := [.int (((m.1 t 3) * (1103515245 : Int32)) + (12345 : Int32)), .ref t]) rfl ?_
  refine tk_SI  rfl rfl ht ?_
  refine tk_Ps  1 (pc' := 38) (ls' := [(1, .int ((((m.1 t 1) * ((m.1 t 1) - (1 : Int32))) * ((m.1 t 1) - (2 : Int32))) / (6 : Int32))), (0, .ref t)]) (st' := [.int ((((m.1 t 1) * ((m.1 t 1) - (1 : Int32))) * ((m.1 t 1) - (2 : Int32))) / (6 : Int32))]) rfl ?_
  by_cases hc1 : ((((m.1 t 1) * ((m.1 t 1) - (1 : Int32))) * ((m.1 t 1) - (2 : Int32))) / (6 : Int32)) ≤ 0
  · replace h := tk_ifT hc1 h
    refine tk_bT  rfl rfl rfl (c := ((((m.1 t 1) * ((m.1 t 1) - (1 : Int32))) * ((m.1 t 1) - (2 : Int32))) / (6 : Int32)) ≤ 0) hc1 (pc' := 53) (ls' := [(1, .int ((((m.1 t 1) * ((m.1 t 1) - (1 : Int32))) * ((m.1 t 1) - (2 : Int32))) / (6 : Int32))), (0, .ref t)]) (st' := []) ?_
    refine tk_Ps  4 (pc' := 57) (ls' := [(2, .int (0 : Int32)), (1, .int ((((m.1 t 1) * ((m.1 t 1) - (1 : Int32))) * ((m.1 t 1) - (2 : Int32))) / (6 : Int32))), (0, .ref t)]) (st' := [.int (0 : Int32), .ref t]) rfl ?_
    obtain ⟨o2, ho2, h⟩ := tk_bnd h
    refine tk_cV0  rfl rfl (r := t) (as := [.int (0 : Int32)]) (rest := []) rfl ht rfl rfl (ok_fS_chooseSet sc t (0 : Int32) (tk_u2 m.1 t 3 (((m.1 t 3) * (1103515245 : Int32)) + (12345 : Int32)), m.2.1, m.2.2.1, m.2.2.2) ht ho2) ?_
    refine tk_Ps  1 (pc' := 61) (ls' := [(2, .int (0 : Int32)), (1, .int ((((m.1 t 1) * ((m.1 t 1) - (1 : Int32))) * ((m.1 t 1) - (2 : Int32))) / (6 : Int32))), (0, .ref t)]) (st' := [.int (0 : Int32)]) rfl ?_
    replace h := Option.some.inj h
    subst h
    exact tk_RI  rfl rfl rfl
  · replace h := tk_ifF hc1 h
    refine tk_bF  rfl rfl rfl (c := ((((m.1 t 1) * ((m.1 t 1) - (1 : Int32))) * ((m.1 t 1) - (2 : Int32))) / (6 : Int32)) ≤ 0) hc1 (pc' := 41) (ls' := [(1, .int ((((m.1 t 1) * ((m.1 t 1) - (1 : Int32))) * ((m.1 t 1) - (2 : Int32))) / (6 : Int32))), (0, .ref t)]) (st' := []) ?_
    refine tk_Ps  1 (pc' := 42) (ls' := [(1, .int ((((m.1 t 1) * ((m.1 t 1) - (1 : Int32))) * ((m.1 t 1) - (2 : Int32))) / (6 : Int32))), (0, .ref t)]) (st' := [.ref t]) rfl ?_
    refine tk_HI  rfl rfl ht ?_
    refine tk_Ps  3 (pc' := 49) (ls' := [(1, .int ((((m.1 t 1) * ((m.1 t 1) - (1 : Int32))) * ((m.1 t 1) - (2 : Int32))) / (6 : Int32))), (0, .ref t)]) (st' := [.int ((((m.1 t 1) * ((m.1 t 1) - (1 : Int32))) * ((m.1 t 1) - (2 : Int32))) / (6 : Int32)), .int (tk_iushr (tk_u2 m.1 t 3 (((m.1 t 3) * (1103515245 : Int32)) + (12345 : Int32)) t 3) (8 : Int32))]) rfl ?_
    obtain ⟨hz3, h⟩ := tk_grn h
    refine tk_iremR  rfl rfl hz3 ?_
    refine tk_Ps  4 (pc' := 57) (ls' := [(2, .int (tk_irem (tk_iushr (tk_u2 m.1 t 3 (((m.1 t 3) * (1103515245 : Int32)) + (12345 : Int32)) t 3) (8 : Int32)) ((((m.1 t 1) * ((m.1 t 1) - (1 : Int32))) * ((m.1 t 1) - (2 : Int32))) / (6 : Int32)))), (1, .int ((((m.1 t 1) * ((m.1 t 1) - (1 : Int32))) * ((m.1 t 1) - (2 : Int32))) / (6 : Int32))), (0, .ref t)]) (st' := [.int (tk_irem (tk_iushr (tk_u2 m.1 t 3 (((m.1 t 3) * (1103515245 : Int32)) + (12345 : Int32)) t 3) (8 : Int32)) ((((m.1 t 1) * ((m.1 t 1) - (1 : Int32))) * ((m.1 t 1) - (2 : Int32))) / (6 : Int32))), .ref t]) rfl ?_
    obtain ⟨o4, ho4, h⟩ := tk_bnd h
    refine tk_cV0  rfl rfl (r := t) (as := [.int (tk_irem (tk_iushr (tk_u2 m.1 t 3 (((m.1 t 3) * (1103515245 : Int32)) + (12345 : Int32)) t 3) (8 : Int32)) ((((m.1 t 1) * ((m.1 t 1) - (1 : Int32))) * ((m.1 t 1) - (2 : Int32))) / (6 : Int32)))]) (rest := []) rfl ht rfl rfl (ok_fS_chooseSet sc t (tk_irem (tk_iushr (tk_u2 m.1 t 3 (((m.1 t 3) * (1103515245 : Int32)) + (12345 : Int32)) t 3) (8 : Int32)) ((((m.1 t 1) * ((m.1 t 1) - (1 : Int32))) * ((m.1 t 1) - (2 : Int32))) / (6 : Int32))) (tk_u2 m.1 t 3 (((m.1 t 3) * (1103515245 : Int32)) + (12345 : Int32)), m.2.1, m.2.2.1, m.2.2.2) ht ho4) ?_
    refine tk_Ps  1 (pc' := 61) (ls' := [(2, .int (tk_irem (tk_iushr (tk_u2 m.1 t 3 (((m.1 t 3) * (1103515245 : Int32)) + (12345 : Int32)) t 3) (8 : Int32)) ((((m.1 t 1) * ((m.1 t 1) - (1 : Int32))) * ((m.1 t 1) - (2 : Int32))) / (6 : Int32)))), (1, .int ((((m.1 t 1) * ((m.1 t 1) - (1 : Int32))) * ((m.1 t 1) - (2 : Int32))) / (6 : Int32))), (0, .ref t)]) (st' := [.int (tk_irem (tk_iushr (tk_u2 m.1 t 3 (((m.1 t 3) * (1103515245 : Int32)) + (12345 : Int32)) t 3) (8 : Int32)) ((((m.1 t 1) * ((m.1 t 1) - (1 : Int32))) * ((m.1 t 1) - (2 : Int32))) / (6 : Int32)))]) rfl ?_
    replace h := Option.some.inj h
    subst h
    exact tk_RI  rfl rfl rfl
theorem ok_fX_draw (sc : tk_X) (m : tk_m) {out : Int32 × tk_m} (h : fX_draw m = some out) : tk_Ru sc 4 59 [.ref 0] (tk_full m) (some (.int out.1), tk_full out.2) := by
  unfold fX_draw at h
  refine tk_Ru0 me59 (ls := [(0, .ref 0)]) rfl rfl ?_
  refine tk_Ps  1 (pc' := 1) (ls' := [(0, .ref 0)]) (st' := [.ref 0]) rfl ?_
  refine tk_HR  rfl rfl ly0 rt0_0 ?_
  refine tk_HI  rfl rfl ly1 ?_
  refine tk_Ps  1 (pc' := 8) (ls' := [(0, .ref 0)]) (st' := [.int (3 : Int32), .int (m.1 1 1)]) rfl ?_
  by_cases hc1 : (3 : Int32) ≤ (m.1 1 1)
  · replace h := tk_ifT hc1 h
    refine tk_bT  rfl rfl rfl (c := (3 : Int32) ≤ (m.1 1 1)) hc1 (pc' := 17) (ls' := [(0, .ref 0)]) (st' := []) ?_
    refine tk_Ps  1 (pc' := 18) (ls' := [(0, .ref 0)]) (st' := [.ref 0]) rfl ?_
    refine tk_HR  rfl rfl ly0 rt0_0 ?_
    obtain ⟨o2, ho2, h⟩ := tk_bnd h
    refine tk_cV1  rfl rfl (r := 1) (as := []) (rest := []) rfl ly1 rfl rfl (ok_fS_drawThree sc 1 m ly1 ho2) ?_
    replace h := Option.some.inj h
    subst h
    exact tk_RI  rfl rfl rfl
  · replace h := tk_ifF hc1 h
    refine tk_bF  rfl rfl rfl (c := (3 : Int32) ≤ (m.1 1 1)) hc1 (pc' := 11) (ls' := [(0, .ref 0)]) (st' := []) ?_
    refine tk_Ps  2 (pc' := 13) (ls' := [(0, .ref 0)]) (st' := [.int (4 : Int32), .ref 0]) rfl ?_
    obtain ⟨o3, ho3, h⟩ := tk_bnd h
    refine tk_cV1  rfl rfl (r := 0) (as := [.int (4 : Int32)]) (rest := []) rfl ly0 rfl rfl (ok_fX_finding sc (4 : Int32) m ho3) ?_
    replace h := Option.some.inj h
    subst h
    exact tk_RI  rfl rfl rfl
theorem ok_fS_hasThree (sc : tk_X) (t : Nat) (m : tk_m) (ht : tk_lay[t]? = some (.inl 5)) : tk_Ru sc 2 64 [.ref t] (tk_full m) (some (.int (tk_b (fS_hasThree t m))), tk_full m) := by
  obtain ⟨out, h⟩ : ∃ out, fS_hasThree t m = out := ⟨_, rfl⟩
  rw [h]
  unfold fS_hasThree at h
  refine tk_Ru0 me64 (ls := [(0, .ref t)]) rfl rfl ?_
  refine tk_Ps  2 (pc' := 2) (ls' := [(0, .ref t)]) (st' := [.ref t, .ref t]) rfl ?_
  refine tk_HR  rfl rfl ht (ro5_2 ht) ?_
  refine tk_Ps  1 (pc' := 6) (ls' := [(0, .ref t)]) (st' := [.int (0 : Int32), .ref (t + 2), .ref t]) rfl ?_
  refine tk_HIa  rfl rfl (lo5_2 ht) (by decide) ?_
  refine tk_cV1  rfl rfl (r := t) (as := [.int (m.1 (t + 2) 0)]) (rest := []) rfl ht rfl rfl (ok_fS_has sc t (m.1 (t + 2) 0) m ht) ?_
  by_cases hc1 : (fS_has t (m.1 (t + 2) 0) m) = true
  · replace h := tk_ifT hc1 h
    refine tk_bT  rfl rfl tk_eB_eq (c := (fS_has t (m.1 (t + 2) 0) m) = true) hc1 (pc' := 13) (ls' := [(0, .ref t)]) (st' := []) ?_
    refine tk_Ps  2 (pc' := 15) (ls' := [(0, .ref t)]) (st' := [.ref t, .ref t]) rfl ?_
    refine tk_HR  rfl rfl ht (ro5_2 ht) ?_
    refine tk_Ps  1 (pc' := 19) (ls' := [(0, .ref t)]) (st' := [.int (1 : Int32), .ref (t + 2), .ref t]) rfl ?_
    refine tk_HIa  rfl rfl (lo5_2 ht) (by decide) ?_
    refine tk_cV1  rfl rfl (r := t) (as := [.int (m.1 (t + 2) 1)]) (rest := []) rfl ht rfl rfl (ok_fS_has sc t (m.1 (t + 2) 1) m ht) ?_
    by_cases hc2 : (fS_has t (m.1 (t + 2) 1) m) = true
    · replace h := tk_ifT hc2 h
      refine tk_bT  rfl rfl tk_eB_eq (c := (fS_has t (m.1 (t + 2) 1) m) = true) hc2 (pc' := 26) (ls' := [(0, .ref t)]) (st' := []) ?_
      refine tk_Ps  2 (pc' := 28) (ls' := [(0, .ref t)]) (st' := [.ref t, .ref t]) rfl ?_
      refine tk_HR  rfl rfl ht (ro5_2 ht) ?_
      refine tk_Ps  1 (pc' := 32) (ls' := [(0, .ref t)]) (st' := [.int (2 : Int32), .ref (t + 2), .ref t]) rfl ?_
      refine tk_HIa  rfl rfl (lo5_2 ht) (by decide) ?_
      refine tk_cV1  rfl rfl (r := t) (as := [.int (m.1 (t + 2) 2)]) (rest := []) rfl ht rfl rfl (ok_fS_has sc t (m.1 (t + 2) 2) m ht) ?_
      by_cases hc3 : (fS_has t (m.1 (t + 2) 2) m) = true
      · replace h := tk_ifT hc3 h
        refine tk_bT  rfl rfl tk_eB_eq (c := (fS_has t (m.1 (t + 2) 2) m) = true) hc3 (pc' := 39) (ls' := [(0, .ref t)]) (st' := []) ?_
        refine tk_Ps  2 (pc' := 44) (ls' := [(0, .ref t)]) (st' := [.int (1 : Int32)]) rfl ?_
        subst h
        exact tk_RB (b := true)  rfl rfl rfl
      · replace h := tk_ifF hc3 h
        refine tk_bF  rfl rfl tk_eB_eq (c := (fS_has t (m.1 (t + 2) 2) m) = true) hc3 (pc' := 43) (ls' := [(0, .ref t)]) (st' := []) ?_
        refine tk_Ps  1 (pc' := 44) (ls' := [(0, .ref t)]) (st' := [.int (0 : Int32)]) rfl ?_
        subst h
        exact tk_RB (b := false)  rfl rfl rfl
    · replace h := tk_ifF hc2 h
      refine tk_bF  rfl rfl tk_eB_eq (c := (fS_has t (m.1 (t + 2) 1) m) = true) hc2 (pc' := 43) (ls' := [(0, .ref t)]) (st' := []) ?_
      refine tk_Ps  1 (pc' := 44) (ls' := [(0, .ref t)]) (st' := [.int (0 : Int32)]) rfl ?_
      subst h
      exact tk_RB (b := false)  rfl rfl rfl
  · replace h := tk_ifF hc1 h
    refine tk_bF  rfl rfl tk_eB_eq (c := (fS_has t (m.1 (t + 2) 0) m) = true) hc1 (pc' := 43) (ls' := [(0, .ref t)]) (st' := []) ?_
    refine tk_Ps  1 (pc' := 44) (ls' := [(0, .ref t)]) (st' := [.int (0 : Int32)]) rfl ?_
    subst h
    exact tk_RB (b := false)  rfl rfl rfl
theorem ok_fF_forget (sc : tk_X) (m : tk_m) {out : tk_m} (h : fF_forget m = out) : tk_Ru sc 1 65 [.ref 39] (tk_full m) (none, tk_full out) := by
  unfold fF_forget at h
  refine tk_Ru0 me65 (ls := [(0, .ref 39)]) rfl rfl ?_
  refine tk_Ps  2 (pc' := 2) (ls' := [(0, .ref 39)]) (st' := [.int (0 : Int32), .ref 39]) rfl ?_
  refine tk_SI  rfl rfl ly39 ?_
  refine tk_Ps  2 (pc' := 7) (ls' := [(0, .ref 39)]) (st' := [.int (0 : Int32), .ref 39]) rfl ?_
  refine tk_SI  rfl rfl ly39 ?_
  refine tk_Ps  2 (pc' := 12) (ls' := [(0, .ref 39)]) (st' := [.int (0 : Int32), .ref 39]) rfl ?_
  refine tk_SI  rfl rfl ly39 ?_
  subst h
  exact tk_RV  rfl rfl rfl
theorem ok_fF_hasBit (sc : tk_X) (a1 : Int32) (a2 : Int32) (m : tk_m) : tk_Ru sc 1 68 [.int a1, .int a2] (tk_full m) (some (.int (tk_b (fF_hasBit a1 a2))), tk_full m) := by
  obtain ⟨out, h⟩ : ∃ out, fF_hasBit a1 a2 = out := ⟨_, rfl⟩
  rw [h]
  unfold fF_hasBit at h
  refine tk_Ru0 me68 (ls := [(0, .int a1), (1, .int a2)]) rfl rfl ?_
  refine tk_Ps  6 (pc' := 6) (ls' := [(0, .int a1), (1, .int a2)]) (st' := [.int (1 : Int32), .int ((tk_ishr a1 a2) &&& (1 : Int32))]) rfl ?_
  by_cases hc1 : ((tk_ishr a1 a2) &&& (1 : Int32)) = (1 : Int32)
  · replace h := tk_ifT hc1 h
    refine tk_bT  rfl rfl rfl (c := ((tk_ishr a1 a2) &&& (1 : Int32)) = (1 : Int32)) hc1 (pc' := 9) (ls' := [(0, .int a1), (1, .int a2)]) (st' := []) ?_
    refine tk_Ps  2 (pc' := 14) (ls' := [(0, .int a1), (1, .int a2)]) (st' := [.int (1 : Int32)]) rfl ?_
    subst h
    exact tk_RB (b := true)  rfl rfl rfl
  · replace h := tk_ifF hc1 h
    refine tk_bF  rfl rfl rfl (c := ((tk_ishr a1 a2) &&& (1 : Int32)) = (1 : Int32)) hc1 (pc' := 13) (ls' := [(0, .int a1), (1, .int a2)]) (st' := []) ?_
    refine tk_Ps  1 (pc' := 14) (ls' := [(0, .int a1), (1, .int a2)]) (st' := [.int (0 : Int32)]) rfl ?_
    subst h
    exact tk_RB (b := false)  rfl rfl rfl
theorem ok_fS_given (sc : tk_X) (t : Nat) (a1 : Int32) (m : tk_m) (ht : tk_lay[t]? = some (.inl 5)) {out : Nat} (h : fS_given t a1 m = some out) : tk_Ru sc 1 69 [.ref t, .int a1] (tk_full m) (some (.ref out), tk_full m) := by
  unfold fS_given at h
  refine tk_Ru0 me69 (ls := [(0, .ref t), (1, .int a1)]) rfl rfl ?_
  refine tk_Ps  1 (pc' := 1) (ls' := [(0, .ref t), (1, .int a1)]) (st' := [.ref t]) rfl ?_
  refine tk_HR  rfl rfl ht (ro5_0 ht) ?_
  refine tk_Ps  1 (pc' := 5) (ls' := [(0, .ref t), (1, .int a1)]) (st' := [.ref t, .ref (t + 1)]) rfl ?_
  refine tk_HR  rfl rfl ht (ro5_2 ht) ?_
  refine tk_Ps  1 (pc' := 9) (ls' := [(0, .ref t), (1, .int a1)]) (st' := [.int a1, .ref (t + 2), .ref (t + 1)]) rfl ?_
  obtain ⟨hg1, h⟩ := tk_grd h
  refine tk_HIa  rfl rfl (lo5_2 ht) hg1 ?_
  obtain ⟨hg2, h⟩ := tk_grd h
  refine tk_HP  rfl rfl (lo5_0 ht) hg2 ?_
  replace h := Option.some.inj h
  subst h
  exact tk_RA  rfl rfl rfl rfl
theorem lay_fS_given (sc : tk_X) (t : Nat) (a1 : Int32) (m : tk_m) (ht : tk_lay[t]? = some (.inl 5)) {out : Nat} (h : fS_given t a1 m = some out) : tk_lay[out]? = some (.inl 6) := by
  unfold fS_given at h
  obtain ⟨hg1, h⟩ := tk_grd h
  obtain ⟨hg2, h⟩ := tk_grd h
  replace h := Option.some.inj h
  subst h
  exact tk_sh (lo5_0 ht) _
theorem ok_fF_doCount_2 (sc : tk_X) : ∀ (n : Nat) (v0 : Nat) (v1 : Int32) (v2 : Int32) (m : tk_m) (hv0 : tk_lay[v0]? = some (.inl 5)) (out : Bool), fF_doCount_2 n v0 v1 v2 m = some out → tk_Ex sc 1 tk_r67 tk_k67 2 [(0, .ref v0), (1, .int v1), (2, .int v2)] [] (tk_full m) (some (.int (tk_b out)), tk_full m) := by
  intro n
  induction n with
  | zero =>
    intro v0 v1 v2 m hv0 out h
    cases h
  | succ n ih =>
    intro v0 v1 v2 m hv0 out h
    unfold fF_doCount_2 at h
    refine tk_Ps  2 (pc' := 4) (ls' := [(0, .ref v0), (1, .int v1), (2, .int v2)]) (st' := [.int (3 : Int32), .int v2]) rfl ?_
    by_cases hc1 : (3 : Int32) ≤ v2
    · replace h := tk_ifT hc1 h
      refine tk_bT  rfl rfl rfl (c := (3 : Int32) ≤ v2) hc1 (pc' := 35) (ls' := [(0, .ref v0), (1, .int v1), (2, .int v2)]) (st' := []) ?_
      refine tk_Ps  1 (pc' := 36) (ls' := [(0, .ref v0), (1, .int v1), (2, .int v2)]) (st' := [.int (1 : Int32)]) rfl ?_
      replace h := Option.some.inj h
      subst h
      exact tk_RB (b := true)  rfl rfl rfl
    · replace h := tk_ifF hc1 h
      refine tk_bF  rfl rfl rfl (c := (3 : Int32) ≤ v2) hc1 (pc' := 7) (ls' := [(0, .ref v0), (1, .int v1), (2, .int v2)]) (st' := []) ?_
      refine tk_Ps  2 (pc' := 9) (ls' := [(0, .ref v0), (1, .int v1), (2, .int v2)]) (st' := [.int v2, .int v1]) rfl ?_
      refine tk_cS1  rfl rfl (as := [.int v1, .int v2]) (rest := []) rfl rfl rfl (ok_fF_hasBit sc v1 v2 m) ?_
      by_cases hc2 : (fF_hasBit v1 v2) = true
      · replace h := tk_ifT hc2 h
        refine tk_bT  rfl rfl tk_eB_eq (c := (fF_hasBit v1 v2) = true) hc2 (pc' := 15) (ls' := [(0, .ref v0), (1, .int v1), (2, .int v2)]) (st' := []) ?_
        refine tk_Ps  2 (pc' := 17) (ls' := [(0, .ref v0), (1, .int v1), (2, .int v2)]) (st' := [.int v2, .ref v0]) rfl ?_
        obtain ⟨o3, ho3, h⟩ := tk_bnd h
        refine tk_cV1  rfl rfl (r := v0) (as := [.int v2]) (rest := []) rfl hv0 rfl rfl (ok_fS_given sc v0 v2 m hv0 ho3) ?_
        refine tk_cV1  rfl rfl (r := o3) (as := []) (rest := []) rfl (lay_fS_given sc v0 v2 m hv0 ho3) rfl rfl (ok_fH_lowestKind sc o3 m (lay_fS_given sc v0 v2 m hv0 ho3)) ?_
        refine tk_Ps  1 (pc' := 24) (ls' := [(0, .ref v0), (1, .int v1), (2, .int v2)]) (st' := [.int (3 : Int32), .int (fH_lowestKind o3 m)]) rfl ?_
        by_cases hc4 : (fH_lowestKind o3 m) = (3 : Int32)
        · replace h := tk_ifT hc4 h
          refine tk_bT  rfl rfl rfl (c := (fH_lowestKind o3 m) = (3 : Int32)) hc4 (pc' := 27) (ls' := [(0, .ref v0), (1, .int v1), (2, .int v2)]) (st' := []) ?_
          refine tk_Ps  1 (pc' := 28) (ls' := [(0, .ref v0), (1, .int v1), (2, .int v2)]) (st' := [.int (0 : Int32)]) rfl ?_
          replace h := Option.some.inj h
          subst h
          exact tk_RB (b := false)  rfl rfl rfl
        · replace h := tk_ifF hc4 h
          refine tk_bF  rfl rfl rfl (c := (fH_lowestKind o3 m) = (3 : Int32)) hc4 (pc' := 29) (ls' := [(0, .ref v0), (1, .int v1), (2, .int v2)]) (st' := []) ?_
          refine tk_Ps  2 (pc' := 2) (ls' := [(2, .int (v2 + (1 : Int32))), (0, .ref v0), (1, .int v1)]) (st' := []) rfl ?_
          refine tk_Kp  (ls' := [(0, .ref v0), (1, .int v1), (2, .int (v2 + (1 : Int32)))]) rfl rfl ?_
          exact ih v0 v1 (v2 + (1 : Int32)) m hv0 _ h
      · replace h := tk_ifF hc2 h
        refine tk_bF  rfl rfl tk_eB_eq (c := (fF_hasBit v1 v2) = true) hc2 (pc' := 29) (ls' := [(0, .ref v0), (1, .int v1), (2, .int v2)]) (st' := []) ?_
        refine tk_Ps  2 (pc' := 2) (ls' := [(2, .int (v2 + (1 : Int32))), (0, .ref v0), (1, .int v1)]) (st' := []) rfl ?_
        refine tk_Kp  (ls' := [(0, .ref v0), (1, .int v1), (2, .int (v2 + (1 : Int32)))]) rfl rfl ?_
        exact ih v0 v1 (v2 + (1 : Int32)) m hv0 _ h
theorem ok_fF_doCount (sc : tk_X) (a1 : Nat) (a2 : Int32) (m : tk_m) (ha1 : tk_lay[a1]? = some (.inl 5)) {out : Bool} (h : fF_doCount a1 a2 m = some out) : tk_Ru sc 2 67 [.ref a1, .int a2] (tk_full m) (some (.int (tk_b out)), tk_full m) := by
  unfold fF_doCount at h
  refine tk_Ru0 me67 (ls := [(0, .ref a1), (1, .int a2)]) rfl rfl ?_
  refine tk_Ps  2 (pc' := 2) (ls' := [(2, .int (0 : Int32)), (0, .ref a1), (1, .int a2)]) (st' := []) rfl ?_
  refine tk_Kp  (ls' := [(0, .ref a1), (1, .int a2), (2, .int (0 : Int32))]) rfl rfl ?_
  exact ok_fF_doCount_2 sc tk_F a1 a2 (0 : Int32) m ha1 _ h

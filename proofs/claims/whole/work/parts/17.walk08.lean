theorem ok_fM_swap (sc : tk_X) (a1 : Int32) (a2 : Int32) (m : tk_m) {out : Int32 × tk_m} (h : fM_swap a1 a2 m = some out) : tk_Ru sc 3 196 [.ref 295, .int a1, .int a2] (tk_full m) (some (.int out.1), tk_full out.2) := by
  unfold fM_swap at h
  refine tk_Ru0 me196 (ls := [(0, .ref 295), (1, .int a1), (2, .int a2)]) rfl rfl ?_
  refine tk_Ps  2 (pc' := 2) (ls' := [(0, .ref 295), (1, .int a1), (2, .int a2)]) (st' := [.int a1, .ref 295]) rfl ?_
  refine tk_cV1  rfl rfl (r := 295) (as := [.int a1]) (rest := []) rfl ly295 rfl rfl (ok_fM_isShape sc a1 m) ?_
  by_cases hc1 : (fM_isShape a1 m) = true
  · replace h := tk_ifT hc1 h
    refine tk_bT  rfl rfl tk_eB_eq (c := (fM_isShape a1 m) = true) hc1 (pc' := 8) (ls' := [(0, .ref 295), (1, .int a1), (2, .int a2)]) (st' := []) ?_
    refine tk_Ps  2 (pc' := 10) (ls' := [(0, .ref 295), (1, .int a1), (2, .int a2)]) (st' := [.int a2, .ref 295]) rfl ?_
    refine tk_cV1  rfl rfl (r := 295) (as := [.int a2]) (rest := []) rfl ly295 rfl rfl (ok_fM_isShape sc a2 m) ?_
    by_cases hc2 : (fM_isShape a2 m) = true
    · replace h := tk_ifT hc2 h
      refine tk_bT  rfl rfl tk_eB_ne (c := (fM_isShape a2 m) = true) hc2 (pc' := 22) (ls' := [(0, .ref 295), (1, .int a1), (2, .int a2)]) (st' := []) ?_
      refine tk_Ps  3 (pc' := 25) (ls' := [(0, .ref 295), (1, .int a1), (2, .int a2)]) (st' := [.int a2, .int a1, .ref 295]) rfl ?_
      obtain ⟨o3, ho3, h⟩ := tk_bnd h
      refine tk_cV0  rfl rfl (r := 295) (as := [.int a1, .int a2]) (rest := []) rfl ly295 rfl rfl (ok_fM_swaps sc a1 a2 m ho3) ?_
      refine tk_Ps  1 (pc' := 29) (ls' := [(0, .ref 295), (1, .int a1), (2, .int a2)]) (st' := [.int (1 : Int32)]) rfl ?_
      replace h := Option.some.inj h
      subst h
      exact tk_RI  rfl rfl rfl
    · replace h := tk_ifF hc2 h
      refine tk_bF  rfl rfl tk_eB_ne (c := (fM_isShape a2 m) = true) hc2 (pc' := 16) (ls' := [(0, .ref 295), (1, .int a1), (2, .int a2)]) (st' := []) ?_
      refine tk_Ps  2 (pc' := 18) (ls' := [(0, .ref 295), (1, .int a1), (2, .int a2)]) (st' := [.int (0 : Int32), .ref 295]) rfl ?_
      obtain ⟨o4, ho4, h⟩ := tk_bnd h
      refine tk_cV1  rfl rfl (r := 295) (as := [.int (0 : Int32)]) (rest := []) rfl ly295 rfl rfl (ok_fM_finds sc (0 : Int32) m ho4) ?_
      replace h := Option.some.inj h
      subst h
      exact tk_RI  rfl rfl rfl
  · replace h := tk_ifF hc1 h
    refine tk_bF  rfl rfl tk_eB_eq (c := (fM_isShape a1 m) = true) hc1 (pc' := 16) (ls' := [(0, .ref 295), (1, .int a1), (2, .int a2)]) (st' := []) ?_
    refine tk_Ps  2 (pc' := 18) (ls' := [(0, .ref 295), (1, .int a1), (2, .int a2)]) (st' := [.int (0 : Int32), .ref 295]) rfl ?_
    obtain ⟨o5, ho5, h⟩ := tk_bnd h
    refine tk_cV1  rfl rfl (r := 295) (as := [.int (0 : Int32)]) (rest := []) rfl ly295 rfl rfl (ok_fM_finds sc (0 : Int32) m ho5) ?_
    replace h := Option.some.inj h
    subst h
    exact tk_RI  rfl rfl rfl
theorem ok_fM_turn_2 (sc : tk_X) : ∀ (n : Nat) (v1 : Int32) (m : tk_m) (out : Int32 × tk_m), fM_turn_2 n v1 m = some out → tk_Ex sc 2 tk_r198 tk_k198 2 [(0, .ref 295), (1, .int v1)] [] (tk_full m) (some (.int out.1), tk_full out.2) := by
  intro n
  induction n with
  | zero =>
    intro v1 m out h
    cases h
  | succ n ih =>
    intro v1 m out h
    unfold fM_turn_2 at h
    refine tk_Ps  2 (pc' := 4) (ls' := [(0, .ref 295), (1, .int v1)]) (st' := [.ref 295, .int v1]) rfl ?_
    refine tk_HR  rfl rfl ly295 rt295_0 ?_
    refine tk_Ps  1 (pc' := 8) (ls' := [(0, .ref 295), (1, .int v1)]) (st' := [.int (0 : Int32), .ref 296, .int v1]) rfl ?_
    refine tk_HIa  rfl rfl ly296 (by decide) ?_
    refine tk_Ps  2 (pc' := 11) (ls' := [(0, .ref 295), (1, .int v1)]) (st' := [.int ((m.1 296 0) / (2 : Int32)), .int v1]) rfl ?_
    by_cases hc1 : ((m.1 296 0) / (2 : Int32)) ≤ v1
    · replace h := tk_ifT hc1 h
      refine tk_bT  rfl rfl rfl (c := ((m.1 296 0) / (2 : Int32)) ≤ v1) hc1 (pc' := 35) (ls' := [(0, .ref 295), (1, .int v1)]) (st' := []) ?_
      refine tk_Ps  1 (pc' := 36) (ls' := [(0, .ref 295), (1, .int v1)]) (st' := [.ref 295]) rfl ?_
      refine tk_HR  rfl rfl ly295 rt295_0 ?_
      refine tk_Ps  1 (pc' := 40) (ls' := [(0, .ref 295), (1, .int v1)]) (st' := [.int (0 : Int32), .ref 296]) rfl ?_
      refine tk_HIa  rfl rfl ly296 (by decide) ?_
      replace h := Option.some.inj h
      subst h
      exact tk_RI  rfl rfl rfl
    · replace h := tk_ifF hc1 h
      refine tk_bF  rfl rfl rfl (c := ((m.1 296 0) / (2 : Int32)) ≤ v1) hc1 (pc' := 14) (ls' := [(0, .ref 295), (1, .int v1)]) (st' := []) ?_
      refine tk_Ps  3 (pc' := 17) (ls' := [(0, .ref 295), (1, .int v1)]) (st' := [.ref 295, .int v1, .ref 295]) rfl ?_
      refine tk_HR  rfl rfl ly295 rt295_0 ?_
      refine tk_Ps  1 (pc' := 21) (ls' := [(0, .ref 295), (1, .int v1)]) (st' := [.int (0 : Int32), .ref 296, .int v1, .ref 295]) rfl ?_
      refine tk_HIa  rfl rfl ly296 (by decide) ?_
      refine tk_Ps  4 (pc' := 26) (ls' := [(0, .ref 295), (1, .int v1)]) (st' := [.int (((m.1 296 0) - (1 : Int32)) - v1), .int v1, .ref 295]) rfl ?_
      obtain ⟨o2, ho2, h⟩ := tk_bnd h
      refine tk_cV0  rfl rfl (r := 295) (as := [.int v1, .int (((m.1 296 0) - (1 : Int32)) - v1)]) (rest := []) rfl ly295 rfl rfl (ok_fM_swaps sc v1 (((m.1 296 0) - (1 : Int32)) - v1) m ho2) ?_
      refine tk_Ps  2 (pc' := 2) (ls' := [(1, .int (v1 + (1 : Int32))), (0, .ref 295)]) (st' := []) rfl ?_
      refine tk_Kp  (ls' := [(0, .ref 295), (1, .int (v1 + (1 : Int32)))]) rfl rfl ?_
      exact ih (v1 + (1 : Int32)) o2 _ h
theorem ok_fM_turn (sc : tk_X) (m : tk_m) {out : Int32 × tk_m} (h : fM_turn m = some out) : tk_Ru sc 3 198 [.ref 295] (tk_full m) (some (.int out.1), tk_full out.2) := by
  unfold fM_turn at h
  refine tk_Ru0 me198 (ls := [(0, .ref 295)]) rfl rfl ?_
  refine tk_Ps  2 (pc' := 2) (ls' := [(1, .int (0 : Int32)), (0, .ref 295)]) (st' := []) rfl ?_
  refine tk_Kp  (ls' := [(0, .ref 295), (1, .int (0 : Int32))]) rfl rfl ?_
  exact ok_fM_turn_2 sc tk_F (0 : Int32) m _ h
theorem ok_fM_areTwo (sc : tk_X) (a1 : Int32) (a2 : Int32) (m : tk_m) : tk_Ru sc 3 200 [.ref 295, .int a1, .int a2] (tk_full m) (some (.int (tk_b (fM_areTwo a1 a2 m))), tk_full m) := by
  obtain ⟨out, h⟩ : ∃ out, fM_areTwo a1 a2 m = out := ⟨_, rfl⟩
  rw [h]
  unfold fM_areTwo at h
  refine tk_Ru0 me200 (ls := [(0, .ref 295), (1, .int a1), (2, .int a2)]) rfl rfl ?_
  refine tk_Ps  2 (pc' := 2) (ls' := [(0, .ref 295), (1, .int a1), (2, .int a2)]) (st' := [.int a1, .ref 295]) rfl ?_
  refine tk_cV1  rfl rfl (r := 295) (as := [.int a1]) (rest := []) rfl ly295 rfl rfl (ok_fM_isShape sc a1 m) ?_
  by_cases hc1 : (fM_isShape a1 m) = true
  · replace h := tk_ifT hc1 h
    refine tk_bT  rfl rfl tk_eB_eq (c := (fM_isShape a1 m) = true) hc1 (pc' := 8) (ls' := [(0, .ref 295), (1, .int a1), (2, .int a2)]) (st' := []) ?_
    refine tk_Ps  2 (pc' := 10) (ls' := [(0, .ref 295), (1, .int a1), (2, .int a2)]) (st' := [.int a2, .ref 295]) rfl ?_
    refine tk_cV1  rfl rfl (r := 295) (as := [.int a2]) (rest := []) rfl ly295 rfl rfl (ok_fM_isShape sc a2 m) ?_
    by_cases hc2 : (fM_isShape a2 m) = true
    · replace h := tk_ifT hc2 h
      refine tk_bT  rfl rfl tk_eB_eq (c := (fM_isShape a2 m) = true) hc2 (pc' := 16) (ls' := [(0, .ref 295), (1, .int a1), (2, .int a2)]) (st' := []) ?_
      refine tk_Ps  2 (pc' := 18) (ls' := [(0, .ref 295), (1, .int a1), (2, .int a2)]) (st' := [.int a2, .int a1]) rfl ?_
      by_cases hc3 : a1 = a2
      · replace h := tk_ifT hc3 h
        refine tk_bT  rfl rfl rfl (c := a1 = a2) hc3 (pc' := 25) (ls' := [(0, .ref 295), (1, .int a1), (2, .int a2)]) (st' := []) ?_
        refine tk_Ps  1 (pc' := 26) (ls' := [(0, .ref 295), (1, .int a1), (2, .int a2)]) (st' := [.int (0 : Int32)]) rfl ?_
        subst h
        exact tk_RB (b := false)  rfl rfl rfl
      · replace h := tk_ifF hc3 h
        refine tk_bF  rfl rfl rfl (c := a1 = a2) hc3 (pc' := 21) (ls' := [(0, .ref 295), (1, .int a1), (2, .int a2)]) (st' := []) ?_
        refine tk_Ps  2 (pc' := 26) (ls' := [(0, .ref 295), (1, .int a1), (2, .int a2)]) (st' := [.int (1 : Int32)]) rfl ?_
        subst h
        exact tk_RB (b := true)  rfl rfl rfl
    · replace h := tk_ifF hc2 h
      refine tk_bF  rfl rfl tk_eB_eq (c := (fM_isShape a2 m) = true) hc2 (pc' := 25) (ls' := [(0, .ref 295), (1, .int a1), (2, .int a2)]) (st' := []) ?_
      refine tk_Ps  1 (pc' := 26) (ls' := [(0, .ref 295), (1, .int a1), (2, .int a2)]) (st' := [.int (0 : Int32)]) rfl ?_
      subst h
      exact tk_RB (b := false)  rfl rfl rfl
  · replace h := tk_ifF hc1 h
    refine tk_bF  rfl rfl tk_eB_eq (c := (fM_isShape a1 m) = true) hc1 (pc' := 25) (ls' := [(0, .ref 295), (1, .int a1), (2, .int a2)]) (st' := []) ?_
    refine tk_Ps  1 (pc' := 26) (ls' := [(0, .ref 295), (1, .int a1), (2, .int a2)]) (st' := [.int (0 : Int32)]) rfl ?_
    subst h
    exact tk_RB (b := false)  rfl rfl rfl
theorem ok_fM_apart (sc : tk_X) (a1 : Int32) (a2 : Int32) (m : tk_m) {out : Int32} (h : fM_apart a1 a2 m = some out) : tk_Ru sc 2 202 [.ref 295, .int a1, .int a2] (tk_full m) (some (.int out), tk_full m) := by
  unfold fM_apart at h
  refine tk_Ru0 me202 (ls := [(0, .ref 295), (1, .int a1), (2, .int a2)]) rfl rfl ?_
  refine tk_Ps  3 (pc' := 3) (ls' := [(0, .ref 295), (1, .int a1), (2, .int a2)]) (st' := [.int (1 : Int32), .int a1, .ref 295]) rfl ?_
  obtain ⟨o1, ho1, h⟩ := tk_bnd h
  refine tk_cV1  rfl rfl (r := 295) (as := [.int a1, .int (1 : Int32)]) (rest := []) rfl ly295 rfl rfl (ok_fM_of0 sc a1 (1 : Int32) m ho1) ?_
  refine tk_Ps  3 (pc' := 9) (ls' := [(0, .ref 295), (1, .int a1), (2, .int a2)]) (st' := [.int (1 : Int32), .int a2, .ref 295, .int o1]) rfl ?_
  obtain ⟨o2, ho2, h⟩ := tk_bnd h
  refine tk_cV1  rfl rfl (r := 295) (as := [.int a2, .int (1 : Int32)]) (rest := [.int o1]) rfl ly295 rfl rfl (ok_fM_of0 sc a2 (1 : Int32) m ho2) ?_
  refine tk_Ps  5 (pc' := 17) (ls' := [(3, .int (o1 - o2)), (0, .ref 295), (1, .int a1), (2, .int a2)]) (st' := [.int (2 : Int32), .int a1, .ref 295]) rfl ?_
  obtain ⟨o3, ho3, h⟩ := tk_bnd h
  refine tk_cV1  rfl rfl (r := 295) (as := [.int a1, .int (2 : Int32)]) (rest := []) rfl ly295 rfl rfl (ok_fM_of0 sc a1 (2 : Int32) m ho3) ?_
  refine tk_Ps  3 (pc' := 23) (ls' := [(3, .int (o1 - o2)), (0, .ref 295), (1, .int a1), (2, .int a2)]) (st' := [.int (2 : Int32), .int a2, .ref 295, .int o3]) rfl ?_
  obtain ⟨o4, ho4, h⟩ := tk_bnd h
  refine tk_cV1  rfl rfl (r := 295) (as := [.int a2, .int (2 : Int32)]) (rest := [.int o3]) rfl ly295 rfl rfl (ok_fM_of0 sc a2 (2 : Int32) m ho4) ?_
  refine tk_Ps  9 (pc' := 38) (ls' := [(4, .int (o3 - o4)), (3, .int (o1 - o2)), (0, .ref 295), (1, .int a1), (2, .int a2)]) (st' := [.int (((o1 - o2) * (o1 - o2)) + ((o3 - o4) * (o3 - o4)))]) rfl ?_
  replace h := Option.some.inj h
  subst h
  exact tk_RI  rfl rfl rfl
theorem ok_fM_inCommon (sc : tk_X) (a1 : Int32) (a2 : Int32) (a3 : Int32) (m : tk_m) : tk_Ru sc 1 203 [.ref 295, .int a1, .int a2, .int a3] (tk_full m) (some (.int (fM_inCommon a1 a2 a3)), tk_full m) := by
  obtain ⟨out, h⟩ : ∃ out, fM_inCommon a1 a2 a3 = out := ⟨_, rfl⟩
  rw [h]
  unfold fM_inCommon at h
  refine tk_Ru0 me203 (ls := [(0, .ref 295), (1, .int a1), (2, .int a2), (3, .int a3)]) rfl rfl ?_
  refine tk_Ps  2 (pc' := 2) (ls' := [(0, .ref 295), (1, .int a1), (2, .int a2), (3, .int a3)]) (st' := [.int a2, .int a1]) rfl ?_
  by_cases hc1 : a2 < a1
  · replace h := tk_ifT hc1 h
    refine tk_bT  rfl rfl rfl (c := a2 < a1) hc1 (pc' := 10) (ls' := [(0, .ref 295), (1, .int a1), (2, .int a2), (3, .int a3)]) (st' := []) ?_
    refine tk_Ps  2 (pc' := 29) (ls' := [(0, .ref 295), (1, .int a1), (2, .int a2), (3, .int a3)]) (st' := [.int (0 : Int32)]) rfl ?_
    subst h
    exact tk_RI  rfl rfl rfl
  · replace h := tk_ifF hc1 h
    refine tk_bF  rfl rfl rfl (c := a2 < a1) hc1 (pc' := 5) (ls' := [(0, .ref 295), (1, .int a1), (2, .int a2), (3, .int a3)]) (st' := []) ?_
    refine tk_Ps  2 (pc' := 7) (ls' := [(0, .ref 295), (1, .int a1), (2, .int a2), (3, .int a3)]) (st' := [.int a3, .int a1]) rfl ?_
    by_cases hc2 : a3 ≤ a1
    · replace h := tk_ifT hc2 h
      refine tk_bT  rfl rfl rfl (c := a3 ≤ a1) hc2 (pc' := 14) (ls' := [(0, .ref 295), (1, .int a1), (2, .int a2), (3, .int a3)]) (st' := []) ?_
      refine tk_Ps  2 (pc' := 16) (ls' := [(0, .ref 295), (1, .int a1), (2, .int a2), (3, .int a3)]) (st' := [.int a2, .int a1]) rfl ?_
      by_cases hc3 : a1 = a2
      · replace h := tk_ifT hc3 h
        refine tk_bT  rfl rfl rfl (c := a1 = a2) hc3 (pc' := 24) (ls' := [(0, .ref 295), (1, .int a1), (2, .int a2), (3, .int a3)]) (st' := []) ?_
        refine tk_Ps  2 (pc' := 29) (ls' := [(0, .ref 295), (1, .int a1), (2, .int a2), (3, .int a3)]) (st' := [.int (1 : Int32)]) rfl ?_
        subst h
        exact tk_RI  rfl rfl rfl
      · replace h := tk_ifF hc3 h
        refine tk_bF  rfl rfl rfl (c := a1 = a2) hc3 (pc' := 19) (ls' := [(0, .ref 295), (1, .int a1), (2, .int a2), (3, .int a3)]) (st' := []) ?_
        refine tk_Ps  2 (pc' := 21) (ls' := [(0, .ref 295), (1, .int a1), (2, .int a2), (3, .int a3)]) (st' := [.int a3, .int a1]) rfl ?_
        by_cases hc4 : a1 = a3
        · replace h := tk_ifT hc4 h
          refine tk_bT  rfl rfl rfl (c := a1 = a3) hc4 (pc' := 24) (ls' := [(0, .ref 295), (1, .int a1), (2, .int a2), (3, .int a3)]) (st' := []) ?_
          refine tk_Ps  2 (pc' := 29) (ls' := [(0, .ref 295), (1, .int a1), (2, .int a2), (3, .int a3)]) (st' := [.int (1 : Int32)]) rfl ?_
          subst h
          exact tk_RI  rfl rfl rfl
        · replace h := tk_ifF hc4 h
          refine tk_bF  rfl rfl rfl (c := a1 = a3) hc4 (pc' := 28) (ls' := [(0, .ref 295), (1, .int a1), (2, .int a2), (3, .int a3)]) (st' := []) ?_
          refine tk_Ps  1 (pc' := 29) (ls' := [(0, .ref 295), (1, .int a1), (2, .int a2), (3, .int a3)]) (st' := [.int (2 : Int32)]) rfl ?_
          subst h
          exact tk_RI  rfl rfl rfl
    · replace h := tk_ifF hc2 h
      refine tk_bF  rfl rfl rfl (c := a3 ≤ a1) hc2 (pc' := 10) (ls' := [(0, .ref 295), (1, .int a1), (2, .int a2), (3, .int a3)]) (st' := []) ?_
      refine tk_Ps  2 (pc' := 29) (ls' := [(0, .ref 295), (1, .int a1), (2, .int a2), (3, .int a3)]) (st' := [.int (0 : Int32)]) rfl ?_
      subst h
      exact tk_RI  rfl rfl rfl
theorem ok_fM_lies1_50 (sc : tk_X) (v1 : Int32) (v2 : Int32) (v3 : Int32) (v4 : Int32) (m : tk_m) (out : Int32) (h : fM_lies1_50 v1 v2 v3 v4 m = some out) : tk_Ex sc 2 tk_r201 tk_k201 50 [(0, .ref 295), (1, .int v1), (2, .int v2), (3, .int v3), (4, .int v4)] [] (tk_full m) (some (.int out), tk_full m) := by
  unfold fM_lies1_50 at h
  refine tk_Ps  4 (pc' := 54) (ls' := [(0, .ref 295), (1, .int v1), (2, .int v2), (3, .int v3), (4, .int v4)]) (st' := [.int v2, .int v1, .ref 295, .ref 295]) rfl ?_
  obtain ⟨o1, ho1, h⟩ := tk_bnd h
  refine tk_cV1  rfl rfl (r := 295) (as := [.int v1, .int v2]) (rest := [.ref 295]) rfl ly295 rfl rfl (ok_fM_apart sc v1 v2 m ho1) ?_
  refine tk_Ps  14 (pc' := 75) (ls' := [(0, .ref 295), (1, .int v1), (2, .int v2), (3, .int v3), (4, .int v4)]) (st' := [.int ((v3 - v4) * (v3 - v4)), .int ((v3 + v4) * (v3 + v4)), .int o1, .ref 295]) rfl ?_
  refine tk_cV1  rfl rfl (r := 295) (as := [.int o1, .int ((v3 + v4) * (v3 + v4)), .int ((v3 - v4) * (v3 - v4))]) (rest := []) rfl ly295 rfl rfl (ok_fM_inCommon sc o1 ((v3 + v4) * (v3 + v4)) ((v3 - v4) * (v3 - v4)) m) ?_
  replace h := Option.some.inj h
  subst h
  exact tk_RI  rfl rfl rfl
theorem ok_fM_lies1_135 (sc : tk_X) (v1 : Int32) (v2 : Int32) (v3 : Int32) (m : tk_m) (out : Int32) (h : fM_lies1_135 v1 v2 v3 m = some out) : tk_Ex sc 2 tk_r201 tk_k201 135 [(0, .ref 295), (1, .int v1), (2, .int v2), (3, .int v3)] [] (tk_full m) (some (.int out), tk_full m) := by
  unfold fM_lies1_135 at h
  refine tk_Ps  2 (pc' := 137) (ls' := [(0, .ref 295), (1, .int v1), (2, .int v2), (3, .int v3)]) (st' := [.int v1, .ref 295]) rfl ?_
  obtain ⟨o1, ho1, h⟩ := tk_bnd h
  refine tk_cV1  rfl rfl (r := 295) (as := [.int v1]) (rest := []) rfl ly295 rfl rfl (ok_fM_isRound sc v1 m ho1) ?_
  by_cases hc2 : o1 = true
  · replace h := tk_ifT hc2 h
    refine tk_bT  rfl rfl tk_eB_ne (c := o1 = true) hc2 (pc' := 150) (ls' := [(0, .ref 295), (1, .int v1), (2, .int v2), (3, .int v3)]) (st' := []) ?_
    refine tk_Ps  1 (pc' := 151) (ls' := [(0, .ref 295), (1, .int v1), (2, .int v2), (3, .int v3)]) (st' := [.ref 295]) rfl ?_
    refine tk_Hst  rfl rfl ?_
    refine tk_Ps  1 (pc' := 155) (ls' := [(0, .ref 295), (1, .int v1), (2, .int v2), (3, .int v3)]) (st' := [.int v2, .ref 1003, .ref 295]) rfl ?_
    obtain ⟨o3, ho3, h⟩ := tk_bnd h
    refine tk_cV1  rfl rfl (r := 295) (as := [.ref 1003, .int v2]) (rest := []) rfl ly295 rfl rfl (ok_fM_slant sc 1003 v2 m (by decide) ho3) ?_
    refine tk_Ps  3 (pc' := 161) (ls' := [(0, .ref 295), (1, .int v1), (2, .int v2), (3, .int v3)]) (st' := [.int (1 : Int32), .int v1, .ref 295, .int o3]) rfl ?_
    obtain ⟨o4, ho4, h⟩ := tk_bnd h
    refine tk_cV1  rfl rfl (r := 295) (as := [.int v1, .int (1 : Int32)]) (rest := [.int o3]) rfl ly295 rfl rfl (ok_fM_of0 sc v1 (1 : Int32) m ho4) ?_
    refine tk_Ps  2 (pc' := 166) (ls' := [(0, .ref 295), (1, .int v1), (2, .int v2), (3, .int v3)]) (st' := [.ref 295, .int (o3 * o4)]) rfl ?_
    refine tk_Hst  rfl rfl ?_
    refine tk_Ps  1 (pc' := 170) (ls' := [(0, .ref 295), (1, .int v1), (2, .int v2), (3, .int v3)]) (st' := [.int v2, .ref 1004, .ref 295, .int (o3 * o4)]) rfl ?_
    obtain ⟨o5, ho5, h⟩ := tk_bnd h
    refine tk_cV1  rfl rfl (r := 295) (as := [.ref 1004, .int v2]) (rest := [.int (o3 * o4)]) rfl ly295 rfl rfl (ok_fM_slant sc 1004 v2 m (by decide) ho5) ?_
    refine tk_Ps  3 (pc' := 176) (ls' := [(0, .ref 295), (1, .int v1), (2, .int v2), (3, .int v3)]) (st' := [.int (2 : Int32), .int v1, .ref 295, .int o5, .int (o3 * o4)]) rfl ?_
    obtain ⟨o6, ho6, h⟩ := tk_bnd h
    refine tk_cV1  rfl rfl (r := 295) (as := [.int v1, .int (2 : Int32)]) (rest := [.int o5, .int (o3 * o4)]) rfl ly295 rfl rfl (ok_fM_of0 sc v1 (2 : Int32) m ho6) ?_
    refine tk_Ps  5 (pc' := 184) (ls' := [(0, .ref 295), (1, .int v1), (2, .int v2), (3, .int v3)]) (st' := [.int (2 : Int32), .int v2, .ref 295, .int ((o3 * o4) + (o5 * o6))]) rfl ?_
    obtain ⟨o7, ho7, h⟩ := tk_bnd h
    refine tk_cV1  rfl rfl (r := 295) (as := [.int v2, .int (2 : Int32)]) (rest := [.int ((o3 * o4) + (o5 * o6))]) rfl ly295 rfl rfl (ok_fM_of0 sc v2 (2 : Int32) m ho7) ?_
    refine tk_Ps  3 (pc' := 191) (ls' := [(5, .int (((o3 * o4) + (o5 * o6)) - o7)), (0, .ref 295), (1, .int v1), (2, .int v2), (3, .int v3)]) (st' := [.ref 295]) rfl ?_
    refine tk_Hst  rfl rfl ?_
    refine tk_Ps  1 (pc' := 195) (ls' := [(5, .int (((o3 * o4) + (o5 * o6)) - o7)), (0, .ref 295), (1, .int v1), (2, .int v2), (3, .int v3)]) (st' := [.int v2, .ref 1005, .ref 295]) rfl ?_
    obtain ⟨o8, ho8, h⟩ := tk_bnd h
    refine tk_cV1  rfl rfl (r := 295) (as := [.ref 1005, .int v2]) (rest := []) rfl ly295 rfl rfl (ok_fM_slant sc 1005 v2 m (by decide) ho8) ?_
    refine tk_Ps  11 (pc' := 214) (ls' := [(6, .int (o8 * v3)), (5, .int (((o3 * o4) + (o5 * o6)) - o7)), (0, .ref 295), (1, .int v1), (2, .int v2), (3, .int v3)]) (st' := [.int (-1 : Int32), .int ((o8 * v3) * (o8 * v3)), .int ((((o3 * o4) + (o5 * o6)) - o7) * (((o3 * o4) + (o5 * o6)) - o7)), .ref 295]) rfl ?_
    refine tk_cV1  rfl rfl (r := 295) (as := [.int ((((o3 * o4) + (o5 * o6)) - o7) * (((o3 * o4) + (o5 * o6)) - o7)), .int ((o8 * v3) * (o8 * v3)), .int (-1 : Int32)]) (rest := []) rfl ly295 rfl rfl (ok_fM_inCommon sc ((((o3 * o4) + (o5 * o6)) - o7) * (((o3 * o4) + (o5 * o6)) - o7)) ((o8 * v3) * (o8 * v3)) (-1 : Int32) m) ?_
    replace h := Option.some.inj h
    subst h
    exact tk_RI  rfl rfl rfl
  · replace h := tk_ifF hc2 h
    refine tk_bF  rfl rfl tk_eB_ne (c := o1 = true) hc2 (pc' := 143) (ls' := [(0, .ref 295), (1, .int v1), (2, .int v2), (3, .int v3)]) (st' := []) ?_
    refine tk_Ps  3 (pc' := 146) (ls' := [(0, .ref 295), (1, .int v1), (2, .int v2), (3, .int v3)]) (st' := [.int v1, .int v2, .ref 295]) rfl ?_
    cases h
theorem ok_fM_lies1_79 (sc : tk_X) (v1 : Int32) (v2 : Int32) (v3 : Int32) (m : tk_m) (out : Int32) (h : fM_lies1_79 v1 v2 v3 m = some out) : tk_Ex sc 2 tk_r201 tk_k201 79 [(0, .ref 295), (1, .int v1), (2, .int v2), (3, .int v3)] [] (tk_full m) (some (.int out), tk_full m) := by
  unfold fM_lies1_79 at h
  refine tk_Ps  2 (pc' := 81) (ls' := [(0, .ref 295), (1, .int v1), (2, .int v2), (3, .int v3)]) (st' := [.int v1, .ref 295]) rfl ?_
  obtain ⟨o1, ho1, h⟩ := tk_bnd h
  refine tk_cV1  rfl rfl (r := 295) (as := [.int v1]) (rest := []) rfl ly295 rfl rfl (ok_fM_isRound sc v1 m ho1) ?_
  by_cases hc2 : o1 = true
  · replace h := tk_ifT hc2 h
    refine tk_bT  rfl rfl tk_eB_ne (c := o1 = true) hc2 (pc' := 135) (ls' := [(0, .ref 295), (1, .int v1), (2, .int v2), (3, .int v3)]) (st' := []) ?_
    refine tk_Kp  (ls' := [(0, .ref 295), (1, .int v1), (2, .int v2), (3, .int v3)]) rfl rfl ?_
    exact ok_fM_lies1_135 sc v1 v2 v3 m _ h
  · replace h := tk_ifF hc2 h
    refine tk_bF  rfl rfl tk_eB_ne (c := o1 = true) hc2 (pc' := 87) (ls' := [(0, .ref 295), (1, .int v1), (2, .int v2), (3, .int v3)]) (st' := []) ?_
    refine tk_Ps  2 (pc' := 89) (ls' := [(0, .ref 295), (1, .int v1), (2, .int v2), (3, .int v3)]) (st' := [.int v2, .ref 295]) rfl ?_
    obtain ⟨o3, ho3, h⟩ := tk_bnd h
    refine tk_cV1  rfl rfl (r := 295) (as := [.int v2]) (rest := []) rfl ly295 rfl rfl (ok_fM_isRound sc v2 m ho3) ?_
    by_cases hc4 : o3 = true
    · replace h := tk_ifT hc4 h
      refine tk_bT  rfl rfl tk_eB_ne (c := o3 = true) hc4 (pc' := 135) (ls' := [(0, .ref 295), (1, .int v1), (2, .int v2), (3, .int v3)]) (st' := []) ?_
      refine tk_Kp  (ls' := [(0, .ref 295), (1, .int v1), (2, .int v2), (3, .int v3)]) rfl rfl ?_
      exact ok_fM_lies1_135 sc v1 v2 v3 m _ h
    · replace h := tk_ifF hc4 h
      refine tk_bF  rfl rfl tk_eB_ne (c := o3 = true) hc4 (pc' := 95) (ls' := [(0, .ref 295), (1, .int v1), (2, .int v2), (3, .int v3)]) (st' := []) ?_
      refine tk_Ps  3 (pc' := 98) (ls' := [(0, .ref 295), (1, .int v1), (2, .int v2), (3, .int v3)]) (st' := [.int (1 : Int32), .int v1, .ref 295]) rfl ?_
      obtain ⟨o5, ho5, h⟩ := tk_bnd h
      refine tk_cV1  rfl rfl (r := 295) (as := [.int v1, .int (1 : Int32)]) (rest := []) rfl ly295 rfl rfl (ok_fM_of0 sc v1 (1 : Int32) m ho5) ?_
      refine tk_Ps  3 (pc' := 104) (ls' := [(0, .ref 295), (1, .int v1), (2, .int v2), (3, .int v3)]) (st' := [.int (1 : Int32), .int v2, .ref 295, .int o5]) rfl ?_
      obtain ⟨o6, ho6, h⟩ := tk_bnd h
      refine tk_cV1  rfl rfl (r := 295) (as := [.int v2, .int (1 : Int32)]) (rest := [.int o5]) rfl ly295 rfl rfl (ok_fM_of0 sc v2 (1 : Int32) m ho6) ?_
      by_cases hc7 : o5 = o6
      · replace h := tk_ifT hc7 h
        refine tk_bT  rfl rfl rfl (c := o5 = o6) hc7 (pc' := 114) (ls' := [(0, .ref 295), (1, .int v1), (2, .int v2), (3, .int v3)]) (st' := []) ?_
        refine tk_Ps  3 (pc' := 117) (ls' := [(0, .ref 295), (1, .int v1), (2, .int v2), (3, .int v3)]) (st' := [.int (2 : Int32), .int v1, .ref 295]) rfl ?_
        obtain ⟨o8, ho8, h⟩ := tk_bnd h
        refine tk_cV1  rfl rfl (r := 295) (as := [.int v1, .int (2 : Int32)]) (rest := []) rfl ly295 rfl rfl (ok_fM_of0 sc v1 (2 : Int32) m ho8) ?_
        refine tk_Ps  3 (pc' := 123) (ls' := [(0, .ref 295), (1, .int v1), (2, .int v2), (3, .int v3)]) (st' := [.int (2 : Int32), .int v2, .ref 295, .int o8]) rfl ?_
        obtain ⟨o9, ho9, h⟩ := tk_bnd h
        refine tk_cV1  rfl rfl (r := 295) (as := [.int v2, .int (2 : Int32)]) (rest := [.int o8]) rfl ly295 rfl rfl (ok_fM_of0 sc v2 (2 : Int32) m ho9) ?_
        by_cases hc10 : o8 = o9
        · replace h := tk_ifT hc10 h
          refine tk_bT  rfl rfl rfl (c := o8 = o9) hc10 (pc' := 129) (ls' := [(0, .ref 295), (1, .int v1), (2, .int v2), (3, .int v3)]) (st' := []) ?_
          refine tk_Ps  2 (pc' := 134) (ls' := [(0, .ref 295), (1, .int v1), (2, .int v2), (3, .int v3)]) (st' := [.int (3 : Int32)]) rfl ?_
          replace h := Option.some.inj h
          subst h
          exact tk_RI  rfl rfl rfl
        · replace h := tk_ifF hc10 h
          refine tk_bF  rfl rfl rfl (c := o8 = o9) hc10 (pc' := 133) (ls' := [(0, .ref 295), (1, .int v1), (2, .int v2), (3, .int v3)]) (st' := []) ?_
          refine tk_Ps  1 (pc' := 134) (ls' := [(0, .ref 295), (1, .int v1), (2, .int v2), (3, .int v3)]) (st' := [.int (0 : Int32)]) rfl ?_
          replace h := Option.some.inj h
          subst h
          exact tk_RI  rfl rfl rfl
      · replace h := tk_ifF hc7 h
        refine tk_bF  rfl rfl rfl (c := o5 = o6) hc7 (pc' := 110) (ls' := [(0, .ref 295), (1, .int v1), (2, .int v2), (3, .int v3)]) (st' := []) ?_
        refine tk_Ps  2 (pc' := 134) (ls' := [(0, .ref 295), (1, .int v1), (2, .int v2), (3, .int v3)]) (st' := [.int (1 : Int32)]) rfl ?_
        replace h := Option.some.inj h
        subst h
        exact tk_RI  rfl rfl rfl
theorem ok_fM_lies1 (sc : tk_X) (a1 : Int32) (a2 : Int32) (m : tk_m) {out : Int32} (h : fM_lies1 a1 a2 m = some out) : tk_Ru sc 3 201 [.ref 295, .int a1, .int a2] (tk_full m) (some (.int out), tk_full m) := by
  unfold fM_lies1 at h
  refine tk_Ru0 me201 (ls := [(0, .ref 295), (1, .int a1), (2, .int a2)]) rfl rfl ?_
  refine tk_Ps  3 (pc' := 3) (ls' := [(0, .ref 295), (1, .int a1), (2, .int a2)]) (st' := [.int (3 : Int32), .int a1, .ref 295]) rfl ?_
  obtain ⟨o1, ho1, h⟩ := tk_bnd h
  refine tk_cV1  rfl rfl (r := 295) (as := [.int a1, .int (3 : Int32)]) (rest := []) rfl ly295 rfl rfl (ok_fM_of0 sc a1 (3 : Int32) m ho1) ?_
  refine tk_Ps  4 (pc' := 10) (ls' := [(3, .int o1), (0, .ref 295), (1, .int a1), (2, .int a2)]) (st' := [.int (3 : Int32), .int a2, .ref 295]) rfl ?_
  obtain ⟨o2, ho2, h⟩ := tk_bnd h
  refine tk_cV1  rfl rfl (r := 295) (as := [.int a2, .int (3 : Int32)]) (rest := []) rfl ly295 rfl rfl (ok_fM_of0 sc a2 (3 : Int32) m ho2) ?_
  refine tk_Ps  3 (pc' := 17) (ls' := [(4, .int o2), (3, .int o1), (0, .ref 295), (1, .int a1), (2, .int a2)]) (st' := [.int a1, .ref 295]) rfl ?_
  obtain ⟨o3, ho3, h⟩ := tk_bnd h
  refine tk_cV1  rfl rfl (r := 295) (as := [.int a1]) (rest := []) rfl ly295 rfl rfl (ok_fM_isRound sc a1 m ho3) ?_
  by_cases hc4 : o3 = true
  · replace h := tk_ifT hc4 h
    refine tk_bT  rfl rfl tk_eB_eq (c := o3 = true) hc4 (pc' := 23) (ls' := [(4, .int o2), (3, .int o1), (0, .ref 295), (1, .int a1), (2, .int a2)]) (st' := []) ?_
    refine tk_Ps  2 (pc' := 25) (ls' := [(4, .int o2), (3, .int o1), (0, .ref 295), (1, .int a1), (2, .int a2)]) (st' := [.int a2, .ref 295]) rfl ?_
    obtain ⟨o5, ho5, h⟩ := tk_bnd h
    refine tk_cV1  rfl rfl (r := 295) (as := [.int a2]) (rest := []) rfl ly295 rfl rfl (ok_fM_isRound sc a2 m ho5) ?_
    by_cases hc6 : o5 = true
    · replace h := tk_ifT hc6 h
      refine tk_bT  rfl rfl tk_eB_eq (c := o5 = true) hc6 (pc' := 31) (ls' := [(4, .int o2), (3, .int o1), (0, .ref 295), (1, .int a1), (2, .int a2)]) (st' := []) ?_
      refine tk_Ps  3 (pc' := 34) (ls' := [(4, .int o2), (3, .int o1), (0, .ref 295), (1, .int a1), (2, .int a2)]) (st' := [.int a2, .int a1, .ref 295]) rfl ?_
      obtain ⟨o7, ho7, h⟩ := tk_bnd h
      refine tk_cV1  rfl rfl (r := 295) (as := [.int a1, .int a2]) (rest := []) rfl ly295 rfl rfl (ok_fM_apart sc a1 a2 m ho7) ?_
      by_cases hc8 : o7 = 0
      · replace h := tk_ifT hc8 h
        refine tk_bT  rfl rfl rfl (c := o7 = 0) hc8 (pc' := 40) (ls' := [(4, .int o2), (3, .int o1), (0, .ref 295), (1, .int a1), (2, .int a2)]) (st' := []) ?_
        refine tk_Ps  2 (pc' := 43) (ls' := [(4, .int o2), (3, .int o1), (0, .ref 295), (1, .int a1), (2, .int a2)]) (st' := [.int o2, .int o1]) rfl ?_
        by_cases hc9 : o1 = o2
        · replace h := tk_ifT hc9 h
          refine tk_bT  rfl rfl rfl (c := o1 = o2) hc9 (pc' := 46) (ls' := [(4, .int o2), (3, .int o1), (0, .ref 295), (1, .int a1), (2, .int a2)]) (st' := []) ?_
          refine tk_Ps  2 (pc' := 78) (ls' := [(4, .int o2), (3, .int o1), (0, .ref 295), (1, .int a1), (2, .int a2)]) (st' := [.int (3 : Int32)]) rfl ?_
          replace h := Option.some.inj h
          subst h
          exact tk_RI  rfl rfl rfl
        · replace h := tk_ifF hc9 h
          refine tk_bF  rfl rfl rfl (c := o1 = o2) hc9 (pc' := 50) (ls' := [(4, .int o2), (3, .int o1), (0, .ref 295), (1, .int a1), (2, .int a2)]) (st' := []) ?_
          refine tk_Kp  (ls' := [(0, .ref 295), (1, .int a1), (2, .int a2), (3, .int o1), (4, .int o2)]) rfl rfl ?_
          exact ok_fM_lies1_50 sc a1 a2 o1 o2 m _ h
      · replace h := tk_ifF hc8 h
        refine tk_bF  rfl rfl rfl (c := o7 = 0) hc8 (pc' := 50) (ls' := [(4, .int o2), (3, .int o1), (0, .ref 295), (1, .int a1), (2, .int a2)]) (st' := []) ?_
        refine tk_Kp  (ls' := [(0, .ref 295), (1, .int a1), (2, .int a2), (3, .int o1), (4, .int o2)]) rfl rfl ?_
        exact ok_fM_lies1_50 sc a1 a2 o1 o2 m _ h
    · replace h := tk_ifF hc6 h
      refine tk_bF  rfl rfl tk_eB_eq (c := o5 = true) hc6 (pc' := 79) (ls' := [(4, .int o2), (3, .int o1), (0, .ref 295), (1, .int a1), (2, .int a2)]) (st' := []) ?_
      refine tk_Kp  (ls' := [(0, .ref 295), (1, .int a1), (2, .int a2), (3, .int o1)]) rfl rfl ?_
      exact ok_fM_lies1_79 sc a1 a2 o1 m _ h
  · replace h := tk_ifF hc4 h
    refine tk_bF  rfl rfl tk_eB_eq (c := o3 = true) hc4 (pc' := 79) (ls' := [(4, .int o2), (3, .int o1), (0, .ref 295), (1, .int a1), (2, .int a2)]) (st' := []) ?_
    refine tk_Kp  (ls' := [(0, .ref 295), (1, .int a1), (2, .int a2), (3, .int o1)]) rfl rfl ?_
    exact ok_fM_lies1_79 sc a1 a2 o1 m _ h
theorem ok_fM_lies_50 (sc : tk_X) (v1 : Int32) (v2 : Int32) (v3 : Int32) (v4 : Int32) (m : tk_m) (out : Int32) (h : fM_lies_50 v1 v2 v3 v4 m = some out) : tk_Ex sc 3 tk_r201 tk_k201 50 [(0, .ref 295), (1, .int v1), (2, .int v2), (3, .int v3), (4, .int v4)] [] (tk_full m) (some (.int out), tk_full m) := by
  unfold fM_lies_50 at h
  refine tk_Ps  4 (pc' := 54) (ls' := [(0, .ref 295), (1, .int v1), (2, .int v2), (3, .int v3), (4, .int v4)]) (st' := [.int v2, .int v1, .ref 295, .ref 295]) rfl ?_
  obtain ⟨o1, ho1, h⟩ := tk_bnd h
  refine tk_cV1  rfl rfl (r := 295) (as := [.int v1, .int v2]) (rest := [.ref 295]) rfl ly295 rfl rfl (ok_fM_apart sc v1 v2 m ho1) ?_
  refine tk_Ps  14 (pc' := 75) (ls' := [(0, .ref 295), (1, .int v1), (2, .int v2), (3, .int v3), (4, .int v4)]) (st' := [.int ((v3 - v4) * (v3 - v4)), .int ((v3 + v4) * (v3 + v4)), .int o1, .ref 295]) rfl ?_
  refine tk_cV1  rfl rfl (r := 295) (as := [.int o1, .int ((v3 + v4) * (v3 + v4)), .int ((v3 - v4) * (v3 - v4))]) (rest := []) rfl ly295 rfl rfl (ok_fM_inCommon sc o1 ((v3 + v4) * (v3 + v4)) ((v3 - v4) * (v3 - v4)) m) ?_
  replace h := Option.some.inj h
  subst h
  exact tk_RI  rfl rfl rfl
theorem ok_fM_lies_135 (sc : tk_X) (v1 : Int32) (v2 : Int32) (v3 : Int32) (m : tk_m) (out : Int32) (h : fM_lies_135 v1 v2 v3 m = some out) : tk_Ex sc 3 tk_r201 tk_k201 135 [(0, .ref 295), (1, .int v1), (2, .int v2), (3, .int v3)] [] (tk_full m) (some (.int out), tk_full m) := by
  unfold fM_lies_135 at h
  refine tk_Ps  2 (pc' := 137) (ls' := [(0, .ref 295), (1, .int v1), (2, .int v2), (3, .int v3)]) (st' := [.int v1, .ref 295]) rfl ?_
  obtain ⟨o1, ho1, h⟩ := tk_bnd h
  refine tk_cV1  rfl rfl (r := 295) (as := [.int v1]) (rest := []) rfl ly295 rfl rfl (ok_fM_isRound sc v1 m ho1) ?_
  by_cases hc2 : o1 = true
  · replace h := tk_ifT hc2 h
    refine tk_bT  rfl rfl tk_eB_ne (c := o1 = true) hc2 (pc' := 150) (ls' := [(0, .ref 295), (1, .int v1), (2, .int v2), (3, .int v3)]) (st' := []) ?_
    refine tk_Ps  1 (pc' := 151) (ls' := [(0, .ref 295), (1, .int v1), (2, .int v2), (3, .int v3)]) (st' := [.ref 295]) rfl ?_
    refine tk_Hst  rfl rfl ?_
    refine tk_Ps  1 (pc' := 155) (ls' := [(0, .ref 295), (1, .int v1), (2, .int v2), (3, .int v3)]) (st' := [.int v2, .ref 1003, .ref 295]) rfl ?_
    obtain ⟨o3, ho3, h⟩ := tk_bnd h
    refine tk_cV1  rfl rfl (r := 295) (as := [.ref 1003, .int v2]) (rest := []) rfl ly295 rfl rfl (ok_fM_slant sc 1003 v2 m (by decide) ho3) ?_
    refine tk_Ps  3 (pc' := 161) (ls' := [(0, .ref 295), (1, .int v1), (2, .int v2), (3, .int v3)]) (st' := [.int (1 : Int32), .int v1, .ref 295, .int o3]) rfl ?_
    obtain ⟨o4, ho4, h⟩ := tk_bnd h
    refine tk_cV1  rfl rfl (r := 295) (as := [.int v1, .int (1 : Int32)]) (rest := [.int o3]) rfl ly295 rfl rfl (ok_fM_of0 sc v1 (1 : Int32) m ho4) ?_
    refine tk_Ps  2 (pc' := 166) (ls' := [(0, .ref 295), (1, .int v1), (2, .int v2), (3, .int v3)]) (st' := [.ref 295, .int (o3 * o4)]) rfl ?_
    refine tk_Hst  rfl rfl ?_
    refine tk_Ps  1 (pc' := 170) (ls' := [(0, .ref 295), (1, .int v1), (2, .int v2), (3, .int v3)]) (st' := [.int v2, .ref 1004, .ref 295, .int (o3 * o4)]) rfl ?_
    obtain ⟨o5, ho5, h⟩ := tk_bnd h
    refine tk_cV1  rfl rfl (r := 295) (as := [.ref 1004, .int v2]) (rest := [.int (o3 * o4)]) rfl ly295 rfl rfl (ok_fM_slant sc 1004 v2 m (by decide) ho5) ?_
    refine tk_Ps  3 (pc' := 176) (ls' := [(0, .ref 295), (1, .int v1), (2, .int v2), (3, .int v3)]) (st' := [.int (2 : Int32), .int v1, .ref 295, .int o5, .int (o3 * o4)]) rfl ?_
    obtain ⟨o6, ho6, h⟩ := tk_bnd h
    refine tk_cV1  rfl rfl (r := 295) (as := [.int v1, .int (2 : Int32)]) (rest := [.int o5, .int (o3 * o4)]) rfl ly295 rfl rfl (ok_fM_of0 sc v1 (2 : Int32) m ho6) ?_
    refine tk_Ps  5 (pc' := 184) (ls' := [(0, .ref 295), (1, .int v1), (2, .int v2), (3, .int v3)]) (st' := [.int (2 : Int32), .int v2, .ref 295, .int ((o3 * o4) + (o5 * o6))]) rfl ?_
    obtain ⟨o7, ho7, h⟩ := tk_bnd h
    refine tk_cV1  rfl rfl (r := 295) (as := [.int v2, .int (2 : Int32)]) (rest := [.int ((o3 * o4) + (o5 * o6))]) rfl ly295 rfl rfl (ok_fM_of0 sc v2 (2 : Int32) m ho7) ?_
    refine tk_Ps  3 (pc' := 191) (ls' := [(5, .int (((o3 * o4) + (o5 * o6)) - o7)), (0, .ref 295), (1, .int v1), (2, .int v2), (3, .int v3)]) (st' := [.ref 295]) rfl ?_
    refine tk_Hst  rfl rfl ?_
    refine tk_Ps  1 (pc' := 195) (ls' := [(5, .int (((o3 * o4) + (o5 * o6)) - o7)), (0, .ref 295), (1, .int v1), (2, .int v2), (3, .int v3)]) (st' := [.int v2, .ref 1005, .ref 295]) rfl ?_
    obtain ⟨o8, ho8, h⟩ := tk_bnd h
    refine tk_cV1  rfl rfl (r := 295) (as := [.ref 1005, .int v2]) (rest := []) rfl ly295 rfl rfl (ok_fM_slant sc 1005 v2 m (by decide) ho8) ?_
    refine tk_Ps  11 (pc' := 214) (ls' := [(6, .int (o8 * v3)), (5, .int (((o3 * o4) + (o5 * o6)) - o7)), (0, .ref 295), (1, .int v1), (2, .int v2), (3, .int v3)]) (st' := [.int (-1 : Int32), .int ((o8 * v3) * (o8 * v3)), .int ((((o3 * o4) + (o5 * o6)) - o7) * (((o3 * o4) + (o5 * o6)) - o7)), .ref 295]) rfl ?_
    refine tk_cV1  rfl rfl (r := 295) (as := [.int ((((o3 * o4) + (o5 * o6)) - o7) * (((o3 * o4) + (o5 * o6)) - o7)), .int ((o8 * v3) * (o8 * v3)), .int (-1 : Int32)]) (rest := []) rfl ly295 rfl rfl (ok_fM_inCommon sc ((((o3 * o4) + (o5 * o6)) - o7) * (((o3 * o4) + (o5 * o6)) - o7)) ((o8 * v3) * (o8 * v3)) (-1 : Int32) m) ?_
    replace h := Option.some.inj h
    subst h
    exact tk_RI  rfl rfl rfl
  · replace h := tk_ifF hc2 h
    refine tk_bF  rfl rfl tk_eB_ne (c := o1 = true) hc2 (pc' := 143) (ls' := [(0, .ref 295), (1, .int v1), (2, .int v2), (3, .int v3)]) (st' := []) ?_
    refine tk_Ps  3 (pc' := 146) (ls' := [(0, .ref 295), (1, .int v1), (2, .int v2), (3, .int v3)]) (st' := [.int v1, .int v2, .ref 295]) rfl ?_
    obtain ⟨o9, ho9, h⟩ := tk_bnd h
    refine tk_cV1  rfl rfl (r := 295) (as := [.int v2, .int v1]) (rest := []) rfl ly295 rfl rfl (ok_fM_lies1 sc v2 v1 m ho9) ?_
    replace h := Option.some.inj h
    subst h
    exact tk_RI  rfl rfl rfl
theorem ok_fM_lies_79 (sc : tk_X) (v1 : Int32) (v2 : Int32) (v3 : Int32) (m : tk_m) (out : Int32) (h : fM_lies_79 v1 v2 v3 m = some out) : tk_Ex sc 3 tk_r201 tk_k201 79 [(0, .ref 295), (1, .int v1), (2, .int v2), (3, .int v3)] [] (tk_full m) (some (.int out), tk_full m) := by
  unfold fM_lies_79 at h
  refine tk_Ps  2 (pc' := 81) (ls' := [(0, .ref 295), (1, .int v1), (2, .int v2), (3, .int v3)]) (st' := [.int v1, .ref 295]) rfl ?_
  obtain ⟨o1, ho1, h⟩ := tk_bnd h
  refine tk_cV1  rfl rfl (r := 295) (as := [.int v1]) (rest := []) rfl ly295 rfl rfl (ok_fM_isRound sc v1 m ho1) ?_
  by_cases hc2 : o1 = true
  · replace h := tk_ifT hc2 h
    refine tk_bT  rfl rfl tk_eB_ne (c := o1 = true) hc2 (pc' := 135) (ls' := [(0, .ref 295), (1, .int v1), (2, .int v2), (3, .int v3)]) (st' := []) ?_
    refine tk_Kp  (ls' := [(0, .ref 295), (1, .int v1), (2, .int v2), (3, .int v3)]) rfl rfl ?_
    exact ok_fM_lies_135 sc v1 v2 v3 m _ h
  · replace h := tk_ifF hc2 h
    refine tk_bF  rfl rfl tk_eB_ne (c := o1 = true) hc2 (pc' := 87) (ls' := [(0, .ref 295), (1, .int v1), (2, .int v2), (3, .int v3)]) (st' := []) ?_
    refine tk_Ps  2 (pc' := 89) (ls' := [(0, .ref 295), (1, .int v1), (2, .int v2), (3, .int v3)]) (st' := [.int v2, .ref 295]) rfl ?_
    obtain ⟨o3, ho3, h⟩ := tk_bnd h
    refine tk_cV1  rfl rfl (r := 295) (as := [.int v2]) (rest := []) rfl ly295 rfl rfl (ok_fM_isRound sc v2 m ho3) ?_
    by_cases hc4 : o3 = true
    · replace h := tk_ifT hc4 h
      refine tk_bT  rfl rfl tk_eB_ne (c := o3 = true) hc4 (pc' := 135) (ls' := [(0, .ref 295), (1, .int v1), (2, .int v2), (3, .int v3)]) (st' := []) ?_
      refine tk_Kp  (ls' := [(0, .ref 295), (1, .int v1), (2, .int v2), (3, .int v3)]) rfl rfl ?_
      exact ok_fM_lies_135 sc v1 v2 v3 m _ h
    · replace h := tk_ifF hc4 h
      refine tk_bF  rfl rfl tk_eB_ne (c := o3 = true) hc4 (pc' := 95) (ls' := [(0, .ref 295), (1, .int v1), (2, .int v2), (3, .int v3)]) (st' := []) ?_
      refine tk_Ps  3 (pc' := 98) (ls' := [(0, .ref 295), (1, .int v1), (2, .int v2), (3, .int v3)]) (st' := [.int (1 : Int32), .int v1, .ref 295]) rfl ?_
      obtain ⟨o5, ho5, h⟩ := tk_bnd h
      refine tk_cV1  rfl rfl (r := 295) (as := [.int v1, .int (1 : Int32)]) (rest := []) rfl ly295 rfl rfl (ok_fM_of0 sc v1 (1 : Int32) m ho5) ?_
      refine tk_Ps  3 (pc' := 104) (ls' := [(0, .ref 295), (1, .int v1), (2, .int v2), (3, .int v3)]) (st' := [.int (1 : Int32), .int v2, .ref 295, .int o5]) rfl ?_
      obtain ⟨o6, ho6, h⟩ := tk_bnd h
      refine tk_cV1  rfl rfl (r := 295) (as := [.int v2, .int (1 : Int32)]) (rest := [.int o5]) rfl ly295 rfl rfl (ok_fM_of0 sc v2 (1 : Int32) m ho6) ?_
      by_cases hc7 : o5 = o6
      · replace h := tk_ifT hc7 h
        refine tk_bT  rfl rfl rfl (c := o5 = o6) hc7 (pc' := 114) (ls' := [(0, .ref 295), (1, .int v1), (2, .int v2), (3, .int v3)]) (st' := []) ?_
        refine tk_Ps  3 (pc' := 117) (ls' := [(0, .ref 295), (1, .int v1), (2, .int v2), (3, .int v3)]) (st' := [.int (2 : Int32), .int v1, .ref 295]) rfl ?_
        obtain ⟨o8, ho8, h⟩ := tk_bnd h
        refine tk_cV1  rfl rfl (r := 295) (as := [.int v1, .int (2 : Int32)]) (rest := []) rfl ly295 rfl rfl (ok_fM_of0 sc v1 (2 : Int32) m ho8) ?_
        refine tk_Ps  3 (pc' := 123) (ls' := [(0, .ref 295), (1, .int v1), (2, .int v2), (3, .int v3)]) (st' := [.int (2 : Int32), .int v2, .ref 295, .int o8]) rfl ?_
        obtain ⟨o9, ho9, h⟩ := tk_bnd h
        refine tk_cV1  rfl rfl (r := 295) (as := [.int v2, .int (2 : Int32)]) (rest := [.int o8]) rfl ly295 rfl rfl (ok_fM_of0 sc v2 (2 : Int32) m ho9) ?_
        by_cases hc10 : o8 = o9
        · replace h := tk_ifT hc10 h
          refine tk_bT  rfl rfl rfl (c := o8 = o9) hc10 (pc' := 129) (ls' := [(0, .ref 295), (1, .int v1), (2, .int v2), (3, .int v3)]) (st' := []) ?_
          refine tk_Ps  2 (pc' := 134) (ls' := [(0, .ref 295), (1, .int v1), (2, .int v2), (3, .int v3)]) (st' := [.int (3 : Int32)]) rfl ?_
          replace h := Option.some.inj h
          subst h
          exact tk_RI  rfl rfl rfl
        · replace h := tk_ifF hc10 h
          refine tk_bF  rfl rfl rfl (c := o8 = o9) hc10 (pc' := 133) (ls' := [(0, .ref 295), (1, .int v1), (2, .int v2), (3, .int v3)]) (st' := []) ?_
          refine tk_Ps  1 (pc' := 134) (ls' := [(0, .ref 295), (1, .int v1), (2, .int v2), (3, .int v3)]) (st' := [.int (0 : Int32)]) rfl ?_
          replace h := Option.some.inj h
          subst h
          exact tk_RI  rfl rfl rfl
      · replace h := tk_ifF hc7 h
        refine tk_bF  rfl rfl rfl (c := o5 = o6) hc7 (pc' := 110) (ls' := [(0, .ref 295), (1, .int v1), (2, .int v2), (3, .int v3)]) (st' := []) ?_
        refine tk_Ps  2 (pc' := 134) (ls' := [(0, .ref 295), (1, .int v1), (2, .int v2), (3, .int v3)]) (st' := [.int (1 : Int32)]) rfl ?_
        replace h := Option.some.inj h
        subst h
        exact tk_RI  rfl rfl rfl
theorem ok_fM_lies (sc : tk_X) (a1 : Int32) (a2 : Int32) (m : tk_m) {out : Int32} (h : fM_lies a1 a2 m = some out) : tk_Ru sc 4 201 [.ref 295, .int a1, .int a2] (tk_full m) (some (.int out), tk_full m) := by
  unfold fM_lies at h
  refine tk_Ru0 me201 (ls := [(0, .ref 295), (1, .int a1), (2, .int a2)]) rfl rfl ?_
  refine tk_Ps  3 (pc' := 3) (ls' := [(0, .ref 295), (1, .int a1), (2, .int a2)]) (st' := [.int (3 : Int32), .int a1, .ref 295]) rfl ?_
  obtain ⟨o1, ho1, h⟩ := tk_bnd h
  refine tk_cV1  rfl rfl (r := 295) (as := [.int a1, .int (3 : Int32)]) (rest := []) rfl ly295 rfl rfl (ok_fM_of0 sc a1 (3 : Int32) m ho1) ?_
  refine tk_Ps  4 (pc' := 10) (ls' := [(3, .int o1), (0, .ref 295), (1, .int a1), (2, .int a2)]) (st' := [.int (3 : Int32), .int a2, .ref 295]) rfl ?_
  obtain ⟨o2, ho2, h⟩ := tk_bnd h
  refine tk_cV1  rfl rfl (r := 295) (as := [.int a2, .int (3 : Int32)]) (rest := []) rfl ly295 rfl rfl (ok_fM_of0 sc a2 (3 : Int32) m ho2) ?_
  refine tk_Ps  3 (pc' := 17) (ls' := [(4, .int o2), (3, .int o1), (0, .ref 295), (1, .int a1), (2, .int a2)]) (st' := [.int a1, .ref 295]) rfl ?_
  obtain ⟨o3, ho3, h⟩ := tk_bnd h
  refine tk_cV1  rfl rfl (r := 295) (as := [.int a1]) (rest := []) rfl ly295 rfl rfl (ok_fM_isRound sc a1 m ho3) ?_
  by_cases hc4 : o3 = true
  · replace h := tk_ifT hc4 h
    refine tk_bT  rfl rfl tk_eB_eq (c := o3 = true) hc4 (pc' := 23) (ls' := [(4, .int o2), (3, .int o1), (0, .ref 295), (1, .int a1), (2, .int a2)]) (st' := []) ?_
    refine tk_Ps  2 (pc' := 25) (ls' := [(4, .int o2), (3, .int o1), (0, .ref 295), (1, .int a1), (2, .int a2)]) (st' := [.int a2, .ref 295]) rfl ?_
    obtain ⟨o5, ho5, h⟩ := tk_bnd h
    refine tk_cV1  rfl rfl (r := 295) (as := [.int a2]) (rest := []) rfl ly295 rfl rfl (ok_fM_isRound sc a2 m ho5) ?_
    by_cases hc6 : o5 = true
    · replace h := tk_ifT hc6 h
      refine tk_bT  rfl rfl tk_eB_eq (c := o5 = true) hc6 (pc' := 31) (ls' := [(4, .int o2), (3, .int o1), (0, .ref 295), (1, .int a1), (2, .int a2)]) (st' := []) ?_
      refine tk_Ps  3 (pc' := 34) (ls' := [(4, .int o2), (3, .int o1), (0, .ref 295), (1, .int a1), (2, .int a2)]) (st' := [.int a2, .int a1, .ref 295]) rfl ?_
      obtain ⟨o7, ho7, h⟩ := tk_bnd h
      refine tk_cV1  rfl rfl (r := 295) (as := [.int a1, .int a2]) (rest := []) rfl ly295 rfl rfl (ok_fM_apart sc a1 a2 m ho7) ?_
      by_cases hc8 : o7 = 0
      · replace h := tk_ifT hc8 h
        refine tk_bT  rfl rfl rfl (c := o7 = 0) hc8 (pc' := 40) (ls' := [(4, .int o2), (3, .int o1), (0, .ref 295), (1, .int a1), (2, .int a2)]) (st' := []) ?_
        refine tk_Ps  2 (pc' := 43) (ls' := [(4, .int o2), (3, .int o1), (0, .ref 295), (1, .int a1), (2, .int a2)]) (st' := [.int o2, .int o1]) rfl ?_
        by_cases hc9 : o1 = o2
        · replace h := tk_ifT hc9 h
          refine tk_bT  rfl rfl rfl (c := o1 = o2) hc9 (pc' := 46) (ls' := [(4, .int o2), (3, .int o1), (0, .ref 295), (1, .int a1), (2, .int a2)]) (st' := []) ?_
          refine tk_Ps  2 (pc' := 78) (ls' := [(4, .int o2), (3, .int o1), (0, .ref 295), (1, .int a1), (2, .int a2)]) (st' := [.int (3 : Int32)]) rfl ?_
          replace h := Option.some.inj h
          subst h
          exact tk_RI  rfl rfl rfl
        · replace h := tk_ifF hc9 h
          refine tk_bF  rfl rfl rfl (c := o1 = o2) hc9 (pc' := 50) (ls' := [(4, .int o2), (3, .int o1), (0, .ref 295), (1, .int a1), (2, .int a2)]) (st' := []) ?_
          refine tk_Kp  (ls' := [(0, .ref 295), (1, .int a1), (2, .int a2), (3, .int o1), (4, .int o2)]) rfl rfl ?_
          exact ok_fM_lies_50 sc a1 a2 o1 o2 m _ h
      · replace h := tk_ifF hc8 h
        refine tk_bF  rfl rfl rfl (c := o7 = 0) hc8 (pc' := 50) (ls' := [(4, .int o2), (3, .int o1), (0, .ref 295), (1, .int a1), (2, .int a2)]) (st' := []) ?_
        refine tk_Kp  (ls' := [(0, .ref 295), (1, .int a1), (2, .int a2), (3, .int o1), (4, .int o2)]) rfl rfl ?_
        exact ok_fM_lies_50 sc a1 a2 o1 o2 m _ h
    · replace h := tk_ifF hc6 h
      refine tk_bF  rfl rfl tk_eB_eq (c := o5 = true) hc6 (pc' := 79) (ls' := [(4, .int o2), (3, .int o1), (0, .ref 295), (1, .int a1), (2, .int a2)]) (st' := []) ?_
      refine tk_Kp  (ls' := [(0, .ref 295), (1, .int a1), (2, .int a2), (3, .int o1)]) rfl rfl ?_
      exact ok_fM_lies_79 sc a1 a2 o1 m _ h
  · replace h := tk_ifF hc4 h
    refine tk_bF  rfl rfl tk_eB_eq (c := o3 = true) hc4 (pc' := 79) (ls' := [(4, .int o2), (3, .int o1), (0, .ref 295), (1, .int a1), (2, .int a2)]) (st' := []) ?_
    refine tk_Kp  (ls' := [(0, .ref 295), (1, .int a1), (2, .int a2), (3, .int o1)]) rfl rfl ?_
    exact ok_fM_lies_79 sc a1 a2 o1 m _ h
theorem ok_fM_lie (sc : tk_X) (a1 : Int32) (a2 : Int32) (m : tk_m) {out : Int32 × tk_m} (h : fM_lie a1 a2 m = some out) : tk_Ru sc 5 199 [.ref 295, .int a1, .int a2] (tk_full m) (some (.int out.1), tk_full out.2) := by
  unfold fM_lie at h
  refine tk_Ru0 me199 (ls := [(0, .ref 295), (1, .int a1), (2, .int a2)]) rfl rfl ?_
  refine tk_Ps  3 (pc' := 3) (ls' := [(0, .ref 295), (1, .int a1), (2, .int a2)]) (st' := [.int a2, .int a1, .ref 295]) rfl ?_
  refine tk_cV1  rfl rfl (r := 295) (as := [.int a1, .int a2]) (rest := []) rfl ly295 rfl rfl (ok_fM_areTwo sc a1 a2 m) ?_
  by_cases hc1 : (fM_areTwo a1 a2 m) = true
  · replace h := tk_ifT hc1 h
    refine tk_bT  rfl rfl tk_eB_eq (c := (fM_areTwo a1 a2 m) = true) hc1 (pc' := 9) (ls' := [(0, .ref 295), (1, .int a1), (2, .int a2)]) (st' := []) ?_
    refine tk_Ps  3 (pc' := 12) (ls' := [(0, .ref 295), (1, .int a1), (2, .int a2)]) (st' := [.int a2, .int a1, .ref 295]) rfl ?_
    obtain ⟨o2, ho2, h⟩ := tk_bnd h
    refine tk_cV1  rfl rfl (r := 295) (as := [.int a1, .int a2]) (rest := []) rfl ly295 rfl rfl (ok_fM_lies sc a1 a2 m ho2) ?_
    refine tk_Ps  1 (pc' := 23) (ls' := [(0, .ref 295), (1, .int a1), (2, .int a2)]) (st' := [.int o2]) rfl ?_
    replace h := Option.some.inj h
    subst h
    exact tk_RI  rfl rfl rfl
  · replace h := tk_ifF hc1 h
    refine tk_bF  rfl rfl tk_eB_eq (c := (fM_areTwo a1 a2 m) = true) hc1 (pc' := 18) (ls' := [(0, .ref 295), (1, .int a1), (2, .int a2)]) (st' := []) ?_
    refine tk_Ps  2 (pc' := 20) (ls' := [(0, .ref 295), (1, .int a1), (2, .int a2)]) (st' := [.int (0 : Int32), .ref 295]) rfl ?_
    obtain ⟨o3, ho3, h⟩ := tk_bnd h
    refine tk_cV1  rfl rfl (r := 295) (as := [.int (0 : Int32)]) (rest := []) rfl ly295 rfl rfl (ok_fM_finds sc (0 : Int32) m ho3) ?_
    replace h := Option.some.inj h
    subst h
    exact tk_RI  rfl rfl rfl
theorem ok_fM_power (sc : tk_X) (a1 : Int32) (a2 : Int32) (a3 : Int32) (m : tk_m) {out : Int32 × tk_m} (h : fM_power a1 a2 a3 m = some out) : tk_Ru sc 4 204 [.ref 295, .int a1, .int a2, .int a3] (tk_full m) (some (.int out.1), tk_full out.2) := by
  unfold fM_power at h
  refine tk_Ru0 me204 (ls := [(0, .ref 295), (1, .int a1), (2, .int a2), (3, .int a3)]) rfl rfl ?_
  refine tk_Ps  2 (pc' := 2) (ls' := [(0, .ref 295), (1, .int a1), (2, .int a2), (3, .int a3)]) (st' := [.int a1, .ref 295]) rfl ?_
  refine tk_cV1  rfl rfl (r := 295) (as := [.int a1]) (rest := []) rfl ly295 rfl rfl (ok_fM_isShape sc a1 m) ?_
  by_cases hc1 : (fM_isShape a1 m) = true
  · replace h := tk_ifT hc1 h
    refine tk_bT  rfl rfl tk_eB_eq (c := (fM_isShape a1 m) = true) hc1 (pc' := 8) (ls' := [(0, .ref 295), (1, .int a1), (2, .int a2), (3, .int a3)]) (st' := []) ?_
    refine tk_Ps  4 (pc' := 16) (ls' := [(0, .ref 295), (1, .int a1), (2, .int a2), (3, .int a3)]) (st' := [.long (99 : Int64), .long (-99 : Int64), .long (Int32.toInt64 a2)]) rfl ?_
    refine tk_cS1  rfl rfl (as := [.long (Int32.toInt64 a2), .long (-99 : Int64), .long (99 : Int64)]) (rest := []) rfl rfl rfl (ok_fM_in sc (Int32.toInt64 a2) (-99 : Int64) (99 : Int64) m) ?_
    by_cases hc2 : (fM_in (Int32.toInt64 a2) (-99 : Int64) (99 : Int64)) = true
    · replace h := tk_ifT hc2 h
      refine tk_bT  rfl rfl tk_eB_eq (c := (fM_in (Int32.toInt64 a2) (-99 : Int64) (99 : Int64)) = true) hc2 (pc' := 22) (ls' := [(0, .ref 295), (1, .int a1), (2, .int a2), (3, .int a3)]) (st' := []) ?_
      refine tk_Ps  4 (pc' := 30) (ls' := [(0, .ref 295), (1, .int a1), (2, .int a2), (3, .int a3)]) (st' := [.long (99 : Int64), .long (-99 : Int64), .long (Int32.toInt64 a3)]) rfl ?_
      refine tk_cS1  rfl rfl (as := [.long (Int32.toInt64 a3), .long (-99 : Int64), .long (99 : Int64)]) (rest := []) rfl rfl rfl (ok_fM_in sc (Int32.toInt64 a3) (-99 : Int64) (99 : Int64) m) ?_
      by_cases hc3 : (fM_in (Int32.toInt64 a3) (-99 : Int64) (99 : Int64)) = true
      · replace h := tk_ifT hc3 h
        refine tk_bT  rfl rfl tk_eB_ne (c := (fM_in (Int32.toInt64 a3) (-99 : Int64) (99 : Int64)) = true) hc3 (pc' := 42) (ls' := [(0, .ref 295), (1, .int a1), (2, .int a2), (3, .int a3)]) (st' := []) ?_
        refine tk_Ps  3 (pc' := 45) (ls' := [(0, .ref 295), (1, .int a1), (2, .int a2), (3, .int a3)]) (st' := [.int (0 : Int32), .int a1, .ref 295]) rfl ?_
        obtain ⟨o4, ho4, h⟩ := tk_bnd h
        refine tk_cV1  rfl rfl (r := 295) (as := [.int a1, .int (0 : Int32)]) (rest := []) rfl ly295 rfl rfl (ok_fM_form sc a1 (0 : Int32) m ho4) ?_
        refine tk_Ps  11 (pc' := 59) (ls' := [(0, .ref 295), (1, .int a1), (2, .int a2), (3, .int a3)]) (st' := [.int (1 : Int32), .int a1, .ref 295, .int (o4 * ((a2 * a2) + (a3 * a3)))]) rfl ?_
        obtain ⟨o5, ho5, h⟩ := tk_bnd h
        refine tk_cV1  rfl rfl (r := 295) (as := [.int a1, .int (1 : Int32)]) (rest := [.int (o4 * ((a2 * a2) + (a3 * a3)))]) rfl ly295 rfl rfl (ok_fM_form sc a1 (1 : Int32) m ho5) ?_
        refine tk_Ps  6 (pc' := 68) (ls' := [(0, .ref 295), (1, .int a1), (2, .int a2), (3, .int a3)]) (st' := [.int (2 : Int32), .int a1, .ref 295, .int ((o4 * ((a2 * a2) + (a3 * a3))) + (o5 * a2))]) rfl ?_
        obtain ⟨o6, ho6, h⟩ := tk_bnd h
        refine tk_cV1  rfl rfl (r := 295) (as := [.int a1, .int (2 : Int32)]) (rest := [.int ((o4 * ((a2 * a2) + (a3 * a3))) + (o5 * a2))]) rfl ly295 rfl rfl (ok_fM_form sc a1 (2 : Int32) m ho6) ?_
        refine tk_Ps  6 (pc' := 77) (ls' := [(0, .ref 295), (1, .int a1), (2, .int a2), (3, .int a3)]) (st' := [.int (3 : Int32), .int a1, .ref 295, .int (((o4 * ((a2 * a2) + (a3 * a3))) + (o5 * a2)) + (o6 * a3))]) rfl ?_
        obtain ⟨o7, ho7, h⟩ := tk_bnd h
        refine tk_cV1  rfl rfl (r := 295) (as := [.int a1, .int (3 : Int32)]) (rest := [.int (((o4 * ((a2 * a2) + (a3 * a3))) + (o5 * a2)) + (o6 * a3))]) rfl ly295 rfl rfl (ok_fM_form sc a1 (3 : Int32) m ho7) ?_
        refine tk_Ps  1 (pc' := 81) (ls' := [(0, .ref 295), (1, .int a1), (2, .int a2), (3, .int a3)]) (st' := [.int ((((o4 * ((a2 * a2) + (a3 * a3))) + (o5 * a2)) + (o6 * a3)) + o7)]) rfl ?_
        replace h := Option.some.inj h
        subst h
        exact tk_RI  rfl rfl rfl
      · replace h := tk_ifF hc3 h
        refine tk_bF  rfl rfl tk_eB_ne (c := (fM_in (Int32.toInt64 a3) (-99 : Int64) (99 : Int64)) = true) hc3 (pc' := 36) (ls' := [(0, .ref 295), (1, .int a1), (2, .int a2), (3, .int a3)]) (st' := []) ?_
        refine tk_Ps  2 (pc' := 38) (ls' := [(0, .ref 295), (1, .int a1), (2, .int a2), (3, .int a3)]) (st' := [.int (0 : Int32), .ref 295]) rfl ?_
        obtain ⟨o8, ho8, h⟩ := tk_bnd h
        refine tk_cV1  rfl rfl (r := 295) (as := [.int (0 : Int32)]) (rest := []) rfl ly295 rfl rfl (ok_fM_finds sc (0 : Int32) m ho8) ?_
        replace h := Option.some.inj h
        subst h
        exact tk_RI  rfl rfl rfl
    · replace h := tk_ifF hc2 h
      refine tk_bF  rfl rfl tk_eB_eq (c := (fM_in (Int32.toInt64 a2) (-99 : Int64) (99 : Int64)) = true) hc2 (pc' := 36) (ls' := [(0, .ref 295), (1, .int a1), (2, .int a2), (3, .int a3)]) (st' := []) ?_
      refine tk_Ps  2 (pc' := 38) (ls' := [(0, .ref 295), (1, .int a1), (2, .int a2), (3, .int a3)]) (st' := [.int (0 : Int32), .ref 295]) rfl ?_
      obtain ⟨o9, ho9, h⟩ := tk_bnd h
      refine tk_cV1  rfl rfl (r := 295) (as := [.int (0 : Int32)]) (rest := []) rfl ly295 rfl rfl (ok_fM_finds sc (0 : Int32) m ho9) ?_
      replace h := Option.some.inj h
      subst h
      exact tk_RI  rfl rfl rfl
  · replace h := tk_ifF hc1 h
    refine tk_bF  rfl rfl tk_eB_eq (c := (fM_isShape a1 m) = true) hc1 (pc' := 36) (ls' := [(0, .ref 295), (1, .int a1), (2, .int a2), (3, .int a3)]) (st' := []) ?_
    refine tk_Ps  2 (pc' := 38) (ls' := [(0, .ref 295), (1, .int a1), (2, .int a2), (3, .int a3)]) (st' := [.int (0 : Int32), .ref 295]) rfl ?_
    obtain ⟨o10, ho10, h⟩ := tk_bnd h
    refine tk_cV1  rfl rfl (r := 295) (as := [.int (0 : Int32)]) (rest := []) rfl ly295 rfl rfl (ok_fM_finds sc (0 : Int32) m ho10) ?_
    replace h := Option.some.inj h
    subst h
    exact tk_RI  rfl rfl rfl
theorem ok_fM_divisor_10 (sc : tk_X) : ∀ (n : Nat) (v2 : Int32) (v3 : Int32) (m : tk_m) (out : Int32), fM_divisor_10 n v2 v3 = some out → tk_Ex sc 1 tk_r206 tk_k206 10 [(2, .int v2), (3, .int v3)] [] (tk_full m) (some (.int out), tk_full m) := by
  intro n
  induction n with
  | zero =>
    intro v2 v3 m out h
    cases h
  | succ n ih =>
    intro v2 v3 m out h
    unfold fM_divisor_10 at h
    refine tk_Ps  1 (pc' := 11) (ls' := [(2, .int v2), (3, .int v3)]) (st' := [.int v3]) rfl ?_
    by_cases hc1 : v3 = 0
    · replace h := tk_ifT hc1 h
      refine tk_bT  rfl rfl rfl (c := v3 = 0) hc1 (pc' := 27) (ls' := [(2, .int v2), (3, .int v3)]) (st' := []) ?_
      refine tk_Ps  1 (pc' := 28) (ls' := [(2, .int v2), (3, .int v3)]) (st' := [.int v2]) rfl ?_
      replace h := Option.some.inj h
      subst h
      exact tk_RI  rfl rfl rfl
    · replace h := tk_ifF hc1 h
      refine tk_bF  rfl rfl rfl (c := v3 = 0) hc1 (pc' := 14) (ls' := [(2, .int v2), (3, .int v3)]) (st' := []) ?_
      refine tk_Ps  2 (pc' := 16) (ls' := [(2, .int v2), (3, .int v3)]) (st' := [.int v3, .int v2]) rfl ?_
      obtain ⟨hz2, h⟩ := tk_grn h
      refine tk_iremR  rfl rfl hz2 ?_
      refine tk_Ps  6 (pc' := 10) (ls' := [(3, .int (tk_irem v2 v3)), (2, .int v3), (4, .int (tk_irem v2 v3))]) (st' := []) rfl ?_
      refine tk_Kp  (ls' := [(2, .int v3), (3, .int (tk_irem v2 v3))]) rfl rfl ?_
      exact ih v3 (tk_irem v2 v3) m _ h
theorem ok_fM_divisor (sc : tk_X) (a1 : Int32) (a2 : Int32) (m : tk_m) {out : Int32} (h : fM_divisor a1 a2 = some out) : tk_Ru sc 2 206 [.int a1, .int a2] (tk_full m) (some (.int out), tk_full m) := by
  unfold fM_divisor at h
  refine tk_Ru0 me206 (ls := [(0, .int a1), (1, .int a2)]) rfl rfl ?_
  refine tk_Ps  1 (pc' := 1) (ls' := [(0, .int a1), (1, .int a2)]) (st' := [.int a1]) rfl ?_
  refine tk_cS1  rfl rfl (as := [.int a1]) (rest := []) rfl rfl rfl (ok_fZ_abs_I sc a1 m) ?_
  refine tk_Ps  2 (pc' := 6) (ls' := [(2, .int (fZ_abs_I a1)), (0, .int a1), (1, .int a2)]) (st' := [.int a2]) rfl ?_
  refine tk_cS1  rfl rfl (as := [.int a2]) (rest := []) rfl rfl rfl (ok_fZ_abs_I sc a2 m) ?_
  refine tk_Ps  1 (pc' := 10) (ls' := [(3, .int (fZ_abs_I a2)), (2, .int (fZ_abs_I a1)), (0, .int a1), (1, .int a2)]) (st' := []) rfl ?_
  refine tk_Kp  (ls' := [(2, .int (fZ_abs_I a1)), (3, .int (fZ_abs_I a2))]) rfl rfl ?_
  exact ok_fM_divisor_10 sc tk_F (fZ_abs_I a1) (fZ_abs_I a2) m _ h
theorem ok_fM_radical_147 (sc : tk_X) (v3 : Int32) (v4 : Int32) (v5 : Int32) (v6 : Int32) (s0 : Int32) (m : tk_m) (out : Int32 × tk_m) (h : fM_radical_147 v3 v4 v5 v6 s0 m = some out) : tk_Ex sc 3 tk_r205 tk_k205 147 [(3, .int v3), (4, .int v4), (5, .int v5), (6, .int v6)] [.int s0] (tk_full m) (some (.int out.1), tk_full out.2) := by
  unfold fM_radical_147 at h
  refine tk_Ps  2 (pc' := 150) (ls' := [(7, .int s0), (3, .int v3), (4, .int v4), (5, .int v5), (6, .int v6)]) (st' := [.int v3]) rfl ?_
  by_cases hc1 : v3 = 0
  · replace h := tk_ifT hc1 h
    refine tk_bT  rfl rfl rfl (c := v3 = 0) hc1 (pc' := 153) (ls' := [(7, .int s0), (3, .int v3), (4, .int v4), (5, .int v5), (6, .int v6)]) (st' := []) ?_
    refine tk_Ps  3 (pc' := 172) (ls' := [(7, .int s0), (3, .int v3), (4, .int v4), (5, .int v5), (6, .int v6)]) (st' := [.int s0, .int v4]) rfl ?_
    obtain ⟨hz2, h⟩ := tk_grn h
    refine tk_idiv  rfl rfl hz2 ?_
    replace h := Option.some.inj h
    subst h
    exact tk_RI  rfl rfl rfl
  · replace h := tk_ifF hc1 h
    refine tk_bF  rfl rfl rfl (c := v3 = 0) hc1 (pc' := 158) (ls' := [(7, .int s0), (3, .int v3), (4, .int v4), (5, .int v5), (6, .int v6)]) (st' := []) ?_
    refine tk_Ps  2 (pc' := 160) (ls' := [(7, .int s0), (3, .int v3), (4, .int v4), (5, .int v5), (6, .int v6)]) (st' := [.int (1 : Int32), .int v3]) rfl ?_
    by_cases hc3 : v3 = (1 : Int32)
    · replace h := tk_ifT hc3 h
      refine tk_bT  rfl rfl rfl (c := v3 = (1 : Int32)) hc3 (pc' := 163) (ls' := [(7, .int s0), (3, .int v3), (4, .int v4), (5, .int v5), (6, .int v6)]) (st' := []) ?_
      refine tk_Ps  3 (pc' := 172) (ls' := [(7, .int s0), (3, .int v3), (4, .int v4), (5, .int v5), (6, .int v6)]) (st' := [.int s0, .int v5]) rfl ?_
      obtain ⟨hz4, h⟩ := tk_grn h
      refine tk_idiv  rfl rfl hz4 ?_
      replace h := Option.some.inj h
      subst h
      exact tk_RI  rfl rfl rfl
    · replace h := tk_ifF hc3 h
      refine tk_bF  rfl rfl rfl (c := v3 = (1 : Int32)) hc3 (pc' := 168) (ls' := [(7, .int s0), (3, .int v3), (4, .int v4), (5, .int v5), (6, .int v6)]) (st' := []) ?_
      refine tk_Ps  2 (pc' := 172) (ls' := [(7, .int s0), (3, .int v3), (4, .int v4), (5, .int v5), (6, .int v6)]) (st' := [.int s0, .int v6]) rfl ?_
      obtain ⟨hz5, h⟩ := tk_grn h
      refine tk_idiv  rfl rfl hz5 ?_
      replace h := Option.some.inj h
      subst h
      exact tk_RI  rfl rfl rfl
theorem ok_fM_radical_110 (sc : tk_X) (v3 : Int32) (v4 : Int32) (v5 : Int32) (v6 : Int32) (m : tk_m) (out : Int32 × tk_m) (h : fM_radical_110 v3 v4 v5 v6 m = some out) : tk_Ex sc 3 tk_r205 tk_k205 110 [(3, .int v3), (4, .int v4), (5, .int v5), (6, .int v6)] [] (tk_full m) (some (.int out.1), tk_full out.2) := by
  unfold fM_radical_110 at h
  refine tk_Ps  2 (pc' := 114) (ls' := [(3, .int v3), (4, .int v4), (5, .int v5), (6, .int v6)]) (st' := [.int v5, .int v4]) rfl ?_
  obtain ⟨o1, ho1, h⟩ := tk_bnd h
  refine tk_cS1  rfl rfl (as := [.int v4, .int v5]) (rest := []) rfl rfl rfl (ok_fM_divisor sc v4 v5 m ho1) ?_
  refine tk_Ps  1 (pc' := 119) (ls' := [(3, .int v3), (4, .int v4), (5, .int v5), (6, .int v6)]) (st' := [.int v6, .int o1]) rfl ?_
  obtain ⟨o2, ho2, h⟩ := tk_bnd h
  refine tk_cS1  rfl rfl (as := [.int o1, .int v6]) (rest := []) rfl rfl rfl (ok_fM_divisor sc o1 v6 m ho2) ?_
  refine tk_Ps  2 (pc' := 126) (ls' := [(7, .int o2), (3, .int v3), (4, .int v4), (5, .int v5), (6, .int v6)]) (st' := [.int v4]) rfl ?_
  by_cases hc3 : v4 < 0
  · replace h := tk_ifT hc3 h
    refine tk_bT  rfl rfl rfl (c := v4 < 0) hc3 (pc' := 139) (ls' := [(7, .int o2), (3, .int v3), (4, .int v4), (5, .int v5), (6, .int v6)]) (st' := []) ?_
    refine tk_Ps  3 (pc' := 147) (ls' := [(7, .int o2), (3, .int v3), (4, .int v4), (5, .int v5), (6, .int v6)]) (st' := [.int (-o2)]) rfl ?_
    refine tk_Kp  (ls' := [(3, .int v3), (4, .int v4), (5, .int v5), (6, .int v6)]) rfl rfl ?_
    exact ok_fM_radical_147 sc v3 v4 v5 v6 (-o2) m _ h
  · replace h := tk_ifF hc3 h
    refine tk_bF  rfl rfl rfl (c := v4 < 0) hc3 (pc' := 129) (ls' := [(7, .int o2), (3, .int v3), (4, .int v4), (5, .int v5), (6, .int v6)]) (st' := []) ?_
    refine tk_Ps  1 (pc' := 131) (ls' := [(7, .int o2), (3, .int v3), (4, .int v4), (5, .int v5), (6, .int v6)]) (st' := [.int v4]) rfl ?_
    by_cases hc4 : v4 = 0
    · replace h := tk_ifT hc4 h
      refine tk_bT  rfl rfl rfl (c := v4 = 0) hc4 (pc' := 134) (ls' := [(7, .int o2), (3, .int v3), (4, .int v4), (5, .int v5), (6, .int v6)]) (st' := []) ?_
      refine tk_Ps  1 (pc' := 136) (ls' := [(7, .int o2), (3, .int v3), (4, .int v4), (5, .int v5), (6, .int v6)]) (st' := [.int v5]) rfl ?_
      by_cases hc5 : 0 ≤ v5
      · replace h := tk_ifT hc5 h
        refine tk_bT  rfl rfl rfl (c := 0 ≤ v5) hc5 (pc' := 145) (ls' := [(7, .int o2), (3, .int v3), (4, .int v4), (5, .int v5), (6, .int v6)]) (st' := []) ?_
        refine tk_Ps  1 (pc' := 147) (ls' := [(7, .int o2), (3, .int v3), (4, .int v4), (5, .int v5), (6, .int v6)]) (st' := [.int o2]) rfl ?_
        refine tk_Kp  (ls' := [(3, .int v3), (4, .int v4), (5, .int v5), (6, .int v6)]) rfl rfl ?_
        exact ok_fM_radical_147 sc v3 v4 v5 v6 o2 m _ h
      · replace h := tk_ifF hc5 h
        refine tk_bF  rfl rfl rfl (c := 0 ≤ v5) hc5 (pc' := 139) (ls' := [(7, .int o2), (3, .int v3), (4, .int v4), (5, .int v5), (6, .int v6)]) (st' := []) ?_
        refine tk_Ps  3 (pc' := 147) (ls' := [(7, .int o2), (3, .int v3), (4, .int v4), (5, .int v5), (6, .int v6)]) (st' := [.int (-o2)]) rfl ?_
        refine tk_Kp  (ls' := [(3, .int v3), (4, .int v4), (5, .int v5), (6, .int v6)]) rfl rfl ?_
        exact ok_fM_radical_147 sc v3 v4 v5 v6 (-o2) m _ h
    · replace h := tk_ifF hc4 h
      refine tk_bF  rfl rfl rfl (c := v4 = 0) hc4 (pc' := 145) (ls' := [(7, .int o2), (3, .int v3), (4, .int v4), (5, .int v5), (6, .int v6)]) (st' := []) ?_
      refine tk_Ps  1 (pc' := 147) (ls' := [(7, .int o2), (3, .int v3), (4, .int v4), (5, .int v5), (6, .int v6)]) (st' := [.int o2]) rfl ?_
      refine tk_Kp  (ls' := [(3, .int v3), (4, .int v4), (5, .int v5), (6, .int v6)]) rfl rfl ?_
      exact ok_fM_radical_147 sc v3 v4 v5 v6 o2 m _ h
theorem ok_fM_radical (sc : tk_X) (a1 : Int32) (a2 : Int32) (a3 : Int32) (m : tk_m) {out : Int32 × tk_m} (h : fM_radical a1 a2 a3 m = some out) : tk_Ru sc 4 205 [.ref 295, .int a1, .int a2, .int a3] (tk_full m) (some (.int out.1), tk_full out.2) := by
  unfold fM_radical at h
  refine tk_Ru0 me205 (ls := [(0, .ref 295), (1, .int a1), (2, .int a2), (3, .int a3)]) rfl rfl ?_
  refine tk_Ps  3 (pc' := 3) (ls' := [(0, .ref 295), (1, .int a1), (2, .int a2), (3, .int a3)]) (st' := [.int a2, .int a1, .ref 295]) rfl ?_
  refine tk_cV1  rfl rfl (r := 295) (as := [.int a1, .int a2]) (rest := []) rfl ly295 rfl rfl (ok_fM_areTwo sc a1 a2 m) ?_
  by_cases hc1 : (fM_areTwo a1 a2 m) = true
  · replace h := tk_ifT hc1 h
    refine tk_bT  rfl rfl tk_eB_eq (c := (fM_areTwo a1 a2 m) = true) hc1 (pc' := 9) (ls' := [(0, .ref 295), (1, .int a1), (2, .int a2), (3, .int a3)]) (st' := []) ?_
    refine tk_Ps  4 (pc' := 15) (ls' := [(0, .ref 295), (1, .int a1), (2, .int a2), (3, .int a3)]) (st' := [.long (2 : Int64), .long (0 : Int64), .long (Int32.toInt64 a3)]) rfl ?_
    refine tk_cS1  rfl rfl (as := [.long (Int32.toInt64 a3), .long (0 : Int64), .long (2 : Int64)]) (rest := []) rfl rfl rfl (ok_fM_in sc (Int32.toInt64 a3) (0 : Int64) (2 : Int64) m) ?_
    by_cases hc2 : (fM_in (Int32.toInt64 a3) (0 : Int64) (2 : Int64)) = true
    · replace h := tk_ifT hc2 h
      refine tk_bT  rfl rfl tk_eB_ne (c := (fM_in (Int32.toInt64 a3) (0 : Int64) (2 : Int64)) = true) hc2 (pc' := 27) (ls' := [(0, .ref 295), (1, .int a1), (2, .int a2), (3, .int a3)]) (st' := []) ?_
      refine tk_Ps  2 (pc' := 29) (ls' := [(0, .ref 295), (1, .int a1), (2, .int a2), (3, .int a3)]) (st' := [.int a1, .ref 295]) rfl ?_
      obtain ⟨o3, ho3, h⟩ := tk_bnd h
      refine tk_cV1  rfl rfl (r := 295) (as := [.int a1]) (rest := []) rfl ly295 rfl rfl (ok_fM_isRound sc a1 m ho3) ?_
      by_cases hc4 : o3 = true
      · replace h := tk_ifT hc4 h
        refine tk_bT  rfl rfl tk_eB_eq (c := o3 = true) hc4 (pc' := 35) (ls' := [(0, .ref 295), (1, .int a1), (2, .int a2), (3, .int a3)]) (st' := []) ?_
        refine tk_Ps  2 (pc' := 37) (ls' := [(0, .ref 295), (1, .int a1), (2, .int a2), (3, .int a3)]) (st' := [.int a2, .ref 295]) rfl ?_
        obtain ⟨o5, ho5, h⟩ := tk_bnd h
        refine tk_cV1  rfl rfl (r := 295) (as := [.int a2]) (rest := []) rfl ly295 rfl rfl (ok_fM_isRound sc a2 m ho5) ?_
        by_cases hc6 : o5 = true
        · replace h := tk_ifT hc6 h
          refine tk_bT  rfl rfl tk_eB_ne (c := o5 = true) hc6 (pc' := 49) (ls' := [(0, .ref 295), (1, .int a1), (2, .int a2), (3, .int a3)]) (st' := []) ?_
          refine tk_Ps  3 (pc' := 52) (ls' := [(0, .ref 295), (1, .int a1), (2, .int a2), (3, .int a3)]) (st' := [.int (1 : Int32), .int a2, .ref 295]) rfl ?_
          obtain ⟨o7, ho7, h⟩ := tk_bnd h
          refine tk_cV1  rfl rfl (r := 295) (as := [.int a2, .int (1 : Int32)]) (rest := []) rfl ly295 rfl rfl (ok_fM_form sc a2 (1 : Int32) m ho7) ?_
          refine tk_Ps  3 (pc' := 58) (ls' := [(0, .ref 295), (1, .int a1), (2, .int a2), (3, .int a3)]) (st' := [.int (1 : Int32), .int a1, .ref 295, .int o7]) rfl ?_
          obtain ⟨o8, ho8, h⟩ := tk_bnd h
          refine tk_cV1  rfl rfl (r := 295) (as := [.int a1, .int (1 : Int32)]) (rest := [.int o7]) rfl ly295 rfl rfl (ok_fM_form sc a1 (1 : Int32) m ho8) ?_
          refine tk_Ps  5 (pc' := 67) (ls' := [(4, .int (o7 - o8)), (0, .ref 295), (1, .int a1), (2, .int a2), (3, .int a3)]) (st' := [.int (2 : Int32), .int a2, .ref 295]) rfl ?_
          obtain ⟨o9, ho9, h⟩ := tk_bnd h
          refine tk_cV1  rfl rfl (r := 295) (as := [.int a2, .int (2 : Int32)]) (rest := []) rfl ly295 rfl rfl (ok_fM_form sc a2 (2 : Int32) m ho9) ?_
          refine tk_Ps  3 (pc' := 73) (ls' := [(4, .int (o7 - o8)), (0, .ref 295), (1, .int a1), (2, .int a2), (3, .int a3)]) (st' := [.int (2 : Int32), .int a1, .ref 295, .int o9]) rfl ?_
          obtain ⟨o10, ho10, h⟩ := tk_bnd h
          refine tk_cV1  rfl rfl (r := 295) (as := [.int a1, .int (2 : Int32)]) (rest := [.int o9]) rfl ly295 rfl rfl (ok_fM_form sc a1 (2 : Int32) m ho10) ?_
          refine tk_Ps  5 (pc' := 82) (ls' := [(5, .int (o9 - o10)), (4, .int (o7 - o8)), (0, .ref 295), (1, .int a1), (2, .int a2), (3, .int a3)]) (st' := [.int (3 : Int32), .int a1, .ref 295]) rfl ?_
          obtain ⟨o11, ho11, h⟩ := tk_bnd h
          refine tk_cV1  rfl rfl (r := 295) (as := [.int a1, .int (3 : Int32)]) (rest := []) rfl ly295 rfl rfl (ok_fM_form sc a1 (3 : Int32) m ho11) ?_
          refine tk_Ps  3 (pc' := 88) (ls' := [(5, .int (o9 - o10)), (4, .int (o7 - o8)), (0, .ref 295), (1, .int a1), (2, .int a2), (3, .int a3)]) (st' := [.int (3 : Int32), .int a2, .ref 295, .int o11]) rfl ?_
          obtain ⟨o12, ho12, h⟩ := tk_bnd h
          refine tk_cV1  rfl rfl (r := 295) (as := [.int a2, .int (3 : Int32)]) (rest := [.int o11]) rfl ly295 rfl rfl (ok_fM_form sc a2 (3 : Int32) m ho12) ?_
          refine tk_Ps  3 (pc' := 96) (ls' := [(6, .int (o11 - o12)), (5, .int (o9 - o10)), (4, .int (o7 - o8)), (0, .ref 295), (1, .int a1), (2, .int a2), (3, .int a3)]) (st' := [.int (o7 - o8)]) rfl ?_
          by_cases hc13 : (o7 - o8) = 0
          · replace h := tk_ifT hc13 h
            refine tk_bT  rfl rfl rfl (c := (o7 - o8) = 0) hc13 (pc' := 99) (ls' := [(6, .int (o11 - o12)), (5, .int (o9 - o10)), (4, .int (o7 - o8)), (0, .ref 295), (1, .int a1), (2, .int a2), (3, .int a3)]) (st' := []) ?_
            refine tk_Ps  1 (pc' := 101) (ls' := [(6, .int (o11 - o12)), (5, .int (o9 - o10)), (4, .int (o7 - o8)), (0, .ref 295), (1, .int a1), (2, .int a2), (3, .int a3)]) (st' := [.int (o9 - o10)]) rfl ?_
            by_cases hc14 : (o9 - o10) = 0
            · replace h := tk_ifT hc14 h
              refine tk_bT  rfl rfl rfl (c := (o9 - o10) = 0) hc14 (pc' := 104) (ls' := [(6, .int (o11 - o12)), (5, .int (o9 - o10)), (4, .int (o7 - o8)), (0, .ref 295), (1, .int a1), (2, .int a2), (3, .int a3)]) (st' := []) ?_
              refine tk_Ps  2 (pc' := 106) (ls' := [(6, .int (o11 - o12)), (5, .int (o9 - o10)), (4, .int (o7 - o8)), (0, .ref 295), (1, .int a1), (2, .int a2), (3, .int a3)]) (st' := [.int (3 : Int32), .ref 295]) rfl ?_
              obtain ⟨o15, ho15, h⟩ := tk_bnd h
              refine tk_cV1  rfl rfl (r := 295) (as := [.int (3 : Int32)]) (rest := []) rfl ly295 rfl rfl (ok_fM_finds sc (3 : Int32) m ho15) ?_
              replace h := Option.some.inj h
              subst h
              exact tk_RI  rfl rfl rfl
            · replace h := tk_ifF hc14 h
              refine tk_bF  rfl rfl rfl (c := (o9 - o10) = 0) hc14 (pc' := 110) (ls' := [(6, .int (o11 - o12)), (5, .int (o9 - o10)), (4, .int (o7 - o8)), (0, .ref 295), (1, .int a1), (2, .int a2), (3, .int a3)]) (st' := []) ?_
              refine tk_Kp  (ls' := [(3, .int a3), (4, .int (o7 - o8)), (5, .int (o9 - o10)), (6, .int (o11 - o12))]) rfl rfl ?_
              exact ok_fM_radical_110 sc a3 (o7 - o8) (o9 - o10) (o11 - o12) m _ h
          · replace h := tk_ifF hc13 h
            refine tk_bF  rfl rfl rfl (c := (o7 - o8) = 0) hc13 (pc' := 110) (ls' := [(6, .int (o11 - o12)), (5, .int (o9 - o10)), (4, .int (o7 - o8)), (0, .ref 295), (1, .int a1), (2, .int a2), (3, .int a3)]) (st' := []) ?_
            refine tk_Kp  (ls' := [(3, .int a3), (4, .int (o7 - o8)), (5, .int (o9 - o10)), (6, .int (o11 - o12))]) rfl rfl ?_
            exact ok_fM_radical_110 sc a3 (o7 - o8) (o9 - o10) (o11 - o12) m _ h
        · replace h := tk_ifF hc6 h
          refine tk_bF  rfl rfl tk_eB_ne (c := o5 = true) hc6 (pc' := 43) (ls' := [(0, .ref 295), (1, .int a1), (2, .int a2), (3, .int a3)]) (st' := []) ?_
          refine tk_Ps  2 (pc' := 45) (ls' := [(0, .ref 295), (1, .int a1), (2, .int a2), (3, .int a3)]) (st' := [.int (2 : Int32), .ref 295]) rfl ?_
          obtain ⟨o16, ho16, h⟩ := tk_bnd h
          refine tk_cV1  rfl rfl (r := 295) (as := [.int (2 : Int32)]) (rest := []) rfl ly295 rfl rfl (ok_fM_finds sc (2 : Int32) m ho16) ?_
          replace h := Option.some.inj h
          subst h
          exact tk_RI  rfl rfl rfl
      · replace h := tk_ifF hc4 h
        refine tk_bF  rfl rfl tk_eB_eq (c := o3 = true) hc4 (pc' := 43) (ls' := [(0, .ref 295), (1, .int a1), (2, .int a2), (3, .int a3)]) (st' := []) ?_
        refine tk_Ps  2 (pc' := 45) (ls' := [(0, .ref 295), (1, .int a1), (2, .int a2), (3, .int a3)]) (st' := [.int (2 : Int32), .ref 295]) rfl ?_
        obtain ⟨o17, ho17, h⟩ := tk_bnd h
        refine tk_cV1  rfl rfl (r := 295) (as := [.int (2 : Int32)]) (rest := []) rfl ly295 rfl rfl (ok_fM_finds sc (2 : Int32) m ho17) ?_
        replace h := Option.some.inj h
        subst h
        exact tk_RI  rfl rfl rfl
    · replace h := tk_ifF hc2 h
      refine tk_bF  rfl rfl tk_eB_ne (c := (fM_in (Int32.toInt64 a3) (0 : Int64) (2 : Int64)) = true) hc2 (pc' := 21) (ls' := [(0, .ref 295), (1, .int a1), (2, .int a2), (3, .int a3)]) (st' := []) ?_
      refine tk_Ps  2 (pc' := 23) (ls' := [(0, .ref 295), (1, .int a1), (2, .int a2), (3, .int a3)]) (st' := [.int (0 : Int32), .ref 295]) rfl ?_
      obtain ⟨o18, ho18, h⟩ := tk_bnd h
      refine tk_cV1  rfl rfl (r := 295) (as := [.int (0 : Int32)]) (rest := []) rfl ly295 rfl rfl (ok_fM_finds sc (0 : Int32) m ho18) ?_
      replace h := Option.some.inj h
      subst h
      exact tk_RI  rfl rfl rfl
  · replace h := tk_ifF hc1 h
    refine tk_bF  rfl rfl tk_eB_eq (c := (fM_areTwo a1 a2 m) = true) hc1 (pc' := 21) (ls' := [(0, .ref 295), (1, .int a1), (2, .int a2), (3, .int a3)]) (st' := []) ?_
    refine tk_Ps  2 (pc' := 23) (ls' := [(0, .ref 295), (1, .int a1), (2, .int a2), (3, .int a3)]) (st' := [.int (0 : Int32), .ref 295]) rfl ?_
    obtain ⟨o19, ho19, h⟩ := tk_bnd h
    refine tk_cV1  rfl rfl (r := 295) (as := [.int (0 : Int32)]) (rest := []) rfl ly295 rfl rfl (ok_fM_finds sc (0 : Int32) m ho19) ?_
    replace h := Option.some.inj h
    subst h
    exact tk_RI  rfl rfl rfl
theorem ok_fM_ring (sc : tk_X) (a1 : Int32) (a2 : Int32) (m : tk_m) {out : Int32 × tk_m} (h : fM_ring a1 a2 m = some out) : tk_Ru sc 5 207 [.ref 295, .int a1, .int a2] (tk_full m) (some (.int out.1), tk_full out.2) := by
  unfold fM_ring at h
  refine tk_Ru0 me207 (ls := [(0, .ref 295), (1, .int a1), (2, .int a2)]) rfl rfl ?_
  refine tk_Ps  3 (pc' := 3) (ls' := [(0, .ref 295), (1, .int a1), (2, .int a2)]) (st' := [.int a2, .int a1, .ref 295]) rfl ?_
  refine tk_cV1  rfl rfl (r := 295) (as := [.int a1, .int a2]) (rest := []) rfl ly295 rfl rfl (ok_fM_areTwo sc a1 a2 m) ?_
  by_cases hc1 : (fM_areTwo a1 a2 m) = true
  · replace h := tk_ifT hc1 h
    refine tk_bT  rfl rfl tk_eB_ne (c := (fM_areTwo a1 a2 m) = true) hc1 (pc' := 15) (ls' := [(0, .ref 295), (1, .int a1), (2, .int a2)]) (st' := []) ?_
    refine tk_Ps  2 (pc' := 17) (ls' := [(0, .ref 295), (1, .int a1), (2, .int a2)]) (st' := [.int a1, .ref 295]) rfl ?_
    obtain ⟨o2, ho2, h⟩ := tk_bnd h
    refine tk_cV1  rfl rfl (r := 295) (as := [.int a1]) (rest := []) rfl ly295 rfl rfl (ok_fM_kindOf sc a1 m ho2) ?_
    refine tk_Ps  1 (pc' := 21) (ls' := [(0, .ref 295), (1, .int a1), (2, .int a2)]) (st' := [.int (1 : Int32), .int o2]) rfl ?_
    by_cases hc3 : o2 = (1 : Int32)
    · replace h := tk_ifT hc3 h
      refine tk_bT  rfl rfl rfl (c := o2 = (1 : Int32)) hc3 (pc' := 24) (ls' := [(0, .ref 295), (1, .int a1), (2, .int a2)]) (st' := []) ?_
      refine tk_Ps  2 (pc' := 26) (ls' := [(0, .ref 295), (1, .int a1), (2, .int a2)]) (st' := [.int a2, .ref 295]) rfl ?_
      obtain ⟨o4, ho4, h⟩ := tk_bnd h
      refine tk_cV1  rfl rfl (r := 295) (as := [.int a2]) (rest := []) rfl ly295 rfl rfl (ok_fM_kindOf sc a2 m ho4) ?_
      refine tk_Ps  1 (pc' := 30) (ls' := [(0, .ref 295), (1, .int a1), (2, .int a2)]) (st' := [.int (1 : Int32), .int o4]) rfl ?_
      by_cases hc5 : o4 = (1 : Int32)
      · replace h := tk_ifT hc5 h
        refine tk_bT  rfl rfl rfl (c := o4 = (1 : Int32)) hc5 (pc' := 39) (ls' := [(0, .ref 295), (1, .int a1), (2, .int a2)]) (st' := []) ?_
        refine tk_Ps  3 (pc' := 42) (ls' := [(0, .ref 295), (1, .int a1), (2, .int a2)]) (st' := [.int a2, .int a1, .ref 295]) rfl ?_
        obtain ⟨o6, ho6, h⟩ := tk_bnd h
        refine tk_cV1  rfl rfl (r := 295) (as := [.int a1, .int a2]) (rest := []) rfl ly295 rfl rfl (ok_fM_lies sc a1 a2 m ho6) ?_
        by_cases hc7 : o6 = 0
        · replace h := tk_ifT hc7 h
          refine tk_bT  rfl rfl rfl (c := o6 = 0) hc7 (pc' := 54) (ls' := [(0, .ref 295), (1, .int a1), (2, .int a2)]) (st' := []) ?_
          refine tk_Ps  3 (pc' := 57) (ls' := [(0, .ref 295), (1, .int a1), (2, .int a2)]) (st' := [.int (3 : Int32), .int a1, .ref 295]) rfl ?_
          obtain ⟨o8, ho8, h⟩ := tk_bnd h
          refine tk_cV1  rfl rfl (r := 295) (as := [.int a1, .int (3 : Int32)]) (rest := []) rfl ly295 rfl rfl (ok_fM_of0 sc a1 (3 : Int32) m ho8) ?_
          refine tk_Ps  4 (pc' := 64) (ls' := [(3, .int o8), (0, .ref 295), (1, .int a1), (2, .int a2)]) (st' := [.int (3 : Int32), .int a2, .ref 295]) rfl ?_
          obtain ⟨o9, ho9, h⟩ := tk_bnd h
          refine tk_cV1  rfl rfl (r := 295) (as := [.int a2, .int (3 : Int32)]) (rest := []) rfl ly295 rfl rfl (ok_fM_of0 sc a2 (3 : Int32) m ho9) ?_
          refine tk_Ps  11 (pc' := 81) (ls' := [(4, .int o9), (3, .int o8), (0, .ref 295), (1, .int a1), (2, .int a2)]) (st' := [.int a2, .int a1, .ref 295, .int ((o8 * o8) + (o9 * o9))]) rfl ?_
          obtain ⟨o10, ho10, h⟩ := tk_bnd h
          refine tk_cV1  rfl rfl (r := 295) (as := [.int a1, .int a2]) (rest := [.int ((o8 * o8) + (o9 * o9))]) rfl ly295 rfl rfl (ok_fM_apart sc a1 a2 m ho10) ?_
          refine tk_Ps  1 (pc' := 85) (ls' := [(4, .int o9), (3, .int o8), (0, .ref 295), (1, .int a1), (2, .int a2)]) (st' := [.int (((o8 * o8) + (o9 * o9)) - o10)]) rfl ?_
          refine tk_cS1  rfl rfl (as := [.int (((o8 * o8) + (o9 * o9)) - o10)]) (rest := []) rfl rfl rfl (ok_fZ_abs_I sc (((o8 * o8) + (o9 * o9)) - o10) m) ?_
          refine tk_Ps  13 (pc' := 106) (ls' := [(6, .int (((2 : Int32) * o8) * o9)), (5, .int (fZ_abs_I (((o8 * o8) + (o9 * o9)) - o10))), (4, .int o9), (3, .int o8), (0, .ref 295), (1, .int a1), (2, .int a2)]) (st' := [.int ((5 : Int32) * (((2 : Int32) * o8) * o9)), .int ((3 : Int32) * (fZ_abs_I (((o8 * o8) + (o9 * o9)) - o10)))]) rfl ?_
          by_cases hc11 : ((3 : Int32) * (fZ_abs_I (((o8 * o8) + (o9 * o9)) - o10))) = ((5 : Int32) * (((2 : Int32) * o8) * o9))
          · replace h := tk_ifT hc11 h
            refine tk_bT  rfl rfl rfl (c := ((3 : Int32) * (fZ_abs_I (((o8 * o8) + (o9 * o9)) - o10))) = ((5 : Int32) * (((2 : Int32) * o8) * o9))) hc11 (pc' := 109) (ls' := [(6, .int (((2 : Int32) * o8) * o9)), (5, .int (fZ_abs_I (((o8 * o8) + (o9 * o9)) - o10))), (4, .int o9), (3, .int o8), (0, .ref 295), (1, .int a1), (2, .int a2)]) (st' := []) ?_
            refine tk_Ps  2 (pc' := 146) (ls' := [(6, .int (((2 : Int32) * o8) * o9)), (5, .int (fZ_abs_I (((o8 * o8) + (o9 * o9)) - o10))), (4, .int o9), (3, .int o8), (0, .ref 295), (1, .int a1), (2, .int a2)]) (st' := [.int (6 : Int32)]) rfl ?_
            replace h := Option.some.inj h
            subst h
            exact tk_RI  rfl rfl rfl
          · replace h := tk_ifF hc11 h
            refine tk_bF  rfl rfl rfl (c := ((3 : Int32) * (fZ_abs_I (((o8 * o8) + (o9 * o9)) - o10))) = ((5 : Int32) * (((2 : Int32) * o8) * o9))) hc11 (pc' := 114) (ls' := [(6, .int (((2 : Int32) * o8) * o9)), (5, .int (fZ_abs_I (((o8 * o8) + (o9 * o9)) - o10))), (4, .int o9), (3, .int o8), (0, .ref 295), (1, .int a1), (2, .int a2)]) (st' := []) ?_
            refine tk_Ps  4 (pc' := 120) (ls' := [(6, .int (((2 : Int32) * o8) * o9)), (5, .int (fZ_abs_I (((o8 * o8) + (o9 * o9)) - o10))), (4, .int o9), (3, .int o8), (0, .ref 295), (1, .int a1), (2, .int a2)]) (st' := [.int ((3 : Int32) * (((2 : Int32) * o8) * o9)), .int (fZ_abs_I (((o8 * o8) + (o9 * o9)) - o10))]) rfl ?_
            by_cases hc12 : (fZ_abs_I (((o8 * o8) + (o9 * o9)) - o10)) = ((3 : Int32) * (((2 : Int32) * o8) * o9))
            · replace h := tk_ifT hc12 h
              refine tk_bT  rfl rfl rfl (c := (fZ_abs_I (((o8 * o8) + (o9 * o9)) - o10)) = ((3 : Int32) * (((2 : Int32) * o8) * o9))) hc12 (pc' := 123) (ls' := [(6, .int (((2 : Int32) * o8) * o9)), (5, .int (fZ_abs_I (((o8 * o8) + (o9 * o9)) - o10))), (4, .int o9), (3, .int o8), (0, .ref 295), (1, .int a1), (2, .int a2)]) (st' := []) ?_
              refine tk_Ps  2 (pc' := 146) (ls' := [(6, .int (((2 : Int32) * o8) * o9)), (5, .int (fZ_abs_I (((o8 * o8) + (o9 * o9)) - o10))), (4, .int o9), (3, .int o8), (0, .ref 295), (1, .int a1), (2, .int a2)]) (st' := [.int (4 : Int32)]) rfl ?_
              replace h := Option.some.inj h
              subst h
              exact tk_RI  rfl rfl rfl
            · replace h := tk_ifF hc12 h
              refine tk_bF  rfl rfl rfl (c := (fZ_abs_I (((o8 * o8) + (o9 * o9)) - o10)) = ((3 : Int32) * (((2 : Int32) * o8) * o9))) hc12 (pc' := 127) (ls' := [(6, .int (((2 : Int32) * o8) * o9)), (5, .int (fZ_abs_I (((o8 * o8) + (o9 * o9)) - o10))), (4, .int o9), (3, .int o8), (0, .ref 295), (1, .int a1), (2, .int a2)]) (st' := []) ?_
              refine tk_Ps  4 (pc' := 134) (ls' := [(6, .int (((2 : Int32) * o8) * o9)), (5, .int (fZ_abs_I (((o8 * o8) + (o9 * o9)) - o10))), (4, .int o9), (3, .int o8), (0, .ref 295), (1, .int a1), (2, .int a2)]) (st' := [.int ((7 : Int32) * (((2 : Int32) * o8) * o9)), .int (fZ_abs_I (((o8 * o8) + (o9 * o9)) - o10))]) rfl ?_
              by_cases hc13 : (fZ_abs_I (((o8 * o8) + (o9 * o9)) - o10)) = ((7 : Int32) * (((2 : Int32) * o8) * o9))
              · replace h := tk_ifT hc13 h
                refine tk_bT  rfl rfl rfl (c := (fZ_abs_I (((o8 * o8) + (o9 * o9)) - o10)) = ((7 : Int32) * (((2 : Int32) * o8) * o9))) hc13 (pc' := 137) (ls' := [(6, .int (((2 : Int32) * o8) * o9)), (5, .int (fZ_abs_I (((o8 * o8) + (o9 * o9)) - o10))), (4, .int o9), (3, .int o8), (0, .ref 295), (1, .int a1), (2, .int a2)]) (st' := []) ?_
                refine tk_Ps  2 (pc' := 146) (ls' := [(6, .int (((2 : Int32) * o8) * o9)), (5, .int (fZ_abs_I (((o8 * o8) + (o9 * o9)) - o10))), (4, .int o9), (3, .int o8), (0, .ref 295), (1, .int a1), (2, .int a2)]) (st' := [.int (3 : Int32)]) rfl ?_
                replace h := Option.some.inj h
                subst h
                exact tk_RI  rfl rfl rfl
              · replace h := tk_ifF hc13 h
                refine tk_bF  rfl rfl rfl (c := (fZ_abs_I (((o8 * o8) + (o9 * o9)) - o10)) = ((7 : Int32) * (((2 : Int32) * o8) * o9))) hc13 (pc' := 141) (ls' := [(6, .int (((2 : Int32) * o8) * o9)), (5, .int (fZ_abs_I (((o8 * o8) + (o9 * o9)) - o10))), (4, .int o9), (3, .int o8), (0, .ref 295), (1, .int a1), (2, .int a2)]) (st' := []) ?_
                refine tk_Ps  2 (pc' := 143) (ls' := [(6, .int (((2 : Int32) * o8) * o9)), (5, .int (fZ_abs_I (((o8 * o8) + (o9 * o9)) - o10))), (4, .int o9), (3, .int o8), (0, .ref 295), (1, .int a1), (2, .int a2)]) (st' := [.int (3 : Int32), .ref 295]) rfl ?_
                obtain ⟨o14, ho14, h⟩ := tk_bnd h
                refine tk_cV1  rfl rfl (r := 295) (as := [.int (3 : Int32)]) (rest := []) rfl ly295 rfl rfl (ok_fM_finds sc (3 : Int32) m ho14) ?_
                replace h := Option.some.inj h
                subst h
                exact tk_RI  rfl rfl rfl
        · replace h := tk_ifF hc7 h
          refine tk_bF  rfl rfl rfl (c := o6 = 0) hc7 (pc' := 48) (ls' := [(0, .ref 295), (1, .int a1), (2, .int a2)]) (st' := []) ?_
          refine tk_Ps  2 (pc' := 50) (ls' := [(0, .ref 295), (1, .int a1), (2, .int a2)]) (st' := [.int (4 : Int32), .ref 295]) rfl ?_
          obtain ⟨o15, ho15, h⟩ := tk_bnd h
          refine tk_cV1  rfl rfl (r := 295) (as := [.int (4 : Int32)]) (rest := []) rfl ly295 rfl rfl (ok_fM_finds sc (4 : Int32) m ho15) ?_
          replace h := Option.some.inj h
          subst h
          exact tk_RI  rfl rfl rfl
      · replace h := tk_ifF hc5 h
        refine tk_bF  rfl rfl rfl (c := o4 = (1 : Int32)) hc5 (pc' := 33) (ls' := [(0, .ref 295), (1, .int a1), (2, .int a2)]) (st' := []) ?_
        refine tk_Ps  2 (pc' := 35) (ls' := [(0, .ref 295), (1, .int a1), (2, .int a2)]) (st' := [.int (2 : Int32), .ref 295]) rfl ?_
        obtain ⟨o16, ho16, h⟩ := tk_bnd h
        refine tk_cV1  rfl rfl (r := 295) (as := [.int (2 : Int32)]) (rest := []) rfl ly295 rfl rfl (ok_fM_finds sc (2 : Int32) m ho16) ?_
        replace h := Option.some.inj h
        subst h
        exact tk_RI  rfl rfl rfl
    · replace h := tk_ifF hc3 h
      refine tk_bF  rfl rfl rfl (c := o2 = (1 : Int32)) hc3 (pc' := 33) (ls' := [(0, .ref 295), (1, .int a1), (2, .int a2)]) (st' := []) ?_
      refine tk_Ps  2 (pc' := 35) (ls' := [(0, .ref 295), (1, .int a1), (2, .int a2)]) (st' := [.int (2 : Int32), .ref 295]) rfl ?_
      obtain ⟨o17, ho17, h⟩ := tk_bnd h
      refine tk_cV1  rfl rfl (r := 295) (as := [.int (2 : Int32)]) (rest := []) rfl ly295 rfl rfl (ok_fM_finds sc (2 : Int32) m ho17) ?_
      replace h := Option.some.inj h
      subst h
      exact tk_RI  rfl rfl rfl
  · replace h := tk_ifF hc1 h
    refine tk_bF  rfl rfl tk_eB_ne (c := (fM_areTwo a1 a2 m) = true) hc1 (pc' := 9) (ls' := [(0, .ref 295), (1, .int a1), (2, .int a2)]) (st' := []) ?_
    refine tk_Ps  2 (pc' := 11) (ls' := [(0, .ref 295), (1, .int a1), (2, .int a2)]) (st' := [.int (0 : Int32), .ref 295]) rfl ?_
    obtain ⟨o18, ho18, h⟩ := tk_bnd h
    refine tk_cV1  rfl rfl (r := 295) (as := [.int (0 : Int32)]) (rest := []) rfl ly295 rfl rfl (ok_fM_finds sc (0 : Int32) m ho18) ?_
    replace h := Option.some.inj h
    subst h
    exact tk_RI  rfl rfl rfl
theorem ok_fM_three_III (sc : tk_X) (a1 : Int32) (a2 : Int32) (a3 : Int32) (m : tk_m) {out : Int32 × tk_m} (h : fM_three_III a1 a2 a3 m = some out) : tk_Ru sc 4 208 [.ref 295, .int a1, .int a2, .int a3] (tk_full m) (some (.int out.1), tk_full out.2) := by
  unfold fM_three_III at h
  refine tk_Ru0 me208 (ls := [(0, .ref 295), (1, .int a1), (2, .int a2), (3, .int a3)]) rfl rfl ?_
  refine tk_Ps  3 (pc' := 3) (ls' := [(0, .ref 295), (1, .int a1), (2, .int a2), (3, .int a3)]) (st' := [.int a2, .int a1, .ref 295]) rfl ?_
  refine tk_cV1  rfl rfl (r := 295) (as := [.int a1, .int a2]) (rest := []) rfl ly295 rfl rfl (ok_fM_areTwo sc a1 a2 m) ?_
  by_cases hc1 : (fM_areTwo a1 a2 m) = true
  · replace h := tk_ifT hc1 h
    refine tk_bT  rfl rfl tk_eB_eq (c := (fM_areTwo a1 a2 m) = true) hc1 (pc' := 9) (ls' := [(0, .ref 295), (1, .int a1), (2, .int a2), (3, .int a3)]) (st' := []) ?_
    refine tk_Ps  3 (pc' := 12) (ls' := [(0, .ref 295), (1, .int a1), (2, .int a2), (3, .int a3)]) (st' := [.int a3, .int a1, .ref 295]) rfl ?_
    refine tk_cV1  rfl rfl (r := 295) (as := [.int a1, .int a3]) (rest := []) rfl ly295 rfl rfl (ok_fM_areTwo sc a1 a3 m) ?_
    by_cases hc2 : (fM_areTwo a1 a3 m) = true
    · replace h := tk_ifT hc2 h
      refine tk_bT  rfl rfl tk_eB_eq (c := (fM_areTwo a1 a3 m) = true) hc2 (pc' := 18) (ls' := [(0, .ref 295), (1, .int a1), (2, .int a2), (3, .int a3)]) (st' := []) ?_
      refine tk_Ps  3 (pc' := 21) (ls' := [(0, .ref 295), (1, .int a1), (2, .int a2), (3, .int a3)]) (st' := [.int a3, .int a2, .ref 295]) rfl ?_
      refine tk_cV1  rfl rfl (r := 295) (as := [.int a2, .int a3]) (rest := []) rfl ly295 rfl rfl (ok_fM_areTwo sc a2 a3 m) ?_
      by_cases hc3 : (fM_areTwo a2 a3 m) = true
      · replace h := tk_ifT hc3 h
        refine tk_bT  rfl rfl tk_eB_ne (c := (fM_areTwo a2 a3 m) = true) hc3 (pc' := 33) (ls' := [(0, .ref 295), (1, .int a1), (2, .int a2), (3, .int a3)]) (st' := []) ?_
        refine tk_Ps  1 (pc' := 34) (ls' := [(0, .ref 295), (1, .int a1), (2, .int a2), (3, .int a3)]) (st' := [.ref 295]) rfl ?_
        refine tk_HR  rfl rfl ly295 rt295_0 ?_
        refine tk_Ps  2 (pc' := 39) (ls' := [(0, .ref 295), (1, .int a1), (2, .int a2), (3, .int a3)]) (st' := [.int a1, .int (1 : Int32), .ref 296]) rfl ?_
        refine tk_SIa  rfl rfl ly296 (by decide) ?_
        refine tk_Ps  1 (pc' := 41) (ls' := [(0, .ref 295), (1, .int a1), (2, .int a2), (3, .int a3)]) (st' := [.ref 295]) rfl ?_
        refine tk_HR  rfl rfl ly295 rt295_0 ?_
        refine tk_Ps  2 (pc' := 46) (ls' := [(0, .ref 295), (1, .int a1), (2, .int a2), (3, .int a3)]) (st' := [.int a2, .int (2 : Int32), .ref 296]) rfl ?_
        refine tk_SIa  rfl rfl ly296 (by decide) ?_
        refine tk_Ps  1 (pc' := 48) (ls' := [(0, .ref 295), (1, .int a1), (2, .int a2), (3, .int a3)]) (st' := [.ref 295]) rfl ?_
        refine tk_HR  rfl rfl ly295 rt295_0 ?_
        refine tk_Ps  2 (pc' := 53) (ls' := [(0, .ref 295), (1, .int a1), (2, .int a2), (3, .int a3)]) (st' := [.int a3, .int (3 : Int32), .ref 296]) rfl ?_
        refine tk_SIa  rfl rfl ly296 (by decide) ?_
        refine tk_Ps  1 (pc' := 55) (ls' := [(0, .ref 295), (1, .int a1), (2, .int a2), (3, .int a3)]) (st' := [.int (1 : Int32)]) rfl ?_
        replace h := Option.some.inj h
        subst h
        exact tk_RI  rfl rfl rfl
      · replace h := tk_ifF hc3 h
        refine tk_bF  rfl rfl tk_eB_ne (c := (fM_areTwo a2 a3 m) = true) hc3 (pc' := 27) (ls' := [(0, .ref 295), (1, .int a1), (2, .int a2), (3, .int a3)]) (st' := []) ?_
        refine tk_Ps  2 (pc' := 29) (ls' := [(0, .ref 295), (1, .int a1), (2, .int a2), (3, .int a3)]) (st' := [.int (0 : Int32), .ref 295]) rfl ?_
        obtain ⟨o4, ho4, h⟩ := tk_bnd h
        refine tk_cV1  rfl rfl (r := 295) (as := [.int (0 : Int32)]) (rest := []) rfl ly295 rfl rfl (ok_fM_finds sc (0 : Int32) m ho4) ?_
        replace h := Option.some.inj h
        subst h
        exact tk_RI  rfl rfl rfl
    · replace h := tk_ifF hc2 h
      refine tk_bF  rfl rfl tk_eB_eq (c := (fM_areTwo a1 a3 m) = true) hc2 (pc' := 27) (ls' := [(0, .ref 295), (1, .int a1), (2, .int a2), (3, .int a3)]) (st' := []) ?_
      refine tk_Ps  2 (pc' := 29) (ls' := [(0, .ref 295), (1, .int a1), (2, .int a2), (3, .int a3)]) (st' := [.int (0 : Int32), .ref 295]) rfl ?_
      obtain ⟨o5, ho5, h⟩ := tk_bnd h
      refine tk_cV1  rfl rfl (r := 295) (as := [.int (0 : Int32)]) (rest := []) rfl ly295 rfl rfl (ok_fM_finds sc (0 : Int32) m ho5) ?_
      replace h := Option.some.inj h
      subst h
      exact tk_RI  rfl rfl rfl
  · replace h := tk_ifF hc1 h
    refine tk_bF  rfl rfl tk_eB_eq (c := (fM_areTwo a1 a2 m) = true) hc1 (pc' := 27) (ls' := [(0, .ref 295), (1, .int a1), (2, .int a2), (3, .int a3)]) (st' := []) ?_
    refine tk_Ps  2 (pc' := 29) (ls' := [(0, .ref 295), (1, .int a1), (2, .int a2), (3, .int a3)]) (st' := [.int (0 : Int32), .ref 295]) rfl ?_
    obtain ⟨o6, ho6, h⟩ := tk_bnd h
    refine tk_cV1  rfl rfl (r := 295) (as := [.int (0 : Int32)]) (rest := []) rfl ly295 rfl rfl (ok_fM_finds sc (0 : Int32) m ho6) ?_
    replace h := Option.some.inj h
    subst h
    exact tk_RI  rfl rfl rfl
theorem ok_fM_ofThree (sc : tk_X) (a1 : Int32) (m : tk_m) {out : Int32 × tk_m} (h : fM_ofThree a1 m = some out) : tk_Ru sc 2 209 [.ref 295, .int a1] (tk_full m) (some (.int out.1), tk_full out.2) := by
  unfold fM_ofThree at h
  refine tk_Ru0 me209 (ls := [(0, .ref 295), (1, .int a1)]) rfl rfl ?_
  refine tk_Ps  4 (pc' := 6) (ls' := [(0, .ref 295), (1, .int a1)]) (st' := [.long (2 : Int64), .long (0 : Int64), .long (Int32.toInt64 a1)]) rfl ?_
  refine tk_cS1  rfl rfl (as := [.long (Int32.toInt64 a1), .long (0 : Int64), .long (2 : Int64)]) (rest := []) rfl rfl rfl (ok_fM_in sc (Int32.toInt64 a1) (0 : Int64) (2 : Int64) m) ?_
  by_cases hc1 : (fM_in (Int32.toInt64 a1) (0 : Int64) (2 : Int64)) = true
  · replace h := tk_ifT hc1 h
    refine tk_bT  rfl rfl tk_eB_eq (c := (fM_in (Int32.toInt64 a1) (0 : Int64) (2 : Int64)) = true) hc1 (pc' := 12) (ls' := [(0, .ref 295), (1, .int a1)]) (st' := []) ?_
    refine tk_Ps  1 (pc' := 13) (ls' := [(0, .ref 295), (1, .int a1)]) (st' := [.ref 295]) rfl ?_
    refine tk_HR  rfl rfl ly295 rt295_0 ?_
    refine tk_Ps  3 (pc' := 19) (ls' := [(0, .ref 295), (1, .int a1)]) (st' := [.int ((1 : Int32) + a1), .ref 296]) rfl ?_
    obtain ⟨hg2, h⟩ := tk_grd h
    refine tk_HIa  rfl rfl ly296 hg2 ?_
    refine tk_Ps  1 (pc' := 28) (ls' := [(0, .ref 295), (1, .int a1)]) (st' := [.int (m.1 296 (tk_n ((1 : Int32) + a1)))]) rfl ?_
    replace h := Option.some.inj h
    subst h
    exact tk_RI  rfl rfl rfl
  · replace h := tk_ifF hc1 h
    refine tk_bF  rfl rfl tk_eB_eq (c := (fM_in (Int32.toInt64 a1) (0 : Int64) (2 : Int64)) = true) hc1 (pc' := 23) (ls' := [(0, .ref 295), (1, .int a1)]) (st' := []) ?_
    refine tk_Ps  2 (pc' := 25) (ls' := [(0, .ref 295), (1, .int a1)]) (st' := [.int (0 : Int32), .ref 295]) rfl ?_
    obtain ⟨o3, ho3, h⟩ := tk_bnd h
    refine tk_cV1  rfl rfl (r := 295) (as := [.int (0 : Int32)]) (rest := []) rfl ly295 rfl rfl (ok_fM_finds sc (0 : Int32) m ho3) ?_
    replace h := Option.some.inj h
    subst h
    exact tk_RI  rfl rfl rfl
theorem ok_fM_draw_114 (sc : tk_X) (r80 : Int32 → Int32 → Int32 → tk_m → Option (Int32 × tk_m)) (H80 : ∀ (v2 : Int32) (v3 : Int32) (v4 : Int32) (m : tk_m) (out : (Int32 × tk_m)), r80 v2 v3 v4 m = some out → tk_Ex sc 1 tk_r210 tk_k210 80 [(0, .ref 295), (2, .int v2), (3, .int v3), (4, .int v4)] [] (tk_full m) (some (.int out.1), tk_full out.2)) (r97 : Int32 → Int32 → Int32 → Int32 → tk_m → Option (Int32 × tk_m)) (H97 : ∀ (v2 : Int32) (v3 : Int32) (v4 : Int32) (v5 : Int32) (m : tk_m) (out : (Int32 × tk_m)), r97 v2 v3 v4 v5 m = some out → tk_Ex sc 1 tk_r210 tk_k210 97 [(0, .ref 295), (2, .int v2), (3, .int v3), (4, .int v4), (5, .int v5)] [] (tk_full m) (some (.int out.1), tk_full out.2)) : ∀ (n : Nat) (v2 : Int32) (v3 : Int32) (v4 : Int32) (v5 : Int32) (v6 : Int32) (m : tk_m) (out : Int32 × tk_m), fM_draw_114 r80 r97 n v2 v3 v4 v5 v6 m = some out → tk_Ex sc 1 tk_r210 tk_k210 114 [(0, .ref 295), (2, .int v2), (3, .int v3), (4, .int v4), (5, .int v5), (6, .int v6)] [] (tk_full m) (some (.int out.1), tk_full out.2) := by
  intro n
  induction n with
  | zero =>
    intro v2 v3 v4 v5 v6 m out h
    cases h
  | succ n ih =>
    intro v2 v3 v4 v5 v6 m out h
    unfold fM_draw_114 at h
    refine tk_Ps  2 (pc' := 117) (ls' := [(0, .ref 295), (2, .int v2), (3, .int v3), (4, .int v4), (5, .int v5), (6, .int v6)]) (st' := [.ref 295, .int v6]) rfl ?_
    refine tk_HR  rfl rfl ly295 rt295_0 ?_
    refine tk_Ps  1 (pc' := 121) (ls' := [(0, .ref 295), (2, .int v2), (3, .int v3), (4, .int v4), (5, .int v5), (6, .int v6)]) (st' := [.int (0 : Int32), .ref 296, .int v6]) rfl ?_
    refine tk_HIa  rfl rfl ly296 (by decide) ?_
    by_cases hc1 : (m.1 296 0) ≤ v6
    · replace h := tk_ifT hc1 h
      refine tk_bT  rfl rfl rfl (c := (m.1 296 0) ≤ v6) hc1 (pc' := 163) (ls' := [(0, .ref 295), (2, .int v2), (3, .int v3), (4, .int v4), (5, .int v5), (6, .int v6)]) (st' := []) ?_
      refine tk_Ps  2 (pc' := 97) (ls' := [(5, .int (v5 + (1 : Int32))), (0, .ref 295), (2, .int v2), (3, .int v3), (4, .int v4), (6, .int v6)]) (st' := []) rfl ?_
      refine tk_Kp  (ls' := [(0, .ref 295), (2, .int v2), (3, .int v3), (4, .int v4), (5, .int (v5 + (1 : Int32)))]) rfl rfl ?_
      exact H97 v2 v3 v4 (v5 + (1 : Int32)) m _ h
    · replace h := tk_ifF hc1 h
      refine tk_bF  rfl rfl rfl (c := (m.1 296 0) ≤ v6) hc1 (pc' := 125) (ls' := [(0, .ref 295), (2, .int v2), (3, .int v3), (4, .int v4), (5, .int v5), (6, .int v6)]) (st' := []) ?_
      refine tk_Ps  2 (pc' := 127) (ls' := [(0, .ref 295), (2, .int v2), (3, .int v3), (4, .int v4), (5, .int v5), (6, .int v6)]) (st' := [.int v2, .int v3]) rfl ?_
      by_cases hc2 : v3 = v2
      · replace h := tk_ifT hc2 h
        refine tk_bT  rfl rfl rfl (c := v3 = v2) hc2 (pc' := 130) (ls' := [(0, .ref 295), (2, .int v2), (3, .int v3), (4, .int v4), (5, .int v5), (6, .int v6)]) (st' := []) ?_
        refine tk_Ps  1 (pc' := 131) (ls' := [(0, .ref 295), (2, .int v2), (3, .int v3), (4, .int v4), (5, .int v5), (6, .int v6)]) (st' := [.ref 295]) rfl ?_
        refine tk_HR  rfl rfl ly295 rt295_0 ?_
        refine tk_Ps  2 (pc' := 137) (ls' := [(0, .ref 295), (2, .int v2), (3, .int v3), (4, .int v4), (5, .int v5), (6, .int v6)]) (st' := [.int v4, .int (1 : Int32), .ref 296]) rfl ?_
        refine tk_SIa  rfl rfl ly296 (by decide) ?_
        refine tk_Ps  1 (pc' := 139) (ls' := [(0, .ref 295), (2, .int v2), (3, .int v3), (4, .int v4), (5, .int v5), (6, .int v6)]) (st' := [.ref 295]) rfl ?_
        refine tk_HR  rfl rfl ly295 rt295_0 ?_
        refine tk_Ps  2 (pc' := 145) (ls' := [(0, .ref 295), (2, .int v2), (3, .int v3), (4, .int v4), (5, .int v5), (6, .int v6)]) (st' := [.int v5, .int (2 : Int32), .ref 296]) rfl ?_
        refine tk_SIa  rfl rfl ly296 (by decide) ?_
        refine tk_Ps  1 (pc' := 147) (ls' := [(0, .ref 295), (2, .int v2), (3, .int v3), (4, .int v4), (5, .int v5), (6, .int v6)]) (st' := [.ref 295]) rfl ?_
        refine tk_HR  rfl rfl ly295 rt295_0 ?_
        refine tk_Ps  2 (pc' := 153) (ls' := [(0, .ref 295), (2, .int v2), (3, .int v3), (4, .int v4), (5, .int v5), (6, .int v6)]) (st' := [.int v6, .int (3 : Int32), .ref 296]) rfl ?_
        refine tk_SIa  rfl rfl ly296 (by decide) ?_
        refine tk_Ps  3 (pc' := 114) (ls' := [(6, .int (v6 + (1 : Int32))), (3, .int (v3 + (1 : Int32))), (0, .ref 295), (2, .int v2), (4, .int v4), (5, .int v5)]) (st' := []) rfl ?_
        refine tk_Kp  (ls' := [(0, .ref 295), (2, .int v2), (3, .int (v3 + (1 : Int32))), (4, .int v4), (5, .int v5), (6, .int (v6 + (1 : Int32)))]) rfl rfl ?_
        exact ih v2 (v3 + (1 : Int32)) v4 v5 (v6 + (1 : Int32)) (tk_u2 (tk_u2 (tk_u2 m.1 296 1 v4) 296 2 v5) 296 3 v6, m.2.1, m.2.2.1, m.2.2.2) _ h
      · replace h := tk_ifF hc2 h
        refine tk_bF  rfl rfl rfl (c := v3 = v2) hc2 (pc' := 154) (ls' := [(0, .ref 295), (2, .int v2), (3, .int v3), (4, .int v4), (5, .int v5), (6, .int v6)]) (st' := []) ?_
        refine tk_Ps  3 (pc' := 114) (ls' := [(6, .int (v6 + (1 : Int32))), (3, .int (v3 + (1 : Int32))), (0, .ref 295), (2, .int v2), (4, .int v4), (5, .int v5)]) (st' := []) rfl ?_
        refine tk_Kp  (ls' := [(0, .ref 295), (2, .int v2), (3, .int (v3 + (1 : Int32))), (4, .int v4), (5, .int v5), (6, .int (v6 + (1 : Int32)))]) rfl rfl ?_
        exact ih v2 (v3 + (1 : Int32)) v4 v5 (v6 + (1 : Int32)) m _ h
theorem ok_fM_draw_97 (sc : tk_X) (r80 : Int32 → Int32 → Int32 → tk_m → Option (Int32 × tk_m)) (H80 : ∀ (v2 : Int32) (v3 : Int32) (v4 : Int32) (m : tk_m) (out : (Int32 × tk_m)), r80 v2 v3 v4 m = some out → tk_Ex sc 1 tk_r210 tk_k210 80 [(0, .ref 295), (2, .int v2), (3, .int v3), (4, .int v4)] [] (tk_full m) (some (.int out.1), tk_full out.2)) : ∀ (n : Nat) (v2 : Int32) (v3 : Int32) (v4 : Int32) (v5 : Int32) (m : tk_m) (out : Int32 × tk_m), fM_draw_97 r80 n v2 v3 v4 v5 m = some out → tk_Ex sc 1 tk_r210 tk_k210 97 [(0, .ref 295), (2, .int v2), (3, .int v3), (4, .int v4), (5, .int v5)] [] (tk_full m) (some (.int out.1), tk_full out.2) := by
  intro n
  induction n with
  | zero =>
    intro v2 v3 v4 v5 m out h
    cases h
  | succ n ih =>
    intro v2 v3 v4 v5 m out h
    unfold fM_draw_97 at h
    refine tk_Ps  2 (pc' := 100) (ls' := [(0, .ref 295), (2, .int v2), (3, .int v3), (4, .int v4), (5, .int v5)]) (st' := [.ref 295, .int v5]) rfl ?_
    refine tk_HR  rfl rfl ly295 rt295_0 ?_
    refine tk_Ps  1 (pc' := 104) (ls' := [(0, .ref 295), (2, .int v2), (3, .int v3), (4, .int v4), (5, .int v5)]) (st' := [.int (0 : Int32), .ref 296, .int v5]) rfl ?_
    refine tk_HIa  rfl rfl ly296 (by decide) ?_
    by_cases hc1 : (m.1 296 0) ≤ v5
    · replace h := tk_ifT hc1 h
      refine tk_bT  rfl rfl rfl (c := (m.1 296 0) ≤ v5) hc1 (pc' := 169) (ls' := [(0, .ref 295), (2, .int v2), (3, .int v3), (4, .int v4), (5, .int v5)]) (st' := []) ?_
      refine tk_Ps  2 (pc' := 80) (ls' := [(4, .int (v4 + (1 : Int32))), (0, .ref 295), (2, .int v2), (3, .int v3), (5, .int v5)]) (st' := []) rfl ?_
      refine tk_Kp  (ls' := [(0, .ref 295), (2, .int v2), (3, .int v3), (4, .int (v4 + (1 : Int32)))]) rfl rfl ?_
      exact H80 v2 v3 (v4 + (1 : Int32)) m _ h
    · replace h := tk_ifF hc1 h
      refine tk_bF  rfl rfl rfl (c := (m.1 296 0) ≤ v5) hc1 (pc' := 108) (ls' := [(0, .ref 295), (2, .int v2), (3, .int v3), (4, .int v4), (5, .int v5)]) (st' := []) ?_
      refine tk_Ps  4 (pc' := 114) (ls' := [(6, .int (v5 + (1 : Int32))), (0, .ref 295), (2, .int v2), (3, .int v3), (4, .int v4), (5, .int v5)]) (st' := []) rfl ?_
      refine tk_Kp  (ls' := [(0, .ref 295), (2, .int v2), (3, .int v3), (4, .int v4), (5, .int v5), (6, .int (v5 + (1 : Int32)))]) rfl rfl ?_
      exact ok_fM_draw_114 sc r80 H80 (fM_draw_97 r80 n) ih tk_F v2 v3 v4 v5 (v5 + (1 : Int32)) m _ h
theorem ok_fM_draw_80 (sc : tk_X) : ∀ (n : Nat) (v2 : Int32) (v3 : Int32) (v4 : Int32) (m : tk_m) (out : Int32 × tk_m), fM_draw_80 n v2 v3 v4 m = some out → tk_Ex sc 1 tk_r210 tk_k210 80 [(0, .ref 295), (2, .int v2), (3, .int v3), (4, .int v4)] [] (tk_full m) (some (.int out.1), tk_full out.2) := by
  intro n
  induction n with
  | zero =>
    intro v2 v3 v4 m out h
    cases h
  | succ n ih =>
    intro v2 v3 v4 m out h
    unfold fM_draw_80 at h
    refine tk_Ps  2 (pc' := 83) (ls' := [(0, .ref 295), (2, .int v2), (3, .int v3), (4, .int v4)]) (st' := [.ref 295, .int v4]) rfl ?_
    refine tk_HR  rfl rfl ly295 rt295_0 ?_
    refine tk_Ps  1 (pc' := 87) (ls' := [(0, .ref 295), (2, .int v2), (3, .int v3), (4, .int v4)]) (st' := [.int (0 : Int32), .ref 296, .int v4]) rfl ?_
    refine tk_HIa  rfl rfl ly296 (by decide) ?_
    by_cases hc1 : (m.1 296 0) ≤ v4
    · replace h := tk_ifT hc1 h
      refine tk_bT  rfl rfl rfl (c := (m.1 296 0) ≤ v4) hc1 (pc' := 175) (ls' := [(0, .ref 295), (2, .int v2), (3, .int v3), (4, .int v4)]) (st' := []) ?_
      refine tk_Ps  1 (pc' := 176) (ls' := [(0, .ref 295), (2, .int v2), (3, .int v3), (4, .int v4)]) (st' := [.int v2]) rfl ?_
      replace h := Option.some.inj h
      subst h
      exact tk_RI  rfl rfl rfl
    · replace h := tk_ifF hc1 h
      refine tk_bF  rfl rfl rfl (c := (m.1 296 0) ≤ v4) hc1 (pc' := 91) (ls' := [(0, .ref 295), (2, .int v2), (3, .int v3), (4, .int v4)]) (st' := []) ?_
      refine tk_Ps  4 (pc' := 97) (ls' := [(5, .int (v4 + (1 : Int32))), (0, .ref 295), (2, .int v2), (3, .int v3), (4, .int v4)]) (st' := []) rfl ?_
      refine tk_Kp  (ls' := [(0, .ref 295), (2, .int v2), (3, .int v3), (4, .int v4), (5, .int (v4 + (1 : Int32)))]) rfl rfl ?_
      exact ok_fM_draw_97 sc (fM_draw_80 n) ih tk_F v2 v3 v4 (v4 + (1 : Int32)) m _ h
theorem ok_fM_draw (sc : tk_X) (m : tk_m) {out : Int32 × tk_m} (h : fM_draw m = some out) : tk_Ru sc 2 210 [.ref 295] (tk_full m) (some (.int out.1), tk_full out.2) := by
  unfold fM_draw at h
  refine tk_Ru0 me210 (ls := [(0, .ref 295)]) rfl rfl ?_
  refine tk_Ps  1 (pc' := 1) (ls' := [(0, .ref 295)]) (st' := [.ref 295]) rfl ?_
  refine tk_HR  rfl rfl ly295 rt295_0 ?_
  refine tk_Ps  1 (pc' := 5) (ls' := [(0, .ref 295)]) (st' := [.int (0 : Int32), .ref 296]) rfl ?_
  refine tk_HIa  rfl rfl ly296 (by decide) ?_
  refine tk_Ps  1 (pc' := 7) (ls' := [(0, .ref 295)]) (st' := [.int (3 : Int32), .int (m.1 296 0)]) rfl ?_
  by_cases hc1 : (3 : Int32) ≤ (m.1 296 0)
  · replace h := tk_ifT hc1 h
    refine tk_bT  rfl rfl rfl (c := (3 : Int32) ≤ (m.1 296 0)) hc1 (pc' := 16) (ls' := [(0, .ref 295)]) (st' := []) ?_
    refine tk_Ps  1 (pc' := 17) (ls' := [(0, .ref 295)]) (st' := [.ref 295]) rfl ?_
    refine tk_HR  rfl rfl ly295 rt295_0 ?_
    refine tk_Ps  2 (pc' := 22) (ls' := [(0, .ref 295)]) (st' := [.ref 295, .int (4 : Int32), .ref 296]) rfl ?_
    refine tk_HR  rfl rfl ly295 rt295_0 ?_
    refine tk_Ps  1 (pc' := 26) (ls' := [(0, .ref 295)]) (st' := [.int (4 : Int32), .ref 296, .int (4 : Int32), .ref 296]) rfl ?_
    refine tk_HIa  rfl rfl ly296 (by decide) ?_
    refine tk_Ps  4 (pc' := 34) (ls' := [(0, .ref 295)]) (st' := [.int (((m.1 296 4) * (1103515245 : Int32)) + (12345 : Int32)), .int (4 : Int32), .ref 296]) rfl ?_
    refine tk_SIa  rfl rfl ly296 (by decide) ?_
    refine tk_Ps  1 (pc' := 36) (ls' := [(0, .ref 295)]) (st' := [.ref 295]) rfl ?_
    refine tk_HR  rfl rfl ly295 rt295_0 ?_
    refine tk_Ps  1 (pc' := 40) (ls' := [(0, .ref 295)]) (st' := [.int (0 : Int32), .ref 296]) rfl ?_
    refine tk_HIa  rfl rfl ly296 (by decide) ?_
    refine tk_Ps  1 (pc' := 42) (ls' := [(0, .ref 295)]) (st' := [.ref 295, .int (tk_u2 m.1 296 4 (((m.1 296 4) * (1103515245 : Int32)) + (12345 : Int32)) 296 0)]) rfl ?_
    refine tk_HR  rfl rfl ly295 rt295_0 ?_
    refine tk_Ps  1 (pc' := 46) (ls' := [(0, .ref 295)]) (st' := [.int (0 : Int32), .ref 296, .int (tk_u2 m.1 296 4 (((m.1 296 4) * (1103515245 : Int32)) + (12345 : Int32)) 296 0)]) rfl ?_
    refine tk_HIa  rfl rfl ly296 (by decide) ?_
    refine tk_Ps  4 (pc' := 51) (ls' := [(0, .ref 295)]) (st' := [.ref 295, .int ((tk_u2 m.1 296 4 (((m.1 296 4) * (1103515245 : Int32)) + (12345 : Int32)) 296 0) * ((tk_u2 m.1 296 4 (((m.1 296 4) * (1103515245 : Int32)) + (12345 : Int32)) 296 0) - (1 : Int32)))]) rfl ?_
    refine tk_HR  rfl rfl ly295 rt295_0 ?_
    refine tk_Ps  1 (pc' := 55) (ls' := [(0, .ref 295)]) (st' := [.int (0 : Int32), .ref 296, .int ((tk_u2 m.1 296 4 (((m.1 296 4) * (1103515245 : Int32)) + (12345 : Int32)) 296 0) * ((tk_u2 m.1 296 4 (((m.1 296 4) * (1103515245 : Int32)) + (12345 : Int32)) 296 0) - (1 : Int32)))]) rfl ?_
    refine tk_HIa  rfl rfl ly296 (by decide) ?_
    refine tk_Ps  7 (pc' := 64) (ls' := [(1, .int ((((tk_u2 m.1 296 4 (((m.1 296 4) * (1103515245 : Int32)) + (12345 : Int32)) 296 0) * ((tk_u2 m.1 296 4 (((m.1 296 4) * (1103515245 : Int32)) + (12345 : Int32)) 296 0) - (1 : Int32))) * ((tk_u2 m.1 296 4 (((m.1 296 4) * (1103515245 : Int32)) + (12345 : Int32)) 296 0) - (2 : Int32))) / (6 : Int32))), (0, .ref 295)]) (st' := [.ref 295]) rfl ?_
    refine tk_HR  rfl rfl ly295 rt295_0 ?_
    refine tk_Ps  1 (pc' := 68) (ls' := [(1, .int ((((tk_u2 m.1 296 4 (((m.1 296 4) * (1103515245 : Int32)) + (12345 : Int32)) 296 0) * ((tk_u2 m.1 296 4 (((m.1 296 4) * (1103515245 : Int32)) + (12345 : Int32)) 296 0) - (1 : Int32))) * ((tk_u2 m.1 296 4 (((m.1 296 4) * (1103515245 : Int32)) + (12345 : Int32)) 296 0) - (2 : Int32))) / (6 : Int32))), (0, .ref 295)]) (st' := [.int (4 : Int32), .ref 296]) rfl ?_
    refine tk_HIa  rfl rfl ly296 (by decide) ?_
    refine tk_Ps  3 (pc' := 73) (ls' := [(1, .int ((((tk_u2 m.1 296 4 (((m.1 296 4) * (1103515245 : Int32)) + (12345 : Int32)) 296 0) * ((tk_u2 m.1 296 4 (((m.1 296 4) * (1103515245 : Int32)) + (12345 : Int32)) 296 0) - (1 : Int32))) * ((tk_u2 m.1 296 4 (((m.1 296 4) * (1103515245 : Int32)) + (12345 : Int32)) 296 0) - (2 : Int32))) / (6 : Int32))), (0, .ref 295)]) (st' := [.int ((((tk_u2 m.1 296 4 (((m.1 296 4) * (1103515245 : Int32)) + (12345 : Int32)) 296 0) * ((tk_u2 m.1 296 4 (((m.1 296 4) * (1103515245 : Int32)) + (12345 : Int32)) 296 0) - (1 : Int32))) * ((tk_u2 m.1 296 4 (((m.1 296 4) * (1103515245 : Int32)) + (12345 : Int32)) 296 0) - (2 : Int32))) / (6 : Int32)), .int (tk_iushr (tk_u2 m.1 296 4 (((m.1 296 4) * (1103515245 : Int32)) + (12345 : Int32)) 296 4) (8 : Int32))]) rfl ?_
    obtain ⟨hz2, h⟩ := tk_grn h
    refine tk_iremR  rfl rfl hz2 ?_
    refine tk_Ps  5 (pc' := 80) (ls' := [(4, .int (0 : Int32)), (3, .int (0 : Int32)), (2, .int (tk_irem (tk_iushr (tk_u2 m.1 296 4 (((m.1 296 4) * (1103515245 : Int32)) + (12345 : Int32)) 296 4) (8 : Int32)) ((((tk_u2 m.1 296 4 (((m.1 296 4) * (1103515245 : Int32)) + (12345 : Int32)) 296 0) * ((tk_u2 m.1 296 4 (((m.1 296 4) * (1103515245 : Int32)) + (12345 : Int32)) 296 0) - (1 : Int32))) * ((tk_u2 m.1 296 4 (((m.1 296 4) * (1103515245 : Int32)) + (12345 : Int32)) 296 0) - (2 : Int32))) / (6 : Int32)))), (1, .int ((((tk_u2 m.1 296 4 (((m.1 296 4) * (1103515245 : Int32)) + (12345 : Int32)) 296 0) * ((tk_u2 m.1 296 4 (((m.1 296 4) * (1103515245 : Int32)) + (12345 : Int32)) 296 0) - (1 : Int32))) * ((tk_u2 m.1 296 4 (((m.1 296 4) * (1103515245 : Int32)) + (12345 : Int32)) 296 0) - (2 : Int32))) / (6 : Int32))), (0, .ref 295)]) (st' := []) rfl ?_
    refine tk_Kp  (ls' := [(0, .ref 295), (2, .int (tk_irem (tk_iushr (tk_u2 m.1 296 4 (((m.1 296 4) * (1103515245 : Int32)) + (12345 : Int32)) 296 4) (8 : Int32)) ((((tk_u2 m.1 296 4 (((m.1 296 4) * (1103515245 : Int32)) + (12345 : Int32)) 296 0) * ((tk_u2 m.1 296 4 (((m.1 296 4) * (1103515245 : Int32)) + (12345 : Int32)) 296 0) - (1 : Int32))) * ((tk_u2 m.1 296 4 (((m.1 296 4) * (1103515245 : Int32)) + (12345 : Int32)) 296 0) - (2 : Int32))) / (6 : Int32)))), (3, .int (0 : Int32)), (4, .int (0 : Int32))]) rfl rfl ?_
    exact ok_fM_draw_80 sc tk_F (tk_irem (tk_iushr (tk_u2 m.1 296 4 (((m.1 296 4) * (1103515245 : Int32)) + (12345 : Int32)) 296 4) (8 : Int32)) ((((tk_u2 m.1 296 4 (((m.1 296 4) * (1103515245 : Int32)) + (12345 : Int32)) 296 0) * ((tk_u2 m.1 296 4 (((m.1 296 4) * (1103515245 : Int32)) + (12345 : Int32)) 296 0) - (1 : Int32))) * ((tk_u2 m.1 296 4 (((m.1 296 4) * (1103515245 : Int32)) + (12345 : Int32)) 296 0) - (2 : Int32))) / (6 : Int32))) (0 : Int32) (0 : Int32) (tk_u2 m.1 296 4 (((m.1 296 4) * (1103515245 : Int32)) + (12345 : Int32)), m.2.1, m.2.2.1, m.2.2.2) _ h
  · replace h := tk_ifF hc1 h
    refine tk_bF  rfl rfl rfl (c := (3 : Int32) ≤ (m.1 296 0)) hc1 (pc' := 10) (ls' := [(0, .ref 295)]) (st' := []) ?_
    refine tk_Ps  2 (pc' := 12) (ls' := [(0, .ref 295)]) (st' := [.int (4 : Int32), .ref 295]) rfl ?_
    obtain ⟨o3, ho3, h⟩ := tk_bnd h
    refine tk_cV1  rfl rfl (r := 295) (as := [.int (4 : Int32)]) (rest := []) rfl ly295 rfl rfl (ok_fM_finds sc (4 : Int32) m ho3) ?_
    replace h := Option.some.inj h
    subst h
    exact tk_RI  rfl rfl rfl
theorem ok_fM_areThere (sc : tk_X) (m : tk_m) : tk_Ru sc 3 212 [.ref 295] (tk_full m) (some (.int (tk_b (fM_areThere m))), tk_full m) := by
  obtain ⟨out, h⟩ : ∃ out, fM_areThere m = out := ⟨_, rfl⟩
  rw [h]
  unfold fM_areThere at h
  refine tk_Ru0 me212 (ls := [(0, .ref 295)]) rfl rfl ?_
  refine tk_Ps  2 (pc' := 2) (ls' := [(0, .ref 295)]) (st' := [.ref 295, .ref 295]) rfl ?_
  refine tk_HR  rfl rfl ly295 rt295_0 ?_
  refine tk_Ps  1 (pc' := 6) (ls' := [(0, .ref 295)]) (st' := [.int (1 : Int32), .ref 296, .ref 295]) rfl ?_
  refine tk_HIa  rfl rfl ly296 (by decide) ?_
  refine tk_cV1  rfl rfl (r := 295) (as := [.int (m.1 296 1)]) (rest := []) rfl ly295 rfl rfl (ok_fM_isShape sc (m.1 296 1) m) ?_
  by_cases hc1 : (fM_isShape (m.1 296 1) m) = true
  · replace h := tk_ifT hc1 h
    refine tk_bT  rfl rfl tk_eB_eq (c := (fM_isShape (m.1 296 1) m) = true) hc1 (pc' := 13) (ls' := [(0, .ref 295)]) (st' := []) ?_
    refine tk_Ps  2 (pc' := 15) (ls' := [(0, .ref 295)]) (st' := [.ref 295, .ref 295]) rfl ?_
    refine tk_HR  rfl rfl ly295 rt295_0 ?_
    refine tk_Ps  1 (pc' := 19) (ls' := [(0, .ref 295)]) (st' := [.int (2 : Int32), .ref 296, .ref 295]) rfl ?_
    refine tk_HIa  rfl rfl ly296 (by decide) ?_
    refine tk_cV1  rfl rfl (r := 295) (as := [.int (m.1 296 2)]) (rest := []) rfl ly295 rfl rfl (ok_fM_isShape sc (m.1 296 2) m) ?_
    by_cases hc2 : (fM_isShape (m.1 296 2) m) = true
    · replace h := tk_ifT hc2 h
      refine tk_bT  rfl rfl tk_eB_eq (c := (fM_isShape (m.1 296 2) m) = true) hc2 (pc' := 26) (ls' := [(0, .ref 295)]) (st' := []) ?_
      refine tk_Ps  2 (pc' := 28) (ls' := [(0, .ref 295)]) (st' := [.ref 295, .ref 295]) rfl ?_
      refine tk_HR  rfl rfl ly295 rt295_0 ?_
      refine tk_Ps  1 (pc' := 32) (ls' := [(0, .ref 295)]) (st' := [.int (3 : Int32), .ref 296, .ref 295]) rfl ?_
      refine tk_HIa  rfl rfl ly296 (by decide) ?_
      refine tk_cV1  rfl rfl (r := 295) (as := [.int (m.1 296 3)]) (rest := []) rfl ly295 rfl rfl (ok_fM_isShape sc (m.1 296 3) m) ?_
      by_cases hc3 : (fM_isShape (m.1 296 3) m) = true
      · replace h := tk_ifT hc3 h
        refine tk_bT  rfl rfl tk_eB_eq (c := (fM_isShape (m.1 296 3) m) = true) hc3 (pc' := 39) (ls' := [(0, .ref 295)]) (st' := []) ?_
        refine tk_Ps  2 (pc' := 44) (ls' := [(0, .ref 295)]) (st' := [.int (1 : Int32)]) rfl ?_
        subst h
        exact tk_RB (b := true)  rfl rfl rfl
      · replace h := tk_ifF hc3 h
        refine tk_bF  rfl rfl tk_eB_eq (c := (fM_isShape (m.1 296 3) m) = true) hc3 (pc' := 43) (ls' := [(0, .ref 295)]) (st' := []) ?_
        refine tk_Ps  1 (pc' := 44) (ls' := [(0, .ref 295)]) (st' := [.int (0 : Int32)]) rfl ?_
        subst h
        exact tk_RB (b := false)  rfl rfl rfl
    · replace h := tk_ifF hc2 h
      refine tk_bF  rfl rfl tk_eB_eq (c := (fM_isShape (m.1 296 2) m) = true) hc2 (pc' := 43) (ls' := [(0, .ref 295)]) (st' := []) ?_
      refine tk_Ps  1 (pc' := 44) (ls' := [(0, .ref 295)]) (st' := [.int (0 : Int32)]) rfl ?_
      subst h
      exact tk_RB (b := false)  rfl rfl rfl
  · replace h := tk_ifF hc1 h
    refine tk_bF  rfl rfl tk_eB_eq (c := (fM_isShape (m.1 296 1) m) = true) hc1 (pc' := 43) (ls' := [(0, .ref 295)]) (st' := []) ?_
    refine tk_Ps  1 (pc' := 44) (ls' := [(0, .ref 295)]) (st' := [.int (0 : Int32)]) rfl ?_
    subst h
    exact tk_RB (b := false)  rfl rfl rfl
theorem ok_fM_three_I (sc : tk_X) (a1 : Int32) (m : tk_m) {out : Int32} (h : fM_three_I a1 m = some out) : tk_Ru sc 1 215 [.ref 295, .int a1] (tk_full m) (some (.int out), tk_full m) := by
  unfold fM_three_I at h
  refine tk_Ru0 me215 (ls := [(0, .ref 295), (1, .int a1)]) rfl rfl ?_
  refine tk_Ps  1 (pc' := 1) (ls' := [(0, .ref 295), (1, .int a1)]) (st' := [.ref 295]) rfl ?_
  refine tk_HR  rfl rfl ly295 rt295_0 ?_
  refine tk_Ps  3 (pc' := 7) (ls' := [(0, .ref 295), (1, .int a1)]) (st' := [.int ((1 : Int32) + a1), .ref 296]) rfl ?_
  obtain ⟨hg1, h⟩ := tk_grd h
  refine tk_HIa  rfl rfl ly296 hg1 ?_
  replace h := Option.some.inj h
  subst h
  exact tk_RI  rfl rfl rfl

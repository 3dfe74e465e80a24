theorem ok_fZ_abs_J (sc : tk_X) (a1 : Int64) (m : tk_m) : tk_Ru sc 1 96 [.long a1] (tk_full m) (some (.long (fZ_abs_J a1)), tk_full m) := by
  obtain ⟨out, h⟩ : ∃ out, fZ_abs_J a1 = out := ⟨_, rfl⟩
  rw [h]
  unfold fZ_abs_J at h
  refine tk_Ru0 me96 (ls := [(0, .long a1)]) rfl rfl ?_
  refine tk_Ps  3 (pc' := 3) (ls' := [(0, .long a1)]) (st' := [.int (lg_cmp a1 (0 : Int64))]) rfl ?_
  by_cases hc1 : (0 : Int64) ≤ a1
  · replace h := tk_ifT hc1 h
    refine tk_bT  rfl rfl tk_eL_ge (c := (0 : Int64) ≤ a1) hc1 (pc' := 11) (ls' := [(0, .long a1)]) (st' := []) ?_
    refine tk_Ps  1 (pc' := 12) (ls' := [(0, .long a1)]) (st' := [.long a1]) rfl ?_
    subst h
    exact tk_RJ  rfl rfl rfl
  · replace h := tk_ifF hc1 h
    refine tk_bF  rfl rfl tk_eL_ge (c := (0 : Int64) ≤ a1) hc1 (pc' := 6) (ls' := [(0, .long a1)]) (st' := []) ?_
    refine tk_Ps  3 (pc' := 12) (ls' := [(0, .long a1)]) (st' := [.long (-a1)]) rfl ?_
    subst h
    exact tk_RJ  rfl rfl rfl
theorem ok_fC_hasRadius (sc : tk_X) (t : Nat) (m : tk_m) (ht : tk_lay[t]? = some (.inl 1)) : tk_Ru sc 2 95 [.ref t] (tk_full m) (some (.int (tk_b (fC_hasRadius t m))), tk_full m) := by
  obtain ⟨out, h⟩ : ∃ out, fC_hasRadius t m = out := ⟨_, rfl⟩
  rw [h]
  unfold fC_hasRadius at h
  refine tk_Ru0 me95 (ls := [(0, .ref t)]) rfl rfl ?_
  refine tk_Ps  1 (pc' := 1) (ls' := [(0, .ref t)]) (st' := [.ref t]) rfl ?_
  refine tk_HR  rfl rfl ht (ro1_1 ht) ?_
  refine tk_Ps  1 (pc' := 5) (ls' := [(0, .ref t)]) (st' := [.int (2 : Int32), .ref (t + 1)]) rfl ?_
  refine tk_HJa  rfl rfl (lo1_1 ht) (by decide) ?_
  refine tk_Ps  1 (pc' := 7) (ls' := [(0, .ref t)]) (st' := [.ref t, .long (m.2.1 (t + 1) 2)]) rfl ?_
  refine tk_HR  rfl rfl ht (ro1_1 ht) ?_
  refine tk_Ps  1 (pc' := 11) (ls' := [(0, .ref t)]) (st' := [.int (2 : Int32), .ref (t + 1), .long (m.2.1 (t + 1) 2)]) rfl ?_
  refine tk_HJa  rfl rfl (lo1_1 ht) (by decide) ?_
  refine tk_cS1  rfl rfl (as := [.long (m.2.1 (t + 1) 2)]) (rest := [.long (m.2.1 (t + 1) 2)]) rfl rfl rfl (ok_fZ_abs_J sc (m.2.1 (t + 1) 2) m) ?_
  refine tk_Ps  2 (pc' := 17) (ls' := [(0, .ref t)]) (st' := [.ref t, .long ((m.2.1 (t + 1) 2) * (fZ_abs_J (m.2.1 (t + 1) 2)))]) rfl ?_
  refine tk_HR  rfl rfl ht (ro1_1 ht) ?_
  refine tk_Ps  1 (pc' := 21) (ls' := [(0, .ref t)]) (st' := [.int (5 : Int32), .ref (t + 1), .long ((m.2.1 (t + 1) 2) * (fZ_abs_J (m.2.1 (t + 1) 2)))]) rfl ?_
  refine tk_HJa  rfl rfl (lo1_1 ht) (by decide) ?_
  refine tk_Ps  1 (pc' := 23) (ls' := [(0, .ref t)]) (st' := [.ref t, .long (m.2.1 (t + 1) 5), .long ((m.2.1 (t + 1) 2) * (fZ_abs_J (m.2.1 (t + 1) 2)))]) rfl ?_
  refine tk_HR  rfl rfl ht (ro1_1 ht) ?_
  refine tk_Ps  1 (pc' := 27) (ls' := [(0, .ref t)]) (st' := [.int (5 : Int32), .ref (t + 1), .long (m.2.1 (t + 1) 5), .long ((m.2.1 (t + 1) 2) * (fZ_abs_J (m.2.1 (t + 1) 2)))]) rfl ?_
  refine tk_HJa  rfl rfl (lo1_1 ht) (by decide) ?_
  refine tk_cS1  rfl rfl (as := [.long (m.2.1 (t + 1) 5)]) (rest := [.long (m.2.1 (t + 1) 5), .long ((m.2.1 (t + 1) 2) * (fZ_abs_J (m.2.1 (t + 1) 2)))]) rfl rfl rfl (ok_fZ_abs_J sc (m.2.1 (t + 1) 5) m) ?_
  refine tk_Ps  2 (pc' := 33) (ls' := [(0, .ref t)]) (st' := [.ref t, .long ((m.2.1 (t + 1) 5) * (fZ_abs_J (m.2.1 (t + 1) 5))), .long ((m.2.1 (t + 1) 2) * (fZ_abs_J (m.2.1 (t + 1) 2)))]) rfl ?_
  refine tk_HJ  rfl rfl ht ?_
  refine tk_Ps  4 (pc' := 40) (ls' := [(0, .ref t)]) (st' := [.int (lg_cmp (((m.2.1 (t + 1) 2) * (fZ_abs_J (m.2.1 (t + 1) 2))) + (((m.2.1 (t + 1) 5) * (fZ_abs_J (m.2.1 (t + 1) 5))) * (m.2.1 t 2))) (0 : Int64))]) rfl ?_
  by_cases hc1 : (((m.2.1 (t + 1) 2) * (fZ_abs_J (m.2.1 (t + 1) 2))) + (((m.2.1 (t + 1) 5) * (fZ_abs_J (m.2.1 (t + 1) 5))) * (m.2.1 t 2))) ≤ (0 : Int64)
  · replace h := tk_ifT hc1 h
    refine tk_bT  rfl rfl tk_eL_le (c := (((m.2.1 (t + 1) 2) * (fZ_abs_J (m.2.1 (t + 1) 2))) + (((m.2.1 (t + 1) 5) * (fZ_abs_J (m.2.1 (t + 1) 5))) * (m.2.1 t 2))) ≤ (0 : Int64)) hc1 (pc' := 47) (ls' := [(0, .ref t)]) (st' := []) ?_
    refine tk_Ps  1 (pc' := 48) (ls' := [(0, .ref t)]) (st' := [.int (0 : Int32)]) rfl ?_
    subst h
    exact tk_RB (b := false)  rfl rfl rfl
  · replace h := tk_ifF hc1 h
    refine tk_bF  rfl rfl tk_eL_le (c := (((m.2.1 (t + 1) 2) * (fZ_abs_J (m.2.1 (t + 1) 2))) + (((m.2.1 (t + 1) 5) * (fZ_abs_J (m.2.1 (t + 1) 5))) * (m.2.1 t 2))) ≤ (0 : Int64)) hc1 (pc' := 43) (ls' := [(0, .ref t)]) (st' := []) ?_
    refine tk_Ps  2 (pc' := 48) (ls' := [(0, .ref t)]) (st' := [.int (1 : Int32)]) rfl ?_
    subst h
    exact tk_RB (b := true)  rfl rfl rfl
theorem ok_fF_findBy_79 (sc : tk_X) : ∀ (n : Nat) (v2 : Int32) (v4 : Int32) (v5 : Int32) (v6 : Int32) (m : tk_m) (out : tk_m), fF_findBy_79 n v2 v4 v5 v6 m = some out → tk_Ex sc 4 tk_r66 tk_k66 79 [(0, .ref 39), (2, .int v2), (4, .int v4), (5, .int v5), (6, .int v6)] [] (tk_full m) (none, tk_full out) := by
  intro n
  induction n with
  | zero =>
    intro v2 v4 v5 v6 m out h
    cases h
  | succ n ih =>
    intro v2 v4 v5 v6 m out h
    unfold fF_findBy_79 at h
    refine tk_Ps  2 (pc' := 83) (ls' := [(0, .ref 39), (2, .int v2), (4, .int v4), (5, .int v5), (6, .int v6)]) (st' := [.int v4, .int v6]) rfl ?_
    by_cases hc1 : v4 ≤ v6
    · replace h := tk_ifT hc1 h
      refine tk_bT  rfl rfl rfl (c := v4 ≤ v6) hc1 (pc' := 197) (ls' := [(0, .ref 39), (2, .int v2), (4, .int v4), (5, .int v5), (6, .int v6)]) (st' := []) ?_
      replace h := Option.some.inj h
      subst h
      exact tk_RV  rfl rfl rfl
    · replace h := tk_ifF hc1 h
      refine tk_bF  rfl rfl rfl (c := v4 ≤ v6) hc1 (pc' := 86) (ls' := [(0, .ref 39), (2, .int v2), (4, .int v4), (5, .int v5), (6, .int v6)]) (st' := []) ?_
      refine tk_Ps  1 (pc' := 87) (ls' := [(0, .ref 39), (2, .int v2), (4, .int v4), (5, .int v5), (6, .int v6)]) (st' := [.ref 39]) rfl ?_
      refine tk_HI  rfl rfl ly39 ?_
      refine tk_Ps  1 (pc' := 92) (ls' := [(0, .ref 39), (2, .int v2), (4, .int v4), (5, .int v5), (6, .int v6)]) (st' := [.int (16 : Int32), .int (m.1 39 2)]) rfl ?_
      by_cases hc2 : (16 : Int32) ≤ (m.1 39 2)
      · replace h := tk_ifT hc2 h
        refine tk_bT  rfl rfl rfl (c := (16 : Int32) ≤ (m.1 39 2)) hc2 (pc' := 197) (ls' := [(0, .ref 39), (2, .int v2), (4, .int v4), (5, .int v5), (6, .int v6)]) (st' := []) ?_
        replace h := Option.some.inj h
        subst h
        exact tk_RV  rfl rfl rfl
      · replace h := tk_ifF hc2 h
        refine tk_bF  rfl rfl rfl (c := (16 : Int32) ≤ (m.1 39 2)) hc2 (pc' := 95) (ls' := [(0, .ref 39), (2, .int v2), (4, .int v4), (5, .int v5), (6, .int v6)]) (st' := []) ?_
        refine tk_Ps  2 (pc' := 98) (ls' := [(0, .ref 39), (2, .int v2), (4, .int v4), (5, .int v5), (6, .int v6)]) (st' := [.int v5, .ref 39]) rfl ?_
        obtain ⟨o3, ho3, h⟩ := tk_lete h
        refine tk_cV0  rfl rfl (r := 39) (as := [.int v5]) (rest := []) rfl ly39 rfl rfl (ok_fF_takePlace sc v5 m ho3) ?_
        refine tk_Ps  1 (pc' := 102) (ls' := [(0, .ref 39), (2, .int v2), (4, .int v4), (5, .int v5), (6, .int v6)]) (st' := [.ref 39]) rfl ?_
        refine tk_HR  rfl rfl ly39 rt39_1 ?_
        refine tk_Ps  1 (pc' := 106) (ls' := [(0, .ref 39), (2, .int v2), (4, .int v4), (5, .int v5), (6, .int v6)]) (st' := [.ref 39, .ref 61]) rfl ?_
        refine tk_HI  rfl rfl ly39 ?_
        obtain ⟨hg4, h⟩ := tk_grd h
        refine tk_HQ  rfl rfl ly61 hg4 (la61 _ (hg4).2).1 ?_
        refine tk_Ps  1 (pc' := 111) (ls' := [(0, .ref 39), (2, .int v2), (4, .int v4), (5, .int v5), (6, .int v6)]) (st' := [.ref 39, .ref (71 + 8 * (tk_n (o3.1 39 2)))]) rfl ?_
        refine tk_HR  rfl rfl ly39 rt39_10 ?_
        refine tk_Ps  1 (pc' := 115) (ls' := [(0, .ref 39), (2, .int v2), (4, .int v4), (5, .int v5), (6, .int v6)]) (st' := [.ref 39, .ref 67, .ref (71 + 8 * (tk_n (o3.1 39 2)))]) rfl ?_
        refine tk_HR  rfl rfl ly39 rt39_11 ?_
        refine tk_Ps  1 (pc' := 119) (ls' := [(0, .ref 39), (2, .int v2), (4, .int v4), (5, .int v5), (6, .int v6)]) (st' := [.ref 39, .ref 68, .ref 67, .ref (71 + 8 * (tk_n (o3.1 39 2)))]) rfl ?_
        refine tk_HR  rfl rfl ly39 rt39_14 ?_
        refine tk_HJ  rfl rfl ly69 ?_
        refine tk_Ps  1 (pc' := 126) (ls' := [(0, .ref 39), (2, .int v2), (4, .int v4), (5, .int v5), (6, .int v6)]) (st' := [.ref 39, .long (o3.2.1 69 2), .ref 68, .ref 67, .ref (71 + 8 * (tk_n (o3.1 39 2)))]) rfl ?_
        refine tk_HJ  rfl rfl ly39 ?_
        refine tk_Ps  1 (pc' := 130) (ls' := [(0, .ref 39), (2, .int v2), (4, .int v4), (5, .int v5), (6, .int v6)]) (st' := [.ref 39, .long (o3.2.1 39 13), .long (o3.2.1 69 2), .ref 68, .ref 67, .ref (71 + 8 * (tk_n (o3.1 39 2)))]) rfl ?_
        refine tk_HR  rfl rfl ly39 rt39_5 ?_
        obtain ⟨o5, ho5, h⟩ := tk_bnd h
        refine tk_cV0  rfl rfl (r := (71 + 8 * (tk_n (o3.1 39 2)))) (as := [.ref 67, .ref 68, .long (o3.2.1 69 2), .long (o3.2.1 39 13), .ref 62]) (rest := []) rfl ((la61 _ (hg4).2).2) rfl rfl (ok_fC_become sc (71 + 8 * (tk_n (o3.1 39 2))) 67 68 (o3.2.1 69 2) (o3.2.1 39 13) 62 o3 ((la61 _ (hg4).2).2) ly67 ly68 ly62 ho5) ?_
        refine tk_Ps  1 (pc' := 137) (ls' := [(0, .ref 39), (2, .int v2), (4, .int v4), (5, .int v5), (6, .int v6)]) (st' := [.ref 39]) rfl ?_
        refine tk_HR  rfl rfl ly39 rt39_1 ?_
        refine tk_Ps  1 (pc' := 141) (ls' := [(0, .ref 39), (2, .int v2), (4, .int v4), (5, .int v5), (6, .int v6)]) (st' := [.ref 39, .ref 61]) rfl ?_
        refine tk_HI  rfl rfl ly39 ?_
        obtain ⟨hg6, h⟩ := tk_grd h
        refine tk_HQ  rfl rfl ly61 hg6 (la61 _ (hg6).2).1 ?_
        refine tk_Ps  1 (pc' := 146) (ls' := [(0, .ref 39), (2, .int v2), (4, .int v4), (5, .int v5), (6, .int v6)]) (st' := [.int v2, .ref (71 + 8 * (tk_n (o5.1 39 2)))]) rfl ?_
        refine tk_SI  rfl rfl ((la61 _ (hg6).2).2) ?_
        refine tk_Ps  1 (pc' := 150) (ls' := [(0, .ref 39), (2, .int v2), (4, .int v4), (5, .int v5), (6, .int v6)]) (st' := [.ref 39]) rfl ?_
        refine tk_HR  rfl rfl ly39 rt39_1 ?_
        refine tk_Ps  1 (pc' := 154) (ls' := [(0, .ref 39), (2, .int v2), (4, .int v4), (5, .int v5), (6, .int v6)]) (st' := [.ref 39, .ref 61]) rfl ?_
        refine tk_HI  rfl rfl ly39 ?_
        obtain ⟨hg7, h⟩ := tk_grd h
        refine tk_HQ  rfl rfl ly61 hg7 (la61 _ (hg7).2).1 ?_
        refine tk_cV1  rfl rfl (r := (71 + 8 * (tk_n (tk_u2 o5.1 (71 + 8 * (tk_n (o5.1 39 2))) 0 v2 39 2)))) (as := []) (rest := []) rfl ((la61 _ (hg7).2).2) rfl rfl (ok_fC_hasRadius sc (71 + 8 * (tk_n (tk_u2 o5.1 (71 + 8 * (tk_n (o5.1 39 2))) 0 v2 39 2))) (tk_u2 o5.1 (71 + 8 * (tk_n (o5.1 39 2))) 0 v2, o5.2.1, o5.2.2.1, o5.2.2.2) ((la61 _ (hg7).2).2)) ?_
        by_cases hc8 : (fC_hasRadius (71 + 8 * (tk_n (tk_u2 o5.1 (71 + 8 * (tk_n (o5.1 39 2))) 0 v2 39 2))) (tk_u2 o5.1 (71 + 8 * (tk_n (o5.1 39 2))) 0 v2, o5.2.1, o5.2.2.1, o5.2.2.2)) = true
        · replace h := tk_ifT hc8 h
          refine tk_bT  rfl rfl tk_eB_eq (c := (fC_hasRadius (71 + 8 * (tk_n (tk_u2 o5.1 (71 + 8 * (tk_n (o5.1 39 2))) 0 v2 39 2))) (tk_u2 o5.1 (71 + 8 * (tk_n (o5.1 39 2))) 0 v2, o5.2.1, o5.2.2.1, o5.2.2.2)) = true) hc8 (pc' := 164) (ls' := [(0, .ref 39), (2, .int v2), (4, .int v4), (5, .int v5), (6, .int v6)]) (st' := []) ?_
          refine tk_Ps  2 (pc' := 166) (ls' := [(0, .ref 39), (2, .int v2), (4, .int v4), (5, .int v5), (6, .int v6)]) (st' := [.ref 39, .ref 39]) rfl ?_
          refine tk_HI  rfl rfl ly39 ?_
          refine tk_Ps  2 (pc' := 171) (ls' := [(0, .ref 39), (2, .int v2), (4, .int v4), (5, .int v5), (6, .int v6)]) (st' := [.int ((tk_u2 o5.1 (71 + 8 * (tk_n (o5.1 39 2))) 0 v2 39 2) + (1 : Int32)), .ref 39]) rfl ?_
          refine tk_SI  rfl rfl ly39 ?_
          refine tk_Ps  2 (pc' := 176) (ls' := [(0, .ref 39), (2, .int v2), (4, .int v4), (5, .int v5), (6, .int v6)]) (st' := [.ref 39, .ref 39]) rfl ?_
          refine tk_HI  rfl rfl ly39 ?_
          refine tk_Ps  4 (pc' := 183) (ls' := [(0, .ref 39), (2, .int v2), (4, .int v4), (5, .int v5), (6, .int v6)]) (st' := [.int ((tk_u2 (tk_u2 o5.1 (71 + 8 * (tk_n (o5.1 39 2))) 0 v2) 39 2 ((tk_u2 o5.1 (71 + 8 * (tk_n (o5.1 39 2))) 0 v2 39 2) + (1 : Int32)) 39 4) ||| (tk_ishl (1 : Int32) v2)), .ref 39]) rfl ?_
          refine tk_SI  rfl rfl ly39 ?_
          refine tk_Ps  5 (pc' := 79) (ls' := [(6, .int (v6 + (1 : Int32))), (5, .int (-v5)), (0, .ref 39), (2, .int v2), (4, .int v4)]) (st' := []) rfl ?_
          refine tk_Kp  (ls' := [(0, .ref 39), (2, .int v2), (4, .int v4), (5, .int (-v5)), (6, .int (v6 + (1 : Int32)))]) rfl rfl ?_
          exact ih v2 v4 (-v5) (v6 + (1 : Int32)) (tk_u2 (tk_u2 (tk_u2 o5.1 (71 + 8 * (tk_n (o5.1 39 2))) 0 v2) 39 2 ((tk_u2 o5.1 (71 + 8 * (tk_n (o5.1 39 2))) 0 v2 39 2) + (1 : Int32))) 39 4 ((tk_u2 (tk_u2 o5.1 (71 + 8 * (tk_n (o5.1 39 2))) 0 v2) 39 2 ((tk_u2 o5.1 (71 + 8 * (tk_n (o5.1 39 2))) 0 v2 39 2) + (1 : Int32)) 39 4) ||| (tk_ishl (1 : Int32) v2)), o5.2.1, o5.2.2.1, o5.2.2.2) _ h
        · replace h := tk_ifF hc8 h
          refine tk_bF  rfl rfl tk_eB_eq (c := (fC_hasRadius (71 + 8 * (tk_n (tk_u2 o5.1 (71 + 8 * (tk_n (o5.1 39 2))) 0 v2 39 2))) (tk_u2 o5.1 (71 + 8 * (tk_n (o5.1 39 2))) 0 v2, o5.2.1, o5.2.2.1, o5.2.2.2)) = true) hc8 (pc' := 186) (ls' := [(0, .ref 39), (2, .int v2), (4, .int v4), (5, .int v5), (6, .int v6)]) (st' := []) ?_
          refine tk_Ps  5 (pc' := 79) (ls' := [(6, .int (v6 + (1 : Int32))), (5, .int (-v5)), (0, .ref 39), (2, .int v2), (4, .int v4)]) (st' := []) rfl ?_
          refine tk_Kp  (ls' := [(0, .ref 39), (2, .int v2), (4, .int v4), (5, .int (-v5)), (6, .int (v6 + (1 : Int32)))]) rfl rfl ?_
          exact ih v2 v4 (-v5) (v6 + (1 : Int32)) (tk_u2 o5.1 (71 + 8 * (tk_n (o5.1 39 2))) 0 v2, o5.2.1, o5.2.2.1, o5.2.2.2) _ h
theorem ok_fF_findBy_29 (sc : tk_X) (v2 : Int32) (s0 : Bool) (m : tk_m) (out : tk_m) (h : fF_findBy_29 v2 s0 m = some out) : tk_Ex sc 4 tk_r66 tk_k66 29 [(0, .ref 39), (2, .int v2)] [.int (tk_b s0)] (tk_full m) (none, tk_full out) := by
  unfold fF_findBy_29 at h
  refine tk_Ps  2 (pc' := 31) (ls' := [(3, .int (tk_b s0)), (0, .ref 39), (2, .int v2)]) (st' := [.int (tk_b s0)]) rfl ?_
  by_cases hc1 : s0 = true
  · replace h := tk_ifT hc1 h
    refine tk_bT  rfl rfl tk_eB_eq (c := s0 = true) hc1 (pc' := 34) (ls' := [(3, .int (tk_b s0)), (0, .ref 39), (2, .int v2)]) (st' := []) ?_
    refine tk_Ps  2 (pc' := 36) (ls' := [(3, .int (tk_b s0)), (0, .ref 39), (2, .int v2)]) (st' := [.ref 39, .ref 39]) rfl ?_
    refine tk_HI  rfl rfl ly39 ?_
    refine tk_Ps  4 (pc' := 43) (ls' := [(3, .int (tk_b s0)), (0, .ref 39), (2, .int v2)]) (st' := [.int ((m.1 39 3) ||| (tk_ishl (1 : Int32) v2)), .ref 39]) rfl ?_
    refine tk_SI  rfl rfl ly39 ?_
    replace h := Option.some.inj h
    subst h
    exact tk_RV  rfl rfl rfl
  · replace h := tk_ifF hc1 h
    refine tk_bF  rfl rfl tk_eB_eq (c := s0 = true) hc1 (pc' := 47) (ls' := [(3, .int (tk_b s0)), (0, .ref 39), (2, .int v2)]) (st' := []) ?_
    refine tk_Ps  1 (pc' := 48) (ls' := [(3, .int (tk_b s0)), (0, .ref 39), (2, .int v2)]) (st' := [.ref 39]) rfl ?_
    refine tk_HR  rfl rfl ly39 rt39_14 ?_
    refine tk_Ps  1 (pc' := 52) (ls' := [(3, .int (tk_b s0)), (0, .ref 39), (2, .int v2)]) (st' := [.ref 39, .ref 69]) rfl ?_
    refine tk_HJ  rfl rfl ly39 ?_
    obtain ⟨o2, ho2, h⟩ := tk_bnd h
    refine tk_cV0  rfl rfl (r := 69) (as := [.long (m.2.1 39 12)]) (rest := []) rfl ly69 rfl rfl (ok_fN_holdRoot sc 69 (m.2.1 39 12) m ly69 ho2) ?_
    refine tk_Ps  1 (pc' := 59) (ls' := [(3, .int (tk_b s0)), (0, .ref 39), (2, .int v2)]) (st' := [.ref 39]) rfl ?_
    refine tk_HJ  rfl rfl ly39 ?_
    refine tk_Ps  1 (pc' := 63) (ls' := [(3, .int (tk_b s0)), (0, .ref 39), (2, .int v2)]) (st' := [.long (0 : Int64), .long (o2.2.1 39 12)]) rfl ?_
    refine tk_cS1  rfl rfl (as := [.long (o2.2.1 39 12), .long (0 : Int64)]) (rest := []) rfl rfl rfl (ok_fZ_compare_J sc (o2.2.1 39 12) (0 : Int64) o2) ?_
    refine tk_Ps  4 (pc' := 71) (ls' := [(4, .int ((fZ_compare_J (o2.2.1 39 12) (0 : Int64)) + (1 : Int32))), (3, .int (tk_b s0)), (0, .ref 39), (2, .int v2)]) (st' := [.ref 39]) rfl ?_
    refine tk_cV1  rfl rfl (r := 39) (as := []) (rest := []) rfl ly39 rfl rfl (ok_fF_lesserSide sc o2) ?_
    refine tk_Ps  3 (pc' := 79) (ls' := [(6, .int (0 : Int32)), (5, .int (fF_lesserSide o2)), (4, .int ((fZ_compare_J (o2.2.1 39 12) (0 : Int64)) + (1 : Int32))), (3, .int (tk_b s0)), (0, .ref 39), (2, .int v2)]) (st' := []) rfl ?_
    refine tk_Kp  (ls' := [(0, .ref 39), (2, .int v2), (4, .int ((fZ_compare_J (o2.2.1 39 12) (0 : Int64)) + (1 : Int32))), (5, .int (fF_lesserSide o2)), (6, .int (0 : Int32))]) rfl rfl ?_
    exact ok_fF_findBy_79 sc tk_F v2 ((fZ_compare_J (o2.2.1 39 12) (0 : Int64)) + (1 : Int32)) (fF_lesserSide o2) (0 : Int32) o2 _ h
theorem ok_fF_findBy (sc : tk_X) (a1 : Nat) (a2 : Int32) (m : tk_m) (ha1 : tk_lay[a1]? = some (.inl 5)) {out : tk_m} (h : fF_findBy a1 a2 m = some out) : tk_Ru sc 5 66 [.ref 39, .ref a1, .int a2] (tk_full m) (none, tk_full out) := by
  unfold fF_findBy at h
  refine tk_Ru0 me66 (ls := [(0, .ref 39), (1, .ref a1), (2, .int a2)]) rfl rfl ?_
  refine tk_Ps  2 (pc' := 2) (ls' := [(0, .ref 39), (1, .ref a1), (2, .int a2)]) (st' := [.int a2, .ref a1]) rfl ?_
  obtain ⟨o1, ho1, h⟩ := tk_bnd h
  refine tk_cS1  rfl rfl (as := [.ref a1, .int a2]) (rest := []) rfl rfl rfl (ok_fF_doCount sc a1 a2 m ha1 ho1) ?_
  by_cases hc2 : o1 = true
  · replace h := tk_ifT hc2 h
    refine tk_bT  rfl rfl tk_eB_ne (c := o1 = true) hc2 (pc' := 9) (ls' := [(0, .ref 39), (1, .ref a1), (2, .int a2)]) (st' := []) ?_
    refine tk_Ps  3 (pc' := 12) (ls' := [(0, .ref 39), (1, .ref a1), (2, .int a2)]) (st' := [.int a2, .ref a1, .ref 39]) rfl ?_
    obtain ⟨o3, ho3, h⟩ := tk_bnd h
    refine tk_cV1  rfl rfl (r := 39) (as := [.ref a1, .int a2]) (rest := []) rfl ly39 rfl rfl (ok_fF_layPlanes sc a1 a2 m ha1 ho3) ?_
    by_cases hc4 : o3.1 = true
    · replace h := tk_ifT hc4 h
      refine tk_bT  rfl rfl tk_eB_eq (c := o3.1 = true) hc4 (pc' := 18) (ls' := [(0, .ref 39), (1, .ref a1), (2, .int a2)]) (st' := []) ?_
      refine tk_Ps  1 (pc' := 19) (ls' := [(0, .ref 39), (1, .ref a1), (2, .int a2)]) (st' := [.ref 39]) rfl ?_
      obtain ⟨o5, ho5, h⟩ := tk_lete h
      refine tk_cV1  rfl rfl (r := 39) (as := []) (rest := []) rfl ly39 rfl rfl (ok_fF_meetCone sc o3.2 ho5) ?_
      refine tk_Ps  1 (pc' := 29) (ls' := [(0, .ref 39), (1, .ref a1), (2, .int a2)]) (st' := [.int (tk_b o5.1)]) rfl ?_
      refine tk_Kp  (ls' := [(0, .ref 39), (2, .int a2)]) rfl rfl ?_
      exact ok_fF_findBy_29 sc a2 o5.1 o5.2 _ h
    · replace h := tk_ifF hc4 h
      refine tk_bF  rfl rfl tk_eB_eq (c := o3.1 = true) hc4 (pc' := 25) (ls' := [(0, .ref 39), (1, .ref a1), (2, .int a2)]) (st' := []) ?_
      refine tk_Ps  1 (pc' := 26) (ls' := [(0, .ref 39), (1, .ref a1), (2, .int a2)]) (st' := [.ref 39]) rfl ?_
      obtain ⟨o6, ho6, h⟩ := tk_lete h
      refine tk_cV1  rfl rfl (r := 39) (as := []) (rest := []) rfl ly39 rfl rfl (ok_fF_meetPlanes sc o3.2 ho6) ?_
      refine tk_Kp  (ls' := [(0, .ref 39), (2, .int a2)]) rfl rfl ?_
      exact ok_fF_findBy_29 sc a2 o6.1 o6.2 _ h
  · replace h := tk_ifF hc2 h
    refine tk_bF  rfl rfl tk_eB_ne (c := o1 = true) hc2 (pc' := 8) (ls' := [(0, .ref 39), (1, .ref a1), (2, .int a2)]) (st' := []) ?_
    replace h := Option.some.inj h
    subst h
    exact tk_RV  rfl rfl rfl
theorem ok_fX_missesAnswer_55 (sc : tk_X) (v1 : Int32) (m : tk_m) (out : Int32 × tk_m) (h : fX_missesAnswer_55 v1 m = some out) : tk_Ex sc 5 tk_r63 tk_k63 55 [(0, .ref 0), (1, .int v1)] [] (tk_full m) (some (.int out.1), tk_full out.2) := by
  unfold fX_missesAnswer_55 at h
  refine tk_Ps  1 (pc' := 56) (ls' := [(0, .ref 0), (1, .int v1)]) (st' := [.ref 0]) rfl ?_
  refine tk_HR  rfl rfl ly0 rt0_0 ?_
  refine tk_Ps  1 (pc' := 60) (ls' := [(0, .ref 0), (1, .int v1)]) (st' := [.int (0 : Int32), .ref 1]) rfl ?_
  refine tk_SB (b := false)  rfl rfl ly1 ?_
  refine tk_Ps  1 (pc' := 64) (ls' := [(0, .ref 0), (1, .int v1)]) (st' := [.int v1]) rfl ?_
  by_cases hc1 : v1 < 0
  · replace h := tk_ifT hc1 h
    refine tk_bT  rfl rfl rfl (c := v1 < 0) hc1 (pc' := 82) (ls' := [(0, .ref 0), (1, .int v1)]) (st' := []) ?_
    refine tk_Ps  1 (pc' := 83) (ls' := [(0, .ref 0), (1, .int v1)]) (st' := [.int (3 : Int32)]) rfl ?_
    replace h := Option.some.inj h
    subst h
    exact tk_RI  rfl rfl rfl
  · replace h := tk_ifF hc1 h
    refine tk_bF  rfl rfl rfl (c := v1 < 0) hc1 (pc' := 67) (ls' := [(0, .ref 0), (1, .int v1)]) (st' := []) ?_
    refine tk_Ps  2 (pc' := 69) (ls' := [(0, .ref 0), (1, .int v1)]) (st' := [.ref 0, .int v1]) rfl ?_
    refine tk_HR  rfl rfl ly0 rt0_7 ?_
    refine tk_HI  rfl rfl ly39 ?_
    by_cases hc2 : (m.1 39 2) ≤ v1
    · replace h := tk_ifT hc2 h
      refine tk_bT  rfl rfl rfl (c := (m.1 39 2) ≤ v1) hc2 (pc' := 82) (ls' := [(0, .ref 0), (1, .int v1)]) (st' := []) ?_
      refine tk_Ps  1 (pc' := 83) (ls' := [(0, .ref 0), (1, .int v1)]) (st' := [.int (3 : Int32)]) rfl ?_
      replace h := Option.some.inj h
      subst h
      exact tk_RI  rfl rfl rfl
    · replace h := tk_ifF hc2 h
      refine tk_bF  rfl rfl rfl (c := (m.1 39 2) ≤ v1) hc2 (pc' := 78) (ls' := [(0, .ref 0), (1, .int v1)]) (st' := []) ?_
      refine tk_Ps  2 (pc' := 83) (ls' := [(0, .ref 0), (1, .int v1)]) (st' := [.int (-1 : Int32)]) rfl ?_
      replace h := Option.some.inj h
      subst h
      exact tk_RI  rfl rfl rfl
theorem ok_fX_missesAnswer_31 (sc : tk_X) : ∀ (n : Nat) (v1 : Int32) (v2 : Int32) (m : tk_m) (out : Int32 × tk_m), fX_missesAnswer_31 n v1 v2 m = some out → tk_Ex sc 5 tk_r63 tk_k63 31 [(0, .ref 0), (1, .int v1), (2, .int v2)] [] (tk_full m) (some (.int out.1), tk_full out.2) := by
  intro n
  induction n with
  | zero =>
    intro v1 v2 m out h
    cases h
  | succ n ih =>
    intro v1 v2 m out h
    unfold fX_missesAnswer_31 at h
    refine tk_Ps  2 (pc' := 34) (ls' := [(0, .ref 0), (1, .int v1), (2, .int v2)]) (st' := [.int (8 : Int32), .int v2]) rfl ?_
    by_cases hc1 : (8 : Int32) ≤ v2
    · replace h := tk_ifT hc1 h
      refine tk_bT  rfl rfl rfl (c := (8 : Int32) ≤ v2) hc1 (pc' := 55) (ls' := [(0, .ref 0), (1, .int v1), (2, .int v2)]) (st' := []) ?_
      refine tk_Kp  (ls' := [(0, .ref 0), (1, .int v1)]) rfl rfl ?_
      exact ok_fX_missesAnswer_55 sc v1 m _ h
    · replace h := tk_ifF hc1 h
      refine tk_bF  rfl rfl rfl (c := (8 : Int32) ≤ v2) hc1 (pc' := 37) (ls' := [(0, .ref 0), (1, .int v1), (2, .int v2)]) (st' := []) ?_
      refine tk_Ps  1 (pc' := 38) (ls' := [(0, .ref 0), (1, .int v1), (2, .int v2)]) (st' := [.ref 0]) rfl ?_
      refine tk_HR  rfl rfl ly0 rt0_7 ?_
      refine tk_Ps  1 (pc' := 42) (ls' := [(0, .ref 0), (1, .int v1), (2, .int v2)]) (st' := [.ref 0, .ref 39]) rfl ?_
      refine tk_HR  rfl rfl ly0 rt0_0 ?_
      refine tk_Ps  1 (pc' := 46) (ls' := [(0, .ref 0), (1, .int v1), (2, .int v2)]) (st' := [.int v2, .ref 1, .ref 39]) rfl ?_
      obtain ⟨o2, ho2, h⟩ := tk_bnd h
      refine tk_cV0  rfl rfl (r := 39) (as := [.ref 1, .int v2]) (rest := []) rfl ly39 rfl rfl (ok_fF_findBy sc 1 v2 m ly1 ho2) ?_
      refine tk_Ps  2 (pc' := 31) (ls' := [(2, .int (v2 + (1 : Int32))), (0, .ref 0), (1, .int v1)]) (st' := []) rfl ?_
      refine tk_Kp  (ls' := [(0, .ref 0), (1, .int v1), (2, .int (v2 + (1 : Int32)))]) rfl rfl ?_
      exact ih v1 (v2 + (1 : Int32)) o2 _ h
theorem ok_fX_missesAnswer (sc : tk_X) (a1 : Int32) (m : tk_m) {out : Int32 × tk_m} (h : fX_missesAnswer a1 m = some out) : tk_Ru sc 6 63 [.ref 0, .int a1] (tk_full m) (some (.int out.1), tk_full out.2) := by
  unfold fX_missesAnswer at h
  refine tk_Ru0 me63 (ls := [(0, .ref 0), (1, .int a1)]) rfl rfl ?_
  refine tk_Ps  1 (pc' := 1) (ls' := [(0, .ref 0), (1, .int a1)]) (st' := [.ref 0]) rfl ?_
  refine tk_HR  rfl rfl ly0 rt0_0 ?_
  refine tk_cV1  rfl rfl (r := 1) (as := []) (rest := []) rfl ly1 rfl rfl (ok_fS_hasThree sc 1 m ly1) ?_
  by_cases hc1 : (fS_hasThree 1 m) = true
  · replace h := tk_ifT hc1 h
    refine tk_bT  rfl rfl tk_eB_ne (c := (fS_hasThree 1 m) = true) hc1 (pc' := 12) (ls' := [(0, .ref 0), (1, .int a1)]) (st' := []) ?_
    refine tk_Ps  1 (pc' := 13) (ls' := [(0, .ref 0), (1, .int a1)]) (st' := [.ref 0]) rfl ?_
    refine tk_HR  rfl rfl ly0 rt0_0 ?_
    refine tk_HB  rfl rfl ly1 ?_
    by_cases hc2 : (m.2.2.1 1 4) = true
    · replace h := tk_ifT hc2 h
      refine tk_bT  rfl rfl tk_eB_eq (c := (m.2.2.1 1 4) = true) hc2 (pc' := 22) (ls' := [(0, .ref 0), (1, .int a1)]) (st' := []) ?_
      refine tk_Ps  1 (pc' := 23) (ls' := [(0, .ref 0), (1, .int a1)]) (st' := [.ref 0]) rfl ?_
      refine tk_HR  rfl rfl ly0 rt0_7 ?_
      obtain ⟨o3, ho3, h⟩ := tk_lete h
      refine tk_cV0  rfl rfl (r := 39) (as := []) (rest := []) rfl ly39 rfl rfl (ok_fF_forget sc m ho3) ?_
      refine tk_Ps  2 (pc' := 31) (ls' := [(2, .int (0 : Int32)), (0, .ref 0), (1, .int a1)]) (st' := []) rfl ?_
      refine tk_Kp  (ls' := [(0, .ref 0), (1, .int a1), (2, .int (0 : Int32))]) rfl rfl ?_
      exact ok_fX_missesAnswer_31 sc tk_F a1 (0 : Int32) o3 _ h
    · replace h := tk_ifF hc2 h
      refine tk_bF  rfl rfl tk_eB_eq (c := (m.2.2.1 1 4) = true) hc2 (pc' := 63) (ls' := [(0, .ref 0), (1, .int a1)]) (st' := []) ?_
      refine tk_Ps  1 (pc' := 64) (ls' := [(0, .ref 0), (1, .int a1)]) (st' := [.int a1]) rfl ?_
      by_cases hc4 : a1 < 0
      · replace h := tk_ifT hc4 h
        refine tk_bT  rfl rfl rfl (c := a1 < 0) hc4 (pc' := 82) (ls' := [(0, .ref 0), (1, .int a1)]) (st' := []) ?_
        refine tk_Ps  1 (pc' := 83) (ls' := [(0, .ref 0), (1, .int a1)]) (st' := [.int (3 : Int32)]) rfl ?_
        replace h := Option.some.inj h
        subst h
        exact tk_RI  rfl rfl rfl
      · replace h := tk_ifF hc4 h
        refine tk_bF  rfl rfl rfl (c := a1 < 0) hc4 (pc' := 67) (ls' := [(0, .ref 0), (1, .int a1)]) (st' := []) ?_
        refine tk_Ps  2 (pc' := 69) (ls' := [(0, .ref 0), (1, .int a1)]) (st' := [.ref 0, .int a1]) rfl ?_
        refine tk_HR  rfl rfl ly0 rt0_7 ?_
        refine tk_HI  rfl rfl ly39 ?_
        by_cases hc5 : (m.1 39 2) ≤ a1
        · replace h := tk_ifT hc5 h
          refine tk_bT  rfl rfl rfl (c := (m.1 39 2) ≤ a1) hc5 (pc' := 82) (ls' := [(0, .ref 0), (1, .int a1)]) (st' := []) ?_
          refine tk_Ps  1 (pc' := 83) (ls' := [(0, .ref 0), (1, .int a1)]) (st' := [.int (3 : Int32)]) rfl ?_
          replace h := Option.some.inj h
          subst h
          exact tk_RI  rfl rfl rfl
        · replace h := tk_ifF hc5 h
          refine tk_bF  rfl rfl rfl (c := (m.1 39 2) ≤ a1) hc5 (pc' := 78) (ls' := [(0, .ref 0), (1, .int a1)]) (st' := []) ?_
          refine tk_Ps  2 (pc' := 83) (ls' := [(0, .ref 0), (1, .int a1)]) (st' := [.int (-1 : Int32)]) rfl ?_
          replace h := Option.some.inj h
          subst h
          exact tk_RI  rfl rfl rfl
  · replace h := tk_ifF hc1 h
    refine tk_bF  rfl rfl tk_eB_ne (c := (fS_hasThree 1 m) = true) hc1 (pc' := 10) (ls' := [(0, .ref 0), (1, .int a1)]) (st' := []) ?_
    refine tk_Ps  1 (pc' := 11) (ls' := [(0, .ref 0), (1, .int a1)]) (st' := [.int (4 : Int32)]) rfl ?_
    replace h := Option.some.inj h
    subst h
    exact tk_RI  rfl rfl rfl
theorem ok_fX_answers (sc : tk_X) (a1 : Int32) (m : tk_m) {out : Int32 × tk_m} (h : fX_answers a1 m = some out) : tk_Ru sc 7 62 [.ref 0, .int a1] (tk_full m) (some (.int out.1), tk_full out.2) := by
  unfold fX_answers at h
  refine tk_Ru0 me62 (ls := [(0, .ref 0), (1, .int a1)]) rfl rfl ?_
  refine tk_Ps  3 (pc' := 3) (ls' := [(0, .ref 0), (1, .int a1)]) (st' := [.int (2 : Int32), .int (0 : Int32), .int a1]) rfl ?_
  refine tk_cS1  rfl rfl (as := [.int a1, .int (0 : Int32), .int (2 : Int32)]) (rest := []) rfl rfl rfl (ok_fX_isWithin sc a1 (0 : Int32) (2 : Int32) m) ?_
  by_cases hc1 : (fX_isWithin a1 (0 : Int32) (2 : Int32)) = true
  · replace h := tk_ifT hc1 h
    refine tk_bT  rfl rfl tk_eB_ne (c := (fX_isWithin a1 (0 : Int32) (2 : Int32)) = true) hc1 (pc' := 15) (ls' := [(0, .ref 0), (1, .int a1)]) (st' := []) ?_
    refine tk_Ps  2 (pc' := 17) (ls' := [(0, .ref 0), (1, .int a1)]) (st' := [.int (0 : Int32), .ref 0]) rfl ?_
    obtain ⟨o2, ho2, h⟩ := tk_bnd h
    refine tk_cV1  rfl rfl (r := 0) (as := [.int (0 : Int32)]) (rest := []) rfl ly0 rfl rfl (ok_fX_missesAnswer sc (0 : Int32) m ho2) ?_
    refine tk_Ps  1 (pc' := 21) (ls' := [(0, .ref 0), (1, .int a1)]) (st' := [.int (4 : Int32), .int o2.1]) rfl ?_
    by_cases hc3 : o2.1 = (4 : Int32)
    · replace h := tk_ifT hc3 h
      refine tk_bT  rfl rfl rfl (c := o2.1 = (4 : Int32)) hc3 (pc' := 24) (ls' := [(0, .ref 0), (1, .int a1)]) (st' := []) ?_
      refine tk_Ps  2 (pc' := 26) (ls' := [(0, .ref 0), (1, .int a1)]) (st' := [.int (4 : Int32), .ref 0]) rfl ?_
      obtain ⟨o4, ho4, h⟩ := tk_bnd h
      refine tk_cV1  rfl rfl (r := 0) (as := [.int (4 : Int32)]) (rest := []) rfl ly0 rfl rfl (ok_fX_finding sc (4 : Int32) o2.2 ho4) ?_
      replace h := Option.some.inj h
      subst h
      exact tk_RI  rfl rfl rfl
    · replace h := tk_ifF hc3 h
      refine tk_bF  rfl rfl rfl (c := o2.1 = (4 : Int32)) hc3 (pc' := 30) (ls' := [(0, .ref 0), (1, .int a1)]) (st' := []) ?_
      refine tk_Ps  1 (pc' := 31) (ls' := [(0, .ref 0), (1, .int a1)]) (st' := [.int a1]) rfl ?_
      by_cases hc5 : a1 = 0
      · replace h := tk_ifT hc5 h
        refine tk_bT  rfl rfl rfl (c := a1 = 0) hc5 (pc' := 34) (ls' := [(0, .ref 0), (1, .int a1)]) (st' := []) ?_
        refine tk_Ps  1 (pc' := 35) (ls' := [(0, .ref 0), (1, .int a1)]) (st' := [.ref 0]) rfl ?_
        refine tk_HR  rfl rfl ly0 rt0_7 ?_
        refine tk_HI  rfl rfl ly39 ?_
        replace h := Option.some.inj h
        subst h
        exact tk_RI  rfl rfl rfl
      · replace h := tk_ifF hc5 h
        refine tk_bF  rfl rfl rfl (c := a1 = 0) hc5 (pc' := 42) (ls' := [(0, .ref 0), (1, .int a1)]) (st' := []) ?_
        refine tk_Ps  2 (pc' := 44) (ls' := [(0, .ref 0), (1, .int a1)]) (st' := [.int (1 : Int32), .int a1]) rfl ?_
        by_cases hc6 : a1 = (1 : Int32)
        · replace h := tk_ifT hc6 h
          refine tk_bT  rfl rfl rfl (c := a1 = (1 : Int32)) hc6 (pc' := 47) (ls' := [(0, .ref 0), (1, .int a1)]) (st' := []) ?_
          refine tk_Ps  1 (pc' := 48) (ls' := [(0, .ref 0), (1, .int a1)]) (st' := [.ref 0]) rfl ?_
          refine tk_HR  rfl rfl ly0 rt0_7 ?_
          refine tk_HI  rfl rfl ly39 ?_
          refine tk_Ps  1 (pc' := 64) (ls' := [(0, .ref 0), (1, .int a1)]) (st' := [.int (o2.2.1 39 3)]) rfl ?_
          replace h := Option.some.inj h
          subst h
          exact tk_RI  rfl rfl rfl
        · replace h := tk_ifF hc6 h
          refine tk_bF  rfl rfl rfl (c := a1 = (1 : Int32)) hc6 (pc' := 57) (ls' := [(0, .ref 0), (1, .int a1)]) (st' := []) ?_
          refine tk_Ps  1 (pc' := 58) (ls' := [(0, .ref 0), (1, .int a1)]) (st' := [.ref 0]) rfl ?_
          refine tk_HR  rfl rfl ly0 rt0_7 ?_
          refine tk_HI  rfl rfl ly39 ?_
          replace h := Option.some.inj h
          subst h
          exact tk_RI  rfl rfl rfl
  · replace h := tk_ifF hc1 h
    refine tk_bF  rfl rfl tk_eB_ne (c := (fX_isWithin a1 (0 : Int32) (2 : Int32)) = true) hc1 (pc' := 9) (ls' := [(0, .ref 0), (1, .int a1)]) (st' := []) ?_
    refine tk_Ps  2 (pc' := 11) (ls' := [(0, .ref 0), (1, .int a1)]) (st' := [.int (0 : Int32), .ref 0]) rfl ?_
    obtain ⟨o7, ho7, h⟩ := tk_bnd h
    refine tk_cV1  rfl rfl (r := 0) (as := [.int (0 : Int32)]) (rest := []) rfl ly0 rfl rfl (ok_fX_finding sc (0 : Int32) m ho7) ?_
    replace h := Option.some.inj h
    subst h
    exact tk_RI  rfl rfl rfl
theorem ok_fX_signs (sc : tk_X) (a1 : Int32) (m : tk_m) {out : Int32 × tk_m} (h : fX_signs a1 m = some out) : tk_Ru sc 7 97 [.ref 0, .int a1] (tk_full m) (some (.int out.1), tk_full out.2) := by
  unfold fX_signs at h
  refine tk_Ru0 me97 (ls := [(0, .ref 0), (1, .int a1)]) rfl rfl ?_
  refine tk_Ps  2 (pc' := 2) (ls' := [(0, .ref 0), (1, .int a1)]) (st' := [.int a1, .ref 0]) rfl ?_
  obtain ⟨o1, ho1, h⟩ := tk_bnd h
  refine tk_cV1  rfl rfl (r := 0) (as := [.int a1]) (rest := []) rfl ly0 rfl rfl (ok_fX_missesAnswer sc a1 m ho1) ?_
  refine tk_Ps  2 (pc' := 7) (ls' := [(2, .int o1.1), (0, .ref 0), (1, .int a1)]) (st' := [.int o1.1]) rfl ?_
  by_cases hc2 : o1.1 < 0
  · replace h := tk_ifT hc2 h
    refine tk_bT  rfl rfl rfl (c := o1.1 < 0) hc2 (pc' := 16) (ls' := [(2, .int o1.1), (0, .ref 0), (1, .int a1)]) (st' := []) ?_
    refine tk_Ps  1 (pc' := 17) (ls' := [(2, .int o1.1), (0, .ref 0), (1, .int a1)]) (st' := [.ref 0]) rfl ?_
    refine tk_HR  rfl rfl ly0 rt0_7 ?_
    refine tk_HR  rfl rfl ly39 rt39_1 ?_
    refine tk_Ps  1 (pc' := 24) (ls' := [(2, .int o1.1), (0, .ref 0), (1, .int a1)]) (st' := [.int a1, .ref 61]) rfl ?_
    obtain ⟨hg3, h⟩ := tk_grd h
    refine tk_HQ  rfl rfl ly61 hg3 (la61 _ (hg3).2).1 ?_
    refine tk_HI  rfl rfl ((la61 _ (hg3).2).2) ?_
    replace h := Option.some.inj h
    subst h
    exact tk_RI  rfl rfl rfl
  · replace h := tk_ifF hc2 h
    refine tk_bF  rfl rfl rfl (c := o1.1 < 0) hc2 (pc' := 10) (ls' := [(2, .int o1.1), (0, .ref 0), (1, .int a1)]) (st' := []) ?_
    refine tk_Ps  2 (pc' := 12) (ls' := [(2, .int o1.1), (0, .ref 0), (1, .int a1)]) (st' := [.int o1.1, .ref 0]) rfl ?_
    obtain ⟨o4, ho4, h⟩ := tk_bnd h
    refine tk_cV1  rfl rfl (r := 0) (as := [.int o1.1]) (rest := []) rfl ly0 rfl rfl (ok_fX_finding sc o1.1 o1.2 ho4) ?_
    replace h := Option.some.inj h
    subst h
    exact tk_RI  rfl rfl rfl
theorem ok_fX_longFinding (sc : tk_X) (a1 : Int32) (m : tk_m) {out : Int64 × tk_m} (h : fX_longFinding a1 m = some out) : tk_Ru sc 3 99 [.ref 0, .int a1] (tk_full m) (some (.long out.1), tk_full out.2) := by
  unfold fX_longFinding at h
  refine tk_Ru0 me99 (ls := [(0, .ref 0), (1, .int a1)]) rfl rfl ?_
  refine tk_Ps  2 (pc' := 2) (ls' := [(0, .ref 0), (1, .int a1)]) (st' := [.int a1, .ref 0]) rfl ?_
  obtain ⟨o1, ho1, h⟩ := tk_bnd h
  refine tk_cV1  rfl rfl (r := 0) (as := [.int a1]) (rest := []) rfl ly0 rfl rfl (ok_fX_finding sc a1 m ho1) ?_
  refine tk_Ps  5 (pc' := 12) (ls' := [(0, .ref 0), (1, .int a1)]) (st' := [.long ((-4000000000000000001 : Int64) - (Int32.toInt64 a1))]) rfl ?_
  replace h := Option.some.inj h
  subst h
  exact tk_RJ  rfl rfl rfl
theorem ok_fC_part (sc : tk_X) (t : Nat) (a1 : Int32) (m : tk_m) (ht : tk_lay[t]? = some (.inl 1)) : tk_Ru sc 1 100 [.ref t, .int a1] (tk_full m) (some (.ref (fC_part t a1)), tk_full m) := by
  obtain ⟨out, h⟩ : ∃ out, fC_part t a1 = out := ⟨_, rfl⟩
  rw [h]
  unfold fC_part at h
  refine tk_Ru0 me100 (ls := [(0, .ref t), (1, .int a1)]) rfl rfl ?_
  refine tk_Ps  1 (pc' := 1) (ls' := [(0, .ref t), (1, .int a1)]) (st' := [.int a1]) rfl ?_
  by_cases hc1 : a1 = 0
  · replace h := tk_ifT hc1 h
    refine tk_bT  rfl rfl rfl (c := a1 = 0) hc1 (pc' := 4) (ls' := [(0, .ref t), (1, .int a1)]) (st' := []) ?_
    refine tk_Ps  1 (pc' := 5) (ls' := [(0, .ref t), (1, .int a1)]) (st' := [.ref t]) rfl ?_
    refine tk_HR  rfl rfl ht (ro1_3 ht) ?_
    refine tk_Ps  1 (pc' := 27) (ls' := [(0, .ref t), (1, .int a1)]) (st' := [.ref (t + 2)]) rfl ?_
    subst h
    exact tk_RA  rfl rfl rfl rfl
  · replace h := tk_ifF hc1 h
    refine tk_bF  rfl rfl rfl (c := a1 = 0) hc1 (pc' := 11) (ls' := [(0, .ref t), (1, .int a1)]) (st' := []) ?_
    refine tk_Ps  2 (pc' := 13) (ls' := [(0, .ref t), (1, .int a1)]) (st' := [.int (1 : Int32), .int a1]) rfl ?_
    by_cases hc2 : a1 = (1 : Int32)
    · replace h := tk_ifT hc2 h
      refine tk_bT  rfl rfl rfl (c := a1 = (1 : Int32)) hc2 (pc' := 16) (ls' := [(0, .ref t), (1, .int a1)]) (st' := []) ?_
      refine tk_Ps  1 (pc' := 17) (ls' := [(0, .ref t), (1, .int a1)]) (st' := [.ref t]) rfl ?_
      refine tk_HR  rfl rfl ht (ro1_4 ht) ?_
      refine tk_Ps  1 (pc' := 27) (ls' := [(0, .ref t), (1, .int a1)]) (st' := [.ref (t + 4)]) rfl ?_
      subst h
      exact tk_RA  rfl rfl rfl rfl
    · replace h := tk_ifF hc2 h
      refine tk_bF  rfl rfl rfl (c := a1 = (1 : Int32)) hc2 (pc' := 23) (ls' := [(0, .ref t), (1, .int a1)]) (st' := []) ?_
      refine tk_Ps  1 (pc' := 24) (ls' := [(0, .ref t), (1, .int a1)]) (st' := [.ref t]) rfl ?_
      refine tk_HR  rfl rfl ht (ro1_5 ht) ?_
      subst h
      exact tk_RA  rfl rfl rfl rfl
theorem lay_fC_part (sc : tk_X) (t : Nat) (a1 : Int32) (m : tk_m) (ht : tk_lay[t]? = some (.inl 1)) : tk_lay[fC_part t a1]? = some (.inl 4) := by
  obtain ⟨out, h⟩ : ∃ out, fC_part t a1 = out := ⟨_, rfl⟩
  rw [h]
  unfold fC_part at h
  by_cases hc1 : a1 = 0
  · replace h := tk_ifT hc1 h
    subst h
    exact lo1_3 ht
  · replace h := tk_ifF hc1 h
    by_cases hc2 : a1 = (1 : Int32)
    · replace h := tk_ifT hc2 h
      subst h
      exact lo1_4 ht
    · replace h := tk_ifF hc2 h
      subst h
      exact lo1_5 ht
theorem ok_fN_m (sc : tk_X) (t : Nat) (m : tk_m) (ht : tk_lay[t]? = some (.inl 4)) : tk_Ru sc 1 102 [.ref t] (tk_full m) (some (.long (fN_m t m)), tk_full m) := by
  obtain ⟨out, h⟩ : ∃ out, fN_m t m = out := ⟨_, rfl⟩
  rw [h]
  unfold fN_m at h
  refine tk_Ru0 me102 (ls := [(0, .ref t)]) rfl rfl ?_
  refine tk_Ps  1 (pc' := 1) (ls' := [(0, .ref t)]) (st' := [.ref t]) rfl ?_
  refine tk_HR  rfl rfl ht (ro4_1 ht) ?_
  refine tk_Ps  1 (pc' := 5) (ls' := [(0, .ref t)]) (st' := [.int (2 : Int32), .ref (t + 1)]) rfl ?_
  refine tk_HJa  rfl rfl (lo4_1 ht) (by decide) ?_
  subst h
  exact tk_RJ  rfl rfl rfl
theorem ok_fN_part (sc : tk_X) (t : Nat) (a1 : Int32) (m : tk_m) (ht : tk_lay[t]? = some (.inl 4)) : tk_Ru sc 2 101 [.ref t, .int a1] (tk_full m) (some (.long (fN_part t a1 m)), tk_full m) := by
  obtain ⟨out, h⟩ : ∃ out, fN_part t a1 m = out := ⟨_, rfl⟩
  rw [h]
  unfold fN_part at h
  refine tk_Ru0 me101 (ls := [(0, .ref t), (1, .int a1)]) rfl rfl ?_
  refine tk_Ps  1 (pc' := 1) (ls' := [(0, .ref t), (1, .int a1)]) (st' := [.int a1]) rfl ?_
  by_cases hs1 : a1 = 0
  · replace h := tk_ifT hs1 h
    refine tk_sw  rfl rfl hs1 rfl (pc' := 28) (ls' := [(0, .ref t), (1, .int a1)]) (st' := []) ?_
    refine tk_Ps  1 (pc' := 29) (ls' := [(0, .ref t), (1, .int a1)]) (st' := [.ref t]) rfl ?_
    refine tk_cV1  rfl rfl (r := t) (as := []) (rest := []) rfl ht rfl rfl (ok_fN_p sc t m ht) ?_
    subst h
    exact tk_RJ  rfl rfl rfl
  replace h := tk_ifF hs1 h
  by_cases hs2 : a1 = 1
  · replace h := tk_ifT hs2 h
    refine tk_sw  rfl rfl hs2 rfl (pc' := 33) (ls' := [(0, .ref t), (1, .int a1)]) (st' := []) ?_
    refine tk_Ps  1 (pc' := 34) (ls' := [(0, .ref t), (1, .int a1)]) (st' := [.ref t]) rfl ?_
    refine tk_cV1  rfl rfl (r := t) (as := []) (rest := []) rfl ht rfl rfl (ok_fN_q sc t m ht) ?_
    subst h
    exact tk_RJ  rfl rfl rfl
  replace h := tk_ifF hs2 h
  by_cases hs3 : a1 = 2
  · replace h := tk_ifT hs3 h
    refine tk_sw  rfl rfl hs3 rfl (pc' := 38) (ls' := [(0, .ref t), (1, .int a1)]) (st' := []) ?_
    refine tk_Ps  1 (pc' := 39) (ls' := [(0, .ref t), (1, .int a1)]) (st' := [.ref t]) rfl ?_
    refine tk_HJ  rfl rfl ht ?_
    subst h
    exact tk_RJ  rfl rfl rfl
  replace h := tk_ifF hs3 h
  refine tk_swD  rfl rfl (tk_swo_0_2 hs1 hs2 hs3) rfl rfl (pc' := 43) (ls' := [(0, .ref t), (1, .int a1)]) (st' := []) ?_
  refine tk_Ps  1 (pc' := 44) (ls' := [(0, .ref t), (1, .int a1)]) (st' := [.ref t]) rfl ?_
  refine tk_cV1  rfl rfl (r := t) (as := []) (rest := []) rfl ht rfl rfl (ok_fN_m sc t m ht) ?_
  subst h
  exact tk_RJ  rfl rfl rfl
theorem ok_fX_answer (sc : tk_X) (a1 : Int32) (a2 : Int32) (a3 : Int32) (m : tk_m) {out : Int64 × tk_m} (h : fX_answer a1 a2 a3 m = some out) : tk_Ru sc 7 98 [.ref 0, .int a1, .int a2, .int a3] (tk_full m) (some (.long out.1), tk_full out.2) := by
  unfold fX_answer at h
  refine tk_Ru0 me98 (ls := [(0, .ref 0), (1, .int a1), (2, .int a2), (3, .int a3)]) rfl rfl ?_
  refine tk_Ps  3 (pc' := 3) (ls' := [(0, .ref 0), (1, .int a1), (2, .int a2), (3, .int a3)]) (st' := [.int (2 : Int32), .int (0 : Int32), .int a2]) rfl ?_
  refine tk_cS1  rfl rfl (as := [.int a2, .int (0 : Int32), .int (2 : Int32)]) (rest := []) rfl rfl rfl (ok_fX_isWithin sc a2 (0 : Int32) (2 : Int32) m) ?_
  by_cases hc1 : (fX_isWithin a2 (0 : Int32) (2 : Int32)) = true
  · replace h := tk_ifT hc1 h
    refine tk_bT  rfl rfl tk_eB_eq (c := (fX_isWithin a2 (0 : Int32) (2 : Int32)) = true) hc1 (pc' := 9) (ls' := [(0, .ref 0), (1, .int a1), (2, .int a2), (3, .int a3)]) (st' := []) ?_
    refine tk_Ps  3 (pc' := 12) (ls' := [(0, .ref 0), (1, .int a1), (2, .int a2), (3, .int a3)]) (st' := [.int (3 : Int32), .int (0 : Int32), .int a3]) rfl ?_
    refine tk_cS1  rfl rfl (as := [.int a3, .int (0 : Int32), .int (3 : Int32)]) (rest := []) rfl rfl rfl (ok_fX_isWithin sc a3 (0 : Int32) (3 : Int32) m) ?_
    by_cases hc2 : (fX_isWithin a3 (0 : Int32) (3 : Int32)) = true
    · replace h := tk_ifT hc2 h
      refine tk_bT  rfl rfl tk_eB_ne (c := (fX_isWithin a3 (0 : Int32) (3 : Int32)) = true) hc2 (pc' := 24) (ls' := [(0, .ref 0), (1, .int a1), (2, .int a2), (3, .int a3)]) (st' := []) ?_
      refine tk_Ps  2 (pc' := 26) (ls' := [(0, .ref 0), (1, .int a1), (2, .int a2), (3, .int a3)]) (st' := [.int a1, .ref 0]) rfl ?_
      obtain ⟨o3, ho3, h⟩ := tk_bnd h
      refine tk_cV1  rfl rfl (r := 0) (as := [.int a1]) (rest := []) rfl ly0 rfl rfl (ok_fX_missesAnswer sc a1 m ho3) ?_
      refine tk_Ps  2 (pc' := 33) (ls' := [(4, .int o3.1), (0, .ref 0), (1, .int a1), (2, .int a2), (3, .int a3)]) (st' := [.int o3.1]) rfl ?_
      by_cases hc4 : o3.1 < 0
      · replace h := tk_ifT hc4 h
        refine tk_bT  rfl rfl rfl (c := o3.1 < 0) hc4 (pc' := 43) (ls' := [(4, .int o3.1), (0, .ref 0), (1, .int a1), (2, .int a2), (3, .int a3)]) (st' := []) ?_
        refine tk_Ps  1 (pc' := 44) (ls' := [(4, .int o3.1), (0, .ref 0), (1, .int a1), (2, .int a2), (3, .int a3)]) (st' := [.ref 0]) rfl ?_
        refine tk_HR  rfl rfl ly0 rt0_7 ?_
        refine tk_HR  rfl rfl ly39 rt39_1 ?_
        refine tk_Ps  1 (pc' := 51) (ls' := [(4, .int o3.1), (0, .ref 0), (1, .int a1), (2, .int a2), (3, .int a3)]) (st' := [.int a1, .ref 61]) rfl ?_
        obtain ⟨hg5, h⟩ := tk_grd h
        refine tk_HQ  rfl rfl ly61 hg5 (la61 _ (hg5).2).1 ?_
        refine tk_Ps  1 (pc' := 53) (ls' := [(4, .int o3.1), (0, .ref 0), (1, .int a1), (2, .int a2), (3, .int a3)]) (st' := [.int a2, .ref (71 + 8 * (tk_n a1))]) rfl ?_
        refine tk_cV1  rfl rfl (r := (71 + 8 * (tk_n a1))) (as := [.int a2]) (rest := []) rfl ((la61 _ (hg5).2).2) rfl rfl (ok_fC_part sc (71 + 8 * (tk_n a1)) a2 o3.2 ((la61 _ (hg5).2).2)) ?_
        refine tk_Ps  1 (pc' := 57) (ls' := [(4, .int o3.1), (0, .ref 0), (1, .int a1), (2, .int a2), (3, .int a3)]) (st' := [.int a3, .ref (fC_part (71 + 8 * (tk_n a1)) a2)]) rfl ?_
        refine tk_cV1  rfl rfl (r := (fC_part (71 + 8 * (tk_n a1)) a2)) (as := [.int a3]) (rest := []) rfl (lay_fC_part sc (71 + 8 * (tk_n a1)) a2 o3.2 ((la61 _ (hg5).2).2)) rfl rfl (ok_fN_part sc (fC_part (71 + 8 * (tk_n a1)) a2) a3 o3.2 (lay_fC_part sc (71 + 8 * (tk_n a1)) a2 o3.2 ((la61 _ (hg5).2).2))) ?_
        replace h := Option.some.inj h
        subst h
        exact tk_RJ  rfl rfl rfl
      · replace h := tk_ifF hc4 h
        refine tk_bF  rfl rfl rfl (c := o3.1 < 0) hc4 (pc' := 36) (ls' := [(4, .int o3.1), (0, .ref 0), (1, .int a1), (2, .int a2), (3, .int a3)]) (st' := []) ?_
        refine tk_Ps  2 (pc' := 39) (ls' := [(4, .int o3.1), (0, .ref 0), (1, .int a1), (2, .int a2), (3, .int a3)]) (st' := [.int o3.1, .ref 0]) rfl ?_
        obtain ⟨o6, ho6, h⟩ := tk_bnd h
        refine tk_cV1  rfl rfl (r := 0) (as := [.int o3.1]) (rest := []) rfl ly0 rfl rfl (ok_fX_longFinding sc o3.1 o3.2 ho6) ?_
        replace h := Option.some.inj h
        subst h
        exact tk_RJ  rfl rfl rfl
    · replace h := tk_ifF hc2 h
      refine tk_bF  rfl rfl tk_eB_ne (c := (fX_isWithin a3 (0 : Int32) (3 : Int32)) = true) hc2 (pc' := 18) (ls' := [(0, .ref 0), (1, .int a1), (2, .int a2), (3, .int a3)]) (st' := []) ?_
      refine tk_Ps  2 (pc' := 20) (ls' := [(0, .ref 0), (1, .int a1), (2, .int a2), (3, .int a3)]) (st' := [.int (0 : Int32), .ref 0]) rfl ?_
      obtain ⟨o7, ho7, h⟩ := tk_bnd h
      refine tk_cV1  rfl rfl (r := 0) (as := [.int (0 : Int32)]) (rest := []) rfl ly0 rfl rfl (ok_fX_longFinding sc (0 : Int32) m ho7) ?_
      replace h := Option.some.inj h
      subst h
      exact tk_RJ  rfl rfl rfl
  · replace h := tk_ifF hc1 h
    refine tk_bF  rfl rfl tk_eB_eq (c := (fX_isWithin a2 (0 : Int32) (2 : Int32)) = true) hc1 (pc' := 18) (ls' := [(0, .ref 0), (1, .int a1), (2, .int a2), (3, .int a3)]) (st' := []) ?_
    refine tk_Ps  2 (pc' := 20) (ls' := [(0, .ref 0), (1, .int a1), (2, .int a2), (3, .int a3)]) (st' := [.int (0 : Int32), .ref 0]) rfl ?_
    obtain ⟨o8, ho8, h⟩ := tk_bnd h
    refine tk_cV1  rfl rfl (r := 0) (as := [.int (0 : Int32)]) (rest := []) rfl ly0 rfl rfl (ok_fX_longFinding sc (0 : Int32) m ho8) ?_
    replace h := Option.some.inj h
    subst h
    exact tk_RJ  rfl rfl rfl
theorem ok_fB_trim_39 (sc : tk_X) (v0 : Nat) (m : tk_m) (hv0 : tk_lay[v0]? = some (.inl 0)) (out : tk_m) (h : fB_trim_39 v0 m = some out) : tk_Ex sc 0 tk_r108 tk_k108 39 [(0, .ref v0)] [] (tk_full m) (none, tk_full out) := by
  unfold fB_trim_39 at h
  refine tk_Ps  1 (pc' := 40) (ls' := [(0, .ref v0)]) (st' := [.ref v0]) rfl ?_
  refine tk_HI  rfl rfl hv0 ?_
  by_cases hc1 : (m.1 v0 1) = 0
  · replace h := tk_ifT hc1 h
    refine tk_bT  rfl rfl rfl (c := (m.1 v0 1) = 0) hc1 (pc' := 46) (ls' := [(0, .ref v0)]) (st' := []) ?_
    refine tk_Ps  2 (pc' := 48) (ls' := [(0, .ref v0)]) (st' := [.int (0 : Int32), .ref v0]) rfl ?_
    refine tk_SI  rfl rfl hv0 ?_
    replace h := Option.some.inj h
    subst h
    exact tk_RV  rfl rfl rfl
  · replace h := tk_ifF hc1 h
    refine tk_bF  rfl rfl rfl (c := (m.1 v0 1) = 0) hc1 (pc' := 51) (ls' := [(0, .ref v0)]) (st' := []) ?_
    replace h := Option.some.inj h
    subst h
    exact tk_RV  rfl rfl rfl
theorem ok_fB_trim_5 (sc : tk_X) : ∀ (n : Nat) (v0 : Nat) (m : tk_m) (hv0 : tk_lay[v0]? = some (.inl 0)) (out : tk_m), fB_trim_5 n v0 m = some out → tk_Ex sc 0 tk_r108 tk_k108 5 [(0, .ref v0)] [] (tk_full m) (none, tk_full out) := by
  intro n
  induction n with
  | zero =>
    intro v0 m hv0 out h
    cases h
  | succ n ih =>
    intro v0 m hv0 out h
    unfold fB_trim_5 at h
    refine tk_Ps  1 (pc' := 6) (ls' := [(0, .ref v0)]) (st' := [.ref v0]) rfl ?_
    refine tk_HI  rfl rfl hv0 ?_
    by_cases hc1 : (m.1 v0 1) ≤ 0
    · replace h := tk_ifT hc1 h
      refine tk_bT  rfl rfl rfl (c := (m.1 v0 1) ≤ 0) hc1 (pc' := 39) (ls' := [(0, .ref v0)]) (st' := []) ?_
      refine tk_Kp  (ls' := [(0, .ref v0)]) rfl rfl ?_
      exact ok_fB_trim_39 sc v0 m hv0 _ h
    · replace h := tk_ifF hc1 h
      refine tk_bF  rfl rfl rfl (c := (m.1 v0 1) ≤ 0) hc1 (pc' := 12) (ls' := [(0, .ref v0)]) (st' := []) ?_
      refine tk_Ps  1 (pc' := 13) (ls' := [(0, .ref v0)]) (st' := [.ref v0]) rfl ?_
      refine tk_HR  rfl rfl hv0 (ro0_2 hv0) ?_
      refine tk_Ps  1 (pc' := 17) (ls' := [(0, .ref v0)]) (st' := [.ref v0, .ref (v0 + 1)]) rfl ?_
      refine tk_HI  rfl rfl hv0 ?_
      refine tk_Ps  2 (pc' := 22) (ls' := [(0, .ref v0)]) (st' := [.int ((m.1 v0 1) - (1 : Int32)), .ref (v0 + 1)]) rfl ?_
      obtain ⟨hg2, h⟩ := tk_grd h
      refine tk_HIa  rfl rfl (lo0_2 hv0) hg2 ?_
      by_cases hc3 : (m.1 (v0 + 1) (tk_n ((m.1 v0 1) - (1 : Int32)))) = 0
      · replace h := tk_ifT hc3 h
        refine tk_bT  rfl rfl rfl (c := (m.1 (v0 + 1) (tk_n ((m.1 v0 1) - (1 : Int32)))) = 0) hc3 (pc' := 26) (ls' := [(0, .ref v0)]) (st' := []) ?_
        refine tk_Ps  2 (pc' := 28) (ls' := [(0, .ref v0)]) (st' := [.ref v0, .ref v0]) rfl ?_
        refine tk_HI  rfl rfl hv0 ?_
        refine tk_Ps  2 (pc' := 33) (ls' := [(0, .ref v0)]) (st' := [.int ((m.1 v0 1) - (1 : Int32)), .ref v0]) rfl ?_
        refine tk_SI  rfl rfl hv0 ?_
        refine tk_Ps  1 (pc' := 5) (ls' := [(0, .ref v0)]) (st' := []) rfl ?_
        refine tk_Kp  (ls' := [(0, .ref v0)]) rfl rfl ?_
        exact ih v0 (tk_u2 m.1 v0 1 ((m.1 v0 1) - (1 : Int32)), m.2.1, m.2.2.1, m.2.2.2) hv0 _ h
      · replace h := tk_ifF hc3 h
        refine tk_bF  rfl rfl rfl (c := (m.1 (v0 + 1) (tk_n ((m.1 v0 1) - (1 : Int32)))) = 0) hc3 (pc' := 39) (ls' := [(0, .ref v0)]) (st' := []) ?_
        refine tk_Kp  (ls' := [(0, .ref v0)]) rfl rfl ?_
        exact ok_fB_trim_39 sc v0 m hv0 _ h
theorem ok_fB_trim (sc : tk_X) (t : Nat) (a1 : Int32) (m : tk_m) (ht : tk_lay[t]? = some (.inl 0)) {out : tk_m} (h : fB_trim t a1 m = some out) : tk_Ru sc 1 108 [.ref t, .int a1] (tk_full m) (none, tk_full out) := by
  unfold fB_trim at h
  refine tk_Ru0 me108 (ls := [(0, .ref t), (1, .int a1)]) rfl rfl ?_
  refine tk_Ps  2 (pc' := 2) (ls' := [(0, .ref t), (1, .int a1)]) (st' := [.int a1, .ref t]) rfl ?_
  refine tk_SI  rfl rfl ht ?_
  refine tk_Kp  (ls' := [(0, .ref t)]) rfl rfl ?_
  exact ok_fB_trim_5 sc tk_F t (tk_u2 m.1 t 1 a1, m.2.1, m.2.2.1, m.2.2.2) ht _ h
theorem ok_fB_take_12 (sc : tk_X) (v0 : Nat) (v1 : Int64) (s0 : Int64) (m : tk_m) (hv0 : tk_lay[v0]? = some (.inl 0)) (out : tk_m) (h : fB_take_12 v0 v1 s0 m = some out) : tk_Ex sc 1 tk_r107 tk_k107 12 [(0, .ref v0), (1, .long v1)] [.long s0] (tk_full m) (none, tk_full out) := by
  unfold fB_take_12 at h
  refine tk_Ps  2 (pc' := 14) (ls' := [(3, .long s0), (0, .ref v0), (1, .long v1)]) (st' := [.ref v0]) rfl ?_
  refine tk_HR  rfl rfl hv0 (ro0_2 hv0) ?_
  refine tk_Ps  3 (pc' := 20) (ls' := [(3, .long s0), (0, .ref v0), (1, .long v1)]) (st' := [.int (Int64.toInt32 s0), .int (0 : Int32), .ref (v0 + 1)]) rfl ?_
  refine tk_SIa  rfl rfl (lo0_2 hv0) (by decide) ?_
  refine tk_Ps  1 (pc' := 22) (ls' := [(3, .long s0), (0, .ref v0), (1, .long v1)]) (st' := [.ref v0]) rfl ?_
  refine tk_HR  rfl rfl hv0 (ro0_2 hv0) ?_
  refine tk_Ps  5 (pc' := 31) (ls' := [(3, .long s0), (0, .ref v0), (1, .long v1)]) (st' := [.int (Int64.toInt32 (tk_lushr s0 (32 : Int32))), .int (1 : Int32), .ref (v0 + 1)]) rfl ?_
  refine tk_SIa  rfl rfl (lo0_2 hv0) (by decide) ?_
  refine tk_Ps  4 (pc' := 36) (ls' := [(3, .long s0), (0, .ref v0), (1, .long v1)]) (st' := [.int (lg_cmp v1 (0 : Int64)), .ref v0]) rfl ?_
  by_cases hc1 : (0 : Int64) ≤ v1
  · replace h := tk_ifT hc1 h
    refine tk_bT  rfl rfl tk_eL_ge (c := (0 : Int64) ≤ v1) hc1 (pc' := 43) (ls' := [(3, .long s0), (0, .ref v0), (1, .long v1)]) (st' := [.ref v0]) ?_
    refine tk_Ps  1 (pc' := 44) (ls' := [(3, .long s0), (0, .ref v0), (1, .long v1)]) (st' := [.int (1 : Int32), .ref v0]) rfl ?_
    refine tk_SI  rfl rfl hv0 ?_
    refine tk_Ps  2 (pc' := 49) (ls' := [(3, .long s0), (0, .ref v0), (1, .long v1)]) (st' := [.int (2 : Int32), .ref v0]) rfl ?_
    obtain ⟨o2, ho2, h⟩ := tk_bnd h
    refine tk_cV0  rfl rfl (r := v0) (as := [.int (2 : Int32)]) (rest := []) rfl hv0 rfl rfl (ok_fB_trim sc v0 (2 : Int32) (tk_u2 (tk_u2 (tk_u2 m.1 (v0 + 1) 0 (Int64.toInt32 s0)) (v0 + 1) 1 (Int64.toInt32 (tk_lushr s0 (32 : Int32)))) v0 0 (1 : Int32), m.2.1, m.2.2.1, m.2.2.2) hv0 ho2) ?_
    replace h := Option.some.inj h
    subst h
    exact tk_RV  rfl rfl rfl
  · replace h := tk_ifF hc1 h
    refine tk_bF  rfl rfl tk_eL_ge (c := (0 : Int64) ≤ v1) hc1 (pc' := 39) (ls' := [(3, .long s0), (0, .ref v0), (1, .long v1)]) (st' := [.ref v0]) ?_
    refine tk_Ps  2 (pc' := 44) (ls' := [(3, .long s0), (0, .ref v0), (1, .long v1)]) (st' := [.int (-1 : Int32), .ref v0]) rfl ?_
    refine tk_SI  rfl rfl hv0 ?_
    refine tk_Ps  2 (pc' := 49) (ls' := [(3, .long s0), (0, .ref v0), (1, .long v1)]) (st' := [.int (2 : Int32), .ref v0]) rfl ?_
    obtain ⟨o3, ho3, h⟩ := tk_bnd h
    refine tk_cV0  rfl rfl (r := v0) (as := [.int (2 : Int32)]) (rest := []) rfl hv0 rfl rfl (ok_fB_trim sc v0 (2 : Int32) (tk_u2 (tk_u2 (tk_u2 m.1 (v0 + 1) 0 (Int64.toInt32 s0)) (v0 + 1) 1 (Int64.toInt32 (tk_lushr s0 (32 : Int32)))) v0 0 (-1 : Int32), m.2.1, m.2.2.1, m.2.2.2) hv0 ho3) ?_
    replace h := Option.some.inj h
    subst h
    exact tk_RV  rfl rfl rfl
theorem ok_fB_take (sc : tk_X) (t : Nat) (a1 : Int64) (m : tk_m) (ht : tk_lay[t]? = some (.inl 0)) {out : tk_m} (h : fB_take t a1 m = some out) : tk_Ru sc 2 107 [.ref t, .long a1] (tk_full m) (none, tk_full out) := by
  unfold fB_take at h
  refine tk_Ru0 me107 (ls := [(0, .ref t), (1, .long a1)]) rfl rfl ?_
  refine tk_Ps  3 (pc' := 3) (ls' := [(0, .ref t), (1, .long a1)]) (st' := [.int (lg_cmp a1 (0 : Int64))]) rfl ?_
  by_cases hc1 : (0 : Int64) ≤ a1
  · replace h := tk_ifT hc1 h
    refine tk_bT  rfl rfl tk_eL_ge (c := (0 : Int64) ≤ a1) hc1 (pc' := 11) (ls' := [(0, .ref t), (1, .long a1)]) (st' := []) ?_
    refine tk_Ps  1 (pc' := 12) (ls' := [(0, .ref t), (1, .long a1)]) (st' := [.long a1]) rfl ?_
    refine tk_Kp  (ls' := [(0, .ref t), (1, .long a1)]) rfl rfl ?_
    exact ok_fB_take_12 sc t a1 a1 m ht _ h
  · replace h := tk_ifF hc1 h
    refine tk_bF  rfl rfl tk_eL_ge (c := (0 : Int64) ≤ a1) hc1 (pc' := 6) (ls' := [(0, .ref t), (1, .long a1)]) (st' := []) ?_
    refine tk_Ps  3 (pc' := 12) (ls' := [(0, .ref t), (1, .long a1)]) (st' := [.long (-a1)]) rfl ?_
    refine tk_Kp  (ls' := [(0, .ref t), (1, .long a1)]) rfl rfl ?_
    exact ok_fB_take_12 sc t a1 (-a1) m ht _ h
theorem ok_fZ_min_I (sc : tk_X) (a1 : Int32) (a2 : Int32) (m : tk_m) : tk_Ru sc 1 110 [.int a1, .int a2] (tk_full m) (some (.int (fZ_min_I a1 a2)), tk_full m) := by
  obtain ⟨out, h⟩ : ∃ out, fZ_min_I a1 a2 = out := ⟨_, rfl⟩
  rw [h]
  unfold fZ_min_I at h
  refine tk_Ru0 me110 (ls := [(0, .int a1), (1, .int a2)]) rfl rfl ?_
  refine tk_Ps  2 (pc' := 2) (ls' := [(0, .int a1), (1, .int a2)]) (st' := [.int a2, .int a1]) rfl ?_
  by_cases hc1 : a2 < a1
  · replace h := tk_ifT hc1 h
    refine tk_bT  rfl rfl rfl (c := a2 < a1) hc1 (pc' := 9) (ls' := [(0, .int a1), (1, .int a2)]) (st' := []) ?_
    refine tk_Ps  1 (pc' := 10) (ls' := [(0, .int a1), (1, .int a2)]) (st' := [.int a2]) rfl ?_
    subst h
    exact tk_RI  rfl rfl rfl
  · replace h := tk_ifF hc1 h
    refine tk_bF  rfl rfl rfl (c := a2 < a1) hc1 (pc' := 5) (ls' := [(0, .int a1), (1, .int a2)]) (st' := []) ?_
    refine tk_Ps  2 (pc' := 10) (ls' := [(0, .int a1), (1, .int a2)]) (st' := [.int a1]) rfl ?_
    subst h
    exact tk_RI  rfl rfl rfl
theorem ok_fB_limb (sc : tk_X) (t : Nat) (a1 : Int32) (m : tk_m) (ht : tk_lay[t]? = some (.inl 0)) {out : Int64} (h : fB_limb t a1 m = some out) : tk_Ru sc 1 111 [.ref t, .int a1] (tk_full m) (some (.long out), tk_full m) := by
  unfold fB_limb at h
  refine tk_Ru0 me111 (ls := [(0, .ref t), (1, .int a1)]) rfl rfl ?_
  refine tk_Ps  1 (pc' := 1) (ls' := [(0, .ref t), (1, .int a1)]) (st' := [.int a1]) rfl ?_
  by_cases hc1 : a1 < 0
  · replace h := tk_ifT hc1 h
    refine tk_bT  rfl rfl rfl (c := a1 < 0) hc1 (pc' := 26) (ls' := [(0, .ref t), (1, .int a1)]) (st' := []) ?_
    refine tk_Ps  1 (pc' := 27) (ls' := [(0, .ref t), (1, .int a1)]) (st' := [.long (0 : Int64)]) rfl ?_
    replace h := Option.some.inj h
    subst h
    exact tk_RJ  rfl rfl rfl
  · replace h := tk_ifF hc1 h
    refine tk_bF  rfl rfl rfl (c := a1 < 0) hc1 (pc' := 4) (ls' := [(0, .ref t), (1, .int a1)]) (st' := []) ?_
    refine tk_Ps  2 (pc' := 6) (ls' := [(0, .ref t), (1, .int a1)]) (st' := [.ref t, .int a1]) rfl ?_
    refine tk_HI  rfl rfl ht ?_
    by_cases hc2 : (m.1 t 1) ≤ a1
    · replace h := tk_ifT hc2 h
      refine tk_bT  rfl rfl rfl (c := (m.1 t 1) ≤ a1) hc2 (pc' := 26) (ls' := [(0, .ref t), (1, .int a1)]) (st' := []) ?_
      refine tk_Ps  1 (pc' := 27) (ls' := [(0, .ref t), (1, .int a1)]) (st' := [.long (0 : Int64)]) rfl ?_
      replace h := Option.some.inj h
      subst h
      exact tk_RJ  rfl rfl rfl
    · replace h := tk_ifF hc2 h
      refine tk_bF  rfl rfl rfl (c := (m.1 t 1) ≤ a1) hc2 (pc' := 12) (ls' := [(0, .ref t), (1, .int a1)]) (st' := []) ?_
      refine tk_Ps  1 (pc' := 13) (ls' := [(0, .ref t), (1, .int a1)]) (st' := [.ref t]) rfl ?_
      refine tk_HR  rfl rfl ht (ro0_2 ht) ?_
      refine tk_Ps  1 (pc' := 17) (ls' := [(0, .ref t), (1, .int a1)]) (st' := [.int a1, .ref (t + 1)]) rfl ?_
      obtain ⟨hg3, h⟩ := tk_grd h
      refine tk_HIa  rfl rfl (lo0_2 ht) hg3 ?_
      refine tk_Ps  4 (pc' := 27) (ls' := [(0, .ref t), (1, .int a1)]) (st' := [.long ((Int32.toInt64 (m.1 (t + 1) (tk_n a1))) &&& (4294967295 : Int64))]) rfl ?_
      replace h := Option.some.inj h
      subst h
      exact tk_RJ  rfl rfl rfl
theorem ok_fB_takeProduct_140 (sc : tk_X) (v0 : Nat) (v1 : Nat) (v2 : Nat) (v3 : Int32) (m : tk_m) (hv0 : tk_lay[v0]? = some (.inl 0)) (hv1 : tk_lay[v1]? = some (.inl 0)) (hv2 : tk_lay[v2]? = some (.inl 0)) (out : tk_m) (h : fB_takeProduct_140 v0 v1 v2 v3 m = some out) : tk_Ex sc 1 tk_r109 tk_k109 140 [(0, .ref v0), (1, .ref v1), (2, .ref v2), (3, .int v3)] [] (tk_full m) (none, tk_full out) := by
  unfold fB_takeProduct_140 at h
  refine tk_Ps  2 (pc' := 142) (ls' := [(0, .ref v0), (1, .ref v1), (2, .ref v2), (3, .int v3)]) (st' := [.ref v1, .ref v0]) rfl ?_
  refine tk_HI  rfl rfl hv1 ?_
  refine tk_Ps  1 (pc' := 146) (ls' := [(0, .ref v0), (1, .ref v1), (2, .ref v2), (3, .int v3)]) (st' := [.ref v2, .int (m.1 v1 0), .ref v0]) rfl ?_
  refine tk_HI  rfl rfl hv2 ?_
  refine tk_Ps  1 (pc' := 150) (ls' := [(0, .ref v0), (1, .ref v1), (2, .ref v2), (3, .int v3)]) (st' := [.int ((m.1 v1 0) * (m.1 v2 0)), .ref v0]) rfl ?_
  refine tk_SI  rfl rfl hv0 ?_
  refine tk_Ps  2 (pc' := 155) (ls' := [(0, .ref v0), (1, .ref v1), (2, .ref v2), (3, .int v3)]) (st' := [.int v3, .ref v0]) rfl ?_
  obtain ⟨o1, ho1, h⟩ := tk_bnd h
  refine tk_cV0  rfl rfl (r := v0) (as := [.int v3]) (rest := []) rfl hv0 rfl rfl (ok_fB_trim sc v0 v3 (tk_u2 m.1 v0 0 ((m.1 v1 0) * (m.1 v2 0)), m.2.1, m.2.2.1, m.2.2.2) hv0 ho1) ?_
  replace h := Option.some.inj h
  subst h
  exact tk_RV  rfl rfl rfl
theorem ok_fB_takeProduct_56 (sc : tk_X) (r41 : Nat → Nat → Nat → Int32 → Int32 → tk_m → Option tk_m) (H41 : ∀ (v0 : Nat) (v1 : Nat) (v2 : Nat) (v3 : Int32) (v4 : Int32) (m : tk_m) (hv0 : tk_lay[v0]? = some (.inl 0)) (hv1 : tk_lay[v1]? = some (.inl 0)) (hv2 : tk_lay[v2]? = some (.inl 0)) (out : tk_m), r41 v0 v1 v2 v3 v4 m = some out → tk_Ex sc 1 tk_r109 tk_k109 41 [(0, .ref v0), (1, .ref v1), (2, .ref v2), (3, .int v3), (4, .int v4)] [] (tk_full m) (none, tk_full out)) : ∀ (n : Nat) (v0 : Nat) (v1 : Nat) (v2 : Nat) (v3 : Int32) (v4 : Int32) (v5 : Int64) (v7 : Int32) (m : tk_m) (hv0 : tk_lay[v0]? = some (.inl 0)) (hv1 : tk_lay[v1]? = some (.inl 0)) (hv2 : tk_lay[v2]? = some (.inl 0)) (out : tk_m), fB_takeProduct_56 r41 n v0 v1 v2 v3 v4 v5 v7 m = some out → tk_Ex sc 1 tk_r109 tk_k109 56 [(0, .ref v0), (1, .ref v1), (2, .ref v2), (3, .int v3), (4, .int v4), (5, .long v5), (7, .int v7)] [] (tk_full m) (none, tk_full out) := by
  intro n
  induction n with
  | zero =>
    intro v0 v1 v2 v3 v4 v5 v7 m hv0 hv1 hv2 out h
    cases h
  | succ n ih =>
    intro v0 v1 v2 v3 v4 v5 v7 m hv0 hv1 hv2 out h
    unfold fB_takeProduct_56 at h
    refine tk_Ps  2 (pc' := 59) (ls' := [(0, .ref v0), (1, .ref v1), (2, .ref v2), (3, .int v3), (4, .int v4), (5, .long v5), (7, .int v7)]) (st' := [.ref v2, .int v7]) rfl ?_
    refine tk_HI  rfl rfl hv2 ?_
    by_cases hc1 : (m.1 v2 1) < v7
    · replace h := tk_ifT hc1 h
      refine tk_bT  rfl rfl rfl (c := (m.1 v2 1) < v7) hc1 (pc' := 134) (ls' := [(0, .ref v0), (1, .ref v1), (2, .ref v2), (3, .int v3), (4, .int v4), (5, .long v5), (7, .int v7)]) (st' := []) ?_
      refine tk_Ps  2 (pc' := 41) (ls' := [(4, .int (v4 + (1 : Int32))), (0, .ref v0), (1, .ref v1), (2, .ref v2), (3, .int v3), (5, .long v5), (7, .int v7)]) (st' := []) rfl ?_
      refine tk_Kp  (ls' := [(0, .ref v0), (1, .ref v1), (2, .ref v2), (3, .int v3), (4, .int (v4 + (1 : Int32)))]) rfl rfl ?_
      exact H41 v0 v1 v2 v3 (v4 + (1 : Int32)) m hv0 hv1 hv2 _ h
    · replace h := tk_ifF hc1 h
      refine tk_bF  rfl rfl rfl (c := (m.1 v2 1) < v7) hc1 (pc' := 65) (ls' := [(0, .ref v0), (1, .ref v1), (2, .ref v2), (3, .int v3), (4, .int v4), (5, .long v5), (7, .int v7)]) (st' := []) ?_
      refine tk_Ps  4 (pc' := 71) (ls' := [(0, .ref v0), (1, .ref v1), (2, .ref v2), (3, .int v3), (4, .int v4), (5, .long v5), (7, .int v7)]) (st' := [.int v3, .int (v4 + v7)]) rfl ?_
      by_cases hc2 : v3 ≤ (v4 + v7)
      · replace h := tk_ifT hc2 h
        refine tk_bT  rfl rfl rfl (c := v3 ≤ (v4 + v7)) hc2 (pc' := 134) (ls' := [(0, .ref v0), (1, .ref v1), (2, .ref v2), (3, .int v3), (4, .int v4), (5, .long v5), (7, .int v7)]) (st' := []) ?_
        refine tk_Ps  2 (pc' := 41) (ls' := [(4, .int (v4 + (1 : Int32))), (0, .ref v0), (1, .ref v1), (2, .ref v2), (3, .int v3), (5, .long v5), (7, .int v7)]) (st' := []) rfl ?_
        refine tk_Kp  (ls' := [(0, .ref v0), (1, .ref v1), (2, .ref v2), (3, .int v3), (4, .int (v4 + (1 : Int32)))]) rfl rfl ?_
        exact H41 v0 v1 v2 v3 (v4 + (1 : Int32)) m hv0 hv1 hv2 _ h
      · replace h := tk_ifF hc2 h
        refine tk_bF  rfl rfl rfl (c := v3 ≤ (v4 + v7)) hc2 (pc' := 74) (ls' := [(0, .ref v0), (1, .ref v1), (2, .ref v2), (3, .int v3), (4, .int v4), (5, .long v5), (7, .int v7)]) (st' := []) ?_
        refine tk_Ps  3 (pc' := 79) (ls' := [(0, .ref v0), (1, .ref v1), (2, .ref v2), (3, .int v3), (4, .int v4), (5, .long v5), (7, .int v7)]) (st' := [.int v4, .ref v1, .long v5]) rfl ?_
        obtain ⟨o3, ho3, h⟩ := tk_bnd h
        refine tk_cV1  rfl rfl (r := v1) (as := [.int v4]) (rest := [.long v5]) rfl hv1 rfl rfl (ok_fB_limb sc v1 v4 m hv1 ho3) ?_
        refine tk_Ps  2 (pc' := 85) (ls' := [(0, .ref v0), (1, .ref v1), (2, .ref v2), (3, .int v3), (4, .int v4), (5, .long v5), (7, .int v7)]) (st' := [.int v7, .ref v2, .long o3, .long v5]) rfl ?_
        obtain ⟨o4, ho4, h⟩ := tk_bnd h
        refine tk_cV1  rfl rfl (r := v2) (as := [.int v7]) (rest := [.long o3, .long v5]) rfl hv2 rfl rfl (ok_fB_limb sc v2 v7 m hv2 ho4) ?_
        refine tk_Ps  2 (pc' := 90) (ls' := [(0, .ref v0), (1, .ref v1), (2, .ref v2), (3, .int v3), (4, .int v4), (5, .long v5), (7, .int v7)]) (st' := [.ref v0, .long (o3 * o4), .long v5]) rfl ?_
        refine tk_HR  rfl rfl hv0 (ro0_2 hv0) ?_
        refine tk_Ps  3 (pc' := 98) (ls' := [(0, .ref v0), (1, .ref v1), (2, .ref v2), (3, .int v3), (4, .int v4), (5, .long v5), (7, .int v7)]) (st' := [.int (v4 + v7), .ref (v0 + 1), .long (o3 * o4), .long v5]) rfl ?_
        obtain ⟨hg5, h⟩ := tk_grd h
        refine tk_HIa  rfl rfl (lo0_2 hv0) hg5 ?_
        refine tk_Ps  7 (pc' := 109) (ls' := [(5, .long (v5 + ((o3 * o4) + ((Int32.toInt64 (m.1 (v0 + 1) (tk_n (v4 + v7)))) &&& (4294967295 : Int64))))), (0, .ref v0), (1, .ref v1), (2, .ref v2), (3, .int v3), (4, .int v4), (7, .int v7)]) (st' := [.ref v0]) rfl ?_
        refine tk_HR  rfl rfl hv0 (ro0_2 hv0) ?_
        refine tk_Ps  5 (pc' := 120) (ls' := [(5, .long (v5 + ((o3 * o4) + ((Int32.toInt64 (m.1 (v0 + 1) (tk_n (v4 + v7)))) &&& (4294967295 : Int64))))), (0, .ref v0), (1, .ref v1), (2, .ref v2), (3, .int v3), (4, .int v4), (7, .int v7)]) (st' := [.int (Int64.toInt32 (v5 + ((o3 * o4) + ((Int32.toInt64 (m.1 (v0 + 1) (tk_n (v4 + v7)))) &&& (4294967295 : Int64))))), .int (v4 + v7), .ref (v0 + 1)]) rfl ?_
        refine tk_SIa  rfl rfl (lo0_2 hv0) hg5 ?_
        refine tk_Ps  6 (pc' := 56) (ls' := [(7, .int (v7 + (1 : Int32))), (5, .long (tk_lushr (v5 + ((o3 * o4) + ((Int32.toInt64 (m.1 (v0 + 1) (tk_n (v4 + v7)))) &&& (4294967295 : Int64)))) (32 : Int32))), (0, .ref v0), (1, .ref v1), (2, .ref v2), (3, .int v3), (4, .int v4)]) (st' := []) rfl ?_
        refine tk_Kp  (ls' := [(0, .ref v0), (1, .ref v1), (2, .ref v2), (3, .int v3), (4, .int v4), (5, .long (tk_lushr (v5 + ((o3 * o4) + ((Int32.toInt64 (m.1 (v0 + 1) (tk_n (v4 + v7)))) &&& (4294967295 : Int64)))) (32 : Int32))), (7, .int (v7 + (1 : Int32)))]) rfl rfl ?_
        exact ih v0 v1 v2 v3 v4 (tk_lushr (v5 + ((o3 * o4) + ((Int32.toInt64 (m.1 (v0 + 1) (tk_n (v4 + v7)))) &&& (4294967295 : Int64)))) (32 : Int32)) (v7 + (1 : Int32)) (tk_u2 m.1 (v0 + 1) (tk_n (v4 + v7)) (Int64.toInt32 (v5 + ((o3 * o4) + ((Int32.toInt64 (m.1 (v0 + 1) (tk_n (v4 + v7)))) &&& (4294967295 : Int64))))), m.2.1, m.2.2.1, m.2.2.2) hv0 hv1 hv2 _ h
theorem ok_fB_takeProduct_41 (sc : tk_X) : ∀ (n : Nat) (v0 : Nat) (v1 : Nat) (v2 : Nat) (v3 : Int32) (v4 : Int32) (m : tk_m) (hv0 : tk_lay[v0]? = some (.inl 0)) (hv1 : tk_lay[v1]? = some (.inl 0)) (hv2 : tk_lay[v2]? = some (.inl 0)) (out : tk_m), fB_takeProduct_41 n v0 v1 v2 v3 v4 m = some out → tk_Ex sc 1 tk_r109 tk_k109 41 [(0, .ref v0), (1, .ref v1), (2, .ref v2), (3, .int v3), (4, .int v4)] [] (tk_full m) (none, tk_full out) := by
  intro n
  induction n with
  | zero =>
    intro v0 v1 v2 v3 v4 m hv0 hv1 hv2 out h
    cases h
  | succ n ih =>
    intro v0 v1 v2 v3 v4 m hv0 hv1 hv2 out h
    unfold fB_takeProduct_41 at h
    refine tk_Ps  2 (pc' := 44) (ls' := [(0, .ref v0), (1, .ref v1), (2, .ref v2), (3, .int v3), (4, .int v4)]) (st' := [.ref v1, .int v4]) rfl ?_
    refine tk_HI  rfl rfl hv1 ?_
    by_cases hc1 : (m.1 v1 1) ≤ v4
    · replace h := tk_ifT hc1 h
      refine tk_bT  rfl rfl rfl (c := (m.1 v1 1) ≤ v4) hc1 (pc' := 140) (ls' := [(0, .ref v0), (1, .ref v1), (2, .ref v2), (3, .int v3), (4, .int v4)]) (st' := []) ?_
      refine tk_Kp  (ls' := [(0, .ref v0), (1, .ref v1), (2, .ref v2), (3, .int v3)]) rfl rfl ?_
      exact ok_fB_takeProduct_140 sc v0 v1 v2 v3 m hv0 hv1 hv2 _ h
    · replace h := tk_ifF hc1 h
      refine tk_bF  rfl rfl rfl (c := (m.1 v1 1) ≤ v4) hc1 (pc' := 50) (ls' := [(0, .ref v0), (1, .ref v1), (2, .ref v2), (3, .int v3), (4, .int v4)]) (st' := []) ?_
      refine tk_Ps  4 (pc' := 56) (ls' := [(7, .int (0 : Int32)), (5, .long (0 : Int64)), (0, .ref v0), (1, .ref v1), (2, .ref v2), (3, .int v3), (4, .int v4)]) (st' := []) rfl ?_
      refine tk_Kp  (ls' := [(0, .ref v0), (1, .ref v1), (2, .ref v2), (3, .int v3), (4, .int v4), (5, .long (0 : Int64)), (7, .int (0 : Int32))]) rfl rfl ?_
      exact ok_fB_takeProduct_56 sc (fB_takeProduct_41 n) ih tk_F v0 v1 v2 v3 v4 (0 : Int64) (0 : Int32) m hv0 hv1 hv2 _ h
theorem ok_fB_takeProduct_18 (sc : tk_X) : ∀ (n : Nat) (v0 : Nat) (v1 : Nat) (v2 : Nat) (v3 : Int32) (v4 : Int32) (m : tk_m) (hv0 : tk_lay[v0]? = some (.inl 0)) (hv1 : tk_lay[v1]? = some (.inl 0)) (hv2 : tk_lay[v2]? = some (.inl 0)) (out : tk_m), fB_takeProduct_18 n v0 v1 v2 v3 v4 m = some out → tk_Ex sc 1 tk_r109 tk_k109 18 [(0, .ref v0), (1, .ref v1), (2, .ref v2), (3, .int v3), (4, .int v4)] [] (tk_full m) (none, tk_full out) := by
  intro n
  induction n with
  | zero =>
    intro v0 v1 v2 v3 v4 m hv0 hv1 hv2 out h
    cases h
  | succ n ih =>
    intro v0 v1 v2 v3 v4 m hv0 hv1 hv2 out h
    unfold fB_takeProduct_18 at h
    refine tk_Ps  2 (pc' := 21) (ls' := [(0, .ref v0), (1, .ref v1), (2, .ref v2), (3, .int v3), (4, .int v4)]) (st' := [.int v3, .int v4]) rfl ?_
    by_cases hc1 : v3 ≤ v4
    · replace h := tk_ifT hc1 h
      refine tk_bT  rfl rfl rfl (c := v3 ≤ v4) hc1 (pc' := 38) (ls' := [(0, .ref v0), (1, .ref v1), (2, .ref v2), (3, .int v3), (4, .int v4)]) (st' := []) ?_
      refine tk_Ps  2 (pc' := 41) (ls' := [(4, .int (0 : Int32)), (0, .ref v0), (1, .ref v1), (2, .ref v2), (3, .int v3)]) (st' := []) rfl ?_
      refine tk_Kp  (ls' := [(0, .ref v0), (1, .ref v1), (2, .ref v2), (3, .int v3), (4, .int (0 : Int32))]) rfl rfl ?_
      exact ok_fB_takeProduct_41 sc tk_F v0 v1 v2 v3 (0 : Int32) m hv0 hv1 hv2 _ h
    · replace h := tk_ifF hc1 h
      refine tk_bF  rfl rfl rfl (c := v3 ≤ v4) hc1 (pc' := 24) (ls' := [(0, .ref v0), (1, .ref v1), (2, .ref v2), (3, .int v3), (4, .int v4)]) (st' := []) ?_
      refine tk_Ps  1 (pc' := 25) (ls' := [(0, .ref v0), (1, .ref v1), (2, .ref v2), (3, .int v3), (4, .int v4)]) (st' := [.ref v0]) rfl ?_
      refine tk_HR  rfl rfl hv0 (ro0_2 hv0) ?_
      refine tk_Ps  2 (pc' := 31) (ls' := [(0, .ref v0), (1, .ref v1), (2, .ref v2), (3, .int v3), (4, .int v4)]) (st' := [.int (0 : Int32), .int v4, .ref (v0 + 1)]) rfl ?_
      obtain ⟨hg2, h⟩ := tk_grd h
      refine tk_SIa  rfl rfl (lo0_2 hv0) hg2 ?_
      refine tk_Ps  2 (pc' := 18) (ls' := [(4, .int (v4 + (1 : Int32))), (0, .ref v0), (1, .ref v1), (2, .ref v2), (3, .int v3)]) (st' := []) rfl ?_
      refine tk_Kp  (ls' := [(0, .ref v0), (1, .ref v1), (2, .ref v2), (3, .int v3), (4, .int (v4 + (1 : Int32)))]) rfl rfl ?_
      exact ih v0 v1 v2 v3 (v4 + (1 : Int32)) (tk_u2 m.1 (v0 + 1) (tk_n v4) (0 : Int32), m.2.1, m.2.2.1, m.2.2.2) hv0 hv1 hv2 _ h
theorem ok_fB_takeProduct (sc : tk_X) (t : Nat) (a1 : Nat) (a2 : Nat) (m : tk_m) (ht : tk_lay[t]? = some (.inl 0)) (ha1 : tk_lay[a1]? = some (.inl 0)) (ha2 : tk_lay[a2]? = some (.inl 0)) {out : tk_m} (h : fB_takeProduct t a1 a2 m = some out) : tk_Ru sc 2 109 [.ref t, .ref a1, .ref a2] (tk_full m) (none, tk_full out) := by
  unfold fB_takeProduct at h
  refine tk_Ru0 me109 (ls := [(0, .ref t), (1, .ref a1), (2, .ref a2)]) rfl rfl ?_
  refine tk_Ps  1 (pc' := 1) (ls' := [(0, .ref t), (1, .ref a1), (2, .ref a2)]) (st' := [.ref a1]) rfl ?_
  refine tk_HI  rfl rfl ha1 ?_
  refine tk_Ps  1 (pc' := 5) (ls' := [(0, .ref t), (1, .ref a1), (2, .ref a2)]) (st' := [.ref a2, .int (m.1 a1 1)]) rfl ?_
  refine tk_HI  rfl rfl ha2 ?_
  refine tk_Ps  2 (pc' := 11) (ls' := [(0, .ref t), (1, .ref a1), (2, .ref a2)]) (st' := [.int (24 : Int32), .int ((m.1 a1 1) + (m.1 a2 1))]) rfl ?_
  refine tk_cS1  rfl rfl (as := [.int ((m.1 a1 1) + (m.1 a2 1)), .int (24 : Int32)]) (rest := []) rfl rfl rfl (ok_fZ_min_I sc ((m.1 a1 1) + (m.1 a2 1)) (24 : Int32) m) ?_
  refine tk_Ps  3 (pc' := 18) (ls' := [(4, .int (0 : Int32)), (3, .int (fZ_min_I ((m.1 a1 1) + (m.1 a2 1)) (24 : Int32))), (0, .ref t), (1, .ref a1), (2, .ref a2)]) (st' := []) rfl ?_
  refine tk_Kp  (ls' := [(0, .ref t), (1, .ref a1), (2, .ref a2), (3, .int (fZ_min_I ((m.1 a1 1) + (m.1 a2 1)) (24 : Int32))), (4, .int (0 : Int32))]) rfl rfl ?_
  exact ok_fB_takeProduct_18 sc tk_F t a1 a2 (fZ_min_I ((m.1 a1 1) + (m.1 a2 1)) (24 : Int32)) (0 : Int32) m ht ha1 ha2 _ h
theorem ok_fJ_takeProduct (sc : tk_X) (a1 : Nat) (a2 : Int64) (a3 : Int64) (m : tk_m) (ha1 : tk_lay[a1]? = some (.inl 0)) {out : tk_m} (h : fJ_takeProduct a1 a2 a3 m = some out) : tk_Ru sc 3 106 [.ref 13, .ref a1, .long a2, .long a3] (tk_full m) (none, tk_full out) := by
  unfold fJ_takeProduct at h
  refine tk_Ru0 me106 (ls := [(0, .ref 13), (1, .ref a1), (2, .long a2), (4, .long a3)]) rfl rfl ?_
  refine tk_Ps  1 (pc' := 1) (ls' := [(0, .ref 13), (1, .ref a1), (2, .long a2), (4, .long a3)]) (st' := [.ref 13]) rfl ?_
  refine tk_HR  rfl rfl ly13 rt13_7 ?_
  refine tk_Ps  1 (pc' := 5) (ls' := [(0, .ref 13), (1, .ref a1), (2, .long a2), (4, .long a3)]) (st' := [.long a2, .ref 28]) rfl ?_
  obtain ⟨o1, ho1, h⟩ := tk_bnd h
  refine tk_cV0  rfl rfl (r := 28) (as := [.long a2]) (rest := []) rfl ly28 rfl rfl (ok_fB_take sc 28 a2 m ly28 ho1) ?_
  refine tk_Ps  1 (pc' := 9) (ls' := [(0, .ref 13), (1, .ref a1), (2, .long a2), (4, .long a3)]) (st' := [.ref 13]) rfl ?_
  refine tk_HR  rfl rfl ly13 rt13_8 ?_
  refine tk_Ps  1 (pc' := 14) (ls' := [(0, .ref 13), (1, .ref a1), (2, .long a2), (4, .long a3)]) (st' := [.long a3, .ref 30]) rfl ?_
  obtain ⟨o2, ho2, h⟩ := tk_bnd h
  refine tk_cV0  rfl rfl (r := 30) (as := [.long a3]) (rest := []) rfl ly30 rfl rfl (ok_fB_take sc 30 a3 o1 ly30 ho2) ?_
  refine tk_Ps  2 (pc' := 19) (ls' := [(0, .ref 13), (1, .ref a1), (2, .long a2), (4, .long a3)]) (st' := [.ref 13, .ref a1]) rfl ?_
  refine tk_HR  rfl rfl ly13 rt13_7 ?_
  refine tk_Ps  1 (pc' := 23) (ls' := [(0, .ref 13), (1, .ref a1), (2, .long a2), (4, .long a3)]) (st' := [.ref 13, .ref 28, .ref a1]) rfl ?_
  refine tk_HR  rfl rfl ly13 rt13_8 ?_
  obtain ⟨o3, ho3, h⟩ := tk_bnd h
  refine tk_cV0  rfl rfl (r := a1) (as := [.ref 28, .ref 30]) (rest := []) rfl ha1 rfl rfl (ok_fB_takeProduct sc a1 28 30 o2 ha1 ly28 ly30 ho3) ?_
  replace h := Option.some.inj h
  subst h
  exact tk_RV  rfl rfl rfl
theorem ok_fJ_takeProductq (sc : tk_X) (a1 : Nat) (a2 : Int64) (a3 : Int64) (m : tk_m) (ha1 : tk_lay[a1]? = some (.inl 0)) {out : tk_m} (h : fJ_takeProductq a1 a2 a3 m = some out) : tk_Ru sc 3 106 [.ref 40, .ref a1, .long a2, .long a3] (tk_full m) (none, tk_full out) := by
  unfold fJ_takeProductq at h
  refine tk_Ru0 me106 (ls := [(0, .ref 40), (1, .ref a1), (2, .long a2), (4, .long a3)]) rfl rfl ?_
  refine tk_Ps  1 (pc' := 1) (ls' := [(0, .ref 40), (1, .ref a1), (2, .long a2), (4, .long a3)]) (st' := [.ref 40]) rfl ?_
  refine tk_HR  rfl rfl ly40 rt40_7 ?_
  refine tk_Ps  1 (pc' := 5) (ls' := [(0, .ref 40), (1, .ref a1), (2, .long a2), (4, .long a3)]) (st' := [.long a2, .ref 55]) rfl ?_
  obtain ⟨o1, ho1, h⟩ := tk_bnd h
  refine tk_cV0  rfl rfl (r := 55) (as := [.long a2]) (rest := []) rfl ly55 rfl rfl (ok_fB_take sc 55 a2 m ly55 ho1) ?_
  refine tk_Ps  1 (pc' := 9) (ls' := [(0, .ref 40), (1, .ref a1), (2, .long a2), (4, .long a3)]) (st' := [.ref 40]) rfl ?_
  refine tk_HR  rfl rfl ly40 rt40_8 ?_
  refine tk_Ps  1 (pc' := 14) (ls' := [(0, .ref 40), (1, .ref a1), (2, .long a2), (4, .long a3)]) (st' := [.long a3, .ref 57]) rfl ?_
  obtain ⟨o2, ho2, h⟩ := tk_bnd h
  refine tk_cV0  rfl rfl (r := 57) (as := [.long a3]) (rest := []) rfl ly57 rfl rfl (ok_fB_take sc 57 a3 o1 ly57 ho2) ?_
  refine tk_Ps  2 (pc' := 19) (ls' := [(0, .ref 40), (1, .ref a1), (2, .long a2), (4, .long a3)]) (st' := [.ref 40, .ref a1]) rfl ?_
  refine tk_HR  rfl rfl ly40 rt40_7 ?_
  refine tk_Ps  1 (pc' := 23) (ls' := [(0, .ref 40), (1, .ref a1), (2, .long a2), (4, .long a3)]) (st' := [.ref 40, .ref 55, .ref a1]) rfl ?_
  refine tk_HR  rfl rfl ly40 rt40_8 ?_
  obtain ⟨o3, ho3, h⟩ := tk_bnd h
  refine tk_cV0  rfl rfl (r := a1) (as := [.ref 55, .ref 57]) (rest := []) rfl ha1 rfl rfl (ok_fB_takeProduct sc a1 55 57 o2 ha1 ly55 ly57 ho3) ?_
  replace h := Option.some.inj h
  subst h
  exact tk_RV  rfl rfl rfl
theorem ok_fZ_max_I (sc : tk_X) (a1 : Int32) (a2 : Int32) (m : tk_m) : tk_Ru sc 1 114 [.int a1, .int a2] (tk_full m) (some (.int (fZ_max_I a1 a2)), tk_full m) := by
  obtain ⟨out, h⟩ : ∃ out, fZ_max_I a1 a2 = out := ⟨_, rfl⟩
  rw [h]
  unfold fZ_max_I at h
  refine tk_Ru0 me114 (ls := [(0, .int a1), (1, .int a2)]) rfl rfl ?_
  refine tk_Ps  2 (pc' := 2) (ls' := [(0, .int a1), (1, .int a2)]) (st' := [.int a2, .int a1]) rfl ?_
  by_cases hc1 : a1 < a2
  · replace h := tk_ifT hc1 h
    refine tk_bT  rfl rfl rfl (c := a1 < a2) hc1 (pc' := 9) (ls' := [(0, .int a1), (1, .int a2)]) (st' := []) ?_
    refine tk_Ps  1 (pc' := 10) (ls' := [(0, .int a1), (1, .int a2)]) (st' := [.int a2]) rfl ?_
    subst h
    exact tk_RI  rfl rfl rfl
  · replace h := tk_ifF hc1 h
    refine tk_bF  rfl rfl rfl (c := a1 < a2) hc1 (pc' := 5) (ls' := [(0, .int a1), (1, .int a2)]) (st' := []) ?_
    refine tk_Ps  2 (pc' := 10) (ls' := [(0, .int a1), (1, .int a2)]) (st' := [.int a1]) rfl ?_
    subst h
    exact tk_RI  rfl rfl rfl
theorem ok_fB_addLimbs_25 (sc : tk_X) : ∀ (n : Nat) (v0 : Nat) (v1 : Nat) (v2 : Nat) (v3 : Int32) (v4 : Int64) (v6 : Int32) (m : tk_m) (hv0 : tk_lay[v0]? = some (.inl 0)) (hv1 : tk_lay[v1]? = some (.inl 0)) (hv2 : tk_lay[v2]? = some (.inl 0)) (out : tk_m), fB_addLimbs_25 n v0 v1 v2 v3 v4 v6 m = some out → tk_Ex sc 1 tk_r113 tk_k113 25 [(0, .ref v0), (1, .ref v1), (2, .ref v2), (3, .int v3), (4, .long v4), (6, .int v6)] [] (tk_full m) (none, tk_full out) := by
  intro n
  induction n with
  | zero =>
    intro v0 v1 v2 v3 v4 v6 m hv0 hv1 hv2 out h
    cases h
  | succ n ih =>
    intro v0 v1 v2 v3 v4 v6 m hv0 hv1 hv2 out h
    unfold fB_addLimbs_25 at h
    refine tk_Ps  2 (pc' := 28) (ls' := [(0, .ref v0), (1, .ref v1), (2, .ref v2), (3, .int v3), (4, .long v4), (6, .int v6)]) (st' := [.int v3, .int v6]) rfl ?_
    by_cases hc1 : v3 ≤ v6
    · replace h := tk_ifT hc1 h
      refine tk_bT  rfl rfl rfl (c := v3 ≤ v6) hc1 (pc' := 72) (ls' := [(0, .ref v0), (1, .ref v1), (2, .ref v2), (3, .int v3), (4, .long v4), (6, .int v6)]) (st' := []) ?_
      refine tk_Ps  2 (pc' := 74) (ls' := [(0, .ref v0), (1, .ref v1), (2, .ref v2), (3, .int v3), (4, .long v4), (6, .int v6)]) (st' := [.int v3, .ref v0]) rfl ?_
      obtain ⟨o2, ho2, h⟩ := tk_bnd h
      refine tk_cV0  rfl rfl (r := v0) (as := [.int v3]) (rest := []) rfl hv0 rfl rfl (ok_fB_trim sc v0 v3 m hv0 ho2) ?_
      replace h := Option.some.inj h
      subst h
      exact tk_RV  rfl rfl rfl
    · replace h := tk_ifF hc1 h
      refine tk_bF  rfl rfl rfl (c := v3 ≤ v6) hc1 (pc' := 31) (ls' := [(0, .ref v0), (1, .ref v1), (2, .ref v2), (3, .int v3), (4, .long v4), (6, .int v6)]) (st' := []) ?_
      refine tk_Ps  3 (pc' := 36) (ls' := [(0, .ref v0), (1, .ref v1), (2, .ref v2), (3, .int v3), (4, .long v4), (6, .int v6)]) (st' := [.int v6, .ref v1, .long v4]) rfl ?_
      obtain ⟨o3, ho3, h⟩ := tk_bnd h
      refine tk_cV1  rfl rfl (r := v1) (as := [.int v6]) (rest := [.long v4]) rfl hv1 rfl rfl (ok_fB_limb sc v1 v6 m hv1 ho3) ?_
      refine tk_Ps  2 (pc' := 42) (ls' := [(0, .ref v0), (1, .ref v1), (2, .ref v2), (3, .int v3), (4, .long v4), (6, .int v6)]) (st' := [.int v6, .ref v2, .long o3, .long v4]) rfl ?_
      obtain ⟨o4, ho4, h⟩ := tk_bnd h
      refine tk_cV1  rfl rfl (r := v2) (as := [.int v6]) (rest := [.long o3, .long v4]) rfl hv2 rfl rfl (ok_fB_limb sc v2 v6 m hv2 ho4) ?_
      refine tk_Ps  4 (pc' := 50) (ls' := [(4, .long (v4 + (o3 + o4))), (0, .ref v0), (1, .ref v1), (2, .ref v2), (3, .int v3), (6, .int v6)]) (st' := [.ref v0]) rfl ?_
      refine tk_HR  rfl rfl hv0 (ro0_2 hv0) ?_
      refine tk_Ps  3 (pc' := 58) (ls' := [(4, .long (v4 + (o3 + o4))), (0, .ref v0), (1, .ref v1), (2, .ref v2), (3, .int v3), (6, .int v6)]) (st' := [.int (Int64.toInt32 (v4 + (o3 + o4))), .int v6, .ref (v0 + 1)]) rfl ?_
      obtain ⟨hg5, h⟩ := tk_grd h
      refine tk_SIa  rfl rfl (lo0_2 hv0) hg5 ?_
      refine tk_Ps  6 (pc' := 25) (ls' := [(6, .int (v6 + (1 : Int32))), (4, .long (tk_lushr (v4 + (o3 + o4)) (32 : Int32))), (0, .ref v0), (1, .ref v1), (2, .ref v2), (3, .int v3)]) (st' := []) rfl ?_
      refine tk_Kp  (ls' := [(0, .ref v0), (1, .ref v1), (2, .ref v2), (3, .int v3), (4, .long (tk_lushr (v4 + (o3 + o4)) (32 : Int32))), (6, .int (v6 + (1 : Int32)))]) rfl rfl ?_
      exact ih v0 v1 v2 v3 (tk_lushr (v4 + (o3 + o4)) (32 : Int32)) (v6 + (1 : Int32)) (tk_u2 m.1 (v0 + 1) (tk_n v6) (Int64.toInt32 (v4 + (o3 + o4))), m.2.1, m.2.2.1, m.2.2.2) hv0 hv1 hv2 _ h
theorem ok_fB_addLimbs (sc : tk_X) (t : Nat) (a1 : Nat) (a2 : Nat) (m : tk_m) (ht : tk_lay[t]? = some (.inl 0)) (ha1 : tk_lay[a1]? = some (.inl 0)) (ha2 : tk_lay[a2]? = some (.inl 0)) {out : tk_m} (h : fB_addLimbs t a1 a2 m = some out) : tk_Ru sc 2 113 [.ref t, .ref a1, .ref a2] (tk_full m) (none, tk_full out) := by
  unfold fB_addLimbs at h
  refine tk_Ru0 me113 (ls := [(0, .ref t), (1, .ref a1), (2, .ref a2)]) rfl rfl ?_
  refine tk_Ps  1 (pc' := 1) (ls' := [(0, .ref t), (1, .ref a1), (2, .ref a2)]) (st' := [.ref a1]) rfl ?_
  refine tk_HI  rfl rfl ha1 ?_
  refine tk_Ps  1 (pc' := 5) (ls' := [(0, .ref t), (1, .ref a1), (2, .ref a2)]) (st' := [.ref a2, .int (m.1 a1 1)]) rfl ?_
  refine tk_HI  rfl rfl ha2 ?_
  refine tk_cS1  rfl rfl (as := [.int (m.1 a1 1), .int (m.1 a2 1)]) (rest := []) rfl rfl rfl (ok_fZ_max_I sc (m.1 a1 1) (m.1 a2 1) m) ?_
  refine tk_Ps  3 (pc' := 15) (ls' := [(0, .ref t), (1, .ref a1), (2, .ref a2)]) (st' := [.int (24 : Int32), .int ((fZ_max_I (m.1 a1 1) (m.1 a2 1)) + (1 : Int32))]) rfl ?_
  refine tk_cS1  rfl rfl (as := [.int ((fZ_max_I (m.1 a1 1) (m.1 a2 1)) + (1 : Int32)), .int (24 : Int32)]) (rest := []) rfl rfl rfl (ok_fZ_min_I sc ((fZ_max_I (m.1 a1 1) (m.1 a2 1)) + (1 : Int32)) (24 : Int32) m) ?_
  refine tk_Ps  5 (pc' := 25) (ls' := [(6, .int (0 : Int32)), (4, .long (0 : Int64)), (3, .int (fZ_min_I ((fZ_max_I (m.1 a1 1) (m.1 a2 1)) + (1 : Int32)) (24 : Int32))), (0, .ref t), (1, .ref a1), (2, .ref a2)]) (st' := []) rfl ?_
  refine tk_Kp  (ls' := [(0, .ref t), (1, .ref a1), (2, .ref a2), (3, .int (fZ_min_I ((fZ_max_I (m.1 a1 1) (m.1 a2 1)) + (1 : Int32)) (24 : Int32))), (4, .long (0 : Int64)), (6, .int (0 : Int32))]) rfl rfl ?_
  exact ok_fB_addLimbs_25 sc tk_F t a1 a2 (fZ_min_I ((fZ_max_I (m.1 a1 1) (m.1 a2 1)) + (1 : Int32)) (24 : Int32)) (0 : Int64) (0 : Int32) m ht ha1 ha2 _ h
theorem ok_fB_sizeAgainst_14 (sc : tk_X) : ∀ (n : Nat) (v0 : Nat) (v1 : Nat) (v2 : Int32) (m : tk_m) (hv0 : tk_lay[v0]? = some (.inl 0)) (hv1 : tk_lay[v1]? = some (.inl 0)) (out : Int32), fB_sizeAgainst_14 n v0 v1 v2 m = some out → tk_Ex sc 1 tk_r115 tk_k115 14 [(0, .ref v0), (1, .ref v1), (2, .int v2)] [] (tk_full m) (some (.int out), tk_full m) := by
  intro n
  induction n with
  | zero =>
    intro v0 v1 v2 m hv0 hv1 out h
    cases h
  | succ n ih =>
    intro v0 v1 v2 m hv0 hv1 out h
    unfold fB_sizeAgainst_14 at h
    refine tk_Ps  1 (pc' := 15) (ls' := [(0, .ref v0), (1, .ref v1), (2, .int v2)]) (st' := [.int v2]) rfl ?_
    by_cases hc1 : v2 < 0
    · replace h := tk_ifT hc1 h
      refine tk_bT  rfl rfl rfl (c := v2 < 0) hc1 (pc' := 44) (ls' := [(0, .ref v0), (1, .ref v1), (2, .int v2)]) (st' := []) ?_
      refine tk_Ps  1 (pc' := 45) (ls' := [(0, .ref v0), (1, .ref v1), (2, .int v2)]) (st' := [.int (0 : Int32)]) rfl ?_
      replace h := Option.some.inj h
      subst h
      exact tk_RI  rfl rfl rfl
    · replace h := tk_ifF hc1 h
      refine tk_bF  rfl rfl rfl (c := v2 < 0) hc1 (pc' := 18) (ls' := [(0, .ref v0), (1, .ref v1), (2, .int v2)]) (st' := []) ?_
      refine tk_Ps  2 (pc' := 20) (ls' := [(0, .ref v0), (1, .ref v1), (2, .int v2)]) (st' := [.int v2, .ref v0]) rfl ?_
      obtain ⟨o2, ho2, h⟩ := tk_bnd h
      refine tk_cV1  rfl rfl (r := v0) (as := [.int v2]) (rest := []) rfl hv0 rfl rfl (ok_fB_limb sc v0 v2 m hv0 ho2) ?_
      refine tk_Ps  2 (pc' := 25) (ls' := [(0, .ref v0), (1, .ref v1), (2, .int v2)]) (st' := [.int v2, .ref v1, .long o2]) rfl ?_
      obtain ⟨o3, ho3, h⟩ := tk_bnd h
      refine tk_cV1  rfl rfl (r := v1) (as := [.int v2]) (rest := [.long o2]) rfl hv1 rfl rfl (ok_fB_limb sc v1 v2 m hv1 ho3) ?_
      refine tk_cS1  rfl rfl (as := [.long o2, .long o3]) (rest := []) rfl rfl rfl (ok_fZ_compare_J sc o2 o3 m) ?_
      refine tk_Ps  2 (pc' := 33) (ls' := [(3, .int (fZ_compare_J o2 o3)), (0, .ref v0), (1, .ref v1), (2, .int v2)]) (st' := [.int (fZ_compare_J o2 o3)]) rfl ?_
      by_cases hc4 : (fZ_compare_J o2 o3) = 0
      · replace h := tk_ifT hc4 h
        refine tk_bT  rfl rfl rfl (c := (fZ_compare_J o2 o3) = 0) hc4 (pc' := 38) (ls' := [(3, .int (fZ_compare_J o2 o3)), (0, .ref v0), (1, .ref v1), (2, .int v2)]) (st' := []) ?_
        refine tk_Ps  2 (pc' := 14) (ls' := [(2, .int (v2 + (-1 : Int32))), (3, .int (fZ_compare_J o2 o3)), (0, .ref v0), (1, .ref v1)]) (st' := []) rfl ?_
        refine tk_Kp  (ls' := [(0, .ref v0), (1, .ref v1), (2, .int (v2 + (-1 : Int32)))]) rfl rfl ?_
        exact ih v0 v1 (v2 + (-1 : Int32)) m hv0 hv1 _ h
      · replace h := tk_ifF hc4 h
        refine tk_bF  rfl rfl rfl (c := (fZ_compare_J o2 o3) = 0) hc4 (pc' := 36) (ls' := [(3, .int (fZ_compare_J o2 o3)), (0, .ref v0), (1, .ref v1), (2, .int v2)]) (st' := []) ?_
        refine tk_Ps  1 (pc' := 37) (ls' := [(3, .int (fZ_compare_J o2 o3)), (0, .ref v0), (1, .ref v1), (2, .int v2)]) (st' := [.int (fZ_compare_J o2 o3)]) rfl ?_
        replace h := Option.some.inj h
        subst h
        exact tk_RI  rfl rfl rfl
theorem ok_fB_sizeAgainst (sc : tk_X) (t : Nat) (a1 : Nat) (m : tk_m) (ht : tk_lay[t]? = some (.inl 0)) (ha1 : tk_lay[a1]? = some (.inl 0)) {out : Int32} (h : fB_sizeAgainst t a1 m = some out) : tk_Ru sc 2 115 [.ref t, .ref a1] (tk_full m) (some (.int out), tk_full m) := by
  unfold fB_sizeAgainst at h
  refine tk_Ru0 me115 (ls := [(0, .ref t), (1, .ref a1)]) rfl rfl ?_
  refine tk_Ps  1 (pc' := 1) (ls' := [(0, .ref t), (1, .ref a1)]) (st' := [.ref t]) rfl ?_
  refine tk_HI  rfl rfl ht ?_
  refine tk_Ps  1 (pc' := 5) (ls' := [(0, .ref t), (1, .ref a1)]) (st' := [.ref a1, .int (m.1 t 1)]) rfl ?_
  refine tk_HI  rfl rfl ha1 ?_
  refine tk_cS1  rfl rfl (as := [.int (m.1 t 1), .int (m.1 a1 1)]) (rest := []) rfl rfl rfl (ok_fZ_max_I sc (m.1 t 1) (m.1 a1 1) m) ?_
  refine tk_Ps  3 (pc' := 14) (ls' := [(2, .int ((fZ_max_I (m.1 t 1) (m.1 a1 1)) - (1 : Int32))), (0, .ref t), (1, .ref a1)]) (st' := []) rfl ?_
  refine tk_Kp  (ls' := [(0, .ref t), (1, .ref a1), (2, .int ((fZ_max_I (m.1 t 1) (m.1 a1 1)) - (1 : Int32)))]) rfl rfl ?_
  exact ok_fB_sizeAgainst_14 sc tk_F t a1 ((fZ_max_I (m.1 t 1) (m.1 a1 1)) - (1 : Int32)) m ht ha1 _ h
theorem ok_fB_subtractLimbs_11 (sc : tk_X) : ∀ (n : Nat) (v0 : Nat) (v1 : Nat) (v2 : Nat) (v3 : Int32) (v4 : Int64) (v6 : Int32) (m : tk_m) (hv0 : tk_lay[v0]? = some (.inl 0)) (hv1 : tk_lay[v1]? = some (.inl 0)) (hv2 : tk_lay[v2]? = some (.inl 0)) (out : tk_m), fB_subtractLimbs_11 n v0 v1 v2 v3 v4 v6 m = some out → tk_Ex sc 1 tk_r116 tk_k116 11 [(0, .ref v0), (1, .ref v1), (2, .ref v2), (3, .int v3), (4, .long v4), (6, .int v6)] [] (tk_full m) (none, tk_full out) := by
  intro n
  induction n with
  | zero =>
    intro v0 v1 v2 v3 v4 v6 m hv0 hv1 hv2 out h
    cases h
  | succ n ih =>
    intro v0 v1 v2 v3 v4 v6 m hv0 hv1 hv2 out h
    unfold fB_subtractLimbs_11 at h
    refine tk_Ps  2 (pc' := 14) (ls' := [(0, .ref v0), (1, .ref v1), (2, .ref v2), (3, .int v3), (4, .long v4), (6, .int v6)]) (st' := [.int v3, .int v6]) rfl ?_
    by_cases hc1 : v3 ≤ v6
    · replace h := tk_ifT hc1 h
      refine tk_bT  rfl rfl rfl (c := v3 ≤ v6) hc1 (pc' := 65) (ls' := [(0, .ref v0), (1, .ref v1), (2, .ref v2), (3, .int v3), (4, .long v4), (6, .int v6)]) (st' := []) ?_
      refine tk_Ps  2 (pc' := 67) (ls' := [(0, .ref v0), (1, .ref v1), (2, .ref v2), (3, .int v3), (4, .long v4), (6, .int v6)]) (st' := [.int v3, .ref v0]) rfl ?_
      obtain ⟨o2, ho2, h⟩ := tk_bnd h
      refine tk_cV0  rfl rfl (r := v0) (as := [.int v3]) (rest := []) rfl hv0 rfl rfl (ok_fB_trim sc v0 v3 m hv0 ho2) ?_
      replace h := Option.some.inj h
      subst h
      exact tk_RV  rfl rfl rfl
    · replace h := tk_ifF hc1 h
      refine tk_bF  rfl rfl rfl (c := v3 ≤ v6) hc1 (pc' := 17) (ls' := [(0, .ref v0), (1, .ref v1), (2, .ref v2), (3, .int v3), (4, .long v4), (6, .int v6)]) (st' := []) ?_
      refine tk_Ps  2 (pc' := 20) (ls' := [(0, .ref v0), (1, .ref v1), (2, .ref v2), (3, .int v3), (4, .long v4), (6, .int v6)]) (st' := [.int v6, .ref v1]) rfl ?_
      obtain ⟨o3, ho3, h⟩ := tk_bnd h
      refine tk_cV1  rfl rfl (r := v1) (as := [.int v6]) (rest := []) rfl hv1 rfl rfl (ok_fB_limb sc v1 v6 m hv1 ho3) ?_
      refine tk_Ps  2 (pc' := 26) (ls' := [(0, .ref v0), (1, .ref v1), (2, .ref v2), (3, .int v3), (4, .long v4), (6, .int v6)]) (st' := [.int v6, .ref v2, .long o3]) rfl ?_
      obtain ⟨o4, ho4, h⟩ := tk_bnd h
      refine tk_cV1  rfl rfl (r := v2) (as := [.int v6]) (rest := [.long o3]) rfl hv2 rfl rfl (ok_fB_limb sc v2 v6 m hv2 ho4) ?_
      refine tk_Ps  5 (pc' := 36) (ls' := [(7, .long ((o3 - o4) - v4)), (0, .ref v0), (1, .ref v1), (2, .ref v2), (3, .int v3), (4, .long v4), (6, .int v6)]) (st' := [.ref v0]) rfl ?_
      refine tk_HR  rfl rfl hv0 (ro0_2 hv0) ?_
      refine tk_Ps  3 (pc' := 44) (ls' := [(7, .long ((o3 - o4) - v4)), (0, .ref v0), (1, .ref v1), (2, .ref v2), (3, .int v3), (4, .long v4), (6, .int v6)]) (st' := [.int (Int64.toInt32 ((o3 - o4) - v4)), .int v6, .ref (v0 + 1)]) rfl ?_
      obtain ⟨hg5, h⟩ := tk_grd h
      refine tk_SIa  rfl rfl (lo0_2 hv0) hg5 ?_
      refine tk_Ps  3 (pc' := 49) (ls' := [(7, .long ((o3 - o4) - v4)), (0, .ref v0), (1, .ref v1), (2, .ref v2), (3, .int v3), (4, .long v4), (6, .int v6)]) (st' := [.int (lg_cmp ((o3 - o4) - v4) (0 : Int64))]) rfl ?_
      by_cases hc6 : (0 : Int64) ≤ ((o3 - o4) - v4)
      · replace h := tk_ifT hc6 h
        refine tk_bT  rfl rfl tk_eL_ge (c := (0 : Int64) ≤ ((o3 - o4) - v4)) hc6 (pc' := 56) (ls' := [(7, .long ((o3 - o4) - v4)), (0, .ref v0), (1, .ref v1), (2, .ref v2), (3, .int v3), (4, .long v4), (6, .int v6)]) (st' := []) ?_
        refine tk_Ps  4 (pc' := 11) (ls' := [(6, .int (v6 + (1 : Int32))), (4, .long (0 : Int64)), (7, .long ((o3 - o4) - v4)), (0, .ref v0), (1, .ref v1), (2, .ref v2), (3, .int v3)]) (st' := []) rfl ?_
        refine tk_Kp  (ls' := [(0, .ref v0), (1, .ref v1), (2, .ref v2), (3, .int v3), (4, .long (0 : Int64)), (6, .int (v6 + (1 : Int32)))]) rfl rfl ?_
        exact ih v0 v1 v2 v3 (0 : Int64) (v6 + (1 : Int32)) (tk_u2 m.1 (v0 + 1) (tk_n v6) (Int64.toInt32 ((o3 - o4) - v4)), m.2.1, m.2.2.1, m.2.2.2) hv0 hv1 hv2 _ h
      · replace h := tk_ifF hc6 h
        refine tk_bF  rfl rfl tk_eL_ge (c := (0 : Int64) ≤ ((o3 - o4) - v4)) hc6 (pc' := 52) (ls' := [(7, .long ((o3 - o4) - v4)), (0, .ref v0), (1, .ref v1), (2, .ref v2), (3, .int v3), (4, .long v4), (6, .int v6)]) (st' := []) ?_
        refine tk_Ps  5 (pc' := 11) (ls' := [(6, .int (v6 + (1 : Int32))), (4, .long (1 : Int64)), (7, .long ((o3 - o4) - v4)), (0, .ref v0), (1, .ref v1), (2, .ref v2), (3, .int v3)]) (st' := []) rfl ?_
        refine tk_Kp  (ls' := [(0, .ref v0), (1, .ref v1), (2, .ref v2), (3, .int v3), (4, .long (1 : Int64)), (6, .int (v6 + (1 : Int32)))]) rfl rfl ?_
        exact ih v0 v1 v2 v3 (1 : Int64) (v6 + (1 : Int32)) (tk_u2 m.1 (v0 + 1) (tk_n v6) (Int64.toInt32 ((o3 - o4) - v4)), m.2.1, m.2.2.1, m.2.2.2) hv0 hv1 hv2 _ h
theorem ok_fB_subtractLimbs (sc : tk_X) (t : Nat) (a1 : Nat) (a2 : Nat) (m : tk_m) (ht : tk_lay[t]? = some (.inl 0)) (ha1 : tk_lay[a1]? = some (.inl 0)) (ha2 : tk_lay[a2]? = some (.inl 0)) {out : tk_m} (h : fB_subtractLimbs t a1 a2 m = some out) : tk_Ru sc 2 116 [.ref t, .ref a1, .ref a2] (tk_full m) (none, tk_full out) := by
  unfold fB_subtractLimbs at h
  refine tk_Ru0 me116 (ls := [(0, .ref t), (1, .ref a1), (2, .ref a2)]) rfl rfl ?_
  refine tk_Ps  1 (pc' := 1) (ls' := [(0, .ref t), (1, .ref a1), (2, .ref a2)]) (st' := [.ref a1]) rfl ?_
  refine tk_HI  rfl rfl ha1 ?_
  refine tk_Ps  5 (pc' := 11) (ls' := [(6, .int (0 : Int32)), (4, .long (0 : Int64)), (3, .int (m.1 a1 1)), (0, .ref t), (1, .ref a1), (2, .ref a2)]) (st' := []) rfl ?_
  refine tk_Kp  (ls' := [(0, .ref t), (1, .ref a1), (2, .ref a2), (3, .int (m.1 a1 1)), (4, .long (0 : Int64)), (6, .int (0 : Int32))]) rfl rfl ?_
  exact ok_fB_subtractLimbs_11 sc tk_F t a1 a2 (m.1 a1 1) (0 : Int64) (0 : Int32) m ht ha1 ha2 _ h
theorem ok_fB_takeSum (sc : tk_X) (t : Nat) (a1 : Nat) (a2 : Int32) (a3 : Nat) (m : tk_m) (ht : tk_lay[t]? = some (.inl 0)) (ha1 : tk_lay[a1]? = some (.inl 0)) (ha3 : tk_lay[a3]? = some (.inl 0)) {out : tk_m} (h : fB_takeSum t a1 a2 a3 m = some out) : tk_Ru sc 3 112 [.ref t, .ref a1, .int a2, .ref a3] (tk_full m) (none, tk_full out) := by
  unfold fB_takeSum at h
  refine tk_Ru0 me112 (ls := [(0, .ref t), (1, .ref a1), (2, .int a2), (3, .ref a3)]) rfl rfl ?_
  refine tk_Ps  1 (pc' := 1) (ls' := [(0, .ref t), (1, .ref a1), (2, .int a2), (3, .ref a3)]) (st' := [.ref a1]) rfl ?_
  refine tk_HI  rfl rfl ha1 ?_
  refine tk_Ps  3 (pc' := 8) (ls' := [(4, .int (m.1 a1 0)), (0, .ref t), (1, .ref a1), (2, .int a2), (3, .ref a3)]) (st' := [.ref a3, .int a2]) rfl ?_
  refine tk_HI  rfl rfl ha3 ?_
  refine tk_Ps  5 (pc' := 19) (ls' := [(5, .int (a2 * (m.1 a3 0))), (4, .int (m.1 a1 0)), (0, .ref t), (1, .ref a1), (2, .int a2), (3, .ref a3)]) (st' := [.int ((m.1 a1 0) * (a2 * (m.1 a3 0)))]) rfl ?_
  by_cases hc1 : ((m.1 a1 0) * (a2 * (m.1 a3 0))) < 0
  · replace h := tk_ifT hc1 h
    refine tk_bT  rfl rfl rfl (c := ((m.1 a1 0) * (a2 * (m.1 a3 0))) < 0) hc1 (pc' := 47) (ls' := [(5, .int (a2 * (m.1 a3 0))), (4, .int (m.1 a1 0)), (0, .ref t), (1, .ref a1), (2, .int a2), (3, .ref a3)]) (st' := []) ?_
    refine tk_Ps  2 (pc' := 49) (ls' := [(5, .int (a2 * (m.1 a3 0))), (4, .int (m.1 a1 0)), (0, .ref t), (1, .ref a1), (2, .int a2), (3, .ref a3)]) (st' := [.ref a3, .ref a1]) rfl ?_
    obtain ⟨o2, ho2, h⟩ := tk_bnd h
    refine tk_cV1  rfl rfl (r := a1) (as := [.ref a3]) (rest := []) rfl ha1 rfl rfl (ok_fB_sizeAgainst sc a1 a3 m ha1 ha3 ho2) ?_
    by_cases hc3 : o2 < 0
    · replace h := tk_ifT hc3 h
      refine tk_bT  rfl rfl rfl (c := o2 < 0) hc3 (pc' := 70) (ls' := [(5, .int (a2 * (m.1 a3 0))), (4, .int (m.1 a1 0)), (0, .ref t), (1, .ref a1), (2, .int a2), (3, .ref a3)]) (st' := []) ?_
      refine tk_Ps  2 (pc' := 73) (ls' := [(5, .int (a2 * (m.1 a3 0))), (4, .int (m.1 a1 0)), (0, .ref t), (1, .ref a1), (2, .int a2), (3, .ref a3)]) (st' := [.int (a2 * (m.1 a3 0)), .ref t]) rfl ?_
      refine tk_SI  rfl rfl ht ?_
      refine tk_Ps  3 (pc' := 79) (ls' := [(5, .int (a2 * (m.1 a3 0))), (4, .int (m.1 a1 0)), (0, .ref t), (1, .ref a1), (2, .int a2), (3, .ref a3)]) (st' := [.ref a1, .ref a3, .ref t]) rfl ?_
      obtain ⟨o4, ho4, h⟩ := tk_bnd h
      refine tk_cV0  rfl rfl (r := t) (as := [.ref a3, .ref a1]) (rest := []) rfl ht rfl rfl (ok_fB_subtractLimbs sc t a3 a1 (tk_u2 m.1 t 0 (a2 * (m.1 a3 0)), m.2.1, m.2.2.1, m.2.2.2) ht ha3 ha1 ho4) ?_
      replace h := Option.some.inj h
      subst h
      exact tk_RV  rfl rfl rfl
    · replace h := tk_ifF hc3 h
      refine tk_bF  rfl rfl rfl (c := o2 < 0) hc3 (pc' := 55) (ls' := [(5, .int (a2 * (m.1 a3 0))), (4, .int (m.1 a1 0)), (0, .ref t), (1, .ref a1), (2, .int a2), (3, .ref a3)]) (st' := []) ?_
      refine tk_Ps  2 (pc' := 58) (ls' := [(5, .int (a2 * (m.1 a3 0))), (4, .int (m.1 a1 0)), (0, .ref t), (1, .ref a1), (2, .int a2), (3, .ref a3)]) (st' := [.int (m.1 a1 0), .ref t]) rfl ?_
      refine tk_SI  rfl rfl ht ?_
      refine tk_Ps  3 (pc' := 64) (ls' := [(5, .int (a2 * (m.1 a3 0))), (4, .int (m.1 a1 0)), (0, .ref t), (1, .ref a1), (2, .int a2), (3, .ref a3)]) (st' := [.ref a3, .ref a1, .ref t]) rfl ?_
      obtain ⟨o5, ho5, h⟩ := tk_bnd h
      refine tk_cV0  rfl rfl (r := t) (as := [.ref a1, .ref a3]) (rest := []) rfl ht rfl rfl (ok_fB_subtractLimbs sc t a1 a3 (tk_u2 m.1 t 0 (m.1 a1 0), m.2.1, m.2.2.1, m.2.2.2) ht ha1 ha3 ho5) ?_
      refine tk_Ps  1 (pc' := 82) (ls' := [(5, .int (a2 * (m.1 a3 0))), (4, .int (m.1 a1 0)), (0, .ref t), (1, .ref a1), (2, .int a2), (3, .ref a3)]) (st' := []) rfl ?_
      replace h := Option.some.inj h
      subst h
      exact tk_RV  rfl rfl rfl
  · replace h := tk_ifF hc1 h
    refine tk_bF  rfl rfl rfl (c := ((m.1 a1 0) * (a2 * (m.1 a3 0))) < 0) hc1 (pc' := 22) (ls' := [(5, .int (a2 * (m.1 a3 0))), (4, .int (m.1 a1 0)), (0, .ref t), (1, .ref a1), (2, .int a2), (3, .ref a3)]) (st' := []) ?_
    refine tk_Ps  2 (pc' := 25) (ls' := [(5, .int (a2 * (m.1 a3 0))), (4, .int (m.1 a1 0)), (0, .ref t), (1, .ref a1), (2, .int a2), (3, .ref a3)]) (st' := [.int (m.1 a1 0), .ref t]) rfl ?_
    by_cases hc6 : (m.1 a1 0) = 0
    · replace h := tk_ifT hc6 h
      refine tk_bT  rfl rfl rfl (c := (m.1 a1 0) = 0) hc6 (pc' := 33) (ls' := [(5, .int (a2 * (m.1 a3 0))), (4, .int (m.1 a1 0)), (0, .ref t), (1, .ref a1), (2, .int a2), (3, .ref a3)]) (st' := [.ref t]) ?_
      refine tk_Ps  1 (pc' := 35) (ls' := [(5, .int (a2 * (m.1 a3 0))), (4, .int (m.1 a1 0)), (0, .ref t), (1, .ref a1), (2, .int a2), (3, .ref a3)]) (st' := [.int (a2 * (m.1 a3 0)), .ref t]) rfl ?_
      refine tk_SI  rfl rfl ht ?_
      refine tk_Ps  3 (pc' := 41) (ls' := [(5, .int (a2 * (m.1 a3 0))), (4, .int (m.1 a1 0)), (0, .ref t), (1, .ref a1), (2, .int a2), (3, .ref a3)]) (st' := [.ref a3, .ref a1, .ref t]) rfl ?_
      obtain ⟨o7, ho7, h⟩ := tk_bnd h
      refine tk_cV0  rfl rfl (r := t) (as := [.ref a1, .ref a3]) (rest := []) rfl ht rfl rfl (ok_fB_addLimbs sc t a1 a3 (tk_u2 m.1 t 0 (a2 * (m.1 a3 0)), m.2.1, m.2.2.1, m.2.2.2) ht ha1 ha3 ho7) ?_
      refine tk_Ps  1 (pc' := 82) (ls' := [(5, .int (a2 * (m.1 a3 0))), (4, .int (m.1 a1 0)), (0, .ref t), (1, .ref a1), (2, .int a2), (3, .ref a3)]) (st' := []) rfl ?_
      replace h := Option.some.inj h
      subst h
      exact tk_RV  rfl rfl rfl
    · replace h := tk_ifF hc6 h
      refine tk_bF  rfl rfl rfl (c := (m.1 a1 0) = 0) hc6 (pc' := 28) (ls' := [(5, .int (a2 * (m.1 a3 0))), (4, .int (m.1 a1 0)), (0, .ref t), (1, .ref a1), (2, .int a2), (3, .ref a3)]) (st' := [.ref t]) ?_
      refine tk_Ps  2 (pc' := 35) (ls' := [(5, .int (a2 * (m.1 a3 0))), (4, .int (m.1 a1 0)), (0, .ref t), (1, .ref a1), (2, .int a2), (3, .ref a3)]) (st' := [.int (m.1 a1 0), .ref t]) rfl ?_
      refine tk_SI  rfl rfl ht ?_
      refine tk_Ps  3 (pc' := 41) (ls' := [(5, .int (a2 * (m.1 a3 0))), (4, .int (m.1 a1 0)), (0, .ref t), (1, .ref a1), (2, .int a2), (3, .ref a3)]) (st' := [.ref a3, .ref a1, .ref t]) rfl ?_
      obtain ⟨o8, ho8, h⟩ := tk_bnd h
      refine tk_cV0  rfl rfl (r := t) (as := [.ref a1, .ref a3]) (rest := []) rfl ht rfl rfl (ok_fB_addLimbs sc t a1 a3 (tk_u2 m.1 t 0 (m.1 a1 0), m.2.1, m.2.2.1, m.2.2.2) ht ha1 ha3 ho8) ?_
      refine tk_Ps  1 (pc' := 82) (ls' := [(5, .int (a2 * (m.1 a3 0))), (4, .int (m.1 a1 0)), (0, .ref t), (1, .ref a1), (2, .int a2), (3, .ref a3)]) (st' := []) rfl ?_
      replace h := Option.some.inj h
      subst h
      exact tk_RV  rfl rfl rfl
theorem ok_fJ_takeSquare (sc : tk_X) (a1 : Nat) (a2 : Nat) (a3 : Int64) (m : tk_m) (ha1 : tk_lay[a1]? = some (.inl 0)) (ha2 : tk_lay[a2]? = some (.inl 0)) {out : tk_m} (h : fJ_takeSquare a1 a2 a3 m = some out) : tk_Ru sc 3 117 [.ref 13, .ref a1, .ref a2, .long a3] (tk_full m) (none, tk_full out) := by
  unfold fJ_takeSquare at h
  refine tk_Ru0 me117 (ls := [(0, .ref 13), (1, .ref a1), (2, .ref a2), (3, .long a3)]) rfl rfl ?_
  refine tk_Ps  1 (pc' := 1) (ls' := [(0, .ref 13), (1, .ref a1), (2, .ref a2), (3, .long a3)]) (st' := [.ref 13]) rfl ?_
  refine tk_HR  rfl rfl ly13 rt13_7 ?_
  refine tk_Ps  2 (pc' := 6) (ls' := [(0, .ref 13), (1, .ref a1), (2, .ref a2), (3, .long a3)]) (st' := [.ref a2, .ref a2, .ref 28]) rfl ?_
  obtain ⟨o1, ho1, h⟩ := tk_bnd h
  refine tk_cV0  rfl rfl (r := 28) (as := [.ref a2, .ref a2]) (rest := []) rfl ly28 rfl rfl (ok_fB_takeProduct sc 28 a2 a2 m ly28 ha2 ha2 ho1) ?_
  refine tk_Ps  1 (pc' := 10) (ls' := [(0, .ref 13), (1, .ref a1), (2, .ref a2), (3, .long a3)]) (st' := [.ref 13]) rfl ?_
  refine tk_HR  rfl rfl ly13 rt13_8 ?_
  refine tk_Ps  1 (pc' := 14) (ls' := [(0, .ref 13), (1, .ref a1), (2, .ref a2), (3, .long a3)]) (st' := [.long a3, .ref 30]) rfl ?_
  obtain ⟨o2, ho2, h⟩ := tk_bnd h
  refine tk_cV0  rfl rfl (r := 30) (as := [.long a3]) (rest := []) rfl ly30 rfl rfl (ok_fB_take sc 30 a3 o1 ly30 ho2) ?_
  refine tk_Ps  2 (pc' := 19) (ls' := [(0, .ref 13), (1, .ref a1), (2, .ref a2), (3, .long a3)]) (st' := [.ref 13, .ref a1]) rfl ?_
  refine tk_HR  rfl rfl ly13 rt13_7 ?_
  refine tk_Ps  1 (pc' := 23) (ls' := [(0, .ref 13), (1, .ref a1), (2, .ref a2), (3, .long a3)]) (st' := [.ref 13, .ref 28, .ref a1]) rfl ?_
  refine tk_HR  rfl rfl ly13 rt13_8 ?_
  obtain ⟨o3, ho3, h⟩ := tk_bnd h
  refine tk_cV0  rfl rfl (r := a1) (as := [.ref 28, .ref 30]) (rest := []) rfl ha1 rfl rfl (ok_fB_takeProduct sc a1 28 30 o2 ha1 ly28 ly30 ho3) ?_
  replace h := Option.some.inj h
  subst h
  exact tk_RV  rfl rfl rfl
theorem ok_fJ_takeSquareq (sc : tk_X) (a1 : Nat) (a2 : Nat) (a3 : Int64) (m : tk_m) (ha1 : tk_lay[a1]? = some (.inl 0)) (ha2 : tk_lay[a2]? = some (.inl 0)) {out : tk_m} (h : fJ_takeSquareq a1 a2 a3 m = some out) : tk_Ru sc 3 117 [.ref 40, .ref a1, .ref a2, .long a3] (tk_full m) (none, tk_full out) := by
  unfold fJ_takeSquareq at h
  refine tk_Ru0 me117 (ls := [(0, .ref 40), (1, .ref a1), (2, .ref a2), (3, .long a3)]) rfl rfl ?_
  refine tk_Ps  1 (pc' := 1) (ls' := [(0, .ref 40), (1, .ref a1), (2, .ref a2), (3, .long a3)]) (st' := [.ref 40]) rfl ?_
  refine tk_HR  rfl rfl ly40 rt40_7 ?_
  refine tk_Ps  2 (pc' := 6) (ls' := [(0, .ref 40), (1, .ref a1), (2, .ref a2), (3, .long a3)]) (st' := [.ref a2, .ref a2, .ref 55]) rfl ?_
  obtain ⟨o1, ho1, h⟩ := tk_bnd h
  refine tk_cV0  rfl rfl (r := 55) (as := [.ref a2, .ref a2]) (rest := []) rfl ly55 rfl rfl (ok_fB_takeProduct sc 55 a2 a2 m ly55 ha2 ha2 ho1) ?_
  refine tk_Ps  1 (pc' := 10) (ls' := [(0, .ref 40), (1, .ref a1), (2, .ref a2), (3, .long a3)]) (st' := [.ref 40]) rfl ?_
  refine tk_HR  rfl rfl ly40 rt40_8 ?_
  refine tk_Ps  1 (pc' := 14) (ls' := [(0, .ref 40), (1, .ref a1), (2, .ref a2), (3, .long a3)]) (st' := [.long a3, .ref 57]) rfl ?_
  obtain ⟨o2, ho2, h⟩ := tk_bnd h
  refine tk_cV0  rfl rfl (r := 57) (as := [.long a3]) (rest := []) rfl ly57 rfl rfl (ok_fB_take sc 57 a3 o1 ly57 ho2) ?_
  refine tk_Ps  2 (pc' := 19) (ls' := [(0, .ref 40), (1, .ref a1), (2, .ref a2), (3, .long a3)]) (st' := [.ref 40, .ref a1]) rfl ?_
  refine tk_HR  rfl rfl ly40 rt40_7 ?_
  refine tk_Ps  1 (pc' := 23) (ls' := [(0, .ref 40), (1, .ref a1), (2, .ref a2), (3, .long a3)]) (st' := [.ref 40, .ref 55, .ref a1]) rfl ?_
  refine tk_HR  rfl rfl ly40 rt40_8 ?_
  obtain ⟨o3, ho3, h⟩ := tk_bnd h
  refine tk_cV0  rfl rfl (r := a1) (as := [.ref 55, .ref 57]) (rest := []) rfl ha1 rfl rfl (ok_fB_takeProduct sc a1 55 57 o2 ha1 ly55 ly57 ho3) ?_
  replace h := Option.some.inj h
  subst h
  exact tk_RV  rfl rfl rfl
theorem ok_fJ_signOfRoots (sc : tk_X) (m : tk_m) {out : Int32} (h : fJ_signOfRoots m = some out) : tk_Ru sc 3 118 [.ref 13] (tk_full m) (some (.int out), tk_full m) := by
  unfold fJ_signOfRoots at h
  refine tk_Ru0 me118 (ls := [(0, .ref 13)]) rfl rfl ?_
  refine tk_Ps  1 (pc' := 1) (ls' := [(0, .ref 13)]) (st' := [.ref 13]) rfl ?_
  refine tk_HR  rfl rfl ly13 rt13_2 ?_
  refine tk_HI  rfl rfl ly18 ?_
  refine tk_Ps  1 (pc' := 8) (ls' := [(0, .ref 13)]) (st' := [.ref 13, .int (m.1 18 0)]) rfl ?_
  refine tk_HR  rfl rfl ly13 rt13_3 ?_
  refine tk_HI  rfl rfl ly20 ?_
  refine tk_Ps  1 (pc' := 15) (ls' := [(0, .ref 13)]) (st' := [.int ((m.1 18 0) * (m.1 20 0))]) rfl ?_
  by_cases hc1 : ((m.1 18 0) * (m.1 20 0)) < 0
  · replace h := tk_ifT hc1 h
    refine tk_bT  rfl rfl rfl (c := ((m.1 18 0) * (m.1 20 0)) < 0) hc1 (pc' := 46) (ls' := [(0, .ref 13)]) (st' := []) ?_
    refine tk_Ps  1 (pc' := 47) (ls' := [(0, .ref 13)]) (st' := [.ref 13]) rfl ?_
    refine tk_HR  rfl rfl ly13 rt13_2 ?_
    refine tk_HI  rfl rfl ly18 ?_
    refine tk_Ps  1 (pc' := 54) (ls' := [(0, .ref 13)]) (st' := [.ref 13, .int (m.1 18 0)]) rfl ?_
    refine tk_HR  rfl rfl ly13 rt13_4 ?_
    refine tk_Ps  1 (pc' := 58) (ls' := [(0, .ref 13)]) (st' := [.ref 13, .ref 22, .int (m.1 18 0)]) rfl ?_
    refine tk_HR  rfl rfl ly13 rt13_5 ?_
    obtain ⟨o2, ho2, h⟩ := tk_bnd h
    refine tk_cV1  rfl rfl (r := 22) (as := [.ref 24]) (rest := [.int (m.1 18 0)]) rfl ly22 rfl rfl (ok_fB_sizeAgainst sc 22 24 m ly22 ly24 ho2) ?_
    refine tk_Ps  1 (pc' := 65) (ls' := [(0, .ref 13)]) (st' := [.int ((m.1 18 0) * o2)]) rfl ?_
    replace h := Option.some.inj h
    subst h
    exact tk_RI  rfl rfl rfl
  · replace h := tk_ifF hc1 h
    refine tk_bF  rfl rfl rfl (c := ((m.1 18 0) * (m.1 20 0)) < 0) hc1 (pc' := 18) (ls' := [(0, .ref 13)]) (st' := []) ?_
    refine tk_Ps  1 (pc' := 19) (ls' := [(0, .ref 13)]) (st' := [.ref 13]) rfl ?_
    refine tk_HR  rfl rfl ly13 rt13_2 ?_
    refine tk_HI  rfl rfl ly18 ?_
    by_cases hc3 : (m.1 18 0) = 0
    · replace h := tk_ifT hc3 h
      refine tk_bT  rfl rfl rfl (c := (m.1 18 0) = 0) hc3 (pc' := 38) (ls' := [(0, .ref 13)]) (st' := []) ?_
      refine tk_Ps  1 (pc' := 39) (ls' := [(0, .ref 13)]) (st' := [.ref 13]) rfl ?_
      refine tk_HR  rfl rfl ly13 rt13_3 ?_
      refine tk_HI  rfl rfl ly20 ?_
      replace h := Option.some.inj h
      subst h
      exact tk_RI  rfl rfl rfl
    · replace h := tk_ifF hc3 h
      refine tk_bF  rfl rfl rfl (c := (m.1 18 0) = 0) hc3 (pc' := 28) (ls' := [(0, .ref 13)]) (st' := []) ?_
      refine tk_Ps  1 (pc' := 29) (ls' := [(0, .ref 13)]) (st' := [.ref 13]) rfl ?_
      refine tk_HR  rfl rfl ly13 rt13_2 ?_
      refine tk_HI  rfl rfl ly18 ?_
      refine tk_Ps  1 (pc' := 45) (ls' := [(0, .ref 13)]) (st' := [.int (m.1 18 0)]) rfl ?_
      replace h := Option.some.inj h
      subst h
      exact tk_RI  rfl rfl rfl
theorem ok_fJ_signOfRootsq (sc : tk_X) (m : tk_m) {out : Int32} (h : fJ_signOfRootsq m = some out) : tk_Ru sc 3 118 [.ref 40] (tk_full m) (some (.int out), tk_full m) := by
  unfold fJ_signOfRootsq at h
  refine tk_Ru0 me118 (ls := [(0, .ref 40)]) rfl rfl ?_
  refine tk_Ps  1 (pc' := 1) (ls' := [(0, .ref 40)]) (st' := [.ref 40]) rfl ?_
  refine tk_HR  rfl rfl ly40 rt40_2 ?_
  refine tk_HI  rfl rfl ly45 ?_
  refine tk_Ps  1 (pc' := 8) (ls' := [(0, .ref 40)]) (st' := [.ref 40, .int (m.1 45 0)]) rfl ?_
  refine tk_HR  rfl rfl ly40 rt40_3 ?_
  refine tk_HI  rfl rfl ly47 ?_
  refine tk_Ps  1 (pc' := 15) (ls' := [(0, .ref 40)]) (st' := [.int ((m.1 45 0) * (m.1 47 0))]) rfl ?_
  by_cases hc1 : ((m.1 45 0) * (m.1 47 0)) < 0
  · replace h := tk_ifT hc1 h
    refine tk_bT  rfl rfl rfl (c := ((m.1 45 0) * (m.1 47 0)) < 0) hc1 (pc' := 46) (ls' := [(0, .ref 40)]) (st' := []) ?_
    refine tk_Ps  1 (pc' := 47) (ls' := [(0, .ref 40)]) (st' := [.ref 40]) rfl ?_
    refine tk_HR  rfl rfl ly40 rt40_2 ?_
    refine tk_HI  rfl rfl ly45 ?_
    refine tk_Ps  1 (pc' := 54) (ls' := [(0, .ref 40)]) (st' := [.ref 40, .int (m.1 45 0)]) rfl ?_
    refine tk_HR  rfl rfl ly40 rt40_4 ?_
    refine tk_Ps  1 (pc' := 58) (ls' := [(0, .ref 40)]) (st' := [.ref 40, .ref 49, .int (m.1 45 0)]) rfl ?_
    refine tk_HR  rfl rfl ly40 rt40_5 ?_
    obtain ⟨o2, ho2, h⟩ := tk_bnd h
    refine tk_cV1  rfl rfl (r := 49) (as := [.ref 51]) (rest := [.int (m.1 45 0)]) rfl ly49 rfl rfl (ok_fB_sizeAgainst sc 49 51 m ly49 ly51 ho2) ?_
    refine tk_Ps  1 (pc' := 65) (ls' := [(0, .ref 40)]) (st' := [.int ((m.1 45 0) * o2)]) rfl ?_
    replace h := Option.some.inj h
    subst h
    exact tk_RI  rfl rfl rfl
  · replace h := tk_ifF hc1 h
    refine tk_bF  rfl rfl rfl (c := ((m.1 45 0) * (m.1 47 0)) < 0) hc1 (pc' := 18) (ls' := [(0, .ref 40)]) (st' := []) ?_
    refine tk_Ps  1 (pc' := 19) (ls' := [(0, .ref 40)]) (st' := [.ref 40]) rfl ?_
    refine tk_HR  rfl rfl ly40 rt40_2 ?_
    refine tk_HI  rfl rfl ly45 ?_
    by_cases hc3 : (m.1 45 0) = 0
    · replace h := tk_ifT hc3 h
      refine tk_bT  rfl rfl rfl (c := (m.1 45 0) = 0) hc3 (pc' := 38) (ls' := [(0, .ref 40)]) (st' := []) ?_
      refine tk_Ps  1 (pc' := 39) (ls' := [(0, .ref 40)]) (st' := [.ref 40]) rfl ?_
      refine tk_HR  rfl rfl ly40 rt40_3 ?_
      refine tk_HI  rfl rfl ly47 ?_
      replace h := Option.some.inj h
      subst h
      exact tk_RI  rfl rfl rfl
    · replace h := tk_ifF hc3 h
      refine tk_bF  rfl rfl rfl (c := (m.1 45 0) = 0) hc3 (pc' := 28) (ls' := [(0, .ref 40)]) (st' := []) ?_
      refine tk_Ps  1 (pc' := 29) (ls' := [(0, .ref 40)]) (st' := [.ref 40]) rfl ?_
      refine tk_HR  rfl rfl ly40 rt40_2 ?_
      refine tk_HI  rfl rfl ly45 ?_
      refine tk_Ps  1 (pc' := 45) (ls' := [(0, .ref 40)]) (st' := [.int (m.1 45 0)]) rfl ?_
      replace h := Option.some.inj h
      subst h
      exact tk_RI  rfl rfl rfl
theorem ok_fJ_wholeAgainstRoots (sc : tk_X) (m : tk_m) {out : Int32 × tk_m} (h : fJ_wholeAgainstRoots m = some out) : tk_Ru sc 4 119 [.ref 13] (tk_full m) (some (.int out.1), tk_full out.2) := by
  unfold fJ_wholeAgainstRoots at h
  refine tk_Ru0 me119 (ls := [(0, .ref 13)]) rfl rfl ?_
  refine tk_Ps  1 (pc' := 1) (ls' := [(0, .ref 13)]) (st' := [.ref 13]) rfl ?_
  refine tk_HR  rfl rfl ly13 rt13_7 ?_
  refine tk_Ps  1 (pc' := 5) (ls' := [(0, .ref 13)]) (st' := [.ref 13, .ref 28]) rfl ?_
  refine tk_HR  rfl rfl ly13 rt13_1 ?_
  refine tk_Ps  1 (pc' := 9) (ls' := [(0, .ref 13)]) (st' := [.ref 13, .ref 16, .ref 28]) rfl ?_
  refine tk_HR  rfl rfl ly13 rt13_1 ?_
  obtain ⟨o1, ho1, h⟩ := tk_bnd h
  refine tk_cV0  rfl rfl (r := 28) (as := [.ref 16, .ref 16]) (rest := []) rfl ly28 rfl rfl (ok_fB_takeProduct sc 28 16 16 m ly28 ly16 ly16 ho1) ?_
  refine tk_Ps  1 (pc' := 16) (ls' := [(0, .ref 13)]) (st' := [.ref 13]) rfl ?_
  refine tk_HR  rfl rfl ly13 rt13_6 ?_
  refine tk_Ps  1 (pc' := 20) (ls' := [(0, .ref 13)]) (st' := [.ref 13, .ref 26]) rfl ?_
  refine tk_HR  rfl rfl ly13 rt13_7 ?_
  refine tk_Ps  2 (pc' := 25) (ls' := [(0, .ref 13)]) (st' := [.ref 13, .int (-1 : Int32), .ref 28, .ref 26]) rfl ?_
  refine tk_HR  rfl rfl ly13 rt13_4 ?_
  obtain ⟨o2, ho2, h⟩ := tk_bnd h
  refine tk_cV0  rfl rfl (r := 26) (as := [.ref 28, .int (-1 : Int32), .ref 22]) (rest := []) rfl ly26 rfl rfl (ok_fB_takeSum sc 26 28 (-1 : Int32) 22 o1 ly26 ly28 ly22 ho2) ?_
  refine tk_Ps  1 (pc' := 32) (ls' := [(0, .ref 13)]) (st' := [.ref 13]) rfl ?_
  refine tk_HR  rfl rfl ly13 rt13_6 ?_
  refine tk_Ps  1 (pc' := 36) (ls' := [(0, .ref 13)]) (st' := [.ref 13, .ref 26]) rfl ?_
  refine tk_HR  rfl rfl ly13 rt13_6 ?_
  refine tk_Ps  2 (pc' := 41) (ls' := [(0, .ref 13)]) (st' := [.ref 13, .int (-1 : Int32), .ref 26, .ref 26]) rfl ?_
  refine tk_HR  rfl rfl ly13 rt13_5 ?_
  obtain ⟨o3, ho3, h⟩ := tk_bnd h
  refine tk_cV0  rfl rfl (r := 26) (as := [.ref 26, .int (-1 : Int32), .ref 24]) (rest := []) rfl ly26 rfl rfl (ok_fB_takeSum sc 26 26 (-1 : Int32) 24 o2 ly26 ly26 ly24 ho3) ?_
  refine tk_Ps  1 (pc' := 48) (ls' := [(0, .ref 13)]) (st' := [.ref 13]) rfl ?_
  refine tk_HR  rfl rfl ly13 rt13_2 ?_
  refine tk_HI  rfl rfl ly18 ?_
  refine tk_Ps  1 (pc' := 55) (ls' := [(0, .ref 13)]) (st' := [.ref 13, .int (o3.1 18 0)]) rfl ?_
  refine tk_HR  rfl rfl ly13 rt13_3 ?_
  refine tk_HI  rfl rfl ly20 ?_
  refine tk_Ps  3 (pc' := 64) (ls' := [(1, .int ((o3.1 18 0) * (o3.1 20 0))), (0, .ref 13)]) (st' := [.ref 13]) rfl ?_
  refine tk_HR  rfl rfl ly13 rt13_6 ?_
  refine tk_HI  rfl rfl ly26 ?_
  refine tk_Ps  1 (pc' := 71) (ls' := [(1, .int ((o3.1 18 0) * (o3.1 20 0))), (0, .ref 13)]) (st' := [.int ((o3.1 18 0) * (o3.1 20 0)), .int (o3.1 26 0)]) rfl ?_
  by_cases hc4 : (o3.1 26 0) = ((o3.1 18 0) * (o3.1 20 0))
  · replace h := tk_ifT hc4 h
    refine tk_bT  rfl rfl rfl (c := (o3.1 26 0) = ((o3.1 18 0) * (o3.1 20 0))) hc4 (pc' := 86) (ls' := [(1, .int ((o3.1 18 0) * (o3.1 20 0))), (0, .ref 13)]) (st' := []) ?_
    refine tk_Ps  1 (pc' := 87) (ls' := [(1, .int ((o3.1 18 0) * (o3.1 20 0))), (0, .ref 13)]) (st' := [.ref 13]) rfl ?_
    refine tk_HR  rfl rfl ly13 rt13_7 ?_
    refine tk_Ps  1 (pc' := 91) (ls' := [(1, .int ((o3.1 18 0) * (o3.1 20 0))), (0, .ref 13)]) (st' := [.ref 13, .ref 28]) rfl ?_
    refine tk_HR  rfl rfl ly13 rt13_6 ?_
    refine tk_Ps  1 (pc' := 95) (ls' := [(1, .int ((o3.1 18 0) * (o3.1 20 0))), (0, .ref 13)]) (st' := [.ref 13, .ref 26, .ref 28]) rfl ?_
    refine tk_HR  rfl rfl ly13 rt13_6 ?_
    obtain ⟨o5, ho5, h⟩ := tk_bnd h
    refine tk_cV0  rfl rfl (r := 28) (as := [.ref 26, .ref 26]) (rest := []) rfl ly28 rfl rfl (ok_fB_takeProduct sc 28 26 26 o3 ly28 ly26 ly26 ho5) ?_
    refine tk_Ps  1 (pc' := 102) (ls' := [(1, .int ((o3.1 18 0) * (o3.1 20 0))), (0, .ref 13)]) (st' := [.ref 13]) rfl ?_
    refine tk_HR  rfl rfl ly13 rt13_8 ?_
    refine tk_Ps  1 (pc' := 106) (ls' := [(1, .int ((o3.1 18 0) * (o3.1 20 0))), (0, .ref 13)]) (st' := [.ref 13, .ref 30]) rfl ?_
    refine tk_HR  rfl rfl ly13 rt13_4 ?_
    refine tk_Ps  1 (pc' := 110) (ls' := [(1, .int ((o3.1 18 0) * (o3.1 20 0))), (0, .ref 13)]) (st' := [.ref 13, .ref 22, .ref 30]) rfl ?_
    refine tk_HR  rfl rfl ly13 rt13_5 ?_
    obtain ⟨o6, ho6, h⟩ := tk_bnd h
    refine tk_cV0  rfl rfl (r := 30) (as := [.ref 22, .ref 24]) (rest := []) rfl ly30 rfl rfl (ok_fB_takeProduct sc 30 22 24 o5 ly30 ly22 ly24 ho6) ?_
    refine tk_Ps  1 (pc' := 117) (ls' := [(1, .int ((o3.1 18 0) * (o3.1 20 0))), (0, .ref 13)]) (st' := [.ref 13]) rfl ?_
    refine tk_HR  rfl rfl ly13 rt13_8 ?_
    refine tk_Ps  1 (pc' := 121) (ls' := [(1, .int ((o3.1 18 0) * (o3.1 20 0))), (0, .ref 13)]) (st' := [.ref 13, .ref 30]) rfl ?_
    refine tk_HR  rfl rfl ly13 rt13_8 ?_
    refine tk_Ps  2 (pc' := 126) (ls' := [(1, .int ((o3.1 18 0) * (o3.1 20 0))), (0, .ref 13)]) (st' := [.ref 13, .int (1 : Int32), .ref 30, .ref 30]) rfl ?_
    refine tk_HR  rfl rfl ly13 rt13_8 ?_
    obtain ⟨o7, ho7, h⟩ := tk_bnd h
    refine tk_cV0  rfl rfl (r := 30) (as := [.ref 30, .int (1 : Int32), .ref 30]) (rest := []) rfl ly30 rfl rfl (ok_fB_takeSum sc 30 30 (1 : Int32) 30 o6 ly30 ly30 ly30 ho7) ?_
    refine tk_Ps  1 (pc' := 133) (ls' := [(1, .int ((o3.1 18 0) * (o3.1 20 0))), (0, .ref 13)]) (st' := [.ref 13]) rfl ?_
    refine tk_HR  rfl rfl ly13 rt13_8 ?_
    refine tk_Ps  1 (pc' := 137) (ls' := [(1, .int ((o3.1 18 0) * (o3.1 20 0))), (0, .ref 13)]) (st' := [.ref 13, .ref 30]) rfl ?_
    refine tk_HR  rfl rfl ly13 rt13_8 ?_
    refine tk_Ps  2 (pc' := 142) (ls' := [(1, .int ((o3.1 18 0) * (o3.1 20 0))), (0, .ref 13)]) (st' := [.ref 13, .int (1 : Int32), .ref 30, .ref 30]) rfl ?_
    refine tk_HR  rfl rfl ly13 rt13_8 ?_
    obtain ⟨o8, ho8, h⟩ := tk_bnd h
    refine tk_cV0  rfl rfl (r := 30) (as := [.ref 30, .int (1 : Int32), .ref 30]) (rest := []) rfl ly30 rfl rfl (ok_fB_takeSum sc 30 30 (1 : Int32) 30 o7 ly30 ly30 ly30 ho8) ?_
    refine tk_Ps  2 (pc' := 150) (ls' := [(1, .int ((o3.1 18 0) * (o3.1 20 0))), (0, .ref 13)]) (st' := [.ref 13, .int ((o3.1 18 0) * (o3.1 20 0))]) rfl ?_
    refine tk_HR  rfl rfl ly13 rt13_7 ?_
    refine tk_Ps  1 (pc' := 154) (ls' := [(1, .int ((o3.1 18 0) * (o3.1 20 0))), (0, .ref 13)]) (st' := [.ref 13, .ref 28, .int ((o3.1 18 0) * (o3.1 20 0))]) rfl ?_
    refine tk_HR  rfl rfl ly13 rt13_8 ?_
    obtain ⟨o9, ho9, h⟩ := tk_bnd h
    refine tk_cV1  rfl rfl (r := 28) (as := [.ref 30]) (rest := [.int ((o3.1 18 0) * (o3.1 20 0))]) rfl ly28 rfl rfl (ok_fB_sizeAgainst sc 28 30 o8 ly28 ly30 ho9) ?_
    refine tk_Ps  1 (pc' := 161) (ls' := [(1, .int ((o3.1 18 0) * (o3.1 20 0))), (0, .ref 13)]) (st' := [.int (((o3.1 18 0) * (o3.1 20 0)) * o9)]) rfl ?_
    replace h := Option.some.inj h
    subst h
    exact tk_RI  rfl rfl rfl
  · replace h := tk_ifF hc4 h
    refine tk_bF  rfl rfl rfl (c := (o3.1 26 0) = ((o3.1 18 0) * (o3.1 20 0))) hc4 (pc' := 74) (ls' := [(1, .int ((o3.1 18 0) * (o3.1 20 0))), (0, .ref 13)]) (st' := []) ?_
    refine tk_Ps  1 (pc' := 75) (ls' := [(1, .int ((o3.1 18 0) * (o3.1 20 0))), (0, .ref 13)]) (st' := [.ref 13]) rfl ?_
    refine tk_HR  rfl rfl ly13 rt13_6 ?_
    refine tk_HI  rfl rfl ly26 ?_
    refine tk_Ps  1 (pc' := 82) (ls' := [(1, .int ((o3.1 18 0) * (o3.1 20 0))), (0, .ref 13)]) (st' := [.int ((o3.1 18 0) * (o3.1 20 0)), .int (o3.1 26 0)]) rfl ?_
    refine tk_cS1  rfl rfl (as := [.int (o3.1 26 0), .int ((o3.1 18 0) * (o3.1 20 0))]) (rest := []) rfl rfl rfl (ok_fZ_compare_I sc (o3.1 26 0) ((o3.1 18 0) * (o3.1 20 0)) o3) ?_
    replace h := Option.some.inj h
    subst h
    exact tk_RI  rfl rfl rfl

theorem ok_fM_work_146 (sc : tk_X) (v1 : Int32) (v4 : Int32) (v5 : Nat) (v6 : Nat) (m : tk_m) (hv5 : tk_lay[v5]? = some (.inr (1, 4))) (hv6 : tk_lay[v6]? = some (.inr (1, 4))) (out : Int32 × tk_m) (h : fM_work_146 v1 v4 v5 v6 m = some out) : tk_Ex sc 2 tk_r267 tk_k267 146 [(0, .ref 295), (1, .int v1), (4, .int v4), (5, .ref v5), (6, .ref v6)] [] (tk_full m) (some (.int out.1), tk_full out.2) := by
  unfold fM_work_146 at h
  refine tk_Ps  2 (pc' := 148) (ls' := [(0, .ref 295), (1, .int v1), (4, .int v4), (5, .ref v5), (6, .ref v6)]) (st' := [.int (0 : Int32), .ref 295]) rfl ?_
  refine tk_SB (b := false)  rfl rfl ly295 ?_
  refine tk_Ps  4 (pc' := 158) (ls' := [(0, .ref 295), (1, .int v1), (4, .int v4), (5, .ref v5), (6, .ref v6)]) (st' := [.int v4, .ref v6, .ref v5, .ref 295]) rfl ?_
  obtain ⟨o1, ho1, h⟩ := tk_bnd h
  refine tk_cV0  rfl rfl (r := 295) (as := [.ref v5, .ref v6, .int v4]) (rest := []) rfl ly295 rfl rfl (ok_fM_works sc v5 v6 v4 (m.1, m.2.1, tk_u2 m.2.2.1 295 4 false, m.2.2.2) (tk_al_of hv5) (tk_al_of hv6) ho1) ?_
  refine tk_Ps  1 (pc' := 162) (ls' := [(0, .ref 295), (1, .int v1), (4, .int v4), (5, .ref v5), (6, .ref v6)]) (st' := [.ref 295]) rfl ?_
  refine tk_HB  rfl rfl ly295 ?_
  by_cases hc2 : (o1.2.2.1 295 4) = true
  · replace h := tk_ifT hc2 h
    refine tk_bT  rfl rfl tk_eB_eq (c := (o1.2.2.1 295 4) = true) hc2 (pc' := 168) (ls' := [(0, .ref 295), (1, .int v1), (4, .int v4), (5, .ref v5), (6, .ref v6)]) (st' := []) ?_
    refine tk_Ps  2 (pc' := 171) (ls' := [(0, .ref 295), (1, .int v1), (4, .int v4), (5, .ref v5), (6, .ref v6)]) (st' := [.int (7 : Int32), .ref 295]) rfl ?_
    obtain ⟨o3, ho3, h⟩ := tk_bnd h
    refine tk_cV1  rfl rfl (r := 295) (as := [.int (7 : Int32)]) (rest := []) rfl ly295 rfl rfl (ok_fM_finds sc (7 : Int32) o1 ho3) ?_
    replace h := Option.some.inj h
    subst h
    exact tk_RI  rfl rfl rfl
  · replace h := tk_ifF hc2 h
    refine tk_bF  rfl rfl tk_eB_eq (c := (o1.2.2.1 295 4) = true) hc2 (pc' := 175) (ls' := [(0, .ref 295), (1, .int v1), (4, .int v4), (5, .ref v5), (6, .ref v6)]) (st' := []) ?_
    refine tk_Ps  2 (pc' := 177) (ls' := [(0, .ref 295), (1, .int v1), (4, .int v4), (5, .ref v5), (6, .ref v6)]) (st' := [.ref 295, .ref 295]) rfl ?_
    refine tk_HR  rfl rfl ly295 rt295_29 ?_
    refine tk_Ps  1 (pc' := 181) (ls' := [(0, .ref 295), (1, .int v1), (4, .int v4), (5, .ref v5), (6, .ref v6)]) (st' := [.int (0 : Int32), .ref 458, .ref 295]) rfl ?_
    refine tk_HJa  rfl rfl ly458 (by decide) ?_
    refine tk_Ps  1 (pc' := 183) (ls' := [(0, .ref 295), (1, .int v1), (4, .int v4), (5, .ref v5), (6, .ref v6)]) (st' := [.ref 295, .long (o1.2.1 458 0), .ref 295]) rfl ?_
    refine tk_HR  rfl rfl ly295 rt295_29 ?_
    refine tk_Ps  1 (pc' := 187) (ls' := [(0, .ref 295), (1, .int v1), (4, .int v4), (5, .ref v5), (6, .ref v6)]) (st' := [.int (1 : Int32), .ref 458, .long (o1.2.1 458 0), .ref 295]) rfl ?_
    refine tk_HJa  rfl rfl ly458 (by decide) ?_
    refine tk_Ps  1 (pc' := 189) (ls' := [(0, .ref 295), (1, .int v1), (4, .int v4), (5, .ref v5), (6, .ref v6)]) (st' := [.ref 295, .long (o1.2.1 458 1), .long (o1.2.1 458 0), .ref 295]) rfl ?_
    refine tk_HR  rfl rfl ly295 rt295_29 ?_
    refine tk_Ps  1 (pc' := 193) (ls' := [(0, .ref 295), (1, .int v1), (4, .int v4), (5, .ref v5), (6, .ref v6)]) (st' := [.int (2 : Int32), .ref 458, .long (o1.2.1 458 1), .long (o1.2.1 458 0), .ref 295]) rfl ?_
    refine tk_HJa  rfl rfl ly458 (by decide) ?_
    refine tk_Ps  1 (pc' := 195) (ls' := [(0, .ref 295), (1, .int v1), (4, .int v4), (5, .ref v5), (6, .ref v6)]) (st' := [.ref 295, .long (o1.2.1 458 2), .long (o1.2.1 458 1), .long (o1.2.1 458 0), .ref 295]) rfl ?_
    refine tk_HR  rfl rfl ly295 rt295_29 ?_
    refine tk_Ps  1 (pc' := 199) (ls' := [(0, .ref 295), (1, .int v1), (4, .int v4), (5, .ref v5), (6, .ref v6)]) (st' := [.int (3 : Int32), .ref 458, .long (o1.2.1 458 2), .long (o1.2.1 458 1), .long (o1.2.1 458 0), .ref 295]) rfl ?_
    refine tk_HJa  rfl rfl ly458 (by decide) ?_
    refine tk_Ps  1 (pc' := 201) (ls' := [(0, .ref 295), (1, .int v1), (4, .int v4), (5, .ref v5), (6, .ref v6)]) (st' := [.ref 295, .long (o1.2.1 458 3), .long (o1.2.1 458 2), .long (o1.2.1 458 1), .long (o1.2.1 458 0), .ref 295]) rfl ?_
    refine tk_HR  rfl rfl ly295 rt295_29 ?_
    obtain ⟨o4, ho4, h⟩ := tk_bnd h
    refine tk_cV0  rfl rfl (r := 295) (as := [.long (o1.2.1 458 0), .long (o1.2.1 458 1), .long (o1.2.1 458 2), .long (o1.2.1 458 3), .ref 458]) (rest := []) rfl ly295 rfl rfl (ok_fM_lowest sc (o1.2.1 458 0) (o1.2.1 458 1) (o1.2.1 458 2) (o1.2.1 458 3) 458 o1 (tk_al_of ly458) ho4) ?_
    refine tk_Ps  1 (pc' := 208) (ls' := [(0, .ref 295), (1, .int v1), (4, .int v4), (5, .ref v5), (6, .ref v6)]) (st' := [.ref 295]) rfl ?_
    refine tk_HB  rfl rfl ly295 ?_
    by_cases hc5 : (o4.2.2.1 295 4) = true
    · replace h := tk_ifT hc5 h
      refine tk_bT  rfl rfl tk_eB_eq (c := (o4.2.2.1 295 4) = true) hc5 (pc' := 214) (ls' := [(0, .ref 295), (1, .int v1), (4, .int v4), (5, .ref v5), (6, .ref v6)]) (st' := []) ?_
      refine tk_Ps  2 (pc' := 217) (ls' := [(0, .ref 295), (1, .int v1), (4, .int v4), (5, .ref v5), (6, .ref v6)]) (st' := [.int (7 : Int32), .ref 295]) rfl ?_
      obtain ⟨o6, ho6, h⟩ := tk_bnd h
      refine tk_cV1  rfl rfl (r := 295) (as := [.int (7 : Int32)]) (rest := []) rfl ly295 rfl rfl (ok_fM_finds sc (7 : Int32) o4 ho6) ?_
      replace h := Option.some.inj h
      subst h
      exact tk_RI  rfl rfl rfl
    · replace h := tk_ifF hc5 h
      refine tk_bF  rfl rfl tk_eB_eq (c := (o4.2.2.1 295 4) = true) hc5 (pc' := 221) (ls' := [(0, .ref 295), (1, .int v1), (4, .int v4), (5, .ref v5), (6, .ref v6)]) (st' := []) ?_
      refine tk_Ps  3 (pc' := 224) (ls' := [(0, .ref 295), (1, .int v1), (4, .int v4), (5, .ref v5), (6, .ref v6)]) (st' := [.ref 295, .int v1, .ref 295]) rfl ?_
      refine tk_HR  rfl rfl ly295 rt295_29 ?_
      obtain ⟨o7, ho7, h⟩ := tk_bnd h
      refine tk_cV0  rfl rfl (r := 295) (as := [.int v1, .ref 458]) (rest := []) rfl ly295 rfl rfl (ok_fM_keeps sc v1 458 o4 (tk_al_of ly458) ho7) ?_
      refine tk_Ps  1 (pc' := 231) (ls' := [(0, .ref 295), (1, .int v1), (4, .int v4), (5, .ref v5), (6, .ref v6)]) (st' := [.int (1 : Int32)]) rfl ?_
      replace h := Option.some.inj h
      subst h
      exact tk_RI  rfl rfl rfl
theorem ok_fM_work_116 (sc : tk_X) (v1 : Int32) (v4 : Int32) (v5 : Nat) (v6 : Nat) (m : tk_m) (hv5 : tk_lay[v5]? = some (.inr (1, 4))) (hv6 : tk_lay[v6]? = some (.inr (1, 4))) (out : Int32 × tk_m) (h : fM_work_116 v1 v4 v5 v6 m = some out) : tk_Ex sc 2 tk_r267 tk_k267 116 [(0, .ref 295), (1, .int v1), (4, .int v4), (5, .ref v5), (6, .ref v6)] [] (tk_full m) (some (.int out.1), tk_full out.2) := by
  unfold fM_work_116 at h
  refine tk_Ps  2 (pc' := 119) (ls' := [(0, .ref 295), (1, .int v1), (4, .int v4), (5, .ref v5), (6, .ref v6)]) (st' := [.int (3 : Int32), .int v4]) rfl ?_
  by_cases hc1 : v4 = (3 : Int32)
  · replace h := tk_ifT hc1 h
    refine tk_bT  rfl rfl rfl (c := v4 = (3 : Int32)) hc1 (pc' := 122) (ls' := [(0, .ref 295), (1, .int v1), (4, .int v4), (5, .ref v5), (6, .ref v6)]) (st' := []) ?_
    refine tk_Ps  2 (pc' := 125) (ls' := [(0, .ref 295), (1, .int v1), (4, .int v4), (5, .ref v5), (6, .ref v6)]) (st' := [.int (0 : Int32), .ref v6]) rfl ?_
    refine tk_HJa  rfl rfl hv6 (by decide) ?_
    refine tk_Ps  2 (pc' := 128) (ls' := [(0, .ref 295), (1, .int v1), (4, .int v4), (5, .ref v5), (6, .ref v6)]) (st' := [.int (lg_cmp (m.2.1 v6 0) (0 : Int64))]) rfl ?_
    by_cases hc2 : (m.2.1 v6 0) = (0 : Int64)
    · replace h := tk_ifT hc2 h
      refine tk_bT  rfl rfl tk_eL_ne (c := (m.2.1 v6 0) = (0 : Int64)) hc2 (pc' := 131) (ls' := [(0, .ref 295), (1, .int v1), (4, .int v4), (5, .ref v5), (6, .ref v6)]) (st' := []) ?_
      refine tk_Ps  2 (pc' := 134) (ls' := [(0, .ref 295), (1, .int v1), (4, .int v4), (5, .ref v5), (6, .ref v6)]) (st' := [.int (1 : Int32), .ref v6]) rfl ?_
      refine tk_HJa  rfl rfl hv6 (by decide) ?_
      refine tk_Ps  2 (pc' := 137) (ls' := [(0, .ref 295), (1, .int v1), (4, .int v4), (5, .ref v5), (6, .ref v6)]) (st' := [.int (lg_cmp (m.2.1 v6 1) (0 : Int64))]) rfl ?_
      by_cases hc3 : (m.2.1 v6 1) = (0 : Int64)
      · replace h := tk_ifT hc3 h
        refine tk_bT  rfl rfl tk_eL_ne (c := (m.2.1 v6 1) = (0 : Int64)) hc3 (pc' := 140) (ls' := [(0, .ref 295), (1, .int v1), (4, .int v4), (5, .ref v5), (6, .ref v6)]) (st' := []) ?_
        refine tk_Ps  2 (pc' := 142) (ls' := [(0, .ref 295), (1, .int v1), (4, .int v4), (5, .ref v5), (6, .ref v6)]) (st' := [.int (4 : Int32), .ref 295]) rfl ?_
        obtain ⟨o4, ho4, h⟩ := tk_bnd h
        refine tk_cV1  rfl rfl (r := 295) (as := [.int (4 : Int32)]) (rest := []) rfl ly295 rfl rfl (ok_fM_finds sc (4 : Int32) m ho4) ?_
        replace h := Option.some.inj h
        subst h
        exact tk_RI  rfl rfl rfl
      · replace h := tk_ifF hc3 h
        refine tk_bF  rfl rfl tk_eL_ne (c := (m.2.1 v6 1) = (0 : Int64)) hc3 (pc' := 146) (ls' := [(0, .ref 295), (1, .int v1), (4, .int v4), (5, .ref v5), (6, .ref v6)]) (st' := []) ?_
        refine tk_Kp  (ls' := [(0, .ref 295), (1, .int v1), (4, .int v4), (5, .ref v5), (6, .ref v6)]) rfl rfl ?_
        exact ok_fM_work_146 sc v1 v4 v5 v6 m hv5 hv6 _ h
    · replace h := tk_ifF hc2 h
      refine tk_bF  rfl rfl tk_eL_ne (c := (m.2.1 v6 0) = (0 : Int64)) hc2 (pc' := 146) (ls' := [(0, .ref 295), (1, .int v1), (4, .int v4), (5, .ref v5), (6, .ref v6)]) (st' := []) ?_
      refine tk_Kp  (ls' := [(0, .ref 295), (1, .int v1), (4, .int v4), (5, .ref v5), (6, .ref v6)]) rfl rfl ?_
      exact ok_fM_work_146 sc v1 v4 v5 v6 m hv5 hv6 _ h
  · replace h := tk_ifF hc1 h
    refine tk_bF  rfl rfl rfl (c := v4 = (3 : Int32)) hc1 (pc' := 146) (ls' := [(0, .ref 295), (1, .int v1), (4, .int v4), (5, .ref v5), (6, .ref v6)]) (st' := []) ?_
    refine tk_Kp  (ls' := [(0, .ref 295), (1, .int v1), (4, .int v4), (5, .ref v5), (6, .ref v6)]) rfl rfl ?_
    exact ok_fM_work_146 sc v1 v4 v5 v6 m hv5 hv6 _ h
theorem ok_fM_work (sc : tk_X) (a1 : Int32) (a2 : Int32) (a3 : Int32) (a4 : Int32) (m : tk_m) {out : Int32 × tk_m} (h : fM_work a1 a2 a3 a4 m = some out) : tk_Ru sc 3 267 [.ref 295, .int a1, .int a2, .int a3, .int a4] (tk_full m) (some (.int out.1), tk_full out.2) := by
  unfold fM_work at h
  refine tk_Ru0 me267 (ls := [(0, .ref 295), (1, .int a1), (2, .int a2), (3, .int a3), (4, .int a4)]) rfl rfl ?_
  refine tk_Ps  1 (pc' := 1) (ls' := [(0, .ref 295), (1, .int a1), (2, .int a2), (3, .int a3), (4, .int a4)]) (st' := [.int a1]) rfl ?_
  refine tk_cS1  rfl rfl (as := [.int a1]) (rest := []) rfl rfl rfl (ok_fM_isSpot sc a1 m) ?_
  by_cases hc1 : (fM_isSpot a1) = true
  · replace h := tk_ifT hc1 h
    refine tk_bT  rfl rfl tk_eB_eq (c := (fM_isSpot a1) = true) hc1 (pc' := 7) (ls' := [(0, .ref 295), (1, .int a1), (2, .int a2), (3, .int a3), (4, .int a4)]) (st' := []) ?_
    refine tk_Ps  1 (pc' := 8) (ls' := [(0, .ref 295), (1, .int a1), (2, .int a2), (3, .int a3), (4, .int a4)]) (st' := [.int a2]) rfl ?_
    refine tk_cS1  rfl rfl (as := [.int a2]) (rest := []) rfl rfl rfl (ok_fM_isSpot sc a2 m) ?_
    by_cases hc2 : (fM_isSpot a2) = true
    · replace h := tk_ifT hc2 h
      refine tk_bT  rfl rfl tk_eB_eq (c := (fM_isSpot a2) = true) hc2 (pc' := 14) (ls' := [(0, .ref 295), (1, .int a1), (2, .int a2), (3, .int a3), (4, .int a4)]) (st' := []) ?_
      refine tk_Ps  1 (pc' := 15) (ls' := [(0, .ref 295), (1, .int a1), (2, .int a2), (3, .int a3), (4, .int a4)]) (st' := [.int a3]) rfl ?_
      refine tk_cS1  rfl rfl (as := [.int a3]) (rest := []) rfl rfl rfl (ok_fM_isSpot sc a3 m) ?_
      by_cases hc3 : (fM_isSpot a3) = true
      · replace h := tk_ifT hc3 h
        refine tk_bT  rfl rfl tk_eB_eq (c := (fM_isSpot a3) = true) hc3 (pc' := 21) (ls' := [(0, .ref 295), (1, .int a1), (2, .int a2), (3, .int a3), (4, .int a4)]) (st' := []) ?_
        refine tk_Ps  4 (pc' := 28) (ls' := [(0, .ref 295), (1, .int a1), (2, .int a2), (3, .int a3), (4, .int a4)]) (st' := [.long (3 : Int64), .long (0 : Int64), .long (Int32.toInt64 a4)]) rfl ?_
        refine tk_cS1  rfl rfl (as := [.long (Int32.toInt64 a4), .long (0 : Int64), .long (3 : Int64)]) (rest := []) rfl rfl rfl (ok_fM_in sc (Int32.toInt64 a4) (0 : Int64) (3 : Int64) m) ?_
        by_cases hc4 : (fM_in (Int32.toInt64 a4) (0 : Int64) (3 : Int64)) = true
        · replace h := tk_ifT hc4 h
          refine tk_bT  rfl rfl tk_eB_ne (c := (fM_in (Int32.toInt64 a4) (0 : Int64) (3 : Int64)) = true) hc4 (pc' := 40) (ls' := [(0, .ref 295), (1, .int a1), (2, .int a2), (3, .int a3), (4, .int a4)]) (st' := []) ?_
          refine tk_Ps  1 (pc' := 41) (ls' := [(0, .ref 295), (1, .int a1), (2, .int a2), (3, .int a3), (4, .int a4)]) (st' := [.ref 295]) rfl ?_
          refine tk_HR  rfl rfl ly295 rt295_27 ?_
          refine tk_Ps  1 (pc' := 45) (ls' := [(0, .ref 295), (1, .int a1), (2, .int a2), (3, .int a3), (4, .int a4)]) (st' := [.int a2, .ref 450]) rfl ?_
          obtain ⟨hg5, h⟩ := tk_grd h
          refine tk_HBa  rfl rfl ly450 hg5 ?_
          by_cases hc6 : (m.2.2.1 450 (tk_n a2)) = true
          · replace h := tk_ifT hc6 h
            refine tk_bT  rfl rfl tk_eB_eq (c := (m.2.2.1 450 (tk_n a2)) = true) hc6 (pc' := 49) (ls' := [(0, .ref 295), (1, .int a1), (2, .int a2), (3, .int a3), (4, .int a4)]) (st' := []) ?_
            refine tk_Ps  1 (pc' := 50) (ls' := [(0, .ref 295), (1, .int a1), (2, .int a2), (3, .int a3), (4, .int a4)]) (st' := [.ref 295]) rfl ?_
            refine tk_HR  rfl rfl ly295 rt295_27 ?_
            refine tk_Ps  1 (pc' := 54) (ls' := [(0, .ref 295), (1, .int a1), (2, .int a2), (3, .int a3), (4, .int a4)]) (st' := [.int a3, .ref 450]) rfl ?_
            obtain ⟨hg7, h⟩ := tk_grd h
            refine tk_HBa  rfl rfl ly450 hg7 ?_
            by_cases hc8 : (m.2.2.1 450 (tk_n a3)) = true
            · replace h := tk_ifT hc8 h
              refine tk_bT  rfl rfl tk_eB_ne (c := (m.2.2.1 450 (tk_n a3)) = true) hc8 (pc' := 64) (ls' := [(0, .ref 295), (1, .int a1), (2, .int a2), (3, .int a3), (4, .int a4)]) (st' := []) ?_
              refine tk_Ps  1 (pc' := 65) (ls' := [(0, .ref 295), (1, .int a1), (2, .int a2), (3, .int a3), (4, .int a4)]) (st' := [.ref 295]) rfl ?_
              refine tk_HR  rfl rfl ly295 rt295_28 ?_
              refine tk_Ps  1 (pc' := 69) (ls' := [(0, .ref 295), (1, .int a1), (2, .int a2), (3, .int a3), (4, .int a4)]) (st' := [.int a2, .ref 451]) rfl ?_
              refine tk_HQ  rfl rfl ly451 hg5 (la451 _ (hg5).2).1 ?_
              refine tk_Ps  2 (pc' := 73) (ls' := [(5, .ref (452 + (tk_n a2))), (0, .ref 295), (1, .int a1), (2, .int a2), (3, .int a3), (4, .int a4)]) (st' := [.ref 295]) rfl ?_
              refine tk_HR  rfl rfl ly295 rt295_28 ?_
              refine tk_Ps  1 (pc' := 77) (ls' := [(5, .ref (452 + (tk_n a2))), (0, .ref 295), (1, .int a1), (2, .int a2), (3, .int a3), (4, .int a4)]) (st' := [.int a3, .ref 451]) rfl ?_
              refine tk_HQ  rfl rfl ly451 hg7 (la451 _ (hg7).2).1 ?_
              refine tk_Ps  3 (pc' := 83) (ls' := [(6, .ref (452 + (tk_n a3))), (5, .ref (452 + (tk_n a2))), (0, .ref 295), (1, .int a1), (2, .int a2), (3, .int a3), (4, .int a4)]) (st' := [.int (1 : Int32), .ref (452 + (tk_n a2))]) rfl ?_
              refine tk_HJa  rfl rfl ((la451 _ (hg5).2).2) (by decide) ?_
              refine tk_Ps  2 (pc' := 86) (ls' := [(6, .ref (452 + (tk_n a3))), (5, .ref (452 + (tk_n a2))), (0, .ref 295), (1, .int a1), (2, .int a2), (3, .int a3), (4, .int a4)]) (st' := [.int (lg_cmp (m.2.1 (452 + (tk_n a2)) 1) (0 : Int64))]) rfl ?_
              by_cases hc9 : (m.2.1 (452 + (tk_n a2)) 1) = (0 : Int64)
              · replace h := tk_ifT hc9 h
                refine tk_bT  rfl rfl tk_eL_eq (c := (m.2.1 (452 + (tk_n a2)) 1) = (0 : Int64)) hc9 (pc' := 116) (ls' := [(6, .ref (452 + (tk_n a3))), (5, .ref (452 + (tk_n a2))), (0, .ref 295), (1, .int a1), (2, .int a2), (3, .int a3), (4, .int a4)]) (st' := []) ?_
                refine tk_Kp  (ls' := [(0, .ref 295), (1, .int a1), (4, .int a4), (5, .ref (452 + (tk_n a2))), (6, .ref (452 + (tk_n a3)))]) rfl rfl ?_
                exact ok_fM_work_116 sc a1 a4 (452 + (tk_n a2)) (452 + (tk_n a3)) m ((la451 _ (hg5).2).2) ((la451 _ (hg7).2).2) _ h
              · replace h := tk_ifF hc9 h
                refine tk_bF  rfl rfl tk_eL_eq (c := (m.2.1 (452 + (tk_n a2)) 1) = (0 : Int64)) hc9 (pc' := 89) (ls' := [(6, .ref (452 + (tk_n a3))), (5, .ref (452 + (tk_n a2))), (0, .ref 295), (1, .int a1), (2, .int a2), (3, .int a3), (4, .int a4)]) (st' := []) ?_
                refine tk_Ps  2 (pc' := 92) (ls' := [(6, .ref (452 + (tk_n a3))), (5, .ref (452 + (tk_n a2))), (0, .ref 295), (1, .int a1), (2, .int a2), (3, .int a3), (4, .int a4)]) (st' := [.int (1 : Int32), .ref (452 + (tk_n a3))]) rfl ?_
                refine tk_HJa  rfl rfl ((la451 _ (hg7).2).2) (by decide) ?_
                refine tk_Ps  2 (pc' := 95) (ls' := [(6, .ref (452 + (tk_n a3))), (5, .ref (452 + (tk_n a2))), (0, .ref 295), (1, .int a1), (2, .int a2), (3, .int a3), (4, .int a4)]) (st' := [.int (lg_cmp (m.2.1 (452 + (tk_n a3)) 1) (0 : Int64))]) rfl ?_
                by_cases hc10 : (m.2.1 (452 + (tk_n a3)) 1) = (0 : Int64)
                · replace h := tk_ifT hc10 h
                  refine tk_bT  rfl rfl tk_eL_eq (c := (m.2.1 (452 + (tk_n a3)) 1) = (0 : Int64)) hc10 (pc' := 116) (ls' := [(6, .ref (452 + (tk_n a3))), (5, .ref (452 + (tk_n a2))), (0, .ref 295), (1, .int a1), (2, .int a2), (3, .int a3), (4, .int a4)]) (st' := []) ?_
                  refine tk_Kp  (ls' := [(0, .ref 295), (1, .int a1), (4, .int a4), (5, .ref (452 + (tk_n a2))), (6, .ref (452 + (tk_n a3)))]) rfl rfl ?_
                  exact ok_fM_work_116 sc a1 a4 (452 + (tk_n a2)) (452 + (tk_n a3)) m ((la451 _ (hg5).2).2) ((la451 _ (hg7).2).2) _ h
                · replace h := tk_ifF hc10 h
                  refine tk_bF  rfl rfl tk_eL_eq (c := (m.2.1 (452 + (tk_n a3)) 1) = (0 : Int64)) hc10 (pc' := 98) (ls' := [(6, .ref (452 + (tk_n a3))), (5, .ref (452 + (tk_n a2))), (0, .ref 295), (1, .int a1), (2, .int a2), (3, .int a3), (4, .int a4)]) (st' := []) ?_
                  refine tk_Ps  2 (pc' := 101) (ls' := [(6, .ref (452 + (tk_n a3))), (5, .ref (452 + (tk_n a2))), (0, .ref 295), (1, .int a1), (2, .int a2), (3, .int a3), (4, .int a4)]) (st' := [.int (2 : Int32), .ref (452 + (tk_n a2))]) rfl ?_
                  refine tk_HJa  rfl rfl ((la451 _ (hg5).2).2) (by decide) ?_
                  refine tk_Ps  2 (pc' := 105) (ls' := [(6, .ref (452 + (tk_n a3))), (5, .ref (452 + (tk_n a2))), (0, .ref 295), (1, .int a1), (2, .int a2), (3, .int a3), (4, .int a4)]) (st' := [.int (2 : Int32), .ref (452 + (tk_n a3)), .long (m.2.1 (452 + (tk_n a2)) 2)]) rfl ?_
                  refine tk_HJa  rfl rfl ((la451 _ (hg7).2).2) (by decide) ?_
                  refine tk_Ps  1 (pc' := 107) (ls' := [(6, .ref (452 + (tk_n a3))), (5, .ref (452 + (tk_n a2))), (0, .ref 295), (1, .int a1), (2, .int a2), (3, .int a3), (4, .int a4)]) (st' := [.int (lg_cmp (m.2.1 (452 + (tk_n a2)) 2) (m.2.1 (452 + (tk_n a3)) 2))]) rfl ?_
                  by_cases hc11 : (m.2.1 (452 + (tk_n a2)) 2) = (m.2.1 (452 + (tk_n a3)) 2)
                  · replace h := tk_ifT hc11 h
                    refine tk_bT  rfl rfl tk_eL_eq (c := (m.2.1 (452 + (tk_n a2)) 2) = (m.2.1 (452 + (tk_n a3)) 2)) hc11 (pc' := 116) (ls' := [(6, .ref (452 + (tk_n a3))), (5, .ref (452 + (tk_n a2))), (0, .ref 295), (1, .int a1), (2, .int a2), (3, .int a3), (4, .int a4)]) (st' := []) ?_
                    refine tk_Kp  (ls' := [(0, .ref 295), (1, .int a1), (4, .int a4), (5, .ref (452 + (tk_n a2))), (6, .ref (452 + (tk_n a3)))]) rfl rfl ?_
                    exact ok_fM_work_116 sc a1 a4 (452 + (tk_n a2)) (452 + (tk_n a3)) m ((la451 _ (hg5).2).2) ((la451 _ (hg7).2).2) _ h
                  · replace h := tk_ifF hc11 h
                    refine tk_bF  rfl rfl tk_eL_eq (c := (m.2.1 (452 + (tk_n a2)) 2) = (m.2.1 (452 + (tk_n a3)) 2)) hc11 (pc' := 110) (ls' := [(6, .ref (452 + (tk_n a3))), (5, .ref (452 + (tk_n a2))), (0, .ref 295), (1, .int a1), (2, .int a2), (3, .int a3), (4, .int a4)]) (st' := []) ?_
                    refine tk_Ps  2 (pc' := 112) (ls' := [(6, .ref (452 + (tk_n a3))), (5, .ref (452 + (tk_n a2))), (0, .ref 295), (1, .int a1), (2, .int a2), (3, .int a3), (4, .int a4)]) (st' := [.int (2 : Int32), .ref 295]) rfl ?_
                    obtain ⟨o12, ho12, h⟩ := tk_bnd h
                    refine tk_cV1  rfl rfl (r := 295) (as := [.int (2 : Int32)]) (rest := []) rfl ly295 rfl rfl (ok_fM_finds sc (2 : Int32) m ho12) ?_
                    replace h := Option.some.inj h
                    subst h
                    exact tk_RI  rfl rfl rfl
            · replace h := tk_ifF hc8 h
              refine tk_bF  rfl rfl tk_eB_ne (c := (m.2.2.1 450 (tk_n a3)) = true) hc8 (pc' := 58) (ls' := [(0, .ref 295), (1, .int a1), (2, .int a2), (3, .int a3), (4, .int a4)]) (st' := []) ?_
              refine tk_Ps  2 (pc' := 60) (ls' := [(0, .ref 295), (1, .int a1), (2, .int a2), (3, .int a3), (4, .int a4)]) (st' := [.int (5 : Int32), .ref 295]) rfl ?_
              obtain ⟨o13, ho13, h⟩ := tk_bnd h
              refine tk_cV1  rfl rfl (r := 295) (as := [.int (5 : Int32)]) (rest := []) rfl ly295 rfl rfl (ok_fM_finds sc (5 : Int32) m ho13) ?_
              replace h := Option.some.inj h
              subst h
              exact tk_RI  rfl rfl rfl
          · replace h := tk_ifF hc6 h
            refine tk_bF  rfl rfl tk_eB_eq (c := (m.2.2.1 450 (tk_n a2)) = true) hc6 (pc' := 58) (ls' := [(0, .ref 295), (1, .int a1), (2, .int a2), (3, .int a3), (4, .int a4)]) (st' := []) ?_
            refine tk_Ps  2 (pc' := 60) (ls' := [(0, .ref 295), (1, .int a1), (2, .int a2), (3, .int a3), (4, .int a4)]) (st' := [.int (5 : Int32), .ref 295]) rfl ?_
            obtain ⟨o14, ho14, h⟩ := tk_bnd h
            refine tk_cV1  rfl rfl (r := 295) (as := [.int (5 : Int32)]) (rest := []) rfl ly295 rfl rfl (ok_fM_finds sc (5 : Int32) m ho14) ?_
            replace h := Option.some.inj h
            subst h
            exact tk_RI  rfl rfl rfl
        · replace h := tk_ifF hc4 h
          refine tk_bF  rfl rfl tk_eB_ne (c := (fM_in (Int32.toInt64 a4) (0 : Int64) (3 : Int64)) = true) hc4 (pc' := 34) (ls' := [(0, .ref 295), (1, .int a1), (2, .int a2), (3, .int a3), (4, .int a4)]) (st' := []) ?_
          refine tk_Ps  2 (pc' := 36) (ls' := [(0, .ref 295), (1, .int a1), (2, .int a2), (3, .int a3), (4, .int a4)]) (st' := [.int (0 : Int32), .ref 295]) rfl ?_
          obtain ⟨o15, ho15, h⟩ := tk_bnd h
          refine tk_cV1  rfl rfl (r := 295) (as := [.int (0 : Int32)]) (rest := []) rfl ly295 rfl rfl (ok_fM_finds sc (0 : Int32) m ho15) ?_
          replace h := Option.some.inj h
          subst h
          exact tk_RI  rfl rfl rfl
      · replace h := tk_ifF hc3 h
        refine tk_bF  rfl rfl tk_eB_eq (c := (fM_isSpot a3) = true) hc3 (pc' := 34) (ls' := [(0, .ref 295), (1, .int a1), (2, .int a2), (3, .int a3), (4, .int a4)]) (st' := []) ?_
        refine tk_Ps  2 (pc' := 36) (ls' := [(0, .ref 295), (1, .int a1), (2, .int a2), (3, .int a3), (4, .int a4)]) (st' := [.int (0 : Int32), .ref 295]) rfl ?_
        obtain ⟨o16, ho16, h⟩ := tk_bnd h
        refine tk_cV1  rfl rfl (r := 295) (as := [.int (0 : Int32)]) (rest := []) rfl ly295 rfl rfl (ok_fM_finds sc (0 : Int32) m ho16) ?_
        replace h := Option.some.inj h
        subst h
        exact tk_RI  rfl rfl rfl
    · replace h := tk_ifF hc2 h
      refine tk_bF  rfl rfl tk_eB_eq (c := (fM_isSpot a2) = true) hc2 (pc' := 34) (ls' := [(0, .ref 295), (1, .int a1), (2, .int a2), (3, .int a3), (4, .int a4)]) (st' := []) ?_
      refine tk_Ps  2 (pc' := 36) (ls' := [(0, .ref 295), (1, .int a1), (2, .int a2), (3, .int a3), (4, .int a4)]) (st' := [.int (0 : Int32), .ref 295]) rfl ?_
      obtain ⟨o17, ho17, h⟩ := tk_bnd h
      refine tk_cV1  rfl rfl (r := 295) (as := [.int (0 : Int32)]) (rest := []) rfl ly295 rfl rfl (ok_fM_finds sc (0 : Int32) m ho17) ?_
      replace h := Option.some.inj h
      subst h
      exact tk_RI  rfl rfl rfl
  · replace h := tk_ifF hc1 h
    refine tk_bF  rfl rfl tk_eB_eq (c := (fM_isSpot a1) = true) hc1 (pc' := 34) (ls' := [(0, .ref 295), (1, .int a1), (2, .int a2), (3, .int a3), (4, .int a4)]) (st' := []) ?_
    refine tk_Ps  2 (pc' := 36) (ls' := [(0, .ref 295), (1, .int a1), (2, .int a2), (3, .int a3), (4, .int a4)]) (st' := [.int (0 : Int32), .ref 295]) rfl ?_
    obtain ⟨o18, ho18, h⟩ := tk_bnd h
    refine tk_cV1  rfl rfl (r := 295) (as := [.int (0 : Int32)]) (rest := []) rfl ly295 rfl rfl (ok_fM_finds sc (0 : Int32) m ho18) ?_
    replace h := Option.some.inj h
    subst h
    exact tk_RI  rfl rfl rfl
theorem ok_fM_compare (sc : tk_X) (a1 : Int32) (a2 : Int32) (m : tk_m) {out : Int32 × tk_m} (h : fM_compare a1 a2 m = some out) : tk_Ru sc 5 269 [.ref 295, .int a1, .int a2] (tk_full m) (some (.int out.1), tk_full out.2) := by
  unfold fM_compare at h
  refine tk_Ru0 me269 (ls := [(0, .ref 295), (1, .int a1), (2, .int a2)]) rfl rfl ?_
  refine tk_Ps  1 (pc' := 1) (ls' := [(0, .ref 295), (1, .int a1), (2, .int a2)]) (st' := [.int a1]) rfl ?_
  refine tk_cS1  rfl rfl (as := [.int a1]) (rest := []) rfl rfl rfl (ok_fM_isSpot sc a1 m) ?_
  by_cases hc1 : (fM_isSpot a1) = true
  · replace h := tk_ifT hc1 h
    refine tk_bT  rfl rfl tk_eB_eq (c := (fM_isSpot a1) = true) hc1 (pc' := 7) (ls' := [(0, .ref 295), (1, .int a1), (2, .int a2)]) (st' := []) ?_
    refine tk_Ps  1 (pc' := 8) (ls' := [(0, .ref 295), (1, .int a1), (2, .int a2)]) (st' := [.int a2]) rfl ?_
    refine tk_cS1  rfl rfl (as := [.int a2]) (rest := []) rfl rfl rfl (ok_fM_isSpot sc a2 m) ?_
    by_cases hc2 : (fM_isSpot a2) = true
    · replace h := tk_ifT hc2 h
      refine tk_bT  rfl rfl tk_eB_ne (c := (fM_isSpot a2) = true) hc2 (pc' := 20) (ls' := [(0, .ref 295), (1, .int a1), (2, .int a2)]) (st' := []) ?_
      refine tk_Ps  1 (pc' := 21) (ls' := [(0, .ref 295), (1, .int a1), (2, .int a2)]) (st' := [.ref 295]) rfl ?_
      refine tk_HR  rfl rfl ly295 rt295_27 ?_
      refine tk_Ps  1 (pc' := 25) (ls' := [(0, .ref 295), (1, .int a1), (2, .int a2)]) (st' := [.int a1, .ref 450]) rfl ?_
      obtain ⟨hg3, h⟩ := tk_grd h
      refine tk_HBa  rfl rfl ly450 hg3 ?_
      by_cases hc4 : (m.2.2.1 450 (tk_n a1)) = true
      · replace h := tk_ifT hc4 h
        refine tk_bT  rfl rfl tk_eB_eq (c := (m.2.2.1 450 (tk_n a1)) = true) hc4 (pc' := 29) (ls' := [(0, .ref 295), (1, .int a1), (2, .int a2)]) (st' := []) ?_
        refine tk_Ps  1 (pc' := 30) (ls' := [(0, .ref 295), (1, .int a1), (2, .int a2)]) (st' := [.ref 295]) rfl ?_
        refine tk_HR  rfl rfl ly295 rt295_27 ?_
        refine tk_Ps  1 (pc' := 34) (ls' := [(0, .ref 295), (1, .int a1), (2, .int a2)]) (st' := [.int a2, .ref 450]) rfl ?_
        obtain ⟨hg5, h⟩ := tk_grd h
        refine tk_HBa  rfl rfl ly450 hg5 ?_
        by_cases hc6 : (m.2.2.1 450 (tk_n a2)) = true
        · replace h := tk_ifT hc6 h
          refine tk_bT  rfl rfl tk_eB_eq (c := (m.2.2.1 450 (tk_n a2)) = true) hc6 (pc' := 38) (ls' := [(0, .ref 295), (1, .int a1), (2, .int a2)]) (st' := []) ?_
          refine tk_Ps  2 (pc' := 40) (ls' := [(0, .ref 295), (1, .int a1), (2, .int a2)]) (st' := [.ref 295, .ref 295]) rfl ?_
          refine tk_HR  rfl rfl ly295 rt295_28 ?_
          refine tk_Ps  1 (pc' := 44) (ls' := [(0, .ref 295), (1, .int a1), (2, .int a2)]) (st' := [.int a1, .ref 451, .ref 295]) rfl ?_
          refine tk_HQ  rfl rfl ly451 hg3 (la451 _ (hg3).2).1 ?_
          refine tk_Ps  1 (pc' := 46) (ls' := [(0, .ref 295), (1, .int a1), (2, .int a2)]) (st' := [.ref 295, .ref (452 + (tk_n a1)), .ref 295]) rfl ?_
          refine tk_HR  rfl rfl ly295 rt295_28 ?_
          refine tk_Ps  1 (pc' := 50) (ls' := [(0, .ref 295), (1, .int a1), (2, .int a2)]) (st' := [.int a2, .ref 451, .ref (452 + (tk_n a1)), .ref 295]) rfl ?_
          refine tk_HQ  rfl rfl ly451 hg5 (la451 _ (hg5).2).1 ?_
          obtain ⟨o7, ho7, h⟩ := tk_bnd h
          refine tk_cV1  rfl rfl (r := 295) (as := [.ref (452 + (tk_n a1)), .ref (452 + (tk_n a2))]) (rest := []) rfl ly295 rfl rfl (ok_fM_compares sc (452 + (tk_n a1)) (452 + (tk_n a2)) m (tk_al_of ((la451 _ (hg3).2).2)) (tk_al_of ((la451 _ (hg5).2).2)) ho7) ?_
          refine tk_Ps  1 (pc' := 62) (ls' := [(0, .ref 295), (1, .int a1), (2, .int a2)]) (st' := [.int o7.1]) rfl ?_
          replace h := Option.some.inj h
          subst h
          exact tk_RI  rfl rfl rfl
        · replace h := tk_ifF hc6 h
          refine tk_bF  rfl rfl tk_eB_eq (c := (m.2.2.1 450 (tk_n a2)) = true) hc6 (pc' := 57) (ls' := [(0, .ref 295), (1, .int a1), (2, .int a2)]) (st' := []) ?_
          refine tk_Ps  2 (pc' := 59) (ls' := [(0, .ref 295), (1, .int a1), (2, .int a2)]) (st' := [.int (5 : Int32), .ref 295]) rfl ?_
          obtain ⟨o8, ho8, h⟩ := tk_bnd h
          refine tk_cV1  rfl rfl (r := 295) (as := [.int (5 : Int32)]) (rest := []) rfl ly295 rfl rfl (ok_fM_finds sc (5 : Int32) m ho8) ?_
          replace h := Option.some.inj h
          subst h
          exact tk_RI  rfl rfl rfl
      · replace h := tk_ifF hc4 h
        refine tk_bF  rfl rfl tk_eB_eq (c := (m.2.2.1 450 (tk_n a1)) = true) hc4 (pc' := 57) (ls' := [(0, .ref 295), (1, .int a1), (2, .int a2)]) (st' := []) ?_
        refine tk_Ps  2 (pc' := 59) (ls' := [(0, .ref 295), (1, .int a1), (2, .int a2)]) (st' := [.int (5 : Int32), .ref 295]) rfl ?_
        obtain ⟨o9, ho9, h⟩ := tk_bnd h
        refine tk_cV1  rfl rfl (r := 295) (as := [.int (5 : Int32)]) (rest := []) rfl ly295 rfl rfl (ok_fM_finds sc (5 : Int32) m ho9) ?_
        replace h := Option.some.inj h
        subst h
        exact tk_RI  rfl rfl rfl
    · replace h := tk_ifF hc2 h
      refine tk_bF  rfl rfl tk_eB_ne (c := (fM_isSpot a2) = true) hc2 (pc' := 14) (ls' := [(0, .ref 295), (1, .int a1), (2, .int a2)]) (st' := []) ?_
      refine tk_Ps  2 (pc' := 16) (ls' := [(0, .ref 295), (1, .int a1), (2, .int a2)]) (st' := [.int (0 : Int32), .ref 295]) rfl ?_
      obtain ⟨o10, ho10, h⟩ := tk_bnd h
      refine tk_cV1  rfl rfl (r := 295) (as := [.int (0 : Int32)]) (rest := []) rfl ly295 rfl rfl (ok_fM_finds sc (0 : Int32) m ho10) ?_
      replace h := Option.some.inj h
      subst h
      exact tk_RI  rfl rfl rfl
  · replace h := tk_ifF hc1 h
    refine tk_bF  rfl rfl tk_eB_eq (c := (fM_isSpot a1) = true) hc1 (pc' := 14) (ls' := [(0, .ref 295), (1, .int a1), (2, .int a2)]) (st' := []) ?_
    refine tk_Ps  2 (pc' := 16) (ls' := [(0, .ref 295), (1, .int a1), (2, .int a2)]) (st' := [.int (0 : Int32), .ref 295]) rfl ?_
    obtain ⟨o11, ho11, h⟩ := tk_bnd h
    refine tk_cV1  rfl rfl (r := 295) (as := [.int (0 : Int32)]) (rest := []) rfl ly295 rfl rfl (ok_fM_finds sc (0 : Int32) m ho11) ?_
    replace h := Option.some.inj h
    subst h
    exact tk_RI  rfl rfl rfl
theorem ok_fM_number (sc : tk_X) (a1 : Int32) (a2 : Int32) (m : tk_m) {out : Int64 × tk_m} (h : fM_number a1 a2 m = some out) : tk_Ru sc 3 270 [.ref 295, .int a1, .int a2] (tk_full m) (some (.long out.1), tk_full out.2) := by
  unfold fM_number at h
  refine tk_Ru0 me270 (ls := [(0, .ref 295), (1, .int a1), (2, .int a2)]) rfl rfl ?_
  refine tk_Ps  1 (pc' := 1) (ls' := [(0, .ref 295), (1, .int a1), (2, .int a2)]) (st' := [.int a1]) rfl ?_
  refine tk_cS1  rfl rfl (as := [.int a1]) (rest := []) rfl rfl rfl (ok_fM_isSpot sc a1 m) ?_
  by_cases hc1 : (fM_isSpot a1) = true
  · replace h := tk_ifT hc1 h
    refine tk_bT  rfl rfl tk_eB_eq (c := (fM_isSpot a1) = true) hc1 (pc' := 7) (ls' := [(0, .ref 295), (1, .int a1), (2, .int a2)]) (st' := []) ?_
    refine tk_Ps  4 (pc' := 13) (ls' := [(0, .ref 295), (1, .int a1), (2, .int a2)]) (st' := [.long (3 : Int64), .long (0 : Int64), .long (Int32.toInt64 a2)]) rfl ?_
    refine tk_cS1  rfl rfl (as := [.long (Int32.toInt64 a2), .long (0 : Int64), .long (3 : Int64)]) (rest := []) rfl rfl rfl (ok_fM_in sc (Int32.toInt64 a2) (0 : Int64) (3 : Int64) m) ?_
    by_cases hc2 : (fM_in (Int32.toInt64 a2) (0 : Int64) (3 : Int64)) = true
    · replace h := tk_ifT hc2 h
      refine tk_bT  rfl rfl tk_eB_ne (c := (fM_in (Int32.toInt64 a2) (0 : Int64) (3 : Int64)) = true) hc2 (pc' := 25) (ls' := [(0, .ref 295), (1, .int a1), (2, .int a2)]) (st' := []) ?_
      refine tk_Ps  1 (pc' := 26) (ls' := [(0, .ref 295), (1, .int a1), (2, .int a2)]) (st' := [.ref 295]) rfl ?_
      refine tk_HR  rfl rfl ly295 rt295_27 ?_
      refine tk_Ps  1 (pc' := 30) (ls' := [(0, .ref 295), (1, .int a1), (2, .int a2)]) (st' := [.int a1, .ref 450]) rfl ?_
      obtain ⟨hg3, h⟩ := tk_grd h
      refine tk_HBa  rfl rfl ly450 hg3 ?_
      by_cases hc4 : (m.2.2.1 450 (tk_n a1)) = true
      · replace h := tk_ifT hc4 h
        refine tk_bT  rfl rfl tk_eB_eq (c := (m.2.2.1 450 (tk_n a1)) = true) hc4 (pc' := 34) (ls' := [(0, .ref 295), (1, .int a1), (2, .int a2)]) (st' := []) ?_
        refine tk_Ps  1 (pc' := 35) (ls' := [(0, .ref 295), (1, .int a1), (2, .int a2)]) (st' := [.ref 295]) rfl ?_
        refine tk_HR  rfl rfl ly295 rt295_28 ?_
        refine tk_Ps  1 (pc' := 39) (ls' := [(0, .ref 295), (1, .int a1), (2, .int a2)]) (st' := [.int a1, .ref 451]) rfl ?_
        refine tk_HQ  rfl rfl ly451 hg3 (la451 _ (hg3).2).1 ?_
        refine tk_Ps  1 (pc' := 41) (ls' := [(0, .ref 295), (1, .int a1), (2, .int a2)]) (st' := [.int a2, .ref (452 + (tk_n a1))]) rfl ?_
        obtain ⟨hg5, h⟩ := tk_grd h
        refine tk_HJa  rfl rfl ((la451 _ (hg3).2).2) hg5 ?_
        refine tk_Ps  1 (pc' := 50) (ls' := [(0, .ref 295), (1, .int a1), (2, .int a2)]) (st' := [.long (m.2.1 (452 + (tk_n a1)) (tk_n a2))]) rfl ?_
        replace h := Option.some.inj h
        subst h
        exact tk_RJ  rfl rfl rfl
      · replace h := tk_ifF hc4 h
        refine tk_bF  rfl rfl tk_eB_eq (c := (m.2.2.1 450 (tk_n a1)) = true) hc4 (pc' := 45) (ls' := [(0, .ref 295), (1, .int a1), (2, .int a2)]) (st' := []) ?_
        refine tk_Ps  2 (pc' := 47) (ls' := [(0, .ref 295), (1, .int a1), (2, .int a2)]) (st' := [.int (5 : Int32), .ref 295]) rfl ?_
        obtain ⟨o6, ho6, h⟩ := tk_bnd h
        refine tk_cV1  rfl rfl (r := 295) (as := [.int (5 : Int32)]) (rest := []) rfl ly295 rfl rfl (ok_fM_findsLong sc (5 : Int32) m ho6) ?_
        replace h := Option.some.inj h
        subst h
        exact tk_RJ  rfl rfl rfl
    · replace h := tk_ifF hc2 h
      refine tk_bF  rfl rfl tk_eB_ne (c := (fM_in (Int32.toInt64 a2) (0 : Int64) (3 : Int64)) = true) hc2 (pc' := 19) (ls' := [(0, .ref 295), (1, .int a1), (2, .int a2)]) (st' := []) ?_
      refine tk_Ps  2 (pc' := 21) (ls' := [(0, .ref 295), (1, .int a1), (2, .int a2)]) (st' := [.int (0 : Int32), .ref 295]) rfl ?_
      obtain ⟨o7, ho7, h⟩ := tk_bnd h
      refine tk_cV1  rfl rfl (r := 295) (as := [.int (0 : Int32)]) (rest := []) rfl ly295 rfl rfl (ok_fM_findsLong sc (0 : Int32) m ho7) ?_
      replace h := Option.some.inj h
      subst h
      exact tk_RJ  rfl rfl rfl
  · replace h := tk_ifF hc1 h
    refine tk_bF  rfl rfl tk_eB_eq (c := (fM_isSpot a1) = true) hc1 (pc' := 19) (ls' := [(0, .ref 295), (1, .int a1), (2, .int a2)]) (st' := []) ?_
    refine tk_Ps  2 (pc' := 21) (ls' := [(0, .ref 295), (1, .int a1), (2, .int a2)]) (st' := [.int (0 : Int32), .ref 295]) rfl ?_
    obtain ⟨o8, ho8, h⟩ := tk_bnd h
    refine tk_cV1  rfl rfl (r := 295) (as := [.int (0 : Int32)]) (rest := []) rfl ly295 rfl rfl (ok_fM_findsLong sc (0 : Int32) m ho8) ?_
    replace h := Option.some.inj h
    subst h
    exact tk_RJ  rfl rfl rfl
theorem ok_fM_asInt (sc : tk_X) (a1 : Int64) (m : tk_m) {out : Int32 × tk_m} (h : fM_asInt a1 m = some out) : tk_Ru sc 2 272 [.ref 295, .long a1] (tk_full m) (some (.int out.1), tk_full out.2) := by
  unfold fM_asInt at h
  refine tk_Ru0 me272 (ls := [(0, .ref 295), (1, .long a1)]) rfl rfl ?_
  refine tk_Ps  5 (pc' := 5) (ls' := [(0, .ref 295), (1, .long a1)]) (st' := [.int (lg_cmp a1 (Int32.toInt64 (Int64.toInt32 a1)))]) rfl ?_
  by_cases hc1 : a1 = (Int32.toInt64 (Int64.toInt32 a1))
  · replace h := tk_ifT hc1 h
    refine tk_bT  rfl rfl tk_eL_ne (c := a1 = (Int32.toInt64 (Int64.toInt32 a1))) hc1 (pc' := 8) (ls' := [(0, .ref 295), (1, .long a1)]) (st' := []) ?_
    refine tk_Ps  3 (pc' := 19) (ls' := [(0, .ref 295), (1, .long a1)]) (st' := [.int (Int64.toInt32 a1)]) rfl ?_
    replace h := Option.some.inj h
    subst h
    exact tk_RI  rfl rfl rfl
  · replace h := tk_ifF hc1 h
    refine tk_bF  rfl rfl tk_eL_ne (c := a1 = (Int32.toInt64 (Int64.toInt32 a1))) hc1 (pc' := 13) (ls' := [(0, .ref 295), (1, .long a1)]) (st' := []) ?_
    refine tk_Ps  2 (pc' := 16) (ls' := [(0, .ref 295), (1, .long a1)]) (st' := [.int (7 : Int32), .ref 295]) rfl ?_
    obtain ⟨o2, ho2, h⟩ := tk_bnd h
    refine tk_cV1  rfl rfl (r := 295) (as := [.int (7 : Int32)]) (rest := []) rfl ly295 rfl rfl (ok_fM_finds sc (7 : Int32) m ho2) ?_
    replace h := Option.some.inj h
    subst h
    exact tk_RI  rfl rfl rfl
theorem ok_fM_taken_93 (sc : tk_X) (v2 : Int32) (v3 : Nat) (s0 : Int32) (m : tk_m) (hv3 : tk_lay[v3]? = some (.inr (1, 4))) (out : Int32 × tk_m) (h : fM_taken_93 v2 v3 s0 m = some out) : tk_Ex sc 3 tk_r271 tk_k271 93 [(0, .ref 295), (2, .int v2), (3, .ref v3)] [.int s0] (tk_full m) (some (.int out.1), tk_full out.2) := by
  unfold fM_taken_93 at h
  refine tk_Ps  2 (pc' := 97) (ls' := [(4, .int s0), (0, .ref 295), (2, .int v2), (3, .ref v3)]) (st' := [.int s0]) rfl ?_
  by_cases hc1 : s0 = 0
  · replace h := tk_ifT hc1 h
    refine tk_bT  rfl rfl rfl (c := s0 = 0) hc1 (pc' := 100) (ls' := [(4, .int s0), (0, .ref 295), (2, .int v2), (3, .ref v3)]) (st' := []) ?_
    refine tk_Ps  2 (pc' := 102) (ls' := [(4, .int s0), (0, .ref 295), (2, .int v2), (3, .ref v3)]) (st' := [.int (2 : Int32), .ref 295]) rfl ?_
    obtain ⟨o2, ho2, h⟩ := tk_bnd h
    refine tk_cV1  rfl rfl (r := 295) (as := [.int (2 : Int32)]) (rest := []) rfl ly295 rfl rfl (ok_fM_finds sc (2 : Int32) m ho2) ?_
    replace h := Option.some.inj h
    subst h
    exact tk_RI  rfl rfl rfl
  · replace h := tk_ifF hc1 h
    refine tk_bF  rfl rfl rfl (c := s0 = 0) hc1 (pc' := 106) (ls' := [(4, .int s0), (0, .ref 295), (2, .int v2), (3, .ref v3)]) (st' := []) ?_
    refine tk_Ps  2 (pc' := 108) (ls' := [(4, .int s0), (0, .ref 295), (2, .int v2), (3, .ref v3)]) (st' := [.int (0 : Int32), .ref 295]) rfl ?_
    refine tk_SI  rfl rfl ly295 ?_
    refine tk_Ps  1 (pc' := 112) (ls' := [(4, .int s0), (0, .ref 295), (2, .int v2), (3, .ref v3)]) (st' := [.int v2]) rfl ?_
    by_cases hc3 : v2 = 0
    · replace h := tk_ifT hc3 h
      refine tk_bT  rfl rfl rfl (c := v2 = 0) hc3 (pc' := 115) (ls' := [(4, .int s0), (0, .ref 295), (2, .int v2), (3, .ref v3)]) (st' := []) ?_
      refine tk_Ps  4 (pc' := 119) (ls' := [(4, .int s0), (0, .ref 295), (2, .int v2), (3, .ref v3)]) (st' := [.int (0 : Int32), .ref v3, .ref 295, .ref 295]) rfl ?_
      refine tk_HJa  rfl rfl hv3 (by decide) ?_
      obtain ⟨o4, ho4, h⟩ := tk_bnd h
      refine tk_cV1  rfl rfl (r := 295) (as := [.long (m.2.1 v3 0)]) (rest := [.ref 295]) rfl ly295 rfl rfl (ok_fM_widens sc (m.2.1 v3 0) (tk_u2 m.1 295 9 (0 : Int32), m.2.1, m.2.2.1, m.2.2.2) ho4) ?_
      refine tk_Ps  3 (pc' := 126) (ls' := [(4, .int s0), (0, .ref 295), (2, .int v2), (3, .ref v3)]) (st' := [.int (1 : Int32), .ref v3, .ref 295, .int o4.1, .ref 295]) rfl ?_
      refine tk_HJa  rfl rfl hv3 (by decide) ?_
      obtain ⟨o5, ho5, h⟩ := tk_bnd h
      refine tk_cV1  rfl rfl (r := 295) (as := [.long (o4.2.2.1 v3 1)]) (rest := [.int o4.1, .ref 295]) rfl ly295 rfl rfl (ok_fM_widens sc (o4.2.2.1 v3 1) o4.2 ho5) ?_
      refine tk_Ps  2 (pc' := 132) (ls' := [(4, .int s0), (0, .ref 295), (2, .int v2), (3, .ref v3)]) (st' := [.int (2 : Int32), .ref v3, .int o5.1, .int o4.1, .ref 295]) rfl ?_
      refine tk_HJa  rfl rfl hv3 (by decide) ?_
      obtain ⟨o6, ho6, h⟩ := tk_bnd h
      refine tk_cV1  rfl rfl (r := 295) (as := [.int o4.1, .int o5.1, .long (o5.2.2.1 v3 2)]) (rest := []) rfl ly295 rfl rfl (ok_fM_signOf sc o4.1 o5.1 (o5.2.2.1 v3 2) o5.2 ho6) ?_
      refine tk_Ps  1 (pc' := 164) (ls' := [(4, .int s0), (0, .ref 295), (2, .int v2), (3, .ref v3)]) (st' := [.int o6.1]) rfl ?_
      replace h := Option.some.inj h
      subst h
      exact tk_RI  rfl rfl rfl
    · replace h := tk_ifF hc3 h
      refine tk_bF  rfl rfl rfl (c := v2 = 0) hc3 (pc' := 139) (ls' := [(4, .int s0), (0, .ref 295), (2, .int v2), (3, .ref v3)]) (st' := []) ?_
      refine tk_Ps  4 (pc' := 143) (ls' := [(4, .int s0), (0, .ref 295), (2, .int v2), (3, .ref v3)]) (st' := [.int (1 : Int32), .int v2, .ref v3, .ref 295]) rfl ?_
      by_cases hc7 : v2 = (1 : Int32)
      · replace h := tk_ifT hc7 h
        refine tk_bT  rfl rfl rfl (c := v2 = (1 : Int32)) hc7 (pc' := 146) (ls' := [(4, .int s0), (0, .ref 295), (2, .int v2), (3, .ref v3)]) (st' := [.ref v3, .ref 295]) ?_
        refine tk_Ps  2 (pc' := 160) (ls' := [(4, .int s0), (0, .ref 295), (2, .int v2), (3, .ref v3)]) (st' := [.int (2 : Int32), .ref v3, .ref 295]) rfl ?_
        refine tk_HJa  rfl rfl hv3 (by decide) ?_
        obtain ⟨o8, ho8, h⟩ := tk_bnd h
        refine tk_cV1  rfl rfl (r := 295) (as := [.long (m.2.1 v3 2)]) (rest := []) rfl ly295 rfl rfl (ok_fM_asInt sc (m.2.1 v3 2) (tk_u2 m.1 295 9 (0 : Int32), m.2.1, m.2.2.1, m.2.2.2) ho8) ?_
        replace h := Option.some.inj h
        subst h
        exact tk_RI  rfl rfl rfl
      · replace h := tk_ifF hc7 h
        refine tk_bF  rfl rfl rfl (c := v2 = (1 : Int32)) hc7 (pc' := 150) (ls' := [(4, .int s0), (0, .ref 295), (2, .int v2), (3, .ref v3)]) (st' := [.ref v3, .ref 295]) ?_
        refine tk_Ps  2 (pc' := 152) (ls' := [(4, .int s0), (0, .ref 295), (2, .int v2), (3, .ref v3)]) (st' := [.int (2 : Int32), .int v2, .ref v3, .ref 295]) rfl ?_
        by_cases hc9 : v2 = (2 : Int32)
        · replace h := tk_ifT hc9 h
          refine tk_bT  rfl rfl rfl (c := v2 = (2 : Int32)) hc9 (pc' := 155) (ls' := [(4, .int s0), (0, .ref 295), (2, .int v2), (3, .ref v3)]) (st' := [.ref v3, .ref 295]) ?_
          refine tk_Ps  2 (pc' := 160) (ls' := [(4, .int s0), (0, .ref 295), (2, .int v2), (3, .ref v3)]) (st' := [.int (3 : Int32), .ref v3, .ref 295]) rfl ?_
          refine tk_HJa  rfl rfl hv3 (by decide) ?_
          obtain ⟨o10, ho10, h⟩ := tk_bnd h
          refine tk_cV1  rfl rfl (r := 295) (as := [.long (m.2.1 v3 3)]) (rest := []) rfl ly295 rfl rfl (ok_fM_asInt sc (m.2.1 v3 3) (tk_u2 m.1 295 9 (0 : Int32), m.2.1, m.2.2.1, m.2.2.2) ho10) ?_
          replace h := Option.some.inj h
          subst h
          exact tk_RI  rfl rfl rfl
        · replace h := tk_ifF hc9 h
          refine tk_bF  rfl rfl rfl (c := v2 = (2 : Int32)) hc9 (pc' := 159) (ls' := [(4, .int s0), (0, .ref 295), (2, .int v2), (3, .ref v3)]) (st' := [.ref v3, .ref 295]) ?_
          refine tk_Ps  1 (pc' := 160) (ls' := [(4, .int s0), (0, .ref 295), (2, .int v2), (3, .ref v3)]) (st' := [.int (0 : Int32), .ref v3, .ref 295]) rfl ?_
          refine tk_HJa  rfl rfl hv3 (by decide) ?_
          obtain ⟨o11, ho11, h⟩ := tk_bnd h
          refine tk_cV1  rfl rfl (r := 295) (as := [.long (m.2.1 v3 0)]) (rest := []) rfl ly295 rfl rfl (ok_fM_asInt sc (m.2.1 v3 0) (tk_u2 m.1 295 9 (0 : Int32), m.2.1, m.2.2.1, m.2.2.2) ho11) ?_
          replace h := Option.some.inj h
          subst h
          exact tk_RI  rfl rfl rfl
theorem ok_fM_taken (sc : tk_X) (a1 : Int32) (a2 : Int32) (m : tk_m) {out : Int32 × tk_m} (h : fM_taken a1 a2 m = some out) : tk_Ru sc 4 271 [.ref 295, .int a1, .int a2] (tk_full m) (some (.int out.1), tk_full out.2) := by
  unfold fM_taken at h
  refine tk_Ru0 me271 (ls := [(0, .ref 295), (1, .int a1), (2, .int a2)]) rfl rfl ?_
  refine tk_Ps  1 (pc' := 1) (ls' := [(0, .ref 295), (1, .int a1), (2, .int a2)]) (st' := [.int a1]) rfl ?_
  refine tk_cS1  rfl rfl (as := [.int a1]) (rest := []) rfl rfl rfl (ok_fM_isSpot sc a1 m) ?_
  by_cases hc1 : (fM_isSpot a1) = true
  · replace h := tk_ifT hc1 h
    refine tk_bT  rfl rfl tk_eB_eq (c := (fM_isSpot a1) = true) hc1 (pc' := 7) (ls' := [(0, .ref 295), (1, .int a1), (2, .int a2)]) (st' := []) ?_
    refine tk_Ps  4 (pc' := 13) (ls' := [(0, .ref 295), (1, .int a1), (2, .int a2)]) (st' := [.long (3 : Int64), .long (0 : Int64), .long (Int32.toInt64 a2)]) rfl ?_
    refine tk_cS1  rfl rfl (as := [.long (Int32.toInt64 a2), .long (0 : Int64), .long (3 : Int64)]) (rest := []) rfl rfl rfl (ok_fM_in sc (Int32.toInt64 a2) (0 : Int64) (3 : Int64) m) ?_
    by_cases hc2 : (fM_in (Int32.toInt64 a2) (0 : Int64) (3 : Int64)) = true
    · replace h := tk_ifT hc2 h
      refine tk_bT  rfl rfl tk_eB_ne (c := (fM_in (Int32.toInt64 a2) (0 : Int64) (3 : Int64)) = true) hc2 (pc' := 25) (ls' := [(0, .ref 295), (1, .int a1), (2, .int a2)]) (st' := []) ?_
      refine tk_Ps  1 (pc' := 26) (ls' := [(0, .ref 295), (1, .int a1), (2, .int a2)]) (st' := [.ref 295]) rfl ?_
      refine tk_HR  rfl rfl ly295 rt295_27 ?_
      refine tk_Ps  1 (pc' := 30) (ls' := [(0, .ref 295), (1, .int a1), (2, .int a2)]) (st' := [.int a1, .ref 450]) rfl ?_
      obtain ⟨hg3, h⟩ := tk_grd h
      refine tk_HBa  rfl rfl ly450 hg3 ?_
      by_cases hc4 : (m.2.2.1 450 (tk_n a1)) = true
      · replace h := tk_ifT hc4 h
        refine tk_bT  rfl rfl tk_eB_ne (c := (m.2.2.1 450 (tk_n a1)) = true) hc4 (pc' := 40) (ls' := [(0, .ref 295), (1, .int a1), (2, .int a2)]) (st' := []) ?_
        refine tk_Ps  1 (pc' := 41) (ls' := [(0, .ref 295), (1, .int a1), (2, .int a2)]) (st' := [.ref 295]) rfl ?_
        refine tk_HR  rfl rfl ly295 rt295_28 ?_
        refine tk_Ps  1 (pc' := 45) (ls' := [(0, .ref 295), (1, .int a1), (2, .int a2)]) (st' := [.int a1, .ref 451]) rfl ?_
        refine tk_HQ  rfl rfl ly451 hg3 (la451 _ (hg3).2).1 ?_
        refine tk_Ps  2 (pc' := 48) (ls' := [(3, .ref (452 + (tk_n a1))), (0, .ref 295), (1, .int a1), (2, .int a2)]) (st' := [.int a2]) rfl ?_
        by_cases hc5 : a2 = 0
        · replace h := tk_ifT hc5 h
          refine tk_bT  rfl rfl rfl (c := a2 = 0) hc5 (pc' := 88) (ls' := [(3, .ref (452 + (tk_n a1))), (0, .ref 295), (1, .int a1), (2, .int a2)]) (st' := []) ?_
          refine tk_Ps  2 (pc' := 93) (ls' := [(3, .ref (452 + (tk_n a1))), (0, .ref 295), (1, .int a1), (2, .int a2)]) (st' := [.int (1 : Int32)]) rfl ?_
          refine tk_Kp  (ls' := [(0, .ref 295), (2, .int a2), (3, .ref (452 + (tk_n a1)))]) rfl rfl ?_
          exact ok_fM_taken_93 sc a2 (452 + (tk_n a1)) (1 : Int32) m ((la451 _ (hg3).2).2) _ h
        · replace h := tk_ifF hc5 h
          refine tk_bF  rfl rfl rfl (c := a2 = 0) hc5 (pc' := 51) (ls' := [(3, .ref (452 + (tk_n a1))), (0, .ref 295), (1, .int a1), (2, .int a2)]) (st' := []) ?_
          refine tk_Ps  2 (pc' := 53) (ls' := [(3, .ref (452 + (tk_n a1))), (0, .ref 295), (1, .int a1), (2, .int a2)]) (st' := [.int (1 : Int32), .int a2]) rfl ?_
          by_cases hc6 : a2 = (1 : Int32)
          · replace h := tk_ifT hc6 h
            refine tk_bT  rfl rfl rfl (c := a2 = (1 : Int32)) hc6 (pc' := 56) (ls' := [(3, .ref (452 + (tk_n a1))), (0, .ref 295), (1, .int a1), (2, .int a2)]) (st' := []) ?_
            refine tk_Ps  2 (pc' := 58) (ls' := [(3, .ref (452 + (tk_n a1))), (0, .ref 295), (1, .int a1), (2, .int a2)]) (st' := [.int (1 : Int32), .ref (452 + (tk_n a1))]) rfl ?_
            refine tk_HJa  rfl rfl ((la451 _ (hg3).2).2) (by decide) ?_
            refine tk_Ps  2 (pc' := 61) (ls' := [(3, .ref (452 + (tk_n a1))), (0, .ref 295), (1, .int a1), (2, .int a2)]) (st' := [.int (lg_cmp (m.2.1 (452 + (tk_n a1)) 1) (0 : Int64))]) rfl ?_
            by_cases hc7 : (m.2.1 (452 + (tk_n a1)) 1) = (0 : Int64)
            · replace h := tk_ifT hc7 h
              refine tk_bT  rfl rfl tk_eL_eq (c := (m.2.1 (452 + (tk_n a1)) 1) = (0 : Int64)) hc7 (pc' := 92) (ls' := [(3, .ref (452 + (tk_n a1))), (0, .ref 295), (1, .int a1), (2, .int a2)]) (st' := []) ?_
              refine tk_Ps  1 (pc' := 93) (ls' := [(3, .ref (452 + (tk_n a1))), (0, .ref 295), (1, .int a1), (2, .int a2)]) (st' := [.int (0 : Int32)]) rfl ?_
              refine tk_Kp  (ls' := [(0, .ref 295), (2, .int a2), (3, .ref (452 + (tk_n a1)))]) rfl rfl ?_
              exact ok_fM_taken_93 sc a2 (452 + (tk_n a1)) (0 : Int32) m ((la451 _ (hg3).2).2) _ h
            · replace h := tk_ifF hc7 h
              refine tk_bF  rfl rfl tk_eL_eq (c := (m.2.1 (452 + (tk_n a1)) 1) = (0 : Int64)) hc7 (pc' := 64) (ls' := [(3, .ref (452 + (tk_n a1))), (0, .ref 295), (1, .int a1), (2, .int a2)]) (st' := []) ?_
              refine tk_Ps  3 (pc' := 93) (ls' := [(3, .ref (452 + (tk_n a1))), (0, .ref 295), (1, .int a1), (2, .int a2)]) (st' := [.int (1 : Int32)]) rfl ?_
              refine tk_Kp  (ls' := [(0, .ref 295), (2, .int a2), (3, .ref (452 + (tk_n a1)))]) rfl rfl ?_
              exact ok_fM_taken_93 sc a2 (452 + (tk_n a1)) (1 : Int32) m ((la451 _ (hg3).2).2) _ h
          · replace h := tk_ifF hc6 h
            refine tk_bF  rfl rfl rfl (c := a2 = (1 : Int32)) hc6 (pc' := 67) (ls' := [(3, .ref (452 + (tk_n a1))), (0, .ref 295), (1, .int a1), (2, .int a2)]) (st' := []) ?_
            refine tk_Ps  2 (pc' := 69) (ls' := [(3, .ref (452 + (tk_n a1))), (0, .ref 295), (1, .int a1), (2, .int a2)]) (st' := [.int (1 : Int32), .ref (452 + (tk_n a1))]) rfl ?_
            refine tk_HJa  rfl rfl ((la451 _ (hg3).2).2) (by decide) ?_
            refine tk_Ps  2 (pc' := 72) (ls' := [(3, .ref (452 + (tk_n a1))), (0, .ref 295), (1, .int a1), (2, .int a2)]) (st' := [.int (lg_cmp (m.2.1 (452 + (tk_n a1)) 1) (0 : Int64))]) rfl ?_
            by_cases hc8 : (m.2.1 (452 + (tk_n a1)) 1) = (0 : Int64)
            · replace h := tk_ifT hc8 h
              refine tk_bT  rfl rfl tk_eL_ne (c := (m.2.1 (452 + (tk_n a1)) 1) = (0 : Int64)) hc8 (pc' := 75) (ls' := [(3, .ref (452 + (tk_n a1))), (0, .ref 295), (1, .int a1), (2, .int a2)]) (st' := []) ?_
              refine tk_Ps  2 (pc' := 77) (ls' := [(3, .ref (452 + (tk_n a1))), (0, .ref 295), (1, .int a1), (2, .int a2)]) (st' := [.int (2 : Int32), .int a2]) rfl ?_
              by_cases hc9 : a2 = (2 : Int32)
              · replace h := tk_ifT hc9 h
                refine tk_bT  rfl rfl rfl (c := a2 = (2 : Int32)) hc9 (pc' := 88) (ls' := [(3, .ref (452 + (tk_n a1))), (0, .ref 295), (1, .int a1), (2, .int a2)]) (st' := []) ?_
                refine tk_Ps  2 (pc' := 93) (ls' := [(3, .ref (452 + (tk_n a1))), (0, .ref 295), (1, .int a1), (2, .int a2)]) (st' := [.int (1 : Int32)]) rfl ?_
                refine tk_Kp  (ls' := [(0, .ref 295), (2, .int a2), (3, .ref (452 + (tk_n a1)))]) rfl rfl ?_
                exact ok_fM_taken_93 sc a2 (452 + (tk_n a1)) (1 : Int32) m ((la451 _ (hg3).2).2) _ h
              · replace h := tk_ifF hc9 h
                refine tk_bF  rfl rfl rfl (c := a2 = (2 : Int32)) hc9 (pc' := 80) (ls' := [(3, .ref (452 + (tk_n a1))), (0, .ref 295), (1, .int a1), (2, .int a2)]) (st' := []) ?_
                refine tk_Ps  2 (pc' := 82) (ls' := [(3, .ref (452 + (tk_n a1))), (0, .ref 295), (1, .int a1), (2, .int a2)]) (st' := [.int (3 : Int32), .ref (452 + (tk_n a1))]) rfl ?_
                refine tk_HJa  rfl rfl ((la451 _ (hg3).2).2) (by decide) ?_
                refine tk_Ps  2 (pc' := 85) (ls' := [(3, .ref (452 + (tk_n a1))), (0, .ref 295), (1, .int a1), (2, .int a2)]) (st' := [.int (lg_cmp (m.2.1 (452 + (tk_n a1)) 3) (1 : Int64))]) rfl ?_
                by_cases hc10 : (m.2.1 (452 + (tk_n a1)) 3) = (1 : Int64)
                · replace h := tk_ifT hc10 h
                  refine tk_bT  rfl rfl tk_eL_ne (c := (m.2.1 (452 + (tk_n a1)) 3) = (1 : Int64)) hc10 (pc' := 88) (ls' := [(3, .ref (452 + (tk_n a1))), (0, .ref 295), (1, .int a1), (2, .int a2)]) (st' := []) ?_
                  refine tk_Ps  2 (pc' := 93) (ls' := [(3, .ref (452 + (tk_n a1))), (0, .ref 295), (1, .int a1), (2, .int a2)]) (st' := [.int (1 : Int32)]) rfl ?_
                  refine tk_Kp  (ls' := [(0, .ref 295), (2, .int a2), (3, .ref (452 + (tk_n a1)))]) rfl rfl ?_
                  exact ok_fM_taken_93 sc a2 (452 + (tk_n a1)) (1 : Int32) m ((la451 _ (hg3).2).2) _ h
                · replace h := tk_ifF hc10 h
                  refine tk_bF  rfl rfl tk_eL_ne (c := (m.2.1 (452 + (tk_n a1)) 3) = (1 : Int64)) hc10 (pc' := 92) (ls' := [(3, .ref (452 + (tk_n a1))), (0, .ref 295), (1, .int a1), (2, .int a2)]) (st' := []) ?_
                  refine tk_Ps  1 (pc' := 93) (ls' := [(3, .ref (452 + (tk_n a1))), (0, .ref 295), (1, .int a1), (2, .int a2)]) (st' := [.int (0 : Int32)]) rfl ?_
                  refine tk_Kp  (ls' := [(0, .ref 295), (2, .int a2), (3, .ref (452 + (tk_n a1)))]) rfl rfl ?_
                  exact ok_fM_taken_93 sc a2 (452 + (tk_n a1)) (0 : Int32) m ((la451 _ (hg3).2).2) _ h
            · replace h := tk_ifF hc8 h
              refine tk_bF  rfl rfl tk_eL_ne (c := (m.2.1 (452 + (tk_n a1)) 1) = (0 : Int64)) hc8 (pc' := 92) (ls' := [(3, .ref (452 + (tk_n a1))), (0, .ref 295), (1, .int a1), (2, .int a2)]) (st' := []) ?_
              refine tk_Ps  1 (pc' := 93) (ls' := [(3, .ref (452 + (tk_n a1))), (0, .ref 295), (1, .int a1), (2, .int a2)]) (st' := [.int (0 : Int32)]) rfl ?_
              refine tk_Kp  (ls' := [(0, .ref 295), (2, .int a2), (3, .ref (452 + (tk_n a1)))]) rfl rfl ?_
              exact ok_fM_taken_93 sc a2 (452 + (tk_n a1)) (0 : Int32) m ((la451 _ (hg3).2).2) _ h
      · replace h := tk_ifF hc4 h
        refine tk_bF  rfl rfl tk_eB_ne (c := (m.2.2.1 450 (tk_n a1)) = true) hc4 (pc' := 34) (ls' := [(0, .ref 295), (1, .int a1), (2, .int a2)]) (st' := []) ?_
        refine tk_Ps  2 (pc' := 36) (ls' := [(0, .ref 295), (1, .int a1), (2, .int a2)]) (st' := [.int (5 : Int32), .ref 295]) rfl ?_
        obtain ⟨o11, ho11, h⟩ := tk_bnd h
        refine tk_cV1  rfl rfl (r := 295) (as := [.int (5 : Int32)]) (rest := []) rfl ly295 rfl rfl (ok_fM_finds sc (5 : Int32) m ho11) ?_
        replace h := Option.some.inj h
        subst h
        exact tk_RI  rfl rfl rfl
    · replace h := tk_ifF hc2 h
      refine tk_bF  rfl rfl tk_eB_ne (c := (fM_in (Int32.toInt64 a2) (0 : Int64) (3 : Int64)) = true) hc2 (pc' := 19) (ls' := [(0, .ref 295), (1, .int a1), (2, .int a2)]) (st' := []) ?_
      refine tk_Ps  2 (pc' := 21) (ls' := [(0, .ref 295), (1, .int a1), (2, .int a2)]) (st' := [.int (0 : Int32), .ref 295]) rfl ?_
      obtain ⟨o12, ho12, h⟩ := tk_bnd h
      refine tk_cV1  rfl rfl (r := 295) (as := [.int (0 : Int32)]) (rest := []) rfl ly295 rfl rfl (ok_fM_finds sc (0 : Int32) m ho12) ?_
      replace h := Option.some.inj h
      subst h
      exact tk_RI  rfl rfl rfl
  · replace h := tk_ifF hc1 h
    refine tk_bF  rfl rfl tk_eB_eq (c := (fM_isSpot a1) = true) hc1 (pc' := 19) (ls' := [(0, .ref 295), (1, .int a1), (2, .int a2)]) (st' := []) ?_
    refine tk_Ps  2 (pc' := 21) (ls' := [(0, .ref 295), (1, .int a1), (2, .int a2)]) (st' := [.int (0 : Int32), .ref 295]) rfl ?_
    obtain ⟨o13, ho13, h⟩ := tk_bnd h
    refine tk_cV1  rfl rfl (r := 295) (as := [.int (0 : Int32)]) (rest := []) rfl ly295 rfl rfl (ok_fM_finds sc (0 : Int32) m ho13) ?_
    replace h := Option.some.inj h
    subst h
    exact tk_RI  rfl rfl rfl
theorem ok_fM_clear (sc : tk_X) (a1 : Int32) (m : tk_m) {out : Int32 × tk_m} (h : fM_clear a1 m = some out) : tk_Ru sc 3 273 [.ref 295, .int a1] (tk_full m) (some (.int out.1), tk_full out.2) := by
  unfold fM_clear at h
  refine tk_Ru0 me273 (ls := [(0, .ref 295), (1, .int a1)]) rfl rfl ?_
  refine tk_Ps  1 (pc' := 1) (ls' := [(0, .ref 295), (1, .int a1)]) (st' := [.int a1]) rfl ?_
  refine tk_cS1  rfl rfl (as := [.int a1]) (rest := []) rfl rfl rfl (ok_fM_isSpot sc a1 m) ?_
  by_cases hc1 : (fM_isSpot a1) = true
  · replace h := tk_ifT hc1 h
    refine tk_bT  rfl rfl tk_eB_ne (c := (fM_isSpot a1) = true) hc1 (pc' := 13) (ls' := [(0, .ref 295), (1, .int a1)]) (st' := []) ?_
    refine tk_Ps  1 (pc' := 14) (ls' := [(0, .ref 295), (1, .int a1)]) (st' := [.ref 295]) rfl ?_
    refine tk_HR  rfl rfl ly295 rt295_27 ?_
    refine tk_Ps  1 (pc' := 18) (ls' := [(0, .ref 295), (1, .int a1)]) (st' := [.int a1, .ref 450]) rfl ?_
    obtain ⟨hg2, h⟩ := tk_grd h
    refine tk_HBa  rfl rfl ly450 hg2 ?_
    by_cases hc3 : (m.2.2.1 450 (tk_n a1)) = true
    · replace h := tk_ifT hc3 h
      refine tk_bT  rfl rfl tk_eB_eq (c := (m.2.2.1 450 (tk_n a1)) = true) hc3 (pc' := 22) (ls' := [(0, .ref 295), (1, .int a1)]) (st' := []) ?_
      refine tk_Ps  4 (pc' := 29) (ls' := [(2, .int (1 : Int32)), (0, .ref 295), (1, .int a1)]) (st' := [.ref 295]) rfl ?_
      refine tk_HR  rfl rfl ly295 rt295_27 ?_
      refine tk_Ps  2 (pc' := 34) (ls' := [(2, .int (1 : Int32)), (0, .ref 295), (1, .int a1)]) (st' := [.int (0 : Int32), .int a1, .ref 450]) rfl ?_
      refine tk_SBa (b := false)  rfl rfl ly450 hg2 ?_
      refine tk_Ps  1 (pc' := 36) (ls' := [(2, .int (1 : Int32)), (0, .ref 295), (1, .int a1)]) (st' := [.int (1 : Int32)]) rfl ?_
      replace h := Option.some.inj h
      subst h
      exact tk_RI  rfl rfl rfl
    · replace h := tk_ifF hc3 h
      refine tk_bF  rfl rfl tk_eB_eq (c := (m.2.2.1 450 (tk_n a1)) = true) hc3 (pc' := 26) (ls' := [(0, .ref 295), (1, .int a1)]) (st' := []) ?_
      refine tk_Ps  3 (pc' := 29) (ls' := [(2, .int (0 : Int32)), (0, .ref 295), (1, .int a1)]) (st' := [.ref 295]) rfl ?_
      refine tk_HR  rfl rfl ly295 rt295_27 ?_
      refine tk_Ps  2 (pc' := 34) (ls' := [(2, .int (0 : Int32)), (0, .ref 295), (1, .int a1)]) (st' := [.int (0 : Int32), .int a1, .ref 450]) rfl ?_
      refine tk_SBa (b := false)  rfl rfl ly450 hg2 ?_
      refine tk_Ps  1 (pc' := 36) (ls' := [(2, .int (0 : Int32)), (0, .ref 295), (1, .int a1)]) (st' := [.int (0 : Int32)]) rfl ?_
      replace h := Option.some.inj h
      subst h
      exact tk_RI  rfl rfl rfl
  · replace h := tk_ifF hc1 h
    refine tk_bF  rfl rfl tk_eB_ne (c := (fM_isSpot a1) = true) hc1 (pc' := 7) (ls' := [(0, .ref 295), (1, .int a1)]) (st' := []) ?_
    refine tk_Ps  2 (pc' := 9) (ls' := [(0, .ref 295), (1, .int a1)]) (st' := [.int (0 : Int32), .ref 295]) rfl ?_
    obtain ⟨o4, ho4, h⟩ := tk_bnd h
    refine tk_cV1  rfl rfl (r := 295) (as := [.int (0 : Int32)]) (rest := []) rfl ly295 rfl rfl (ok_fM_finds sc (0 : Int32) m ho4) ?_
    replace h := Option.some.inj h
    subst h
    exact tk_RI  rfl rfl rfl
theorem ok_fM_sheet_83 (sc : tk_X) : ∀ (n : Nat) (v1 : Int32) (v4 : Int32) (m : tk_m) (out : Int32 × tk_m), fM_sheet_83 n v1 v4 m = some out → tk_Ex sc 2 tk_r274 tk_k274 83 [(0, .ref 295), (1, .int v1), (4, .int v4)] [] (tk_full m) (some (.int out.1), tk_full out.2) := by
  intro n
  induction n with
  | zero =>
    intro v1 v4 m out h
    cases h
  | succ n ih =>
    intro v1 v4 m out h
    unfold fM_sheet_83 at h
    refine tk_Ps  2 (pc' := 87) (ls' := [(0, .ref 295), (1, .int v1), (4, .int v4)]) (st' := [.int (40 : Int32), .int v4]) rfl ?_
    by_cases hc1 : (40 : Int32) ≤ v4
    · replace h := tk_ifT hc1 h
      refine tk_bT  rfl rfl rfl (c := (40 : Int32) ≤ v4) hc1 (pc' := 106) (ls' := [(0, .ref 295), (1, .int v1), (4, .int v4)]) (st' := []) ?_
      refine tk_Ps  1 (pc' := 107) (ls' := [(0, .ref 295), (1, .int v1), (4, .int v4)]) (st' := [.ref 295]) rfl ?_
      refine tk_HR  rfl rfl ly295 rt295_24 ?_
      refine tk_Ps  1 (pc' := 111) (ls' := [(0, .ref 295), (1, .int v1), (4, .int v4)]) (st' := [.int v1, .ref 443]) rfl ?_
      obtain ⟨hg2, h⟩ := tk_grd h
      refine tk_HIa  rfl rfl ly443 hg2 ?_
      replace h := Option.some.inj h
      subst h
      exact tk_RI  rfl rfl rfl
    · replace h := tk_ifF hc1 h
      refine tk_bF  rfl rfl rfl (c := (40 : Int32) ≤ v4) hc1 (pc' := 90) (ls' := [(0, .ref 295), (1, .int v1), (4, .int v4)]) (st' := []) ?_
      refine tk_Ps  1 (pc' := 91) (ls' := [(0, .ref 295), (1, .int v1), (4, .int v4)]) (st' := [.ref 295]) rfl ?_
      refine tk_HR  rfl rfl ly295 rt295_25 ?_
      refine tk_Ps  1 (pc' := 95) (ls' := [(0, .ref 295), (1, .int v1), (4, .int v4)]) (st' := [.int v1, .ref 444]) rfl ?_
      obtain ⟨hg3, h⟩ := tk_grd h
      refine tk_HQ  rfl rfl ly444 hg3 (la444 _ (hg3).2).1 ?_
      refine tk_Ps  2 (pc' := 99) (ls' := [(0, .ref 295), (1, .int v1), (4, .int v4)]) (st' := [.long (0 : Int64), .int v4, .ref (445 + (tk_n v1))]) rfl ?_
      obtain ⟨hg4, h⟩ := tk_grd h
      refine tk_SJa  rfl rfl ((la444 _ (hg3).2).2) hg4 ?_
      refine tk_Ps  2 (pc' := 83) (ls' := [(4, .int (v4 + (1 : Int32))), (0, .ref 295), (1, .int v1)]) (st' := []) rfl ?_
      refine tk_Kp  (ls' := [(0, .ref 295), (1, .int v1), (4, .int (v4 + (1 : Int32)))]) rfl rfl ?_
      exact ih v1 (v4 + (1 : Int32)) (m.1, tk_u2 m.2.1 (445 + (tk_n v1)) (tk_n v4) (0 : Int64), m.2.2.1, m.2.2.2) _ h
theorem ok_fM_sheet_58 (sc : tk_X) (v1 : Int32) (v2 : Int32) (v3 : Int32) (m : tk_m) (out : Int32 × tk_m) (h : fM_sheet_58 v1 v2 v3 m = some out) : tk_Ex sc 2 tk_r274 tk_k274 58 [(0, .ref 295), (1, .int v1), (2, .int v2), (3, .int v3)] [] (tk_full m) (some (.int out.1), tk_full out.2) := by
  unfold fM_sheet_58 at h
  refine tk_Ps  1 (pc' := 59) (ls' := [(0, .ref 295), (1, .int v1), (2, .int v2), (3, .int v3)]) (st' := [.ref 295]) rfl ?_
  refine tk_HR  rfl rfl ly295 rt295_23 ?_
  refine tk_Ps  2 (pc' := 64) (ls' := [(0, .ref 295), (1, .int v1), (2, .int v2), (3, .int v3)]) (st' := [.int v2, .int v1, .ref 442]) rfl ?_
  obtain ⟨hg1, h⟩ := tk_grd h
  refine tk_SIa  rfl rfl ly442 hg1 ?_
  refine tk_Ps  1 (pc' := 66) (ls' := [(0, .ref 295), (1, .int v1), (2, .int v2), (3, .int v3)]) (st' := [.ref 295]) rfl ?_
  refine tk_HR  rfl rfl ly295 rt295_24 ?_
  refine tk_Ps  2 (pc' := 71) (ls' := [(0, .ref 295), (1, .int v1), (2, .int v2), (3, .int v3)]) (st' := [.int v2, .int v1, .ref 443]) rfl ?_
  by_cases hc2 : 0 ≤ v2
  · replace h := tk_ifT hc2 h
    refine tk_bT  rfl rfl rfl (c := 0 ≤ v2) hc2 (pc' := 78) (ls' := [(0, .ref 295), (1, .int v1), (2, .int v2), (3, .int v3)]) (st' := [.int v1, .ref 443]) ?_
    refine tk_Ps  1 (pc' := 79) (ls' := [(0, .ref 295), (1, .int v1), (2, .int v2), (3, .int v3)]) (st' := [.int v3, .int v1, .ref 443]) rfl ?_
    refine tk_SIa  rfl rfl ly443 hg1 ?_
    refine tk_Ps  2 (pc' := 83) (ls' := [(4, .int (0 : Int32)), (0, .ref 295), (1, .int v1), (2, .int v2), (3, .int v3)]) (st' := []) rfl ?_
    refine tk_Kp  (ls' := [(0, .ref 295), (1, .int v1), (4, .int (0 : Int32))]) rfl rfl ?_
    exact ok_fM_sheet_83 sc tk_F v1 (0 : Int32) (tk_u2 (tk_u2 m.1 442 (tk_n v1) v2) 443 (tk_n v1) v3, m.2.1, m.2.2.1, m.2.2.2) _ h
  · replace h := tk_ifF hc2 h
    refine tk_bF  rfl rfl rfl (c := 0 ≤ v2) hc2 (pc' := 74) (ls' := [(0, .ref 295), (1, .int v1), (2, .int v2), (3, .int v3)]) (st' := [.int v1, .ref 443]) ?_
    refine tk_Ps  2 (pc' := 79) (ls' := [(0, .ref 295), (1, .int v1), (2, .int v2), (3, .int v3)]) (st' := [.int (0 : Int32), .int v1, .ref 443]) rfl ?_
    refine tk_SIa  rfl rfl ly443 hg1 ?_
    refine tk_Ps  2 (pc' := 83) (ls' := [(4, .int (0 : Int32)), (0, .ref 295), (1, .int v1), (2, .int v2), (3, .int v3)]) (st' := []) rfl ?_
    refine tk_Kp  (ls' := [(0, .ref 295), (1, .int v1), (4, .int (0 : Int32))]) rfl rfl ?_
    exact ok_fM_sheet_83 sc tk_F v1 (0 : Int32) (tk_u2 (tk_u2 m.1 442 (tk_n v1) v2) 443 (tk_n v1) (0 : Int32), m.2.1, m.2.2.1, m.2.2.2) _ h
theorem ok_fM_sheet (sc : tk_X) (a1 : Int32) (a2 : Int32) (a3 : Int32) (m : tk_m) {out : Int32 × tk_m} (h : fM_sheet a1 a2 a3 m = some out) : tk_Ru sc 3 274 [.ref 295, .int a1, .int a2, .int a3] (tk_full m) (some (.int out.1), tk_full out.2) := by
  unfold fM_sheet at h
  refine tk_Ru0 me274 (ls := [(0, .ref 295), (1, .int a1), (2, .int a2), (3, .int a3)]) rfl rfl ?_
  refine tk_Ps  1 (pc' := 1) (ls' := [(0, .ref 295), (1, .int a1), (2, .int a2), (3, .int a3)]) (st' := [.int a1]) rfl ?_
  refine tk_cS1  rfl rfl (as := [.int a1]) (rest := []) rfl rfl rfl (ok_fM_isSheet sc a1 m) ?_
  by_cases hc1 : (fM_isSheet a1) = true
  · replace h := tk_ifT hc1 h
    refine tk_bT  rfl rfl tk_eB_eq (c := (fM_isSheet a1) = true) hc1 (pc' := 7) (ls' := [(0, .ref 295), (1, .int a1), (2, .int a2), (3, .int a3)]) (st' := []) ?_
    refine tk_Ps  4 (pc' := 15) (ls' := [(0, .ref 295), (1, .int a1), (2, .int a2), (3, .int a3)]) (st' := [.long (2 : Int64), .long (-1 : Int64), .long (Int32.toInt64 a2)]) rfl ?_
    refine tk_cS1  rfl rfl (as := [.long (Int32.toInt64 a2), .long (-1 : Int64), .long (2 : Int64)]) (rest := []) rfl rfl rfl (ok_fM_in sc (Int32.toInt64 a2) (-1 : Int64) (2 : Int64) m) ?_
    by_cases hc2 : (fM_in (Int32.toInt64 a2) (-1 : Int64) (2 : Int64)) = true
    · replace h := tk_ifT hc2 h
      refine tk_bT  rfl rfl tk_eB_ne (c := (fM_in (Int32.toInt64 a2) (-1 : Int64) (2 : Int64)) = true) hc2 (pc' := 27) (ls' := [(0, .ref 295), (1, .int a1), (2, .int a2), (3, .int a3)]) (st' := []) ?_
      refine tk_Ps  1 (pc' := 28) (ls' := [(0, .ref 295), (1, .int a1), (2, .int a2), (3, .int a3)]) (st' := [.int a2]) rfl ?_
      by_cases hc3 : a2 < 0
      · replace h := tk_ifT hc3 h
        refine tk_bT  rfl rfl rfl (c := a2 < 0) hc3 (pc' := 42) (ls' := [(0, .ref 295), (1, .int a1), (2, .int a2), (3, .int a3)]) (st' := []) ?_
        refine tk_Ps  1 (pc' := 43) (ls' := [(0, .ref 295), (1, .int a1), (2, .int a2), (3, .int a3)]) (st' := [.int a2]) rfl ?_
        refine tk_bT  rfl rfl rfl (c := a2 < 0) hc3 (pc' := 58) (ls' := [(0, .ref 295), (1, .int a1), (2, .int a2), (3, .int a3)]) (st' := []) ?_
        refine tk_Kp  (ls' := [(0, .ref 295), (1, .int a1), (2, .int a2), (3, .int a3)]) rfl rfl ?_
        exact ok_fM_sheet_58 sc a1 a2 a3 m _ h
      · replace h := tk_ifF hc3 h
        refine tk_bF  rfl rfl rfl (c := a2 < 0) hc3 (pc' := 31) (ls' := [(0, .ref 295), (1, .int a1), (2, .int a2), (3, .int a3)]) (st' := []) ?_
        refine tk_Ps  1 (pc' := 32) (ls' := [(0, .ref 295), (1, .int a1), (2, .int a2), (3, .int a3)]) (st' := [.int a3]) rfl ?_
        by_cases hc4 : 0 ≤ a3
        · replace h := tk_ifT hc4 h
          refine tk_bT  rfl rfl rfl (c := 0 ≤ a3) hc4 (pc' := 42) (ls' := [(0, .ref 295), (1, .int a1), (2, .int a2), (3, .int a3)]) (st' := []) ?_
          refine tk_Ps  1 (pc' := 43) (ls' := [(0, .ref 295), (1, .int a1), (2, .int a2), (3, .int a3)]) (st' := [.int a2]) rfl ?_
          refine tk_bF  rfl rfl rfl (c := a2 < 0) hc3 (pc' := 46) (ls' := [(0, .ref 295), (1, .int a1), (2, .int a2), (3, .int a3)]) (st' := []) ?_
          refine tk_Ps  2 (pc' := 49) (ls' := [(0, .ref 295), (1, .int a1), (2, .int a2), (3, .int a3)]) (st' := [.int (40 : Int32), .int a3]) rfl ?_
          by_cases hc5 : a3 ≤ (40 : Int32)
          · replace h := tk_ifT hc5 h
            refine tk_bT  rfl rfl rfl (c := a3 ≤ (40 : Int32)) hc5 (pc' := 58) (ls' := [(0, .ref 295), (1, .int a1), (2, .int a2), (3, .int a3)]) (st' := []) ?_
            refine tk_Kp  (ls' := [(0, .ref 295), (1, .int a1), (2, .int a2), (3, .int a3)]) rfl rfl ?_
            exact ok_fM_sheet_58 sc a1 a2 a3 m _ h
          · replace h := tk_ifF hc5 h
            refine tk_bF  rfl rfl rfl (c := a3 ≤ (40 : Int32)) hc5 (pc' := 52) (ls' := [(0, .ref 295), (1, .int a1), (2, .int a2), (3, .int a3)]) (st' := []) ?_
            refine tk_Ps  2 (pc' := 54) (ls' := [(0, .ref 295), (1, .int a1), (2, .int a2), (3, .int a3)]) (st' := [.int (0 : Int32), .ref 295]) rfl ?_
            obtain ⟨o6, ho6, h⟩ := tk_bnd h
            refine tk_cV1  rfl rfl (r := 295) (as := [.int (0 : Int32)]) (rest := []) rfl ly295 rfl rfl (ok_fM_finds sc (0 : Int32) m ho6) ?_
            replace h := Option.some.inj h
            subst h
            exact tk_RI  rfl rfl rfl
        · replace h := tk_ifF hc4 h
          refine tk_bF  rfl rfl rfl (c := 0 ≤ a3) hc4 (pc' := 35) (ls' := [(0, .ref 295), (1, .int a1), (2, .int a2), (3, .int a3)]) (st' := []) ?_
          refine tk_Ps  2 (pc' := 38) (ls' := [(0, .ref 295), (1, .int a1), (2, .int a2), (3, .int a3)]) (st' := [.int (6 : Int32), .ref 295]) rfl ?_
          obtain ⟨o7, ho7, h⟩ := tk_bnd h
          refine tk_cV1  rfl rfl (r := 295) (as := [.int (6 : Int32)]) (rest := []) rfl ly295 rfl rfl (ok_fM_finds sc (6 : Int32) m ho7) ?_
          replace h := Option.some.inj h
          subst h
          exact tk_RI  rfl rfl rfl
    · replace h := tk_ifF hc2 h
      refine tk_bF  rfl rfl tk_eB_ne (c := (fM_in (Int32.toInt64 a2) (-1 : Int64) (2 : Int64)) = true) hc2 (pc' := 21) (ls' := [(0, .ref 295), (1, .int a1), (2, .int a2), (3, .int a3)]) (st' := []) ?_
      refine tk_Ps  2 (pc' := 23) (ls' := [(0, .ref 295), (1, .int a1), (2, .int a2), (3, .int a3)]) (st' := [.int (0 : Int32), .ref 295]) rfl ?_
      obtain ⟨o8, ho8, h⟩ := tk_bnd h
      refine tk_cV1  rfl rfl (r := 295) (as := [.int (0 : Int32)]) (rest := []) rfl ly295 rfl rfl (ok_fM_finds sc (0 : Int32) m ho8) ?_
      replace h := Option.some.inj h
      subst h
      exact tk_RI  rfl rfl rfl
  · replace h := tk_ifF hc1 h
    refine tk_bF  rfl rfl tk_eB_eq (c := (fM_isSheet a1) = true) hc1 (pc' := 21) (ls' := [(0, .ref 295), (1, .int a1), (2, .int a2), (3, .int a3)]) (st' := []) ?_
    refine tk_Ps  2 (pc' := 23) (ls' := [(0, .ref 295), (1, .int a1), (2, .int a2), (3, .int a3)]) (st' := [.int (0 : Int32), .ref 295]) rfl ?_
    obtain ⟨o9, ho9, h⟩ := tk_bnd h
    refine tk_cV1  rfl rfl (r := 295) (as := [.int (0 : Int32)]) (rest := []) rfl ly295 rfl rfl (ok_fM_finds sc (0 : Int32) m ho9) ?_
    replace h := Option.some.inj h
    subst h
    exact tk_RI  rfl rfl rfl
theorem ok_fM_whyNoPlace (sc : tk_X) (a1 : Int32) (a2 : Int32) (m : tk_m) {out : Int32} (h : fM_whyNoPlace a1 a2 m = some out) : tk_Ru sc 3 276 [.ref 295, .int a1, .int a2] (tk_full m) (some (.int out), tk_full m) := by
  unfold fM_whyNoPlace at h
  refine tk_Ru0 me276 (ls := [(0, .ref 295), (1, .int a1), (2, .int a2)]) rfl rfl ?_
  refine tk_Ps  1 (pc' := 1) (ls' := [(0, .ref 295), (1, .int a1), (2, .int a2)]) (st' := [.int a1]) rfl ?_
  refine tk_cS1  rfl rfl (as := [.int a1]) (rest := []) rfl rfl rfl (ok_fM_isSheet sc a1 m) ?_
  by_cases hc1 : (fM_isSheet a1) = true
  · replace h := tk_ifT hc1 h
    refine tk_bT  rfl rfl tk_eB_ne (c := (fM_isSheet a1) = true) hc1 (pc' := 11) (ls' := [(0, .ref 295), (1, .int a1), (2, .int a2)]) (st' := []) ?_
    refine tk_Ps  1 (pc' := 12) (ls' := [(0, .ref 295), (1, .int a1), (2, .int a2)]) (st' := [.ref 295]) rfl ?_
    refine tk_HR  rfl rfl ly295 rt295_23 ?_
    refine tk_Ps  1 (pc' := 16) (ls' := [(0, .ref 295), (1, .int a1), (2, .int a2)]) (st' := [.int a1, .ref 442]) rfl ?_
    obtain ⟨hg2, h⟩ := tk_grd h
    refine tk_HIa  rfl rfl ly442 hg2 ?_
    by_cases hc3 : 0 ≤ (m.1 442 (tk_n a1))
    · replace h := tk_ifT hc3 h
      refine tk_bT  rfl rfl rfl (c := 0 ≤ (m.1 442 (tk_n a1))) hc3 (pc' := 24) (ls' := [(0, .ref 295), (1, .int a1), (2, .int a2)]) (st' := []) ?_
      refine tk_Ps  4 (pc' := 28) (ls' := [(0, .ref 295), (1, .int a1), (2, .int a2)]) (st' := [.ref 295, .long (0 : Int64), .long (Int32.toInt64 a2)]) rfl ?_
      refine tk_HR  rfl rfl ly295 rt295_24 ?_
      refine tk_Ps  1 (pc' := 32) (ls' := [(0, .ref 295), (1, .int a1), (2, .int a2)]) (st' := [.int a1, .ref 443, .long (0 : Int64), .long (Int32.toInt64 a2)]) rfl ?_
      refine tk_HIa  rfl rfl ly443 hg2 ?_
      refine tk_Ps  3 (pc' := 36) (ls' := [(0, .ref 295), (1, .int a1), (2, .int a2)]) (st' := [.long (Int32.toInt64 ((m.1 443 (tk_n a1)) - (1 : Int32))), .long (0 : Int64), .long (Int32.toInt64 a2)]) rfl ?_
      refine tk_cS1  rfl rfl (as := [.long (Int32.toInt64 a2), .long (0 : Int64), .long (Int32.toInt64 ((m.1 443 (tk_n a1)) - (1 : Int32)))]) (rest := []) rfl rfl rfl (ok_fM_in sc (Int32.toInt64 a2) (0 : Int64) (Int32.toInt64 ((m.1 443 (tk_n a1)) - (1 : Int32))) m) ?_
      by_cases hc4 : (fM_in (Int32.toInt64 a2) (0 : Int64) (Int32.toInt64 ((m.1 443 (tk_n a1)) - (1 : Int32)))) = true
      · replace h := tk_ifT hc4 h
        refine tk_bT  rfl rfl tk_eB_ne (c := (fM_in (Int32.toInt64 a2) (0 : Int64) (Int32.toInt64 ((m.1 443 (tk_n a1)) - (1 : Int32)))) = true) hc4 (pc' := 46) (ls' := [(0, .ref 295), (1, .int a1), (2, .int a2)]) (st' := []) ?_
        refine tk_Ps  1 (pc' := 47) (ls' := [(0, .ref 295), (1, .int a1), (2, .int a2)]) (st' := [.int (-1 : Int32)]) rfl ?_
        replace h := Option.some.inj h
        subst h
        exact tk_RI  rfl rfl rfl
      · replace h := tk_ifF hc4 h
        refine tk_bF  rfl rfl tk_eB_ne (c := (fM_in (Int32.toInt64 a2) (0 : Int64) (Int32.toInt64 ((m.1 443 (tk_n a1)) - (1 : Int32)))) = true) hc4 (pc' := 42) (ls' := [(0, .ref 295), (1, .int a1), (2, .int a2)]) (st' := []) ?_
        refine tk_Ps  2 (pc' := 47) (ls' := [(0, .ref 295), (1, .int a1), (2, .int a2)]) (st' := [.int (0 : Int32)]) rfl ?_
        replace h := Option.some.inj h
        subst h
        exact tk_RI  rfl rfl rfl
    · replace h := tk_ifF hc3 h
      refine tk_bF  rfl rfl rfl (c := 0 ≤ (m.1 442 (tk_n a1))) hc3 (pc' := 20) (ls' := [(0, .ref 295), (1, .int a1), (2, .int a2)]) (st' := []) ?_
      refine tk_Ps  2 (pc' := 47) (ls' := [(0, .ref 295), (1, .int a1), (2, .int a2)]) (st' := [.int (5 : Int32)]) rfl ?_
      replace h := Option.some.inj h
      subst h
      exact tk_RI  rfl rfl rfl
  · replace h := tk_ifF hc1 h
    refine tk_bF  rfl rfl tk_eB_ne (c := (fM_isSheet a1) = true) hc1 (pc' := 7) (ls' := [(0, .ref 295), (1, .int a1), (2, .int a2)]) (st' := []) ?_
    refine tk_Ps  2 (pc' := 47) (ls' := [(0, .ref 295), (1, .int a1), (2, .int a2)]) (st' := [.int (0 : Int32)]) rfl ?_
    replace h := Option.some.inj h
    subst h
    exact tk_RI  rfl rfl rfl
theorem ok_fM_write (sc : tk_X) (a1 : Int32) (a2 : Int32) (a3 : Int64) (m : tk_m) {out : Int32 × tk_m} (h : fM_write a1 a2 a3 m = some out) : tk_Ru sc 4 275 [.ref 295, .int a1, .int a2, .long a3] (tk_full m) (some (.int out.1), tk_full out.2) := by
  unfold fM_write at h
  refine tk_Ru0 me275 (ls := [(0, .ref 295), (1, .int a1), (2, .int a2), (3, .long a3)]) rfl rfl ?_
  refine tk_Ps  3 (pc' := 3) (ls' := [(0, .ref 295), (1, .int a1), (2, .int a2), (3, .long a3)]) (st' := [.int a2, .int a1, .ref 295]) rfl ?_
  obtain ⟨o1, ho1, h⟩ := tk_bnd h
  refine tk_cV1  rfl rfl (r := 295) (as := [.int a1, .int a2]) (rest := []) rfl ly295 rfl rfl (ok_fM_whyNoPlace sc a1 a2 m ho1) ?_
  refine tk_Ps  2 (pc' := 10) (ls' := [(5, .int o1), (0, .ref 295), (1, .int a1), (2, .int a2), (3, .long a3)]) (st' := [.int o1]) rfl ?_
  by_cases hc2 : o1 < 0
  · replace h := tk_ifT hc2 h
    refine tk_bT  rfl rfl rfl (c := o1 < 0) hc2 (pc' := 20) (ls' := [(5, .int o1), (0, .ref 295), (1, .int a1), (2, .int a2), (3, .long a3)]) (st' := []) ?_
    refine tk_Ps  1 (pc' := 21) (ls' := [(5, .int o1), (0, .ref 295), (1, .int a1), (2, .int a2), (3, .long a3)]) (st' := [.ref 295]) rfl ?_
    refine tk_HR  rfl rfl ly295 rt295_25 ?_
    refine tk_Ps  1 (pc' := 25) (ls' := [(5, .int o1), (0, .ref 295), (1, .int a1), (2, .int a2), (3, .long a3)]) (st' := [.int a1, .ref 444]) rfl ?_
    obtain ⟨hg3, h⟩ := tk_grd h
    refine tk_HQ  rfl rfl ly444 hg3 (la444 _ (hg3).2).1 ?_
    refine tk_Ps  2 (pc' := 28) (ls' := [(5, .int o1), (0, .ref 295), (1, .int a1), (2, .int a2), (3, .long a3)]) (st' := [.ref 295, .int a2, .ref (445 + (tk_n a1))]) rfl ?_
    refine tk_HR  rfl rfl ly295 rt295_23 ?_
    refine tk_Ps  1 (pc' := 32) (ls' := [(5, .int o1), (0, .ref 295), (1, .int a1), (2, .int a2), (3, .long a3)]) (st' := [.int a1, .ref 442, .int a2, .ref (445 + (tk_n a1))]) rfl ?_
    refine tk_HIa  rfl rfl ly442 hg3 ?_
    refine tk_Ps  1 (pc' := 34) (ls' := [(5, .int o1), (0, .ref 295), (1, .int a1), (2, .int a2), (3, .long a3)]) (st' := [.long a3, .int (m.1 442 (tk_n a1)), .int a2, .ref (445 + (tk_n a1))]) rfl ?_
    refine tk_cS1  rfl rfl (as := [.int (m.1 442 (tk_n a1)), .long a3]) (rest := [.int a2, .ref (445 + (tk_n a1))]) rfl rfl rfl (ok_fM_cut sc (m.1 442 (tk_n a1)) a3 m) ?_
    obtain ⟨hg4, h⟩ := tk_grd h
    refine tk_SJa  rfl rfl ((la444 _ (hg3).2).2) hg4 ?_
    refine tk_Ps  1 (pc' := 39) (ls' := [(5, .int o1), (0, .ref 295), (1, .int a1), (2, .int a2), (3, .long a3)]) (st' := [.int (1 : Int32)]) rfl ?_
    replace h := Option.some.inj h
    subst h
    exact tk_RI  rfl rfl rfl
  · replace h := tk_ifF hc2 h
    refine tk_bF  rfl rfl rfl (c := o1 < 0) hc2 (pc' := 13) (ls' := [(5, .int o1), (0, .ref 295), (1, .int a1), (2, .int a2), (3, .long a3)]) (st' := []) ?_
    refine tk_Ps  2 (pc' := 16) (ls' := [(5, .int o1), (0, .ref 295), (1, .int a1), (2, .int a2), (3, .long a3)]) (st' := [.int o1, .ref 295]) rfl ?_
    obtain ⟨o5, ho5, h⟩ := tk_bnd h
    refine tk_cV1  rfl rfl (r := 295) (as := [.int o1]) (rest := []) rfl ly295 rfl rfl (ok_fM_finds sc o1 m ho5) ?_
    replace h := Option.some.inj h
    subst h
    exact tk_RI  rfl rfl rfl
theorem ok_fM_item (sc : tk_X) (a1 : Int32) (a2 : Int32) (m : tk_m) {out : Int64 × tk_m} (h : fM_item a1 a2 m = some out) : tk_Ru sc 4 277 [.ref 295, .int a1, .int a2] (tk_full m) (some (.long out.1), tk_full out.2) := by
  unfold fM_item at h
  refine tk_Ru0 me277 (ls := [(0, .ref 295), (1, .int a1), (2, .int a2)]) rfl rfl ?_
  refine tk_Ps  3 (pc' := 3) (ls' := [(0, .ref 295), (1, .int a1), (2, .int a2)]) (st' := [.int a2, .int a1, .ref 295]) rfl ?_
  obtain ⟨o1, ho1, h⟩ := tk_bnd h
  refine tk_cV1  rfl rfl (r := 295) (as := [.int a1, .int a2]) (rest := []) rfl ly295 rfl rfl (ok_fM_whyNoPlace sc a1 a2 m ho1) ?_
  refine tk_Ps  2 (pc' := 8) (ls' := [(3, .int o1), (0, .ref 295), (1, .int a1), (2, .int a2)]) (st' := [.int o1]) rfl ?_
  by_cases hc2 : o1 < 0
  · replace h := tk_ifT hc2 h
    refine tk_bT  rfl rfl rfl (c := o1 < 0) hc2 (pc' := 19) (ls' := [(3, .int o1), (0, .ref 295), (1, .int a1), (2, .int a2)]) (st' := []) ?_
    refine tk_Ps  1 (pc' := 20) (ls' := [(3, .int o1), (0, .ref 295), (1, .int a1), (2, .int a2)]) (st' := [.ref 295]) rfl ?_
    refine tk_HR  rfl rfl ly295 rt295_25 ?_
    refine tk_Ps  1 (pc' := 24) (ls' := [(3, .int o1), (0, .ref 295), (1, .int a1), (2, .int a2)]) (st' := [.int a1, .ref 444]) rfl ?_
    obtain ⟨hg3, h⟩ := tk_grd h
    refine tk_HQ  rfl rfl ly444 hg3 (la444 _ (hg3).2).1 ?_
    refine tk_Ps  1 (pc' := 26) (ls' := [(3, .int o1), (0, .ref 295), (1, .int a1), (2, .int a2)]) (st' := [.int a2, .ref (445 + (tk_n a1))]) rfl ?_
    obtain ⟨hg4, h⟩ := tk_grd h
    refine tk_HJa  rfl rfl ((la444 _ (hg3).2).2) hg4 ?_
    replace h := Option.some.inj h
    subst h
    exact tk_RJ  rfl rfl rfl
  · replace h := tk_ifF hc2 h
    refine tk_bF  rfl rfl rfl (c := o1 < 0) hc2 (pc' := 11) (ls' := [(3, .int o1), (0, .ref 295), (1, .int a1), (2, .int a2)]) (st' := []) ?_
    refine tk_Ps  2 (pc' := 13) (ls' := [(3, .int o1), (0, .ref 295), (1, .int a1), (2, .int a2)]) (st' := [.int o1, .ref 295]) rfl ?_
    obtain ⟨o5, ho5, h⟩ := tk_bnd h
    refine tk_cV1  rfl rfl (r := 295) (as := [.int o1]) (rest := []) rfl ly295 rfl rfl (ok_fM_findsLong sc o1 m ho5) ?_
    refine tk_Ps  1 (pc' := 27) (ls' := [(3, .int o1), (0, .ref 295), (1, .int a1), (2, .int a2)]) (st' := [.long o5.1]) rfl ?_
    replace h := Option.some.inj h
    subst h
    exact tk_RJ  rfl rfl rfl
theorem ok_fM_copy_157 (sc : tk_X) : ∀ (n : Nat) (v3 : Int32) (v4 : Int32) (v5 : Int32) (v6 : Int32) (m : tk_m) (out : Int32 × tk_m), fM_copy_157 n v3 v4 v5 v6 m = some out → tk_Ex sc 2 tk_r278 tk_k278 157 [(0, .ref 295), (3, .int v3), (4, .int v4), (5, .int v5), (6, .int v6)] [] (tk_full m) (some (.int out.1), tk_full out.2) := by
  intro n
  induction n with
  | zero =>
    intro v3 v4 v5 v6 m out h
    cases h
  | succ n ih =>
    intro v3 v4 v5 v6 m out h
    unfold fM_copy_157 at h
    refine tk_Ps  2 (pc' := 161) (ls' := [(0, .ref 295), (3, .int v3), (4, .int v4), (5, .int v5), (6, .int v6)]) (st' := [.int v5, .int v6]) rfl ?_
    by_cases hc1 : v5 ≤ v6
    · replace h := tk_ifT hc1 h
      refine tk_bT  rfl rfl rfl (c := v5 ≤ v6) hc1 (pc' := 189) (ls' := [(0, .ref 295), (3, .int v3), (4, .int v4), (5, .int v5), (6, .int v6)]) (st' := []) ?_
      refine tk_Ps  1 (pc' := 191) (ls' := [(0, .ref 295), (3, .int v3), (4, .int v4), (5, .int v5), (6, .int v6)]) (st' := [.int v5]) rfl ?_
      replace h := Option.some.inj h
      subst h
      exact tk_RI  rfl rfl rfl
    · replace h := tk_ifF hc1 h
      refine tk_bF  rfl rfl rfl (c := v5 ≤ v6) hc1 (pc' := 164) (ls' := [(0, .ref 295), (3, .int v3), (4, .int v4), (5, .int v5), (6, .int v6)]) (st' := []) ?_
      refine tk_Ps  1 (pc' := 165) (ls' := [(0, .ref 295), (3, .int v3), (4, .int v4), (5, .int v5), (6, .int v6)]) (st' := [.ref 295]) rfl ?_
      refine tk_HR  rfl rfl ly295 rt295_25 ?_
      refine tk_Ps  1 (pc' := 169) (ls' := [(0, .ref 295), (3, .int v3), (4, .int v4), (5, .int v5), (6, .int v6)]) (st' := [.int v3, .ref 444]) rfl ?_
      obtain ⟨hg2, h⟩ := tk_grd h
      refine tk_HQ  rfl rfl ly444 hg2 (la444 _ (hg2).2).1 ?_
      refine tk_Ps  4 (pc' := 176) (ls' := [(0, .ref 295), (3, .int v3), (4, .int v4), (5, .int v5), (6, .int v6)]) (st' := [.ref 295, .int (v4 + v6), .ref (445 + (tk_n v3))]) rfl ?_
      refine tk_HR  rfl rfl ly295 rt295_30 ?_
      refine tk_Ps  1 (pc' := 181) (ls' := [(0, .ref 295), (3, .int v3), (4, .int v4), (5, .int v5), (6, .int v6)]) (st' := [.int v6, .ref 459, .int (v4 + v6), .ref (445 + (tk_n v3))]) rfl ?_
      obtain ⟨hg3, h⟩ := tk_grd h
      refine tk_HJa  rfl rfl ly459 hg3 ?_
      obtain ⟨hg4, h⟩ := tk_grd h
      refine tk_SJa  rfl rfl ((la444 _ (hg2).2).2) hg4 ?_
      refine tk_Ps  2 (pc' := 157) (ls' := [(6, .int (v6 + (1 : Int32))), (0, .ref 295), (3, .int v3), (4, .int v4), (5, .int v5)]) (st' := []) rfl ?_
      refine tk_Kp  (ls' := [(0, .ref 295), (3, .int v3), (4, .int v4), (5, .int v5), (6, .int (v6 + (1 : Int32)))]) rfl rfl ?_
      exact ih v3 v4 v5 (v6 + (1 : Int32)) (m.1, tk_u2 m.2.1 (445 + (tk_n v3)) (tk_n (v4 + v6)) (m.2.1 459 (tk_n v6)), m.2.2.1, m.2.2.2) _ h
theorem ok_fM_copy_123 (sc : tk_X) : ∀ (n : Nat) (v1 : Int32) (v2 : Int32) (v3 : Int32) (v4 : Int32) (v5 : Int32) (v6 : Int32) (m : tk_m) (out : Int32 × tk_m), fM_copy_123 n v1 v2 v3 v4 v5 v6 m = some out → tk_Ex sc 2 tk_r278 tk_k278 123 [(0, .ref 295), (1, .int v1), (2, .int v2), (3, .int v3), (4, .int v4), (5, .int v5), (6, .int v6)] [] (tk_full m) (some (.int out.1), tk_full out.2) := by
  intro n
  induction n with
  | zero =>
    intro v1 v2 v3 v4 v5 v6 m out h
    cases h
  | succ n ih =>
    intro v1 v2 v3 v4 v5 v6 m out h
    unfold fM_copy_123 at h
    refine tk_Ps  2 (pc' := 127) (ls' := [(0, .ref 295), (1, .int v1), (2, .int v2), (3, .int v3), (4, .int v4), (5, .int v5), (6, .int v6)]) (st' := [.int v5, .int v6]) rfl ?_
    by_cases hc1 : v5 ≤ v6
    · replace h := tk_ifT hc1 h
      refine tk_bT  rfl rfl rfl (c := v5 ≤ v6) hc1 (pc' := 154) (ls' := [(0, .ref 295), (1, .int v1), (2, .int v2), (3, .int v3), (4, .int v4), (5, .int v5), (6, .int v6)]) (st' := []) ?_
      refine tk_Ps  2 (pc' := 157) (ls' := [(6, .int (0 : Int32)), (0, .ref 295), (1, .int v1), (2, .int v2), (3, .int v3), (4, .int v4), (5, .int v5)]) (st' := []) rfl ?_
      refine tk_Kp  (ls' := [(0, .ref 295), (3, .int v3), (4, .int v4), (5, .int v5), (6, .int (0 : Int32))]) rfl rfl ?_
      exact ok_fM_copy_157 sc tk_F v3 v4 v5 (0 : Int32) m _ h
    · replace h := tk_ifF hc1 h
      refine tk_bF  rfl rfl rfl (c := v5 ≤ v6) hc1 (pc' := 130) (ls' := [(0, .ref 295), (1, .int v1), (2, .int v2), (3, .int v3), (4, .int v4), (5, .int v5), (6, .int v6)]) (st' := []) ?_
      refine tk_Ps  1 (pc' := 131) (ls' := [(0, .ref 295), (1, .int v1), (2, .int v2), (3, .int v3), (4, .int v4), (5, .int v5), (6, .int v6)]) (st' := [.ref 295]) rfl ?_
      refine tk_HR  rfl rfl ly295 rt295_30 ?_
      refine tk_Ps  2 (pc' := 137) (ls' := [(0, .ref 295), (1, .int v1), (2, .int v2), (3, .int v3), (4, .int v4), (5, .int v5), (6, .int v6)]) (st' := [.ref 295, .int v6, .ref 459]) rfl ?_
      refine tk_HR  rfl rfl ly295 rt295_25 ?_
      refine tk_Ps  1 (pc' := 141) (ls' := [(0, .ref 295), (1, .int v1), (2, .int v2), (3, .int v3), (4, .int v4), (5, .int v5), (6, .int v6)]) (st' := [.int v1, .ref 444, .int v6, .ref 459]) rfl ?_
      obtain ⟨hg2, h⟩ := tk_grd h
      refine tk_HQ  rfl rfl ly444 hg2 (la444 _ (hg2).2).1 ?_
      refine tk_Ps  3 (pc' := 146) (ls' := [(0, .ref 295), (1, .int v1), (2, .int v2), (3, .int v3), (4, .int v4), (5, .int v5), (6, .int v6)]) (st' := [.int (v2 + v6), .ref (445 + (tk_n v1)), .int v6, .ref 459]) rfl ?_
      obtain ⟨hg3, h⟩ := tk_grd h
      refine tk_HJa  rfl rfl ((la444 _ (hg2).2).2) hg3 ?_
      obtain ⟨hg4, h⟩ := tk_grd h
      refine tk_SJa  rfl rfl ly459 hg4 ?_
      refine tk_Ps  2 (pc' := 123) (ls' := [(6, .int (v6 + (1 : Int32))), (0, .ref 295), (1, .int v1), (2, .int v2), (3, .int v3), (4, .int v4), (5, .int v5)]) (st' := []) rfl ?_
      refine tk_Kp  (ls' := [(0, .ref 295), (1, .int v1), (2, .int v2), (3, .int v3), (4, .int v4), (5, .int v5), (6, .int (v6 + (1 : Int32)))]) rfl rfl ?_
      exact ih v1 v2 v3 v4 v5 (v6 + (1 : Int32)) (m.1, tk_u2 m.2.1 459 (tk_n v6) (m.2.1 (445 + (tk_n v1)) (tk_n (v2 + v6))), m.2.2.1, m.2.2.2) _ h
theorem ok_fM_copy (sc : tk_X) (a1 : Int32) (a2 : Int32) (a3 : Int32) (a4 : Int32) (a5 : Int32) (m : tk_m) {out : Int32 × tk_m} (h : fM_copy a1 a2 a3 a4 a5 m = some out) : tk_Ru sc 3 278 [.ref 295, .int a1, .int a2, .int a3, .int a4, .int a5] (tk_full m) (some (.int out.1), tk_full out.2) := by
  unfold fM_copy at h
  refine tk_Ru0 me278 (ls := [(0, .ref 295), (1, .int a1), (2, .int a2), (3, .int a3), (4, .int a4), (5, .int a5)]) rfl rfl ?_
  refine tk_Ps  1 (pc' := 1) (ls' := [(0, .ref 295), (1, .int a1), (2, .int a2), (3, .int a3), (4, .int a4), (5, .int a5)]) (st' := [.int a1]) rfl ?_
  refine tk_cS1  rfl rfl (as := [.int a1]) (rest := []) rfl rfl rfl (ok_fM_isSheet sc a1 m) ?_
  by_cases hc1 : (fM_isSheet a1) = true
  · replace h := tk_ifT hc1 h
    refine tk_bT  rfl rfl tk_eB_eq (c := (fM_isSheet a1) = true) hc1 (pc' := 7) (ls' := [(0, .ref 295), (1, .int a1), (2, .int a2), (3, .int a3), (4, .int a4), (5, .int a5)]) (st' := []) ?_
    refine tk_Ps  1 (pc' := 8) (ls' := [(0, .ref 295), (1, .int a1), (2, .int a2), (3, .int a3), (4, .int a4), (5, .int a5)]) (st' := [.int a3]) rfl ?_
    refine tk_cS1  rfl rfl (as := [.int a3]) (rest := []) rfl rfl rfl (ok_fM_isSheet sc a3 m) ?_
    by_cases hc2 : (fM_isSheet a3) = true
    · replace h := tk_ifT hc2 h
      refine tk_bT  rfl rfl tk_eB_ne (c := (fM_isSheet a3) = true) hc2 (pc' := 20) (ls' := [(0, .ref 295), (1, .int a1), (2, .int a2), (3, .int a3), (4, .int a4), (5, .int a5)]) (st' := []) ?_
      refine tk_Ps  1 (pc' := 21) (ls' := [(0, .ref 295), (1, .int a1), (2, .int a2), (3, .int a3), (4, .int a4), (5, .int a5)]) (st' := [.ref 295]) rfl ?_
      refine tk_HR  rfl rfl ly295 rt295_23 ?_
      refine tk_Ps  1 (pc' := 25) (ls' := [(0, .ref 295), (1, .int a1), (2, .int a2), (3, .int a3), (4, .int a4), (5, .int a5)]) (st' := [.int a1, .ref 442]) rfl ?_
      obtain ⟨hg3, h⟩ := tk_grd h
      refine tk_HIa  rfl rfl ly442 hg3 ?_
      by_cases hc4 : (m.1 442 (tk_n a1)) < 0
      · replace h := tk_ifT hc4 h
        refine tk_bT  rfl rfl rfl (c := (m.1 442 (tk_n a1)) < 0) hc4 (pc' := 38) (ls' := [(0, .ref 295), (1, .int a1), (2, .int a2), (3, .int a3), (4, .int a4), (5, .int a5)]) (st' := []) ?_
        refine tk_Ps  2 (pc' := 40) (ls' := [(0, .ref 295), (1, .int a1), (2, .int a2), (3, .int a3), (4, .int a4), (5, .int a5)]) (st' := [.int (5 : Int32), .ref 295]) rfl ?_
        obtain ⟨o5, ho5, h⟩ := tk_bnd h
        refine tk_cV1  rfl rfl (r := 295) (as := [.int (5 : Int32)]) (rest := []) rfl ly295 rfl rfl (ok_fM_finds sc (5 : Int32) m ho5) ?_
        replace h := Option.some.inj h
        subst h
        exact tk_RI  rfl rfl rfl
      · replace h := tk_ifF hc4 h
        refine tk_bF  rfl rfl rfl (c := (m.1 442 (tk_n a1)) < 0) hc4 (pc' := 29) (ls' := [(0, .ref 295), (1, .int a1), (2, .int a2), (3, .int a3), (4, .int a4), (5, .int a5)]) (st' := []) ?_
        refine tk_Ps  1 (pc' := 30) (ls' := [(0, .ref 295), (1, .int a1), (2, .int a2), (3, .int a3), (4, .int a4), (5, .int a5)]) (st' := [.ref 295]) rfl ?_
        refine tk_HR  rfl rfl ly295 rt295_23 ?_
        refine tk_Ps  1 (pc' := 34) (ls' := [(0, .ref 295), (1, .int a1), (2, .int a2), (3, .int a3), (4, .int a4), (5, .int a5)]) (st' := [.int a3, .ref 442]) rfl ?_
        obtain ⟨hg6, h⟩ := tk_grd h
        refine tk_HIa  rfl rfl ly442 hg6 ?_
        by_cases hc7 : 0 ≤ (m.1 442 (tk_n a3))
        · replace h := tk_ifT hc7 h
          refine tk_bT  rfl rfl rfl (c := 0 ≤ (m.1 442 (tk_n a3))) hc7 (pc' := 44) (ls' := [(0, .ref 295), (1, .int a1), (2, .int a2), (3, .int a3), (4, .int a4), (5, .int a5)]) (st' := []) ?_
          refine tk_Ps  1 (pc' := 45) (ls' := [(0, .ref 295), (1, .int a1), (2, .int a2), (3, .int a3), (4, .int a4), (5, .int a5)]) (st' := [.ref 295]) rfl ?_
          refine tk_HR  rfl rfl ly295 rt295_23 ?_
          refine tk_Ps  1 (pc' := 49) (ls' := [(0, .ref 295), (1, .int a1), (2, .int a2), (3, .int a3), (4, .int a4), (5, .int a5)]) (st' := [.int a1, .ref 442]) rfl ?_
          refine tk_HIa  rfl rfl ly442 hg3 ?_
          refine tk_Ps  1 (pc' := 51) (ls' := [(0, .ref 295), (1, .int a1), (2, .int a2), (3, .int a3), (4, .int a4), (5, .int a5)]) (st' := [.ref 295, .int (m.1 442 (tk_n a1))]) rfl ?_
          refine tk_HR  rfl rfl ly295 rt295_23 ?_
          refine tk_Ps  1 (pc' := 55) (ls' := [(0, .ref 295), (1, .int a1), (2, .int a2), (3, .int a3), (4, .int a4), (5, .int a5)]) (st' := [.int a3, .ref 442, .int (m.1 442 (tk_n a1))]) rfl ?_
          refine tk_HIa  rfl rfl ly442 hg6 ?_
          by_cases hc8 : (m.1 442 (tk_n a1)) = (m.1 442 (tk_n a3))
          · replace h := tk_ifT hc8 h
            refine tk_bT  rfl rfl rfl (c := (m.1 442 (tk_n a1)) = (m.1 442 (tk_n a3))) hc8 (pc' := 65) (ls' := [(0, .ref 295), (1, .int a1), (2, .int a2), (3, .int a3), (4, .int a4), (5, .int a5)]) (st' := []) ?_
            refine tk_Ps  1 (pc' := 66) (ls' := [(0, .ref 295), (1, .int a1), (2, .int a2), (3, .int a3), (4, .int a4), (5, .int a5)]) (st' := [.int a2]) rfl ?_
            by_cases hc9 : a2 < 0
            · replace h := tk_ifT hc9 h
              refine tk_bT  rfl rfl rfl (c := a2 < 0) hc9 (pc' := 114) (ls' := [(0, .ref 295), (1, .int a1), (2, .int a2), (3, .int a3), (4, .int a4), (5, .int a5)]) (st' := []) ?_
              refine tk_Ps  2 (pc' := 116) (ls' := [(0, .ref 295), (1, .int a1), (2, .int a2), (3, .int a3), (4, .int a4), (5, .int a5)]) (st' := [.int (0 : Int32), .ref 295]) rfl ?_
              obtain ⟨o10, ho10, h⟩ := tk_bnd h
              refine tk_cV1  rfl rfl (r := 295) (as := [.int (0 : Int32)]) (rest := []) rfl ly295 rfl rfl (ok_fM_finds sc (0 : Int32) m ho10) ?_
              replace h := Option.some.inj h
              subst h
              exact tk_RI  rfl rfl rfl
            · replace h := tk_ifF hc9 h
              refine tk_bF  rfl rfl rfl (c := a2 < 0) hc9 (pc' := 69) (ls' := [(0, .ref 295), (1, .int a1), (2, .int a2), (3, .int a3), (4, .int a4), (5, .int a5)]) (st' := []) ?_
              refine tk_Ps  1 (pc' := 71) (ls' := [(0, .ref 295), (1, .int a1), (2, .int a2), (3, .int a3), (4, .int a4), (5, .int a5)]) (st' := [.int a4]) rfl ?_
              by_cases hc11 : a4 < 0
              · replace h := tk_ifT hc11 h
                refine tk_bT  rfl rfl rfl (c := a4 < 0) hc11 (pc' := 114) (ls' := [(0, .ref 295), (1, .int a1), (2, .int a2), (3, .int a3), (4, .int a4), (5, .int a5)]) (st' := []) ?_
                refine tk_Ps  2 (pc' := 116) (ls' := [(0, .ref 295), (1, .int a1), (2, .int a2), (3, .int a3), (4, .int a4), (5, .int a5)]) (st' := [.int (0 : Int32), .ref 295]) rfl ?_
                obtain ⟨o12, ho12, h⟩ := tk_bnd h
                refine tk_cV1  rfl rfl (r := 295) (as := [.int (0 : Int32)]) (rest := []) rfl ly295 rfl rfl (ok_fM_finds sc (0 : Int32) m ho12) ?_
                replace h := Option.some.inj h
                subst h
                exact tk_RI  rfl rfl rfl
              · replace h := tk_ifF hc11 h
                refine tk_bF  rfl rfl rfl (c := a4 < 0) hc11 (pc' := 74) (ls' := [(0, .ref 295), (1, .int a1), (2, .int a2), (3, .int a3), (4, .int a4), (5, .int a5)]) (st' := []) ?_
                refine tk_Ps  1 (pc' := 76) (ls' := [(0, .ref 295), (1, .int a1), (2, .int a2), (3, .int a3), (4, .int a4), (5, .int a5)]) (st' := [.int a5]) rfl ?_
                by_cases hc13 : a5 < 0
                · replace h := tk_ifT hc13 h
                  refine tk_bT  rfl rfl rfl (c := a5 < 0) hc13 (pc' := 114) (ls' := [(0, .ref 295), (1, .int a1), (2, .int a2), (3, .int a3), (4, .int a4), (5, .int a5)]) (st' := []) ?_
                  refine tk_Ps  2 (pc' := 116) (ls' := [(0, .ref 295), (1, .int a1), (2, .int a2), (3, .int a3), (4, .int a4), (5, .int a5)]) (st' := [.int (0 : Int32), .ref 295]) rfl ?_
                  obtain ⟨o14, ho14, h⟩ := tk_bnd h
                  refine tk_cV1  rfl rfl (r := 295) (as := [.int (0 : Int32)]) (rest := []) rfl ly295 rfl rfl (ok_fM_finds sc (0 : Int32) m ho14) ?_
                  replace h := Option.some.inj h
                  subst h
                  exact tk_RI  rfl rfl rfl
                · replace h := tk_ifF hc13 h
                  refine tk_bF  rfl rfl rfl (c := a5 < 0) hc13 (pc' := 79) (ls' := [(0, .ref 295), (1, .int a1), (2, .int a2), (3, .int a3), (4, .int a4), (5, .int a5)]) (st' := []) ?_
                  refine tk_Ps  6 (pc' := 86) (ls' := [(0, .ref 295), (1, .int a1), (2, .int a2), (3, .int a3), (4, .int a4), (5, .int a5)]) (st' := [.ref 295, .long ((Int32.toInt64 a2) + (Int32.toInt64 a5))]) rfl ?_
                  refine tk_HR  rfl rfl ly295 rt295_24 ?_
                  refine tk_Ps  1 (pc' := 90) (ls' := [(0, .ref 295), (1, .int a1), (2, .int a2), (3, .int a3), (4, .int a4), (5, .int a5)]) (st' := [.int a1, .ref 443, .long ((Int32.toInt64 a2) + (Int32.toInt64 a5))]) rfl ?_
                  refine tk_HIa  rfl rfl ly443 hg3 ?_
                  refine tk_Ps  2 (pc' := 93) (ls' := [(0, .ref 295), (1, .int a1), (2, .int a2), (3, .int a3), (4, .int a4), (5, .int a5)]) (st' := [.int (lg_cmp ((Int32.toInt64 a2) + (Int32.toInt64 a5)) (Int32.toInt64 (m.1 443 (tk_n a1))))]) rfl ?_
                  by_cases hc15 : (Int32.toInt64 (m.1 443 (tk_n a1))) < ((Int32.toInt64 a2) + (Int32.toInt64 a5))
                  · replace h := tk_ifT hc15 h
                    refine tk_bT  rfl rfl tk_eL_gt (c := (Int32.toInt64 (m.1 443 (tk_n a1))) < ((Int32.toInt64 a2) + (Int32.toInt64 a5))) hc15 (pc' := 114) (ls' := [(0, .ref 295), (1, .int a1), (2, .int a2), (3, .int a3), (4, .int a4), (5, .int a5)]) (st' := []) ?_
                    refine tk_Ps  2 (pc' := 116) (ls' := [(0, .ref 295), (1, .int a1), (2, .int a2), (3, .int a3), (4, .int a4), (5, .int a5)]) (st' := [.int (0 : Int32), .ref 295]) rfl ?_
                    obtain ⟨o16, ho16, h⟩ := tk_bnd h
                    refine tk_cV1  rfl rfl (r := 295) (as := [.int (0 : Int32)]) (rest := []) rfl ly295 rfl rfl (ok_fM_finds sc (0 : Int32) m ho16) ?_
                    replace h := Option.some.inj h
                    subst h
                    exact tk_RI  rfl rfl rfl
                  · replace h := tk_ifF hc15 h
                    refine tk_bF  rfl rfl tk_eL_gt (c := (Int32.toInt64 (m.1 443 (tk_n a1))) < ((Int32.toInt64 a2) + (Int32.toInt64 a5))) hc15 (pc' := 96) (ls' := [(0, .ref 295), (1, .int a1), (2, .int a2), (3, .int a3), (4, .int a4), (5, .int a5)]) (st' := []) ?_
                    refine tk_Ps  6 (pc' := 104) (ls' := [(0, .ref 295), (1, .int a1), (2, .int a2), (3, .int a3), (4, .int a4), (5, .int a5)]) (st' := [.ref 295, .long ((Int32.toInt64 a4) + (Int32.toInt64 a5))]) rfl ?_
                    refine tk_HR  rfl rfl ly295 rt295_24 ?_
                    refine tk_Ps  1 (pc' := 108) (ls' := [(0, .ref 295), (1, .int a1), (2, .int a2), (3, .int a3), (4, .int a4), (5, .int a5)]) (st' := [.int a3, .ref 443, .long ((Int32.toInt64 a4) + (Int32.toInt64 a5))]) rfl ?_
                    refine tk_HIa  rfl rfl ly443 hg6 ?_
                    refine tk_Ps  2 (pc' := 111) (ls' := [(0, .ref 295), (1, .int a1), (2, .int a2), (3, .int a3), (4, .int a4), (5, .int a5)]) (st' := [.int (lg_cmp ((Int32.toInt64 a4) + (Int32.toInt64 a5)) (Int32.toInt64 (m.1 443 (tk_n a3))))]) rfl ?_
                    by_cases hc17 : ((Int32.toInt64 a4) + (Int32.toInt64 a5)) ≤ (Int32.toInt64 (m.1 443 (tk_n a3)))
                    · replace h := tk_ifT hc17 h
                      refine tk_bT  rfl rfl tk_eL_le (c := ((Int32.toInt64 a4) + (Int32.toInt64 a5)) ≤ (Int32.toInt64 (m.1 443 (tk_n a3)))) hc17 (pc' := 120) (ls' := [(0, .ref 295), (1, .int a1), (2, .int a2), (3, .int a3), (4, .int a4), (5, .int a5)]) (st' := []) ?_
                      refine tk_Ps  2 (pc' := 123) (ls' := [(6, .int (0 : Int32)), (0, .ref 295), (1, .int a1), (2, .int a2), (3, .int a3), (4, .int a4), (5, .int a5)]) (st' := []) rfl ?_
                      refine tk_Kp  (ls' := [(0, .ref 295), (1, .int a1), (2, .int a2), (3, .int a3), (4, .int a4), (5, .int a5), (6, .int (0 : Int32))]) rfl rfl ?_
                      exact ok_fM_copy_123 sc tk_F a1 a2 a3 a4 a5 (0 : Int32) m _ h
                    · replace h := tk_ifF hc17 h
                      refine tk_bF  rfl rfl tk_eL_le (c := ((Int32.toInt64 a4) + (Int32.toInt64 a5)) ≤ (Int32.toInt64 (m.1 443 (tk_n a3)))) hc17 (pc' := 114) (ls' := [(0, .ref 295), (1, .int a1), (2, .int a2), (3, .int a3), (4, .int a4), (5, .int a5)]) (st' := []) ?_
                      refine tk_Ps  2 (pc' := 116) (ls' := [(0, .ref 295), (1, .int a1), (2, .int a2), (3, .int a3), (4, .int a4), (5, .int a5)]) (st' := [.int (0 : Int32), .ref 295]) rfl ?_
                      obtain ⟨o18, ho18, h⟩ := tk_bnd h
                      refine tk_cV1  rfl rfl (r := 295) (as := [.int (0 : Int32)]) (rest := []) rfl ly295 rfl rfl (ok_fM_finds sc (0 : Int32) m ho18) ?_
                      replace h := Option.some.inj h
                      subst h
                      exact tk_RI  rfl rfl rfl
          · replace h := tk_ifF hc8 h
            refine tk_bF  rfl rfl rfl (c := (m.1 442 (tk_n a1)) = (m.1 442 (tk_n a3))) hc8 (pc' := 59) (ls' := [(0, .ref 295), (1, .int a1), (2, .int a2), (3, .int a3), (4, .int a4), (5, .int a5)]) (st' := []) ?_
            refine tk_Ps  2 (pc' := 61) (ls' := [(0, .ref 295), (1, .int a1), (2, .int a2), (3, .int a3), (4, .int a4), (5, .int a5)]) (st' := [.int (2 : Int32), .ref 295]) rfl ?_
            obtain ⟨o19, ho19, h⟩ := tk_bnd h
            refine tk_cV1  rfl rfl (r := 295) (as := [.int (2 : Int32)]) (rest := []) rfl ly295 rfl rfl (ok_fM_finds sc (2 : Int32) m ho19) ?_
            replace h := Option.some.inj h
            subst h
            exact tk_RI  rfl rfl rfl
        · replace h := tk_ifF hc7 h
          refine tk_bF  rfl rfl rfl (c := 0 ≤ (m.1 442 (tk_n a3))) hc7 (pc' := 38) (ls' := [(0, .ref 295), (1, .int a1), (2, .int a2), (3, .int a3), (4, .int a4), (5, .int a5)]) (st' := []) ?_
          refine tk_Ps  2 (pc' := 40) (ls' := [(0, .ref 295), (1, .int a1), (2, .int a2), (3, .int a3), (4, .int a4), (5, .int a5)]) (st' := [.int (5 : Int32), .ref 295]) rfl ?_
          obtain ⟨o20, ho20, h⟩ := tk_bnd h
          refine tk_cV1  rfl rfl (r := 295) (as := [.int (5 : Int32)]) (rest := []) rfl ly295 rfl rfl (ok_fM_finds sc (5 : Int32) m ho20) ?_
          replace h := Option.some.inj h
          subst h
          exact tk_RI  rfl rfl rfl
    · replace h := tk_ifF hc2 h
      refine tk_bF  rfl rfl tk_eB_ne (c := (fM_isSheet a3) = true) hc2 (pc' := 14) (ls' := [(0, .ref 295), (1, .int a1), (2, .int a2), (3, .int a3), (4, .int a4), (5, .int a5)]) (st' := []) ?_
      refine tk_Ps  2 (pc' := 16) (ls' := [(0, .ref 295), (1, .int a1), (2, .int a2), (3, .int a3), (4, .int a4), (5, .int a5)]) (st' := [.int (0 : Int32), .ref 295]) rfl ?_
      obtain ⟨o21, ho21, h⟩ := tk_bnd h
      refine tk_cV1  rfl rfl (r := 295) (as := [.int (0 : Int32)]) (rest := []) rfl ly295 rfl rfl (ok_fM_finds sc (0 : Int32) m ho21) ?_
      replace h := Option.some.inj h
      subst h
      exact tk_RI  rfl rfl rfl
  · replace h := tk_ifF hc1 h
    refine tk_bF  rfl rfl tk_eB_eq (c := (fM_isSheet a1) = true) hc1 (pc' := 14) (ls' := [(0, .ref 295), (1, .int a1), (2, .int a2), (3, .int a3), (4, .int a4), (5, .int a5)]) (st' := []) ?_
    refine tk_Ps  2 (pc' := 16) (ls' := [(0, .ref 295), (1, .int a1), (2, .int a2), (3, .int a3), (4, .int a4), (5, .int a5)]) (st' := [.int (0 : Int32), .ref 295]) rfl ?_
    obtain ⟨o22, ho22, h⟩ := tk_bnd h
    refine tk_cV1  rfl rfl (r := 295) (as := [.int (0 : Int32)]) (rest := []) rfl ly295 rfl rfl (ok_fM_finds sc (0 : Int32) m ho22) ?_
    replace h := Option.some.inj h
    subst h
    exact tk_RI  rfl rfl rfl
theorem ok_fM_image_46 (sc : tk_X) (m : tk_m) (out : Int32 × tk_m) (h : fM_image_46 m = some out) : tk_Ex sc 1 tk_r279 tk_k279 46 [(0, .ref 295)] [] (tk_full m) (some (.int out.1), tk_full out.2) := by
  unfold fM_image_46 at h
  refine tk_Ps  2 (pc' := 48) (ls' := [(0, .ref 295)]) (st' := [.ref 295, .ref 295]) rfl ?_
  refine tk_HI  rfl rfl ly295 ?_
  refine tk_Ps  2 (pc' := 53) (ls' := [(0, .ref 295)]) (st' := [.int ((m.1 295 2) + (1 : Int32)), .ref 295]) rfl ?_
  refine tk_SI  rfl rfl ly295 ?_
  refine tk_Ps  1 (pc' := 57) (ls' := [(0, .ref 295)]) (st' := [.ref 295]) rfl ?_
  refine tk_HI  rfl rfl ly295 ?_
  replace h := Option.some.inj h
  subst h
  exact tk_RI  rfl rfl rfl
theorem ok_fM_image_17 (sc : tk_X) : ∀ (n : Nat) (v1 : Int32) (m : tk_m) (out : Int32 × tk_m), fM_image_17 n v1 m = some out → tk_Ex sc 1 tk_r279 tk_k279 17 [(0, .ref 295), (1, .int v1)] [] (tk_full m) (some (.int out.1), tk_full out.2) := by
  intro n
  induction n with
  | zero =>
    intro v1 m out h
    cases h
  | succ n ih =>
    intro v1 m out h
    unfold fM_image_17 at h
    refine tk_Ps  2 (pc' := 20) (ls' := [(0, .ref 295), (1, .int v1)]) (st' := [.int (29 : Int32), .int v1]) rfl ?_
    by_cases hc1 : (29 : Int32) ≤ v1
    · replace h := tk_ifT hc1 h
      refine tk_bT  rfl rfl rfl (c := (29 : Int32) ≤ v1) hc1 (pc' := 46) (ls' := [(0, .ref 295), (1, .int v1)]) (st' := []) ?_
      refine tk_Kp  (ls' := [(0, .ref 295)]) rfl rfl ?_
      exact ok_fM_image_46 sc m _ h
    · replace h := tk_ifF hc1 h
      refine tk_bF  rfl rfl rfl (c := (29 : Int32) ≤ v1) hc1 (pc' := 23) (ls' := [(0, .ref 295), (1, .int v1)]) (st' := []) ?_
      refine tk_Ps  1 (pc' := 24) (ls' := [(0, .ref 295), (1, .int v1)]) (st' := [.ref 295]) rfl ?_
      refine tk_HR  rfl rfl ly295 rt295_1 ?_
      refine tk_Ps  1 (pc' := 28) (ls' := [(0, .ref 295), (1, .int v1)]) (st' := [.ref 295, .ref 297]) rfl ?_
      refine tk_HI  rfl rfl ly295 ?_
      obtain ⟨hg2, h⟩ := tk_grd h
      refine tk_HQ  rfl rfl ly297 hg2 (la297 _ (hg2).2).1 ?_
      refine tk_Ps  2 (pc' := 34) (ls' := [(0, .ref 295), (1, .int v1)]) (st' := [.ref 295, .int v1, .ref (298 + (tk_n (m.1 295 2)))]) rfl ?_
      refine tk_HR  rfl rfl ly295 rt295_0 ?_
      refine tk_Ps  1 (pc' := 38) (ls' := [(0, .ref 295), (1, .int v1)]) (st' := [.int v1, .ref 296, .int v1, .ref (298 + (tk_n (m.1 295 2)))]) rfl ?_
      obtain ⟨hg3, h⟩ := tk_grd h
      refine tk_HIa  rfl rfl ly296 hg3 ?_
      refine tk_SIa  rfl rfl ((la297 _ (hg2).2).2) hg3 ?_
      refine tk_Ps  2 (pc' := 17) (ls' := [(1, .int (v1 + (1 : Int32))), (0, .ref 295)]) (st' := []) rfl ?_
      refine tk_Kp  (ls' := [(0, .ref 295), (1, .int (v1 + (1 : Int32)))]) rfl rfl ?_
      exact ih (v1 + (1 : Int32)) (tk_u2 m.1 (298 + (tk_n (m.1 295 2))) (tk_n v1) (m.1 296 (tk_n v1)), m.2.1, m.2.2.1, m.2.2.2) _ h
theorem ok_fM_image (sc : tk_X) (m : tk_m) {out : Int32 × tk_m} (h : fM_image m = some out) : tk_Ru sc 2 279 [.ref 295] (tk_full m) (some (.int out.1), tk_full out.2) := by
  unfold fM_image at h
  refine tk_Ru0 me279 (ls := [(0, .ref 295)]) rfl rfl ?_
  refine tk_Ps  1 (pc' := 1) (ls' := [(0, .ref 295)]) (st' := [.ref 295]) rfl ?_
  refine tk_HI  rfl rfl ly295 ?_
  refine tk_Ps  1 (pc' := 6) (ls' := [(0, .ref 295)]) (st' := [.int (8 : Int32), .int (m.1 295 2)]) rfl ?_
  by_cases hc1 : (m.1 295 2) = (8 : Int32)
  · replace h := tk_ifT hc1 h
    refine tk_bT  rfl rfl rfl (c := (m.1 295 2) = (8 : Int32)) hc1 (pc' := 9) (ls' := [(0, .ref 295)]) (st' := []) ?_
    refine tk_Ps  2 (pc' := 11) (ls' := [(0, .ref 295)]) (st' := [.int (1 : Int32), .ref 295]) rfl ?_
    obtain ⟨o2, ho2, h⟩ := tk_bnd h
    refine tk_cV1  rfl rfl (r := 295) (as := [.int (1 : Int32)]) (rest := []) rfl ly295 rfl rfl (ok_fM_finds sc (1 : Int32) m ho2) ?_
    replace h := Option.some.inj h
    subst h
    exact tk_RI  rfl rfl rfl
  · replace h := tk_ifF hc1 h
    refine tk_bF  rfl rfl rfl (c := (m.1 295 2) = (8 : Int32)) hc1 (pc' := 15) (ls' := [(0, .ref 295)]) (st' := []) ?_
    refine tk_Ps  2 (pc' := 17) (ls' := [(1, .int (0 : Int32)), (0, .ref 295)]) (st' := []) rfl ?_
    refine tk_Kp  (ls' := [(0, .ref 295), (1, .int (0 : Int32))]) rfl rfl ?_
    exact ok_fM_image_17 sc tk_F (0 : Int32) m _ h
theorem ok_fM_back_25 (sc : tk_X) : ∀ (n : Nat) (v1 : Int32) (m : tk_m) (out : Int32 × tk_m), fM_back_25 n v1 m = some out → tk_Ex sc 1 tk_r280 tk_k280 25 [(0, .ref 295), (1, .int v1)] [] (tk_full m) (some (.int out.1), tk_full out.2) := by
  intro n
  induction n with
  | zero =>
    intro v1 m out h
    cases h
  | succ n ih =>
    intro v1 m out h
    unfold fM_back_25 at h
    refine tk_Ps  2 (pc' := 28) (ls' := [(0, .ref 295), (1, .int v1)]) (st' := [.int (29 : Int32), .int v1]) rfl ?_
    by_cases hc1 : (29 : Int32) ≤ v1
    · replace h := tk_ifT hc1 h
      refine tk_bT  rfl rfl rfl (c := (29 : Int32) ≤ v1) hc1 (pc' := 54) (ls' := [(0, .ref 295), (1, .int v1)]) (st' := []) ?_
      refine tk_Ps  1 (pc' := 55) (ls' := [(0, .ref 295), (1, .int v1)]) (st' := [.ref 295]) rfl ?_
      refine tk_HR  rfl rfl ly295 rt295_0 ?_
      refine tk_Ps  1 (pc' := 59) (ls' := [(0, .ref 295), (1, .int v1)]) (st' := [.int (0 : Int32), .ref 296]) rfl ?_
      refine tk_HIa  rfl rfl ly296 (by decide) ?_
      replace h := Option.some.inj h
      subst h
      exact tk_RI  rfl rfl rfl
    · replace h := tk_ifF hc1 h
      refine tk_bF  rfl rfl rfl (c := (29 : Int32) ≤ v1) hc1 (pc' := 31) (ls' := [(0, .ref 295), (1, .int v1)]) (st' := []) ?_
      refine tk_Ps  1 (pc' := 32) (ls' := [(0, .ref 295), (1, .int v1)]) (st' := [.ref 295]) rfl ?_
      refine tk_HR  rfl rfl ly295 rt295_0 ?_
      refine tk_Ps  2 (pc' := 37) (ls' := [(0, .ref 295), (1, .int v1)]) (st' := [.ref 295, .int v1, .ref 296]) rfl ?_
      refine tk_HR  rfl rfl ly295 rt295_1 ?_
      refine tk_Ps  1 (pc' := 41) (ls' := [(0, .ref 295), (1, .int v1)]) (st' := [.ref 295, .ref 297, .int v1, .ref 296]) rfl ?_
      refine tk_HI  rfl rfl ly295 ?_
      obtain ⟨hg2, h⟩ := tk_grd h
      refine tk_HQ  rfl rfl ly297 hg2 (la297 _ (hg2).2).1 ?_
      refine tk_Ps  1 (pc' := 46) (ls' := [(0, .ref 295), (1, .int v1)]) (st' := [.int v1, .ref (298 + (tk_n (m.1 295 2))), .int v1, .ref 296]) rfl ?_
      obtain ⟨hg3, h⟩ := tk_grd h
      refine tk_HIa  rfl rfl ((la297 _ (hg2).2).2) hg3 ?_
      refine tk_SIa  rfl rfl ly296 hg3 ?_
      refine tk_Ps  2 (pc' := 25) (ls' := [(1, .int (v1 + (1 : Int32))), (0, .ref 295)]) (st' := []) rfl ?_
      refine tk_Kp  (ls' := [(0, .ref 295), (1, .int (v1 + (1 : Int32)))]) rfl rfl ?_
      exact ih (v1 + (1 : Int32)) (tk_u2 m.1 296 (tk_n v1) (m.1 (298 + (tk_n (m.1 295 2))) (tk_n v1)), m.2.1, m.2.2.1, m.2.2.2) _ h
theorem ok_fM_back (sc : tk_X) (m : tk_m) {out : Int32 × tk_m} (h : fM_back m = some out) : tk_Ru sc 2 280 [.ref 295] (tk_full m) (some (.int out.1), tk_full out.2) := by
  unfold fM_back at h
  refine tk_Ru0 me280 (ls := [(0, .ref 295)]) rfl rfl ?_
  refine tk_Ps  1 (pc' := 1) (ls' := [(0, .ref 295)]) (st' := [.ref 295]) rfl ?_
  refine tk_HI  rfl rfl ly295 ?_
  by_cases hc1 : (m.1 295 2) = 0
  · replace h := tk_ifT hc1 h
    refine tk_bT  rfl rfl rfl (c := (m.1 295 2) = 0) hc1 (pc' := 7) (ls' := [(0, .ref 295)]) (st' := []) ?_
    refine tk_Ps  2 (pc' := 9) (ls' := [(0, .ref 295)]) (st' := [.int (3 : Int32), .ref 295]) rfl ?_
    obtain ⟨o2, ho2, h⟩ := tk_bnd h
    refine tk_cV1  rfl rfl (r := 295) (as := [.int (3 : Int32)]) (rest := []) rfl ly295 rfl rfl (ok_fM_finds sc (3 : Int32) m ho2) ?_
    replace h := Option.some.inj h
    subst h
    exact tk_RI  rfl rfl rfl
  · replace h := tk_ifF hc1 h
    refine tk_bF  rfl rfl rfl (c := (m.1 295 2) = 0) hc1 (pc' := 13) (ls' := [(0, .ref 295)]) (st' := []) ?_
    refine tk_Ps  2 (pc' := 15) (ls' := [(0, .ref 295)]) (st' := [.ref 295, .ref 295]) rfl ?_
    refine tk_HI  rfl rfl ly295 ?_
    refine tk_Ps  2 (pc' := 20) (ls' := [(0, .ref 295)]) (st' := [.int ((m.1 295 2) - (1 : Int32)), .ref 295]) rfl ?_
    refine tk_SI  rfl rfl ly295 ?_
    refine tk_Ps  2 (pc' := 25) (ls' := [(1, .int (0 : Int32)), (0, .ref 295)]) (st' := []) rfl ?_
    refine tk_Kp  (ls' := [(0, .ref 295), (1, .int (0 : Int32))]) rfl rfl ?_
    exact ok_fM_back_25 sc tk_F (0 : Int32) (tk_u2 m.1 295 2 ((m.1 295 2) - (1 : Int32)), m.2.1, m.2.2.1, m.2.2.2) _ h
theorem ok_fM_seed (sc : tk_X) (a1 : Int32) (m : tk_m) {out : Int32 × tk_m} (h : fM_seed a1 m = out) : tk_Ru sc 1 281 [.ref 295, .int a1] (tk_full m) (some (.int out.1), tk_full out.2) := by
  unfold fM_seed at h
  refine tk_Ru0 me281 (ls := [(0, .ref 295), (1, .int a1)]) rfl rfl ?_
  refine tk_Ps  1 (pc' := 1) (ls' := [(0, .ref 295), (1, .int a1)]) (st' := [.ref 295]) rfl ?_
  refine tk_HR  rfl rfl ly295 rt295_0 ?_
  refine tk_Ps  1 (pc' := 5) (ls' := [(0, .ref 295), (1, .int a1)]) (st' := [.int (4 : Int32), .ref 296]) rfl ?_
  refine tk_HIa  rfl rfl ly296 (by decide) ?_
  refine tk_Ps  2 (pc' := 8) (ls' := [(2, .int (m.1 296 4)), (0, .ref 295), (1, .int a1)]) (st' := [.ref 295]) rfl ?_
  refine tk_HR  rfl rfl ly295 rt295_0 ?_
  refine tk_Ps  2 (pc' := 13) (ls' := [(2, .int (m.1 296 4)), (0, .ref 295), (1, .int a1)]) (st' := [.int a1, .int (4 : Int32), .ref 296]) rfl ?_
  refine tk_SIa  rfl rfl ly296 (by decide) ?_
  refine tk_Ps  1 (pc' := 15) (ls' := [(2, .int (m.1 296 4)), (0, .ref 295), (1, .int a1)]) (st' := [.int (m.1 296 4)]) rfl ?_
  subst h
  exact tk_RI  rfl rfl rfl
theorem ok_fM_countOf_4 (sc : tk_X) : ∀ (n : Nat) (v1 : Int32) (v2 : Int32) (v3 : Int32) (m : tk_m) (out : Int32), fM_countOf_4 n v1 v2 v3 m = some out → tk_Ex sc 3 tk_r283 tk_k283 4 [(0, .ref 295), (1, .int v1), (2, .int v2), (3, .int v3)] [] (tk_full m) (some (.int out), tk_full m) := by
  intro n
  induction n with
  | zero =>
    intro v1 v2 v3 m out h
    cases h
  | succ n ih =>
    intro v1 v2 v3 m out h
    unfold fM_countOf_4 at h
    refine tk_Ps  2 (pc' := 6) (ls' := [(0, .ref 295), (1, .int v1), (2, .int v2), (3, .int v3)]) (st' := [.ref 295, .int v3]) rfl ?_
    refine tk_HR  rfl rfl ly295 rt295_0 ?_
    refine tk_Ps  1 (pc' := 10) (ls' := [(0, .ref 295), (1, .int v1), (2, .int v2), (3, .int v3)]) (st' := [.int (0 : Int32), .ref 296, .int v3]) rfl ?_
    refine tk_HIa  rfl rfl ly296 (by decide) ?_
    by_cases hc1 : (m.1 296 0) ≤ v3
    · replace h := tk_ifT hc1 h
      refine tk_bT  rfl rfl rfl (c := (m.1 296 0) ≤ v3) hc1 (pc' := 40) (ls' := [(0, .ref 295), (1, .int v1), (2, .int v2), (3, .int v3)]) (st' := []) ?_
      refine tk_Ps  1 (pc' := 41) (ls' := [(0, .ref 295), (1, .int v1), (2, .int v2), (3, .int v3)]) (st' := [.int v2]) rfl ?_
      replace h := Option.some.inj h
      subst h
      exact tk_RI  rfl rfl rfl
    · replace h := tk_ifF hc1 h
      refine tk_bF  rfl rfl rfl (c := (m.1 296 0) ≤ v3) hc1 (pc' := 14) (ls' := [(0, .ref 295), (1, .int v1), (2, .int v2), (3, .int v3)]) (st' := []) ?_
      refine tk_Ps  3 (pc' := 17) (ls' := [(0, .ref 295), (1, .int v1), (2, .int v2), (3, .int v3)]) (st' := [.int v3, .ref 295, .int v2]) rfl ?_
      obtain ⟨o2, ho2, h⟩ := tk_bnd h
      refine tk_cV1  rfl rfl (r := 295) (as := [.int v3]) (rest := [.int v2]) rfl ly295 rfl rfl (ok_fM_kindOf sc v3 m ho2) ?_
      refine tk_Ps  1 (pc' := 21) (ls' := [(0, .ref 295), (1, .int v1), (2, .int v2), (3, .int v3)]) (st' := [.int v1, .int o2, .int v2]) rfl ?_
      refine tk_cS1  rfl rfl (as := [.int o2, .int v1]) (rest := [.int v2]) rfl rfl rfl (ok_fM_isUnder sc o2 v1 m) ?_
      by_cases hc3 : (fM_isUnder o2 v1) = true
      · replace h := tk_ifT hc3 h
        refine tk_bT  rfl rfl tk_eB_eq (c := (fM_isUnder o2 v1) = true) hc3 (pc' := 27) (ls' := [(0, .ref 295), (1, .int v1), (2, .int v2), (3, .int v3)]) (st' := [.int v2]) ?_
        refine tk_Ps  6 (pc' := 4) (ls' := [(3, .int (v3 + (1 : Int32))), (2, .int (v2 + (1 : Int32))), (0, .ref 295), (1, .int v1)]) (st' := []) rfl ?_
        refine tk_Kp  (ls' := [(0, .ref 295), (1, .int v1), (2, .int (v2 + (1 : Int32))), (3, .int (v3 + (1 : Int32)))]) rfl rfl ?_
        exact ih v1 (v2 + (1 : Int32)) (v3 + (1 : Int32)) m _ h
      · replace h := tk_ifF hc3 h
        refine tk_bF  rfl rfl tk_eB_eq (c := (fM_isUnder o2 v1) = true) hc3 (pc' := 31) (ls' := [(0, .ref 295), (1, .int v1), (2, .int v2), (3, .int v3)]) (st' := [.int v2]) ?_
        refine tk_Ps  5 (pc' := 4) (ls' := [(3, .int (v3 + (1 : Int32))), (2, .int (v2 + (0 : Int32))), (0, .ref 295), (1, .int v1)]) (st' := []) rfl ?_
        refine tk_Kp  (ls' := [(0, .ref 295), (1, .int v1), (2, .int (v2 + (0 : Int32))), (3, .int (v3 + (1 : Int32)))]) rfl rfl ?_
        exact ih v1 (v2 + (0 : Int32)) (v3 + (1 : Int32)) m _ h
theorem ok_fM_countOf (sc : tk_X) (a1 : Int32) (m : tk_m) {out : Int32} (h : fM_countOf a1 m = some out) : tk_Ru sc 4 283 [.ref 295, .int a1] (tk_full m) (some (.int out), tk_full m) := by
  unfold fM_countOf at h
  refine tk_Ru0 me283 (ls := [(0, .ref 295), (1, .int a1)]) rfl rfl ?_
  refine tk_Ps  4 (pc' := 4) (ls' := [(3, .int (0 : Int32)), (2, .int (0 : Int32)), (0, .ref 295), (1, .int a1)]) (st' := []) rfl ?_
  refine tk_Kp  (ls' := [(0, .ref 295), (1, .int a1), (2, .int (0 : Int32)), (3, .int (0 : Int32))]) rfl rfl ?_
  exact ok_fM_countOf_4 sc tk_F a1 (0 : Int32) (0 : Int32) m _ h

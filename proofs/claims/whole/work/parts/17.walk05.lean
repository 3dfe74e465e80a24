theorem ok_fT_mayHold_2 (sc : tk_X) : ∀ (n : Nat) (v0 : Nat) (v1 : Nat) (v2 : Int32) (m : tk_m) (hv0 : tk_lay[v0]? = some (.inl 7)) (hv1 : tk_lay[v1]? = some (.inr (1, tk_al v1))) (out : Bool), fT_mayHold_2 n v0 v1 v2 m = some out → tk_Ex sc 1 tk_r139 tk_k139 2 [(0, .ref v0), (1, .ref v1), (2, .int v2)] [] (tk_full m) (some (.int (tk_b out)), tk_full m) := by
  intro n
  induction n with
  | zero =>
    intro v0 v1 v2 m hv0 hv1 out h
    cases h
  | succ n ih =>
    intro v0 v1 v2 m hv0 hv1 out h
    unfold fT_mayHold_2 at h
    refine tk_Ps  2 (pc' := 4) (ls' := [(0, .ref v0), (1, .ref v1), (2, .int v2)]) (st' := [.ref v1, .int v2]) rfl ?_
    refine tk_HL  rfl rfl hv1 ?_
    by_cases hc1 : (Int32.ofNat (tk_al v1)) ≤ v2
    · replace h := tk_ifT hc1 h
      refine tk_bT  rfl rfl rfl (c := (Int32.ofNat (tk_al v1)) ≤ v2) hc1 (pc' := 30) (ls' := [(0, .ref v0), (1, .ref v1), (2, .int v2)]) (st' := []) ?_
      refine tk_Ps  1 (pc' := 31) (ls' := [(0, .ref v0), (1, .ref v1), (2, .int v2)]) (st' := [.int (1 : Int32)]) rfl ?_
      replace h := Option.some.inj h
      subst h
      exact tk_RB (b := true)  rfl rfl rfl
    · replace h := tk_ifF hc1 h
      refine tk_bF  rfl rfl rfl (c := (Int32.ofNat (tk_al v1)) ≤ v2) hc1 (pc' := 8) (ls' := [(0, .ref v0), (1, .ref v1), (2, .int v2)]) (st' := []) ?_
      refine tk_Ps  3 (pc' := 11) (ls' := [(0, .ref v0), (1, .ref v1), (2, .int v2)]) (st' := [.int v2, .ref v1, .ref v0]) rfl ?_
      obtain ⟨hg2, h⟩ := tk_grd h
      refine tk_HJa  rfl rfl hv1 hg2 ?_
      refine tk_cV1  rfl rfl (r := v0) (as := [.long (m.2.1 v1 (tk_n v2))]) (rest := []) rfl hv0 rfl rfl (ok_fT_narrow sc v0 (m.2.1 v1 (tk_n v2)) m hv0) ?_
      refine tk_Ps  2 (pc' := 17) (ls' := [(0, .ref v0), (1, .ref v1), (2, .int v2)]) (st' := [.int v2, .ref v1, .long (fT_narrow v0 (m.2.1 v1 (tk_n v2)) m)]) rfl ?_
      refine tk_HJa  rfl rfl hv1 hg2 ?_
      refine tk_Ps  1 (pc' := 19) (ls' := [(0, .ref v0), (1, .ref v1), (2, .int v2)]) (st' := [.int (lg_cmp (fT_narrow v0 (m.2.1 v1 (tk_n v2)) m) (m.2.1 v1 (tk_n v2)))]) rfl ?_
      by_cases hc3 : (fT_narrow v0 (m.2.1 v1 (tk_n v2)) m) = (m.2.1 v1 (tk_n v2))
      · replace h := tk_ifT hc3 h
        refine tk_bT  rfl rfl tk_eL_eq (c := (fT_narrow v0 (m.2.1 v1 (tk_n v2)) m) = (m.2.1 v1 (tk_n v2))) hc3 (pc' := 24) (ls' := [(0, .ref v0), (1, .ref v1), (2, .int v2)]) (st' := []) ?_
        refine tk_Ps  2 (pc' := 2) (ls' := [(2, .int (v2 + (1 : Int32))), (0, .ref v0), (1, .ref v1)]) (st' := []) rfl ?_
        refine tk_Kp  (ls' := [(0, .ref v0), (1, .ref v1), (2, .int (v2 + (1 : Int32)))]) rfl rfl ?_
        exact ih v0 v1 (v2 + (1 : Int32)) m hv0 (tk_al_of hv1) _ h
      · replace h := tk_ifF hc3 h
        refine tk_bF  rfl rfl tk_eL_eq (c := (fT_narrow v0 (m.2.1 v1 (tk_n v2)) m) = (m.2.1 v1 (tk_n v2))) hc3 (pc' := 22) (ls' := [(0, .ref v0), (1, .ref v1), (2, .int v2)]) (st' := []) ?_
        refine tk_Ps  1 (pc' := 23) (ls' := [(0, .ref v0), (1, .ref v1), (2, .int v2)]) (st' := [.int (0 : Int32)]) rfl ?_
        replace h := Option.some.inj h
        subst h
        exact tk_RB (b := false)  rfl rfl rfl
theorem ok_fT_mayHold (sc : tk_X) (t : Nat) (a1 : Nat) (m : tk_m) (ht : tk_lay[t]? = some (.inl 7)) (ha1 : tk_lay[a1]? = some (.inr (1, tk_al a1))) {out : Bool} (h : fT_mayHold t a1 m = some out) : tk_Ru sc 2 139 [.ref t, .ref a1] (tk_full m) (some (.int (tk_b out)), tk_full m) := by
  unfold fT_mayHold at h
  refine tk_Ru0 me139 (ls := [(0, .ref t), (1, .ref a1)]) rfl rfl ?_
  refine tk_Ps  2 (pc' := 2) (ls' := [(2, .int (0 : Int32)), (0, .ref t), (1, .ref a1)]) (st' := []) rfl ?_
  refine tk_Kp  (ls' := [(0, .ref t), (1, .ref a1), (2, .int (0 : Int32))]) rfl rfl ?_
  exact ok_fT_mayHold_2 sc tk_F t a1 (0 : Int32) m ht (tk_al_of ha1) _ h
theorem ok_fX_invert_142 (sc : tk_X) : ∀ (n : Nat) (v5 : Nat) (v6 : Int32) (m : tk_m) (hv5 : tk_lay[v5]? = some (.inl 7)) (out : Int32 × tk_m), fX_invert_142 n v5 v6 m = some out → tk_Ex sc 3 tk_r132 tk_k132 142 [(0, .ref 0), (5, .ref v5), (6, .int v6)] [] (tk_full m) (some (.int out.1), tk_full out.2) := by
  intro n
  induction n with
  | zero =>
    intro v5 v6 m hv5 out h
    cases h
  | succ n ih =>
    intro v5 v6 m hv5 out h
    unfold fX_invert_142 at h
    refine tk_Ps  2 (pc' := 145) (ls' := [(0, .ref 0), (5, .ref v5), (6, .int v6)]) (st' := [.int (4 : Int32), .int v6]) rfl ?_
    by_cases hc1 : (4 : Int32) ≤ v6
    · replace h := tk_ifT hc1 h
      refine tk_bT  rfl rfl rfl (c := (4 : Int32) ≤ v6) hc1 (pc' := 171) (ls' := [(0, .ref 0), (5, .ref v5), (6, .int v6)]) (st' := []) ?_
      refine tk_Ps  1 (pc' := 172) (ls' := [(0, .ref 0), (5, .ref v5), (6, .int v6)]) (st' := [.int (1 : Int32)]) rfl ?_
      replace h := Option.some.inj h
      subst h
      exact tk_RI  rfl rfl rfl
    · replace h := tk_ifF hc1 h
      refine tk_bF  rfl rfl rfl (c := (4 : Int32) ≤ v6) hc1 (pc' := 148) (ls' := [(0, .ref 0), (5, .ref v5), (6, .int v6)]) (st' := []) ?_
      refine tk_Ps  3 (pc' := 153) (ls' := [(0, .ref 0), (5, .ref v5), (6, .int v6)]) (st' := [.ref 0, .int v6, .ref v5]) rfl ?_
      refine tk_HR  rfl rfl ly0 rt0_6 ?_
      refine tk_HR  rfl rfl ly34 rt34_2 ?_
      refine tk_Ps  1 (pc' := 161) (ls' := [(0, .ref 0), (5, .ref v5), (6, .int v6)]) (st' := [.int v6, .ref 37, .int v6, .ref v5]) rfl ?_
      obtain ⟨hg2, h⟩ := tk_grd h
      refine tk_HJa  rfl rfl ly37 hg2 ?_
      obtain ⟨o3, ho3, h⟩ := tk_bnd h
      refine tk_cV0  rfl rfl (r := v5) (as := [.int v6, .long (m.2.1 37 (tk_n v6))]) (rest := []) rfl hv5 rfl rfl (ok_fT_set sc v5 v6 (m.2.1 37 (tk_n v6)) m hv5 ho3) ?_
      refine tk_Ps  2 (pc' := 142) (ls' := [(6, .int (v6 + (1 : Int32))), (0, .ref 0), (5, .ref v5)]) (st' := []) rfl ?_
      refine tk_Kp  (ls' := [(0, .ref 0), (5, .ref v5), (6, .int (v6 + (1 : Int32)))]) rfl rfl ?_
      exact ih v5 (v6 + (1 : Int32)) o3 hv5 _ h
theorem ok_fX_invert (sc : tk_X) (a1 : Int32) (a2 : Int32) (a3 : Int32) (a4 : Int32) (m : tk_m) {out : Int32 × tk_m} (h : fX_invert a1 a2 a3 a4 m = some out) : tk_Ru sc 4 132 [.ref 0, .int a1, .int a2, .int a3, .int a4] (tk_full m) (some (.int out.1), tk_full out.2) := by
  unfold fX_invert at h
  refine tk_Ru0 me132 (ls := [(0, .ref 0), (1, .int a1), (2, .int a2), (3, .int a3), (4, .int a4)]) rfl rfl ?_
  refine tk_Ps  1 (pc' := 1) (ls' := [(0, .ref 0), (1, .int a1), (2, .int a2), (3, .int a3), (4, .int a4)]) (st' := [.int a1]) rfl ?_
  refine tk_cS1  rfl rfl (as := [.int a1]) (rest := []) rfl rfl rfl (ok_fX_isSheet sc a1 m) ?_
  by_cases hc1 : (fX_isSheet a1) = true
  · replace h := tk_ifT hc1 h
    refine tk_bT  rfl rfl tk_eB_eq (c := (fX_isSheet a1) = true) hc1 (pc' := 7) (ls' := [(0, .ref 0), (1, .int a1), (2, .int a2), (3, .int a3), (4, .int a4)]) (st' := []) ?_
    refine tk_Ps  3 (pc' := 12) (ls' := [(0, .ref 0), (1, .int a1), (2, .int a2), (3, .int a3), (4, .int a4)]) (st' := [.int (9 : Int32), .int (-9 : Int32), .int a2]) rfl ?_
    refine tk_cS1  rfl rfl (as := [.int a2, .int (-9 : Int32), .int (9 : Int32)]) (rest := []) rfl rfl rfl (ok_fX_isWithin sc a2 (-9 : Int32) (9 : Int32) m) ?_
    by_cases hc2 : (fX_isWithin a2 (-9 : Int32) (9 : Int32)) = true
    · replace h := tk_ifT hc2 h
      refine tk_bT  rfl rfl tk_eB_eq (c := (fX_isWithin a2 (-9 : Int32) (9 : Int32)) = true) hc2 (pc' := 18) (ls' := [(0, .ref 0), (1, .int a1), (2, .int a2), (3, .int a3), (4, .int a4)]) (st' := []) ?_
      refine tk_Ps  3 (pc' := 23) (ls' := [(0, .ref 0), (1, .int a1), (2, .int a2), (3, .int a3), (4, .int a4)]) (st' := [.int (9 : Int32), .int (-9 : Int32), .int a3]) rfl ?_
      refine tk_cS1  rfl rfl (as := [.int a3, .int (-9 : Int32), .int (9 : Int32)]) (rest := []) rfl rfl rfl (ok_fX_isWithin sc a3 (-9 : Int32) (9 : Int32) m) ?_
      by_cases hc3 : (fX_isWithin a3 (-9 : Int32) (9 : Int32)) = true
      · replace h := tk_ifT hc3 h
        refine tk_bT  rfl rfl tk_eB_eq (c := (fX_isWithin a3 (-9 : Int32) (9 : Int32)) = true) hc3 (pc' := 29) (ls' := [(0, .ref 0), (1, .int a1), (2, .int a2), (3, .int a3), (4, .int a4)]) (st' := []) ?_
        refine tk_Ps  3 (pc' := 34) (ls' := [(0, .ref 0), (1, .int a1), (2, .int a2), (3, .int a3), (4, .int a4)]) (st' := [.int (99 : Int32), .int (1 : Int32), .int a4]) rfl ?_
        refine tk_cS1  rfl rfl (as := [.int a4, .int (1 : Int32), .int (99 : Int32)]) (rest := []) rfl rfl rfl (ok_fX_isWithin sc a4 (1 : Int32) (99 : Int32) m) ?_
        by_cases hc4 : (fX_isWithin a4 (1 : Int32) (99 : Int32)) = true
        · replace h := tk_ifT hc4 h
          refine tk_bT  rfl rfl tk_eB_ne (c := (fX_isWithin a4 (1 : Int32) (99 : Int32)) = true) hc4 (pc' := 46) (ls' := [(0, .ref 0), (1, .int a1), (2, .int a2), (3, .int a3), (4, .int a4)]) (st' := []) ?_
          refine tk_Ps  1 (pc' := 47) (ls' := [(0, .ref 0), (1, .int a1), (2, .int a2), (3, .int a3), (4, .int a4)]) (st' := [.ref 0]) rfl ?_
          refine tk_HR  rfl rfl ly0 rt0_4 ?_
          refine tk_Ps  1 (pc' := 51) (ls' := [(0, .ref 0), (1, .int a1), (2, .int a2), (3, .int a3), (4, .int a4)]) (st' := [.int a1, .ref 12]) rfl ?_
          obtain ⟨hg5, h⟩ := tk_grd h
          refine tk_HQ  rfl rfl ly12 hg5 (la12 _ (hg5).2).1 ?_
          refine tk_Ps  2 (pc' := 56) (ls' := [(5, .ref (266 + 2 * (tk_n a1))), (0, .ref 0), (1, .int a1), (2, .int a2), (3, .int a3), (4, .int a4)]) (st' := [.ref (266 + 2 * (tk_n a1))]) rfl ?_
          refine tk_cV1  rfl rfl (r := (266 + 2 * (tk_n a1))) (as := []) (rest := []) rfl ((la12 _ (hg5).2).2) rfl rfl (ok_fT_isMissing sc (266 + 2 * (tk_n a1)) m ((la12 _ (hg5).2).2)) ?_
          by_cases hc6 : (fT_isMissing (266 + 2 * (tk_n a1)) m) = true
          · replace h := tk_ifT hc6 h
            refine tk_bT  rfl rfl tk_eB_eq (c := (fT_isMissing (266 + 2 * (tk_n a1)) m) = true) hc6 (pc' := 62) (ls' := [(5, .ref (266 + 2 * (tk_n a1))), (0, .ref 0), (1, .int a1), (2, .int a2), (3, .int a3), (4, .int a4)]) (st' := []) ?_
            refine tk_Ps  2 (pc' := 64) (ls' := [(5, .ref (266 + 2 * (tk_n a1))), (0, .ref 0), (1, .int a1), (2, .int a2), (3, .int a3), (4, .int a4)]) (st' := [.int (5 : Int32), .ref 0]) rfl ?_
            obtain ⟨o7, ho7, h⟩ := tk_bnd h
            refine tk_cV1  rfl rfl (r := 0) (as := [.int (5 : Int32)]) (rest := []) rfl ly0 rfl rfl (ok_fX_finding sc (5 : Int32) m ho7) ?_
            replace h := Option.some.inj h
            subst h
            exact tk_RI  rfl rfl rfl
          · replace h := tk_ifF hc6 h
            refine tk_bF  rfl rfl tk_eB_eq (c := (fT_isMissing (266 + 2 * (tk_n a1)) m) = true) hc6 (pc' := 68) (ls' := [(5, .ref (266 + 2 * (tk_n a1))), (0, .ref 0), (1, .int a1), (2, .int a2), (3, .int a3), (4, .int a4)]) (st' := []) ?_
            refine tk_Ps  1 (pc' := 70) (ls' := [(5, .ref (266 + 2 * (tk_n a1))), (0, .ref 0), (1, .int a1), (2, .int a2), (3, .int a3), (4, .int a4)]) (st' := [.ref (266 + 2 * (tk_n a1))]) rfl ?_
            refine tk_HI  rfl rfl ((la12 _ (hg5).2).2) ?_
            refine tk_Ps  1 (pc' := 74) (ls' := [(5, .ref (266 + 2 * (tk_n a1))), (0, .ref 0), (1, .int a1), (2, .int a2), (3, .int a3), (4, .int a4)]) (st' := [.int (4 : Int32), .int (m.1 (266 + 2 * (tk_n a1)) 1)]) rfl ?_
            by_cases hc8 : (4 : Int32) ≤ (m.1 (266 + 2 * (tk_n a1)) 1)
            · replace h := tk_ifT hc8 h
              refine tk_bT  rfl rfl rfl (c := (4 : Int32) ≤ (m.1 (266 + 2 * (tk_n a1)) 1)) hc8 (pc' := 84) (ls' := [(5, .ref (266 + 2 * (tk_n a1))), (0, .ref 0), (1, .int a1), (2, .int a2), (3, .int a3), (4, .int a4)]) (st' := []) ?_
              refine tk_Ps  1 (pc' := 86) (ls' := [(5, .ref (266 + 2 * (tk_n a1))), (0, .ref 0), (1, .int a1), (2, .int a2), (3, .int a3), (4, .int a4)]) (st' := [.ref (266 + 2 * (tk_n a1))]) rfl ?_
              obtain ⟨o9, ho9, h⟩ := tk_bnd h
              refine tk_cV1  rfl rfl (r := (266 + 2 * (tk_n a1))) (as := []) (rest := []) rfl ((la12 _ (hg5).2).2) rfl rfl (ok_fT_isFormZero sc (266 + 2 * (tk_n a1)) m ((la12 _ (hg5).2).2) ho9) ?_
              by_cases hc10 : o9 = true
              · replace h := tk_ifT hc10 h
                refine tk_bT  rfl rfl tk_eB_eq (c := o9 = true) hc10 (pc' := 92) (ls' := [(5, .ref (266 + 2 * (tk_n a1))), (0, .ref 0), (1, .int a1), (2, .int a2), (3, .int a3), (4, .int a4)]) (st' := []) ?_
                refine tk_Ps  2 (pc' := 94) (ls' := [(5, .ref (266 + 2 * (tk_n a1))), (0, .ref 0), (1, .int a1), (2, .int a2), (3, .int a3), (4, .int a4)]) (st' := [.int (4 : Int32), .ref 0]) rfl ?_
                obtain ⟨o11, ho11, h⟩ := tk_bnd h
                refine tk_cV1  rfl rfl (r := 0) (as := [.int (4 : Int32)]) (rest := []) rfl ly0 rfl rfl (ok_fX_finding sc (4 : Int32) m ho11) ?_
                replace h := Option.some.inj h
                subst h
                exact tk_RI  rfl rfl rfl
              · replace h := tk_ifF hc10 h
                refine tk_bF  rfl rfl tk_eB_eq (c := o9 = true) hc10 (pc' := 98) (ls' := [(5, .ref (266 + 2 * (tk_n a1))), (0, .ref 0), (1, .int a1), (2, .int a2), (3, .int a3), (4, .int a4)]) (st' := []) ?_
                refine tk_Ps  1 (pc' := 99) (ls' := [(5, .ref (266 + 2 * (tk_n a1))), (0, .ref 0), (1, .int a1), (2, .int a2), (3, .int a3), (4, .int a4)]) (st' := [.ref 0]) rfl ?_
                refine tk_HR  rfl rfl ly0 rt0_6 ?_
                refine tk_Ps  1 (pc' := 104) (ls' := [(5, .ref (266 + 2 * (tk_n a1))), (0, .ref 0), (1, .int a1), (2, .int a2), (3, .int a3), (4, .int a4)]) (st' := [.ref (266 + 2 * (tk_n a1)), .ref 34]) rfl ?_
                refine tk_HR  rfl rfl ((la12 _ (hg5).2).2) (ro7_2 ((la12 _ (hg5).2).2)) ?_
                refine tk_Ps  3 (pc' := 111) (ls' := [(5, .ref (266 + 2 * (tk_n a1))), (0, .ref 0), (1, .int a1), (2, .int a2), (3, .int a3), (4, .int a4)]) (st' := [.int a4, .int a3, .int a2, .ref ((266 + 2 * (tk_n a1)) + 1), .ref 34]) rfl ?_
                obtain ⟨o12, ho12, h⟩ := tk_bnd h
                refine tk_cV1  rfl rfl (r := 34) (as := [.ref ((266 + 2 * (tk_n a1)) + 1), .int a2, .int a3, .int a4]) (rest := []) rfl ly34 rfl rfl (ok_fK_turnInsideOut sc ((266 + 2 * (tk_n a1)) + 1) a2 a3 a4 m (tk_al_of (lo7_2 ((la12 _ (hg5).2).2))) ho12) ?_
                by_cases hc13 : o12.1 = true
                · replace h := tk_ifT hc13 h
                  refine tk_bT  rfl rfl tk_eB_eq (c := o12.1 = true) hc13 (pc' := 117) (ls' := [(5, .ref (266 + 2 * (tk_n a1))), (0, .ref 0), (1, .int a1), (2, .int a2), (3, .int a3), (4, .int a4)]) (st' := []) ?_
                  refine tk_Ps  2 (pc' := 120) (ls' := [(5, .ref (266 + 2 * (tk_n a1))), (0, .ref 0), (1, .int a1), (2, .int a2), (3, .int a3), (4, .int a4)]) (st' := [.ref 0, .ref (266 + 2 * (tk_n a1))]) rfl ?_
                  refine tk_HR  rfl rfl ly0 rt0_6 ?_
                  refine tk_HR  rfl rfl ly34 rt34_2 ?_
                  obtain ⟨o14, ho14, h⟩ := tk_bnd h
                  refine tk_cV1  rfl rfl (r := (266 + 2 * (tk_n a1))) (as := [.ref 37]) (rest := []) rfl ((la12 _ (hg5).2).2) rfl rfl (ok_fT_mayHold sc (266 + 2 * (tk_n a1)) 37 o12.2 ((la12 _ (hg5).2).2) (tk_al_of ly37) ho14) ?_
                  by_cases hc15 : o14 = true
                  · replace h := tk_ifT hc15 h
                    refine tk_bT  rfl rfl tk_eB_ne (c := o14 = true) hc15 (pc' := 139) (ls' := [(5, .ref (266 + 2 * (tk_n a1))), (0, .ref 0), (1, .int a1), (2, .int a2), (3, .int a3), (4, .int a4)]) (st' := []) ?_
                    refine tk_Ps  2 (pc' := 142) (ls' := [(6, .int (0 : Int32)), (5, .ref (266 + 2 * (tk_n a1))), (0, .ref 0), (1, .int a1), (2, .int a2), (3, .int a3), (4, .int a4)]) (st' := []) rfl ?_
                    refine tk_Kp  (ls' := [(0, .ref 0), (5, .ref (266 + 2 * (tk_n a1))), (6, .int (0 : Int32))]) rfl rfl ?_
                    exact ok_fX_invert_142 sc tk_F (266 + 2 * (tk_n a1)) (0 : Int32) o12.2 ((la12 _ (hg5).2).2) _ h
                  · replace h := tk_ifF hc15 h
                    refine tk_bF  rfl rfl tk_eB_ne (c := o14 = true) hc15 (pc' := 132) (ls' := [(5, .ref (266 + 2 * (tk_n a1))), (0, .ref 0), (1, .int a1), (2, .int a2), (3, .int a3), (4, .int a4)]) (st' := []) ?_
                    refine tk_Ps  2 (pc' := 135) (ls' := [(5, .ref (266 + 2 * (tk_n a1))), (0, .ref 0), (1, .int a1), (2, .int a2), (3, .int a3), (4, .int a4)]) (st' := [.int (7 : Int32), .ref 0]) rfl ?_
                    obtain ⟨o16, ho16, h⟩ := tk_bnd h
                    refine tk_cV1  rfl rfl (r := 0) (as := [.int (7 : Int32)]) (rest := []) rfl ly0 rfl rfl (ok_fX_finding sc (7 : Int32) o12.2 ho16) ?_
                    replace h := Option.some.inj h
                    subst h
                    exact tk_RI  rfl rfl rfl
                · replace h := tk_ifF hc13 h
                  refine tk_bF  rfl rfl tk_eB_eq (c := o12.1 = true) hc13 (pc' := 132) (ls' := [(5, .ref (266 + 2 * (tk_n a1))), (0, .ref 0), (1, .int a1), (2, .int a2), (3, .int a3), (4, .int a4)]) (st' := []) ?_
                  refine tk_Ps  2 (pc' := 135) (ls' := [(5, .ref (266 + 2 * (tk_n a1))), (0, .ref 0), (1, .int a1), (2, .int a2), (3, .int a3), (4, .int a4)]) (st' := [.int (7 : Int32), .ref 0]) rfl ?_
                  obtain ⟨o17, ho17, h⟩ := tk_bnd h
                  refine tk_cV1  rfl rfl (r := 0) (as := [.int (7 : Int32)]) (rest := []) rfl ly0 rfl rfl (ok_fX_finding sc (7 : Int32) o12.2 ho17) ?_
                  replace h := Option.some.inj h
                  subst h
                  exact tk_RI  rfl rfl rfl
            · replace h := tk_ifF hc8 h
              refine tk_bF  rfl rfl rfl (c := (4 : Int32) ≤ (m.1 (266 + 2 * (tk_n a1)) 1)) hc8 (pc' := 77) (ls' := [(5, .ref (266 + 2 * (tk_n a1))), (0, .ref 0), (1, .int a1), (2, .int a2), (3, .int a3), (4, .int a4)]) (st' := []) ?_
              refine tk_Ps  2 (pc' := 80) (ls' := [(5, .ref (266 + 2 * (tk_n a1))), (0, .ref 0), (1, .int a1), (2, .int a2), (3, .int a3), (4, .int a4)]) (st' := [.int (6 : Int32), .ref 0]) rfl ?_
              obtain ⟨o18, ho18, h⟩ := tk_bnd h
              refine tk_cV1  rfl rfl (r := 0) (as := [.int (6 : Int32)]) (rest := []) rfl ly0 rfl rfl (ok_fX_finding sc (6 : Int32) m ho18) ?_
              replace h := Option.some.inj h
              subst h
              exact tk_RI  rfl rfl rfl
        · replace h := tk_ifF hc4 h
          refine tk_bF  rfl rfl tk_eB_ne (c := (fX_isWithin a4 (1 : Int32) (99 : Int32)) = true) hc4 (pc' := 40) (ls' := [(0, .ref 0), (1, .int a1), (2, .int a2), (3, .int a3), (4, .int a4)]) (st' := []) ?_
          refine tk_Ps  2 (pc' := 42) (ls' := [(0, .ref 0), (1, .int a1), (2, .int a2), (3, .int a3), (4, .int a4)]) (st' := [.int (0 : Int32), .ref 0]) rfl ?_
          obtain ⟨o19, ho19, h⟩ := tk_bnd h
          refine tk_cV1  rfl rfl (r := 0) (as := [.int (0 : Int32)]) (rest := []) rfl ly0 rfl rfl (ok_fX_finding sc (0 : Int32) m ho19) ?_
          replace h := Option.some.inj h
          subst h
          exact tk_RI  rfl rfl rfl
      · replace h := tk_ifF hc3 h
        refine tk_bF  rfl rfl tk_eB_eq (c := (fX_isWithin a3 (-9 : Int32) (9 : Int32)) = true) hc3 (pc' := 40) (ls' := [(0, .ref 0), (1, .int a1), (2, .int a2), (3, .int a3), (4, .int a4)]) (st' := []) ?_
        refine tk_Ps  2 (pc' := 42) (ls' := [(0, .ref 0), (1, .int a1), (2, .int a2), (3, .int a3), (4, .int a4)]) (st' := [.int (0 : Int32), .ref 0]) rfl ?_
        obtain ⟨o20, ho20, h⟩ := tk_bnd h
        refine tk_cV1  rfl rfl (r := 0) (as := [.int (0 : Int32)]) (rest := []) rfl ly0 rfl rfl (ok_fX_finding sc (0 : Int32) m ho20) ?_
        replace h := Option.some.inj h
        subst h
        exact tk_RI  rfl rfl rfl
    · replace h := tk_ifF hc2 h
      refine tk_bF  rfl rfl tk_eB_eq (c := (fX_isWithin a2 (-9 : Int32) (9 : Int32)) = true) hc2 (pc' := 40) (ls' := [(0, .ref 0), (1, .int a1), (2, .int a2), (3, .int a3), (4, .int a4)]) (st' := []) ?_
      refine tk_Ps  2 (pc' := 42) (ls' := [(0, .ref 0), (1, .int a1), (2, .int a2), (3, .int a3), (4, .int a4)]) (st' := [.int (0 : Int32), .ref 0]) rfl ?_
      obtain ⟨o21, ho21, h⟩ := tk_bnd h
      refine tk_cV1  rfl rfl (r := 0) (as := [.int (0 : Int32)]) (rest := []) rfl ly0 rfl rfl (ok_fX_finding sc (0 : Int32) m ho21) ?_
      replace h := Option.some.inj h
      subst h
      exact tk_RI  rfl rfl rfl
  · replace h := tk_ifF hc1 h
    refine tk_bF  rfl rfl tk_eB_eq (c := (fX_isSheet a1) = true) hc1 (pc' := 40) (ls' := [(0, .ref 0), (1, .int a1), (2, .int a2), (3, .int a3), (4, .int a4)]) (st' := []) ?_
    refine tk_Ps  2 (pc' := 42) (ls' := [(0, .ref 0), (1, .int a1), (2, .int a2), (3, .int a3), (4, .int a4)]) (st' := [.int (0 : Int32), .ref 0]) rfl ?_
    obtain ⟨o22, ho22, h⟩ := tk_bnd h
    refine tk_cV1  rfl rfl (r := 0) (as := [.int (0 : Int32)]) (rest := []) rfl ly0 rfl rfl (ok_fX_finding sc (0 : Int32) m ho22) ?_
    replace h := Option.some.inj h
    subst h
    exact tk_RI  rfl rfl rfl
theorem ok_fJ_kindOfForm (sc : tk_X) (a1 : Nat) (m : tk_m) (ha1 : tk_lay[a1]? = some (.inr (1, tk_al a1))) {out : Int32 × tk_m} (h : fJ_kindOfForm a1 m = some out) : tk_Ru sc 4 141 [.ref 13, .ref a1] (tk_full m) (some (.int out.1), tk_full out.2) := by
  unfold fJ_kindOfForm at h
  refine tk_Ru0 me141 (ls := [(0, .ref 13), (1, .ref a1)]) rfl rfl ?_
  refine tk_Ps  1 (pc' := 1) (ls' := [(0, .ref 13), (1, .ref a1)]) (st' := [.ref a1]) rfl ?_
  refine tk_HL  rfl rfl ha1 ?_
  refine tk_Ps  1 (pc' := 3) (ls' := [(0, .ref 13), (1, .ref a1)]) (st' := [.int (4 : Int32), .int (Int32.ofNat (tk_al a1))]) rfl ?_
  by_cases hc1 : (4 : Int32) ≤ (Int32.ofNat (tk_al a1))
  · replace h := tk_ifT hc1 h
    refine tk_bT  rfl rfl rfl (c := (4 : Int32) ≤ (Int32.ofNat (tk_al a1))) hc1 (pc' := 8) (ls' := [(0, .ref 13), (1, .ref a1)]) (st' := []) ?_
    refine tk_Ps  2 (pc' := 10) (ls' := [(0, .ref 13), (1, .ref a1)]) (st' := [.int (0 : Int32), .ref a1]) rfl ?_
    obtain ⟨hg2, h⟩ := tk_grd h
    refine tk_HJa  rfl rfl ha1 hg2 ?_
    refine tk_Ps  2 (pc' := 13) (ls' := [(0, .ref 13), (1, .ref a1)]) (st' := [.int (lg_cmp (m.2.1 a1 (tk_n (0 : Int32))) (0 : Int64))]) rfl ?_
    by_cases hc3 : (m.2.1 a1 (tk_n (0 : Int32))) = (0 : Int64)
    · replace h := tk_ifT hc3 h
      refine tk_bT  rfl rfl tk_eL_ne (c := (m.2.1 a1 (tk_n (0 : Int32))) = (0 : Int64)) hc3 (pc' := 16) (ls' := [(0, .ref 13), (1, .ref a1)]) (st' := []) ?_
      refine tk_Ps  2 (pc' := 18) (ls' := [(0, .ref 13), (1, .ref a1)]) (st' := [.int (1 : Int32), .ref a1]) rfl ?_
      obtain ⟨hg4, h⟩ := tk_grd h
      refine tk_HJa  rfl rfl ha1 hg4 ?_
      refine tk_Ps  2 (pc' := 21) (ls' := [(0, .ref 13), (1, .ref a1)]) (st' := [.int (lg_cmp (m.2.1 a1 (tk_n (1 : Int32))) (0 : Int64))]) rfl ?_
      by_cases hc5 : (m.2.1 a1 (tk_n (1 : Int32))) = (0 : Int64)
      · replace h := tk_ifT hc5 h
        refine tk_bT  rfl rfl tk_eL_ne (c := (m.2.1 a1 (tk_n (1 : Int32))) = (0 : Int64)) hc5 (pc' := 24) (ls' := [(0, .ref 13), (1, .ref a1)]) (st' := []) ?_
        refine tk_Ps  2 (pc' := 26) (ls' := [(0, .ref 13), (1, .ref a1)]) (st' := [.int (2 : Int32), .ref a1]) rfl ?_
        obtain ⟨hg6, h⟩ := tk_grd h
        refine tk_HJa  rfl rfl ha1 hg6 ?_
        refine tk_Ps  2 (pc' := 29) (ls' := [(0, .ref 13), (1, .ref a1)]) (st' := [.int (lg_cmp (m.2.1 a1 (tk_n (2 : Int32))) (0 : Int64))]) rfl ?_
        by_cases hc7 : (m.2.1 a1 (tk_n (2 : Int32))) = (0 : Int64)
        · replace h := tk_ifT hc7 h
          refine tk_bT  rfl rfl tk_eL_eq (c := (m.2.1 a1 (tk_n (2 : Int32))) = (0 : Int64)) hc7 (pc' := 36) (ls' := [(0, .ref 13), (1, .ref a1)]) (st' := []) ?_
          refine tk_Ps  1 (pc' := 37) (ls' := [(0, .ref 13), (1, .ref a1)]) (st' := [.int (0 : Int32)]) rfl ?_
          replace h := Option.some.inj h
          subst h
          exact tk_RI  rfl rfl rfl
        · replace h := tk_ifF hc7 h
          refine tk_bF  rfl rfl tk_eL_eq (c := (m.2.1 a1 (tk_n (2 : Int32))) = (0 : Int64)) hc7 (pc' := 32) (ls' := [(0, .ref 13), (1, .ref a1)]) (st' := []) ?_
          refine tk_Ps  2 (pc' := 37) (ls' := [(0, .ref 13), (1, .ref a1)]) (st' := [.int (2 : Int32)]) rfl ?_
          replace h := Option.some.inj h
          subst h
          exact tk_RI  rfl rfl rfl
      · replace h := tk_ifF hc5 h
        refine tk_bF  rfl rfl tk_eL_ne (c := (m.2.1 a1 (tk_n (1 : Int32))) = (0 : Int64)) hc5 (pc' := 32) (ls' := [(0, .ref 13), (1, .ref a1)]) (st' := []) ?_
        refine tk_Ps  2 (pc' := 37) (ls' := [(0, .ref 13), (1, .ref a1)]) (st' := [.int (2 : Int32)]) rfl ?_
        replace h := Option.some.inj h
        subst h
        exact tk_RI  rfl rfl rfl
    · replace h := tk_ifF hc3 h
      refine tk_bF  rfl rfl tk_eL_ne (c := (m.2.1 a1 (tk_n (0 : Int32))) = (0 : Int64)) hc3 (pc' := 38) (ls' := [(0, .ref 13), (1, .ref a1)]) (st' := []) ?_
      refine tk_Ps  2 (pc' := 40) (ls' := [(0, .ref 13), (1, .ref a1)]) (st' := [.ref 13, .ref 13]) rfl ?_
      refine tk_HR  rfl rfl ly13 rt13_2 ?_
      refine tk_Ps  2 (pc' := 45) (ls' := [(0, .ref 13), (1, .ref a1)]) (st' := [.int (1 : Int32), .ref a1, .ref 18, .ref 13]) rfl ?_
      obtain ⟨hg8, h⟩ := tk_grd h
      refine tk_HJa  rfl rfl ha1 hg8 ?_
      refine tk_Ps  2 (pc' := 48) (ls' := [(0, .ref 13), (1, .ref a1)]) (st' := [.int (1 : Int32), .ref a1, .long (m.2.1 a1 (tk_n (1 : Int32))), .ref 18, .ref 13]) rfl ?_
      refine tk_HJa  rfl rfl ha1 hg8 ?_
      obtain ⟨o9, ho9, h⟩ := tk_bnd h
      refine tk_cV0  rfl rfl (r := 13) (as := [.ref 18, .long (m.2.1 a1 (tk_n (1 : Int32))), .long (m.2.1 a1 (tk_n (1 : Int32)))]) (rest := []) rfl ly13 rfl rfl (ok_fJ_takeProduct sc 18 (m.2.1 a1 (tk_n (1 : Int32))) (m.2.1 a1 (tk_n (1 : Int32))) m ly18 ho9) ?_
      refine tk_Ps  2 (pc' := 54) (ls' := [(0, .ref 13), (1, .ref a1)]) (st' := [.ref 13, .ref 13]) rfl ?_
      refine tk_HR  rfl rfl ly13 rt13_3 ?_
      refine tk_Ps  2 (pc' := 59) (ls' := [(0, .ref 13), (1, .ref a1)]) (st' := [.int (2 : Int32), .ref a1, .ref 20, .ref 13]) rfl ?_
      obtain ⟨hg10, h⟩ := tk_grd h
      refine tk_HJa  rfl rfl ha1 hg10 ?_
      refine tk_Ps  2 (pc' := 62) (ls' := [(0, .ref 13), (1, .ref a1)]) (st' := [.int (2 : Int32), .ref a1, .long (o9.2.1 a1 (tk_n (2 : Int32))), .ref 20, .ref 13]) rfl ?_
      refine tk_HJa  rfl rfl ha1 hg10 ?_
      obtain ⟨o11, ho11, h⟩ := tk_bnd h
      refine tk_cV0  rfl rfl (r := 13) (as := [.ref 20, .long (o9.2.1 a1 (tk_n (2 : Int32))), .long (o9.2.1 a1 (tk_n (2 : Int32)))]) (rest := []) rfl ly13 rfl rfl (ok_fJ_takeProduct sc 20 (o9.2.1 a1 (tk_n (2 : Int32))) (o9.2.1 a1 (tk_n (2 : Int32))) o9 ly20 ho11) ?_
      refine tk_Ps  1 (pc' := 67) (ls' := [(0, .ref 13), (1, .ref a1)]) (st' := [.ref 13]) rfl ?_
      refine tk_HR  rfl rfl ly13 rt13_1 ?_
      refine tk_Ps  1 (pc' := 71) (ls' := [(0, .ref 13), (1, .ref a1)]) (st' := [.ref 13, .ref 16]) rfl ?_
      refine tk_HR  rfl rfl ly13 rt13_2 ?_
      refine tk_Ps  2 (pc' := 76) (ls' := [(0, .ref 13), (1, .ref a1)]) (st' := [.ref 13, .int (1 : Int32), .ref 18, .ref 16]) rfl ?_
      refine tk_HR  rfl rfl ly13 rt13_3 ?_
      obtain ⟨o12, ho12, h⟩ := tk_bnd h
      refine tk_cV0  rfl rfl (r := 16) (as := [.ref 18, .int (1 : Int32), .ref 20]) (rest := []) rfl ly16 rfl rfl (ok_fB_takeSum sc 16 18 (1 : Int32) 20 o11 ly16 ly18 ly20 ho12) ?_
      refine tk_Ps  2 (pc' := 84) (ls' := [(0, .ref 13), (1, .ref a1)]) (st' := [.ref 13, .ref 13]) rfl ?_
      refine tk_HR  rfl rfl ly13 rt13_9 ?_
      refine tk_Ps  2 (pc' := 89) (ls' := [(0, .ref 13), (1, .ref a1)]) (st' := [.int (0 : Int32), .ref a1, .ref 32, .ref 13]) rfl ?_
      refine tk_HJa  rfl rfl ha1 hg2 ?_
      refine tk_Ps  2 (pc' := 92) (ls' := [(0, .ref 13), (1, .ref a1)]) (st' := [.int (3 : Int32), .ref a1, .long (o12.2.1 a1 (tk_n (0 : Int32))), .ref 32, .ref 13]) rfl ?_
      obtain ⟨hg13, h⟩ := tk_grd h
      refine tk_HJa  rfl rfl ha1 hg13 ?_
      obtain ⟨o14, ho14, h⟩ := tk_bnd h
      refine tk_cV0  rfl rfl (r := 13) (as := [.ref 32, .long (o12.2.1 a1 (tk_n (0 : Int32))), .long (o12.2.1 a1 (tk_n (3 : Int32)))]) (rest := []) rfl ly13 rfl rfl (ok_fJ_takeProduct sc 32 (o12.2.1 a1 (tk_n (0 : Int32))) (o12.2.1 a1 (tk_n (3 : Int32))) o12 ly32 ho14) ?_
      refine tk_Ps  1 (pc' := 97) (ls' := [(0, .ref 13), (1, .ref a1)]) (st' := [.ref 13]) rfl ?_
      refine tk_HR  rfl rfl ly13 rt13_9 ?_
      refine tk_Ps  1 (pc' := 101) (ls' := [(0, .ref 13), (1, .ref a1)]) (st' := [.ref 13, .ref 32]) rfl ?_
      refine tk_HR  rfl rfl ly13 rt13_9 ?_
      refine tk_Ps  2 (pc' := 106) (ls' := [(0, .ref 13), (1, .ref a1)]) (st' := [.ref 13, .int (1 : Int32), .ref 32, .ref 32]) rfl ?_
      refine tk_HR  rfl rfl ly13 rt13_9 ?_
      obtain ⟨o15, ho15, h⟩ := tk_bnd h
      refine tk_cV0  rfl rfl (r := 32) (as := [.ref 32, .int (1 : Int32), .ref 32]) (rest := []) rfl ly32 rfl rfl (ok_fB_takeSum sc 32 32 (1 : Int32) 32 o14 ly32 ly32 ly32 ho15) ?_
      refine tk_Ps  1 (pc' := 113) (ls' := [(0, .ref 13), (1, .ref a1)]) (st' := [.ref 13]) rfl ?_
      refine tk_HR  rfl rfl ly13 rt13_9 ?_
      refine tk_Ps  1 (pc' := 117) (ls' := [(0, .ref 13), (1, .ref a1)]) (st' := [.ref 13, .ref 32]) rfl ?_
      refine tk_HR  rfl rfl ly13 rt13_9 ?_
      refine tk_Ps  2 (pc' := 122) (ls' := [(0, .ref 13), (1, .ref a1)]) (st' := [.ref 13, .int (1 : Int32), .ref 32, .ref 32]) rfl ?_
      refine tk_HR  rfl rfl ly13 rt13_9 ?_
      obtain ⟨o16, ho16, h⟩ := tk_bnd h
      refine tk_cV0  rfl rfl (r := 32) (as := [.ref 32, .int (1 : Int32), .ref 32]) (rest := []) rfl ly32 rfl rfl (ok_fB_takeSum sc 32 32 (1 : Int32) 32 o15 ly32 ly32 ly32 ho16) ?_
      refine tk_Ps  1 (pc' := 129) (ls' := [(0, .ref 13), (1, .ref a1)]) (st' := [.ref 13]) rfl ?_
      refine tk_HR  rfl rfl ly13 rt13_6 ?_
      refine tk_Ps  1 (pc' := 133) (ls' := [(0, .ref 13), (1, .ref a1)]) (st' := [.ref 13, .ref 26]) rfl ?_
      refine tk_HR  rfl rfl ly13 rt13_1 ?_
      refine tk_Ps  2 (pc' := 138) (ls' := [(0, .ref 13), (1, .ref a1)]) (st' := [.ref 13, .int (-1 : Int32), .ref 16, .ref 26]) rfl ?_
      refine tk_HR  rfl rfl ly13 rt13_9 ?_
      obtain ⟨o17, ho17, h⟩ := tk_bnd h
      refine tk_cV0  rfl rfl (r := 26) (as := [.ref 16, .int (-1 : Int32), .ref 32]) (rest := []) rfl ly26 rfl rfl (ok_fB_takeSum sc 26 16 (-1 : Int32) 32 o16 ly26 ly16 ly32 ho17) ?_
      refine tk_Ps  1 (pc' := 145) (ls' := [(0, .ref 13), (1, .ref a1)]) (st' := [.ref 13]) rfl ?_
      refine tk_HR  rfl rfl ly13 rt13_6 ?_
      refine tk_HI  rfl rfl ly26 ?_
      by_cases hc18 : (o17.1 26 0) = 0
      · replace h := tk_ifT hc18 h
        refine tk_bT  rfl rfl rfl (c := (o17.1 26 0) = 0) hc18 (pc' := 154) (ls' := [(0, .ref 13), (1, .ref a1)]) (st' := []) ?_
        refine tk_Ps  1 (pc' := 155) (ls' := [(0, .ref 13), (1, .ref a1)]) (st' := [.int (3 : Int32)]) rfl ?_
        replace h := Option.some.inj h
        subst h
        exact tk_RI  rfl rfl rfl
      · replace h := tk_ifF hc18 h
        refine tk_bF  rfl rfl rfl (c := (o17.1 26 0) = 0) hc18 (pc' := 156) (ls' := [(0, .ref 13), (1, .ref a1)]) (st' := []) ?_
        refine tk_Ps  1 (pc' := 157) (ls' := [(0, .ref 13), (1, .ref a1)]) (st' := [.ref 13]) rfl ?_
        refine tk_HR  rfl rfl ly13 rt13_6 ?_
        refine tk_HI  rfl rfl ly26 ?_
        by_cases hc19 : (o17.1 26 0) ≤ 0
        · replace h := tk_ifT hc19 h
          refine tk_bT  rfl rfl rfl (c := (o17.1 26 0) ≤ 0) hc19 (pc' := 170) (ls' := [(0, .ref 13), (1, .ref a1)]) (st' := []) ?_
          refine tk_Ps  1 (pc' := 171) (ls' := [(0, .ref 13), (1, .ref a1)]) (st' := [.int (0 : Int32)]) rfl ?_
          replace h := Option.some.inj h
          subst h
          exact tk_RI  rfl rfl rfl
        · replace h := tk_ifF hc19 h
          refine tk_bF  rfl rfl rfl (c := (o17.1 26 0) ≤ 0) hc19 (pc' := 166) (ls' := [(0, .ref 13), (1, .ref a1)]) (st' := []) ?_
          refine tk_Ps  2 (pc' := 171) (ls' := [(0, .ref 13), (1, .ref a1)]) (st' := [.int (1 : Int32)]) rfl ?_
          replace h := Option.some.inj h
          subst h
          exact tk_RI  rfl rfl rfl
  · replace h := tk_ifF hc1 h
    refine tk_bF  rfl rfl rfl (c := (4 : Int32) ≤ (Int32.ofNat (tk_al a1))) hc1 (pc' := 6) (ls' := [(0, .ref 13), (1, .ref a1)]) (st' := []) ?_
    refine tk_Ps  1 (pc' := 7) (ls' := [(0, .ref 13), (1, .ref a1)]) (st' := [.int (0 : Int32)]) rfl ?_
    replace h := Option.some.inj h
    subst h
    exact tk_RI  rfl rfl rfl
theorem ok_fX_tell (sc : tk_X) (a1 : Int32) (m : tk_m) {out : Int32 × tk_m} (h : fX_tell a1 m = some out) : tk_Ru sc 5 140 [.ref 0, .int a1] (tk_full m) (some (.int out.1), tk_full out.2) := by
  unfold fX_tell at h
  refine tk_Ru0 me140 (ls := [(0, .ref 0), (1, .int a1)]) rfl rfl ?_
  refine tk_Ps  1 (pc' := 1) (ls' := [(0, .ref 0), (1, .int a1)]) (st' := [.int a1]) rfl ?_
  refine tk_cS1  rfl rfl (as := [.int a1]) (rest := []) rfl rfl rfl (ok_fX_isSheet sc a1 m) ?_
  by_cases hc1 : (fX_isSheet a1) = true
  · replace h := tk_ifT hc1 h
    refine tk_bT  rfl rfl tk_eB_ne (c := (fX_isSheet a1) = true) hc1 (pc' := 13) (ls' := [(0, .ref 0), (1, .int a1)]) (st' := []) ?_
    refine tk_Ps  1 (pc' := 14) (ls' := [(0, .ref 0), (1, .int a1)]) (st' := [.ref 0]) rfl ?_
    refine tk_HR  rfl rfl ly0 rt0_4 ?_
    refine tk_Ps  1 (pc' := 18) (ls' := [(0, .ref 0), (1, .int a1)]) (st' := [.int a1, .ref 12]) rfl ?_
    obtain ⟨hg2, h⟩ := tk_grd h
    refine tk_HQ  rfl rfl ly12 hg2 (la12 _ (hg2).2).1 ?_
    refine tk_Ps  2 (pc' := 21) (ls' := [(2, .ref (266 + 2 * (tk_n a1))), (0, .ref 0), (1, .int a1)]) (st' := [.ref (266 + 2 * (tk_n a1))]) rfl ?_
    refine tk_cV1  rfl rfl (r := (266 + 2 * (tk_n a1))) (as := []) (rest := []) rfl ((la12 _ (hg2).2).2) rfl rfl (ok_fT_isMissing sc (266 + 2 * (tk_n a1)) m ((la12 _ (hg2).2).2)) ?_
    by_cases hc3 : (fT_isMissing (266 + 2 * (tk_n a1)) m) = true
    · replace h := tk_ifT hc3 h
      refine tk_bT  rfl rfl tk_eB_eq (c := (fT_isMissing (266 + 2 * (tk_n a1)) m) = true) hc3 (pc' := 27) (ls' := [(2, .ref (266 + 2 * (tk_n a1))), (0, .ref 0), (1, .int a1)]) (st' := []) ?_
      refine tk_Ps  2 (pc' := 29) (ls' := [(2, .ref (266 + 2 * (tk_n a1))), (0, .ref 0), (1, .int a1)]) (st' := [.int (5 : Int32), .ref 0]) rfl ?_
      obtain ⟨o4, ho4, h⟩ := tk_bnd h
      refine tk_cV1  rfl rfl (r := 0) (as := [.int (5 : Int32)]) (rest := []) rfl ly0 rfl rfl (ok_fX_finding sc (5 : Int32) m ho4) ?_
      replace h := Option.some.inj h
      subst h
      exact tk_RI  rfl rfl rfl
    · replace h := tk_ifF hc3 h
      refine tk_bF  rfl rfl tk_eB_eq (c := (fT_isMissing (266 + 2 * (tk_n a1)) m) = true) hc3 (pc' := 33) (ls' := [(2, .ref (266 + 2 * (tk_n a1))), (0, .ref 0), (1, .int a1)]) (st' := []) ?_
      refine tk_Ps  1 (pc' := 34) (ls' := [(2, .ref (266 + 2 * (tk_n a1))), (0, .ref 0), (1, .int a1)]) (st' := [.ref (266 + 2 * (tk_n a1))]) rfl ?_
      refine tk_HI  rfl rfl ((la12 _ (hg2).2).2) ?_
      refine tk_Ps  1 (pc' := 38) (ls' := [(2, .ref (266 + 2 * (tk_n a1))), (0, .ref 0), (1, .int a1)]) (st' := [.int (4 : Int32), .int (m.1 (266 + 2 * (tk_n a1)) 1)]) rfl ?_
      by_cases hc5 : (4 : Int32) ≤ (m.1 (266 + 2 * (tk_n a1)) 1)
      · replace h := tk_ifT hc5 h
        refine tk_bT  rfl rfl rfl (c := (4 : Int32) ≤ (m.1 (266 + 2 * (tk_n a1)) 1)) hc5 (pc' := 48) (ls' := [(2, .ref (266 + 2 * (tk_n a1))), (0, .ref 0), (1, .int a1)]) (st' := []) ?_
        refine tk_Ps  1 (pc' := 49) (ls' := [(2, .ref (266 + 2 * (tk_n a1))), (0, .ref 0), (1, .int a1)]) (st' := [.ref 0]) rfl ?_
        refine tk_HR  rfl rfl ly0 rt0_5 ?_
        refine tk_Ps  1 (pc' := 53) (ls' := [(2, .ref (266 + 2 * (tk_n a1))), (0, .ref 0), (1, .int a1)]) (st' := [.ref (266 + 2 * (tk_n a1)), .ref 13]) rfl ?_
        refine tk_HR  rfl rfl ((la12 _ (hg2).2).2) (ro7_2 ((la12 _ (hg2).2).2)) ?_
        obtain ⟨o6, ho6, h⟩ := tk_bnd h
        refine tk_cV1  rfl rfl (r := 13) (as := [.ref ((266 + 2 * (tk_n a1)) + 1)]) (rest := []) rfl ly13 rfl rfl (ok_fJ_kindOfForm sc ((266 + 2 * (tk_n a1)) + 1) m (tk_al_of (lo7_2 ((la12 _ (hg2).2).2))) ho6) ?_
        replace h := Option.some.inj h
        subst h
        exact tk_RI  rfl rfl rfl
      · replace h := tk_ifF hc5 h
        refine tk_bF  rfl rfl rfl (c := (4 : Int32) ≤ (m.1 (266 + 2 * (tk_n a1)) 1)) hc5 (pc' := 41) (ls' := [(2, .ref (266 + 2 * (tk_n a1))), (0, .ref 0), (1, .int a1)]) (st' := []) ?_
        refine tk_Ps  2 (pc' := 44) (ls' := [(2, .ref (266 + 2 * (tk_n a1))), (0, .ref 0), (1, .int a1)]) (st' := [.int (6 : Int32), .ref 0]) rfl ?_
        obtain ⟨o7, ho7, h⟩ := tk_bnd h
        refine tk_cV1  rfl rfl (r := 0) (as := [.int (6 : Int32)]) (rest := []) rfl ly0 rfl rfl (ok_fX_finding sc (6 : Int32) m ho7) ?_
        replace h := Option.some.inj h
        subst h
        exact tk_RI  rfl rfl rfl
  · replace h := tk_ifF hc1 h
    refine tk_bF  rfl rfl tk_eB_ne (c := (fX_isSheet a1) = true) hc1 (pc' := 7) (ls' := [(0, .ref 0), (1, .int a1)]) (st' := []) ?_
    refine tk_Ps  2 (pc' := 9) (ls' := [(0, .ref 0), (1, .int a1)]) (st' := [.int (0 : Int32), .ref 0]) rfl ?_
    obtain ⟨o8, ho8, h⟩ := tk_bnd h
    refine tk_cV1  rfl rfl (r := 0) (as := [.int (0 : Int32)]) (rest := []) rfl ly0 rfl rfl (ok_fX_finding sc (0 : Int32) m ho8) ?_
    replace h := Option.some.inj h
    subst h
    exact tk_RI  rfl rfl rfl
theorem ok_fX_isSpot (sc : tk_X) (a1 : Int32) (m : tk_m) : tk_Ru sc 2 143 [.int a1] (tk_full m) (some (.int (tk_b (fX_isSpot a1))), tk_full m) := by
  obtain ⟨out, h⟩ : ∃ out, fX_isSpot a1 = out := ⟨_, rfl⟩
  rw [h]
  unfold fX_isSpot at h
  refine tk_Ru0 me143 (ls := [(0, .int a1)]) rfl rfl ?_
  refine tk_Ps  3 (pc' := 3) (ls' := [(0, .int a1)]) (st' := [.int (5 : Int32), .int (0 : Int32), .int a1]) rfl ?_
  refine tk_cS1  rfl rfl (as := [.int a1, .int (0 : Int32), .int (5 : Int32)]) (rest := []) rfl rfl rfl (ok_fX_isWithin sc a1 (0 : Int32) (5 : Int32) m) ?_
  subst h
  exact tk_RB (b := fX_isWithin a1 (0 : Int32) (5 : Int32))  rfl rfl rfl
theorem ok_fN_become (sc : tk_X) (t : Nat) (a1 : Nat) (m : tk_m) (ht : tk_lay[t]? = some (.inl 4)) (ha1 : tk_lay[a1]? = some (.inl 4)) {out : tk_m} (h : fN_become t a1 m = out) : tk_Ru sc 1 144 [.ref t, .ref a1] (tk_full m) (none, tk_full out) := by
  unfold fN_become at h
  refine tk_Ru0 me144 (ls := [(0, .ref t), (1, .ref a1)]) rfl rfl ?_
  refine tk_Ps  2 (pc' := 2) (ls' := [(0, .ref t), (1, .ref a1)]) (st' := [.ref a1, .ref t]) rfl ?_
  refine tk_HB  rfl rfl ha1 ?_
  refine tk_SB (b := m.2.2.1 a1 0)  rfl rfl ht ?_
  refine tk_Ps  1 (pc' := 9) (ls' := [(0, .ref t), (1, .ref a1)]) (st' := [.ref t]) rfl ?_
  refine tk_HR  rfl rfl ht (ro4_1 ht) ?_
  refine tk_Ps  2 (pc' := 14) (ls' := [(0, .ref t), (1, .ref a1)]) (st' := [.ref a1, .int (0 : Int32), .ref (t + 1)]) rfl ?_
  refine tk_HR  rfl rfl ha1 (ro4_1 ha1) ?_
  refine tk_Ps  1 (pc' := 18) (ls' := [(0, .ref t), (1, .ref a1)]) (st' := [.int (0 : Int32), .ref (a1 + 1), .int (0 : Int32), .ref (t + 1)]) rfl ?_
  refine tk_HJa  rfl rfl (lo4_1 ha1) (by decide) ?_
  refine tk_SJa  rfl rfl (lo4_1 ht) (by decide) ?_
  refine tk_Ps  1 (pc' := 21) (ls' := [(0, .ref t), (1, .ref a1)]) (st' := [.ref t]) rfl ?_
  refine tk_HR  rfl rfl ht (ro4_1 ht) ?_
  refine tk_Ps  2 (pc' := 26) (ls' := [(0, .ref t), (1, .ref a1)]) (st' := [.ref a1, .int (1 : Int32), .ref (t + 1)]) rfl ?_
  refine tk_HR  rfl rfl ha1 (ro4_1 ha1) ?_
  refine tk_Ps  1 (pc' := 30) (ls' := [(0, .ref t), (1, .ref a1)]) (st' := [.int (1 : Int32), .ref (a1 + 1), .int (1 : Int32), .ref (t + 1)]) rfl ?_
  refine tk_HJa  rfl rfl (lo4_1 ha1) (by decide) ?_
  refine tk_SJa  rfl rfl (lo4_1 ht) (by decide) ?_
  refine tk_Ps  1 (pc' := 33) (ls' := [(0, .ref t), (1, .ref a1)]) (st' := [.ref t]) rfl ?_
  refine tk_HR  rfl rfl ht (ro4_1 ht) ?_
  refine tk_Ps  2 (pc' := 38) (ls' := [(0, .ref t), (1, .ref a1)]) (st' := [.ref a1, .int (2 : Int32), .ref (t + 1)]) rfl ?_
  refine tk_HR  rfl rfl ha1 (ro4_1 ha1) ?_
  refine tk_Ps  1 (pc' := 42) (ls' := [(0, .ref t), (1, .ref a1)]) (st' := [.int (2 : Int32), .ref (a1 + 1), .int (2 : Int32), .ref (t + 1)]) rfl ?_
  refine tk_HJa  rfl rfl (lo4_1 ha1) (by decide) ?_
  refine tk_SJa  rfl rfl (lo4_1 ht) (by decide) ?_
  refine tk_Ps  2 (pc' := 46) (ls' := [(0, .ref t), (1, .ref a1)]) (st' := [.ref a1, .ref t]) rfl ?_
  refine tk_HJ  rfl rfl ha1 ?_
  refine tk_SJ  rfl rfl ht ?_
  subst h
  exact tk_RV  rfl rfl rfl
theorem ok_fX_put (sc : tk_X) (a1 : Int32) (a2 : Int32) (a3 : Int32) (m : tk_m) {out : Int32 × tk_m} (h : fX_put a1 a2 a3 m = some out) : tk_Ru sc 7 142 [.ref 0, .int a1, .int a2, .int a3] (tk_full m) (some (.int out.1), tk_full out.2) := by
  unfold fX_put at h
  refine tk_Ru0 me142 (ls := [(0, .ref 0), (1, .int a1), (2, .int a2), (3, .int a3)]) rfl rfl ?_
  refine tk_Ps  1 (pc' := 1) (ls' := [(0, .ref 0), (1, .int a1), (2, .int a2), (3, .int a3)]) (st' := [.int a1]) rfl ?_
  refine tk_cS1  rfl rfl (as := [.int a1]) (rest := []) rfl rfl rfl (ok_fX_isSpot sc a1 m) ?_
  by_cases hc1 : (fX_isSpot a1) = true
  · replace h := tk_ifT hc1 h
    refine tk_bT  rfl rfl tk_eB_eq (c := (fX_isSpot a1) = true) hc1 (pc' := 7) (ls' := [(0, .ref 0), (1, .int a1), (2, .int a2), (3, .int a3)]) (st' := []) ?_
    refine tk_Ps  3 (pc' := 10) (ls' := [(0, .ref 0), (1, .int a1), (2, .int a2), (3, .int a3)]) (st' := [.int (2 : Int32), .int (0 : Int32), .int a3]) rfl ?_
    refine tk_cS1  rfl rfl (as := [.int a3, .int (0 : Int32), .int (2 : Int32)]) (rest := []) rfl rfl rfl (ok_fX_isWithin sc a3 (0 : Int32) (2 : Int32) m) ?_
    by_cases hc2 : (fX_isWithin a3 (0 : Int32) (2 : Int32)) = true
    · replace h := tk_ifT hc2 h
      refine tk_bT  rfl rfl tk_eB_ne (c := (fX_isWithin a3 (0 : Int32) (2 : Int32)) = true) hc2 (pc' := 22) (ls' := [(0, .ref 0), (1, .int a1), (2, .int a2), (3, .int a3)]) (st' := []) ?_
      refine tk_Ps  2 (pc' := 24) (ls' := [(0, .ref 0), (1, .int a1), (2, .int a2), (3, .int a3)]) (st' := [.int a2, .ref 0]) rfl ?_
      obtain ⟨o3, ho3, h⟩ := tk_bnd h
      refine tk_cV1  rfl rfl (r := 0) (as := [.int a2]) (rest := []) rfl ly0 rfl rfl (ok_fX_missesAnswer sc a2 m ho3) ?_
      refine tk_Ps  2 (pc' := 31) (ls' := [(4, .int o3.1), (0, .ref 0), (1, .int a1), (2, .int a2), (3, .int a3)]) (st' := [.int o3.1]) rfl ?_
      by_cases hc4 : o3.1 < 0
      · replace h := tk_ifT hc4 h
        refine tk_bT  rfl rfl rfl (c := o3.1 < 0) hc4 (pc' := 41) (ls' := [(4, .int o3.1), (0, .ref 0), (1, .int a1), (2, .int a2), (3, .int a3)]) (st' := []) ?_
        refine tk_Ps  1 (pc' := 42) (ls' := [(4, .int o3.1), (0, .ref 0), (1, .int a1), (2, .int a2), (3, .int a3)]) (st' := [.ref 0]) rfl ?_
        refine tk_HR  rfl rfl ly0 rt0_3 ?_
        refine tk_Ps  1 (pc' := 46) (ls' := [(4, .int o3.1), (0, .ref 0), (1, .int a1), (2, .int a2), (3, .int a3)]) (st' := [.int a1, .ref 11]) rfl ?_
        obtain ⟨hg5, h⟩ := tk_grd h
        refine tk_HQ  rfl rfl ly11 hg5 (la11 _ (hg5).2).1 ?_
        refine tk_Ps  1 (pc' := 48) (ls' := [(4, .int o3.1), (0, .ref 0), (1, .int a1), (2, .int a2), (3, .int a3)]) (st' := [.ref 0, .ref (254 + 2 * (tk_n a1))]) rfl ?_
        refine tk_HR  rfl rfl ly0 rt0_7 ?_
        refine tk_HR  rfl rfl ly39 rt39_1 ?_
        refine tk_Ps  1 (pc' := 55) (ls' := [(4, .int o3.1), (0, .ref 0), (1, .int a1), (2, .int a2), (3, .int a3)]) (st' := [.int a2, .ref 40, .ref (254 + 2 * (tk_n a1))]) rfl ?_
        obtain ⟨hg6, h⟩ := tk_grd h
        refine tk_HQ  rfl rfl ly40 hg6 (la40 _ (hg6).2).1 ?_
        refine tk_Ps  1 (pc' := 57) (ls' := [(4, .int o3.1), (0, .ref 0), (1, .int a1), (2, .int a2), (3, .int a3)]) (st' := [.int a3, .ref (50 + 8 * (tk_n a2)), .ref (254 + 2 * (tk_n a1))]) rfl ?_
        refine tk_cV1  rfl rfl (r := (50 + 8 * (tk_n a2))) (as := [.int a3]) (rest := [.ref (254 + 2 * (tk_n a1))]) rfl ((la40 _ (hg6).2).2) rfl rfl (ok_fC_part sc (50 + 8 * (tk_n a2)) a3 o3.2 ((la40 _ (hg6).2).2)) ?_
        obtain ⟨o7, ho7, h⟩ := tk_lete h
        refine tk_cV0  rfl rfl (r := (254 + 2 * (tk_n a1))) (as := [.ref (fC_part (50 + 8 * (tk_n a2)) a3)]) (rest := []) rfl ((la11 _ (hg5).2).2) rfl rfl (ok_fN_become sc (254 + 2 * (tk_n a1)) (fC_part (50 + 8 * (tk_n a2)) a3) o3.2 ((la11 _ (hg5).2).2) (lay_fC_part sc (50 + 8 * (tk_n a2)) a3 o3.2 ((la40 _ (hg6).2).2)) ho7) ?_
        refine tk_Ps  1 (pc' := 64) (ls' := [(4, .int o3.1), (0, .ref 0), (1, .int a1), (2, .int a2), (3, .int a3)]) (st' := [.int (1 : Int32)]) rfl ?_
        replace h := Option.some.inj h
        subst h
        exact tk_RI  rfl rfl rfl
      · replace h := tk_ifF hc4 h
        refine tk_bF  rfl rfl rfl (c := o3.1 < 0) hc4 (pc' := 34) (ls' := [(4, .int o3.1), (0, .ref 0), (1, .int a1), (2, .int a2), (3, .int a3)]) (st' := []) ?_
        refine tk_Ps  2 (pc' := 37) (ls' := [(4, .int o3.1), (0, .ref 0), (1, .int a1), (2, .int a2), (3, .int a3)]) (st' := [.int o3.1, .ref 0]) rfl ?_
        obtain ⟨o8, ho8, h⟩ := tk_bnd h
        refine tk_cV1  rfl rfl (r := 0) (as := [.int o3.1]) (rest := []) rfl ly0 rfl rfl (ok_fX_finding sc o3.1 o3.2 ho8) ?_
        replace h := Option.some.inj h
        subst h
        exact tk_RI  rfl rfl rfl
    · replace h := tk_ifF hc2 h
      refine tk_bF  rfl rfl tk_eB_ne (c := (fX_isWithin a3 (0 : Int32) (2 : Int32)) = true) hc2 (pc' := 16) (ls' := [(0, .ref 0), (1, .int a1), (2, .int a2), (3, .int a3)]) (st' := []) ?_
      refine tk_Ps  2 (pc' := 18) (ls' := [(0, .ref 0), (1, .int a1), (2, .int a2), (3, .int a3)]) (st' := [.int (0 : Int32), .ref 0]) rfl ?_
      obtain ⟨o9, ho9, h⟩ := tk_bnd h
      refine tk_cV1  rfl rfl (r := 0) (as := [.int (0 : Int32)]) (rest := []) rfl ly0 rfl rfl (ok_fX_finding sc (0 : Int32) m ho9) ?_
      replace h := Option.some.inj h
      subst h
      exact tk_RI  rfl rfl rfl
  · replace h := tk_ifF hc1 h
    refine tk_bF  rfl rfl tk_eB_eq (c := (fX_isSpot a1) = true) hc1 (pc' := 16) (ls' := [(0, .ref 0), (1, .int a1), (2, .int a2), (3, .int a3)]) (st' := []) ?_
    refine tk_Ps  2 (pc' := 18) (ls' := [(0, .ref 0), (1, .int a1), (2, .int a2), (3, .int a3)]) (st' := [.int (0 : Int32), .ref 0]) rfl ?_
    obtain ⟨o10, ho10, h⟩ := tk_bnd h
    refine tk_cV1  rfl rfl (r := 0) (as := [.int (0 : Int32)]) (rest := []) rfl ly0 rfl rfl (ok_fX_finding sc (0 : Int32) m ho10) ?_
    replace h := Option.some.inj h
    subst h
    exact tk_RI  rfl rfl rfl
theorem ok_fX_ratio_31 (sc : tk_X) (v1 : Int32) (v2 : Int32) (v3 : Int32) (s0 : Int32) (m : tk_m) (out : Int32 × tk_m) (h : fX_ratio_31 v1 v2 v3 s0 m = some out) : tk_Ex sc 3 tk_r145 tk_k145 31 [(0, .ref 0), (1, .int v1), (2, .int v2), (3, .int v3)] [.int s0] (tk_full m) (some (.int out.1), tk_full out.2) := by
  unfold fX_ratio_31 at h
  refine tk_Ps  2 (pc' := 34) (ls' := [(4, .int s0), (0, .ref 0), (1, .int v1), (2, .int v2), (3, .int v3)]) (st' := [.int v1]) rfl ?_
  refine tk_cS1  rfl rfl (as := [.int v1]) (rest := []) rfl rfl rfl (ok_fX_isSpot sc v1 m) ?_
  by_cases hc1 : (fX_isSpot v1) = true
  · replace h := tk_ifT hc1 h
    refine tk_bT  rfl rfl tk_eB_eq (c := (fX_isSpot v1) = true) hc1 (pc' := 40) (ls' := [(4, .int s0), (0, .ref 0), (1, .int v1), (2, .int v2), (3, .int v3)]) (st' := []) ?_
    refine tk_Ps  1 (pc' := 42) (ls' := [(4, .int s0), (0, .ref 0), (1, .int v1), (2, .int v2), (3, .int v3)]) (st' := [.int s0]) rfl ?_
    by_cases hc2 : s0 = 0
    · replace h := tk_ifT hc2 h
      refine tk_bT  rfl rfl rfl (c := s0 = 0) hc2 (pc' := 49) (ls' := [(4, .int s0), (0, .ref 0), (1, .int v1), (2, .int v2), (3, .int v3)]) (st' := []) ?_
      refine tk_Ps  2 (pc' := 51) (ls' := [(4, .int s0), (0, .ref 0), (1, .int v1), (2, .int v2), (3, .int v3)]) (st' := [.int (0 : Int32), .ref 0]) rfl ?_
      obtain ⟨o3, ho3, h⟩ := tk_bnd h
      refine tk_cV1  rfl rfl (r := 0) (as := [.int (0 : Int32)]) (rest := []) rfl ly0 rfl rfl (ok_fX_finding sc (0 : Int32) m ho3) ?_
      replace h := Option.some.inj h
      subst h
      exact tk_RI  rfl rfl rfl
    · replace h := tk_ifF hc2 h
      refine tk_bF  rfl rfl rfl (c := s0 = 0) hc2 (pc' := 45) (ls' := [(4, .int s0), (0, .ref 0), (1, .int v1), (2, .int v2), (3, .int v3)]) (st' := []) ?_
      refine tk_Ps  1 (pc' := 46) (ls' := [(4, .int s0), (0, .ref 0), (1, .int v1), (2, .int v2), (3, .int v3)]) (st' := [.int v3]) rfl ?_
      by_cases hc4 : v3 = 0
      · replace h := tk_ifT hc4 h
        refine tk_bT  rfl rfl rfl (c := v3 = 0) hc4 (pc' := 49) (ls' := [(4, .int s0), (0, .ref 0), (1, .int v1), (2, .int v2), (3, .int v3)]) (st' := []) ?_
        refine tk_Ps  2 (pc' := 51) (ls' := [(4, .int s0), (0, .ref 0), (1, .int v1), (2, .int v2), (3, .int v3)]) (st' := [.int (0 : Int32), .ref 0]) rfl ?_
        obtain ⟨o5, ho5, h⟩ := tk_bnd h
        refine tk_cV1  rfl rfl (r := 0) (as := [.int (0 : Int32)]) (rest := []) rfl ly0 rfl rfl (ok_fX_finding sc (0 : Int32) m ho5) ?_
        replace h := Option.some.inj h
        subst h
        exact tk_RI  rfl rfl rfl
      · replace h := tk_ifF hc4 h
        refine tk_bF  rfl rfl rfl (c := v3 = 0) hc4 (pc' := 55) (ls' := [(4, .int s0), (0, .ref 0), (1, .int v1), (2, .int v2), (3, .int v3)]) (st' := []) ?_
        refine tk_Ps  1 (pc' := 56) (ls' := [(4, .int s0), (0, .ref 0), (1, .int v1), (2, .int v2), (3, .int v3)]) (st' := [.ref 0]) rfl ?_
        refine tk_HR  rfl rfl ly0 rt0_3 ?_
        refine tk_Ps  1 (pc' := 60) (ls' := [(4, .int s0), (0, .ref 0), (1, .int v1), (2, .int v2), (3, .int v3)]) (st' := [.int v1, .ref 11]) rfl ?_
        obtain ⟨hg6, h⟩ := tk_grd h
        refine tk_HQ  rfl rfl ly11 hg6 (la11 _ (hg6).2).1 ?_
        refine tk_Ps  6 (pc' := 67) (ls' := [(4, .int s0), (0, .ref 0), (1, .int v1), (2, .int v2), (3, .int v3)]) (st' := [.long (Int32.toInt64 v3), .long (0 : Int64), .long (0 : Int64), .long (Int32.toInt64 v2), .ref (254 + 2 * (tk_n v1))]) rfl ?_
        obtain ⟨o7, ho7, h⟩ := tk_bnd h
        refine tk_cV1  rfl rfl (r := (254 + 2 * (tk_n v1))) (as := [.long (Int32.toInt64 v2), .long (0 : Int64), .long (0 : Int64), .long (Int32.toInt64 v3)]) (rest := []) rfl ((la11 _ (hg6).2).2) rfl rfl (ok_fN_hold sc (254 + 2 * (tk_n v1)) (Int32.toInt64 v2) (0 : Int64) (0 : Int64) (Int32.toInt64 v3) m ((la11 _ (hg6).2).2) ho7) ?_
        refine tk_Ps  2 (pc' := 72) (ls' := [(4, .int s0), (0, .ref 0), (1, .int v1), (2, .int v2), (3, .int v3)]) (st' := [.int (1 : Int32)]) rfl ?_
        replace h := Option.some.inj h
        subst h
        exact tk_RI  rfl rfl rfl
  · replace h := tk_ifF hc1 h
    refine tk_bF  rfl rfl tk_eB_eq (c := (fX_isSpot v1) = true) hc1 (pc' := 49) (ls' := [(4, .int s0), (0, .ref 0), (1, .int v1), (2, .int v2), (3, .int v3)]) (st' := []) ?_
    refine tk_Ps  2 (pc' := 51) (ls' := [(4, .int s0), (0, .ref 0), (1, .int v1), (2, .int v2), (3, .int v3)]) (st' := [.int (0 : Int32), .ref 0]) rfl ?_
    obtain ⟨o8, ho8, h⟩ := tk_bnd h
    refine tk_cV1  rfl rfl (r := 0) (as := [.int (0 : Int32)]) (rest := []) rfl ly0 rfl rfl (ok_fX_finding sc (0 : Int32) m ho8) ?_
    replace h := Option.some.inj h
    subst h
    exact tk_RI  rfl rfl rfl
theorem ok_fX_ratio (sc : tk_X) (a1 : Int32) (a2 : Int32) (a3 : Int32) (m : tk_m) {out : Int32 × tk_m} (h : fX_ratio a1 a2 a3 m = some out) : tk_Ru sc 4 145 [.ref 0, .int a1, .int a2, .int a3] (tk_full m) (some (.int out.1), tk_full out.2) := by
  unfold fX_ratio at h
  refine tk_Ru0 me145 (ls := [(0, .ref 0), (1, .int a1), (2, .int a2), (3, .int a3)]) rfl rfl ?_
  refine tk_Ps  3 (pc' := 7) (ls' := [(0, .ref 0), (1, .int a1), (2, .int a2), (3, .int a3)]) (st' := [.int (1000000 : Int32), .int (-1000000 : Int32), .int a2]) rfl ?_
  refine tk_cS1  rfl rfl (as := [.int a2, .int (-1000000 : Int32), .int (1000000 : Int32)]) (rest := []) rfl rfl rfl (ok_fX_isWithin sc a2 (-1000000 : Int32) (1000000 : Int32) m) ?_
  by_cases hc1 : (fX_isWithin a2 (-1000000 : Int32) (1000000 : Int32)) = true
  · replace h := tk_ifT hc1 h
    refine tk_bT  rfl rfl tk_eB_eq (c := (fX_isWithin a2 (-1000000 : Int32) (1000000 : Int32)) = true) hc1 (pc' := 13) (ls' := [(0, .ref 0), (1, .int a1), (2, .int a2), (3, .int a3)]) (st' := []) ?_
    refine tk_Ps  3 (pc' := 20) (ls' := [(0, .ref 0), (1, .int a1), (2, .int a2), (3, .int a3)]) (st' := [.int (1000000 : Int32), .int (-1000000 : Int32), .int a3]) rfl ?_
    refine tk_cS1  rfl rfl (as := [.int a3, .int (-1000000 : Int32), .int (1000000 : Int32)]) (rest := []) rfl rfl rfl (ok_fX_isWithin sc a3 (-1000000 : Int32) (1000000 : Int32) m) ?_
    by_cases hc2 : (fX_isWithin a3 (-1000000 : Int32) (1000000 : Int32)) = true
    · replace h := tk_ifT hc2 h
      refine tk_bT  rfl rfl tk_eB_eq (c := (fX_isWithin a3 (-1000000 : Int32) (1000000 : Int32)) = true) hc2 (pc' := 26) (ls' := [(0, .ref 0), (1, .int a1), (2, .int a2), (3, .int a3)]) (st' := []) ?_
      refine tk_Ps  2 (pc' := 31) (ls' := [(0, .ref 0), (1, .int a1), (2, .int a2), (3, .int a3)]) (st' := [.int (1 : Int32)]) rfl ?_
      refine tk_Kp  (ls' := [(0, .ref 0), (1, .int a1), (2, .int a2), (3, .int a3)]) rfl rfl ?_
      exact ok_fX_ratio_31 sc a1 a2 a3 (1 : Int32) m _ h
    · replace h := tk_ifF hc2 h
      refine tk_bF  rfl rfl tk_eB_eq (c := (fX_isWithin a3 (-1000000 : Int32) (1000000 : Int32)) = true) hc2 (pc' := 30) (ls' := [(0, .ref 0), (1, .int a1), (2, .int a2), (3, .int a3)]) (st' := []) ?_
      refine tk_Ps  1 (pc' := 31) (ls' := [(0, .ref 0), (1, .int a1), (2, .int a2), (3, .int a3)]) (st' := [.int (0 : Int32)]) rfl ?_
      refine tk_Kp  (ls' := [(0, .ref 0), (1, .int a1), (2, .int a2), (3, .int a3)]) rfl rfl ?_
      exact ok_fX_ratio_31 sc a1 a2 a3 (0 : Int32) m _ h
  · replace h := tk_ifF hc1 h
    refine tk_bF  rfl rfl tk_eB_eq (c := (fX_isWithin a2 (-1000000 : Int32) (1000000 : Int32)) = true) hc1 (pc' := 30) (ls' := [(0, .ref 0), (1, .int a1), (2, .int a2), (3, .int a3)]) (st' := []) ?_
    refine tk_Ps  1 (pc' := 31) (ls' := [(0, .ref 0), (1, .int a1), (2, .int a2), (3, .int a3)]) (st' := [.int (0 : Int32)]) rfl ?_
    refine tk_Kp  (ls' := [(0, .ref 0), (1, .int a1), (2, .int a2), (3, .int a3)]) rfl rfl ?_
    exact ok_fX_ratio_31 sc a1 a2 a3 (0 : Int32) m _ h
theorem ok_fX_root (sc : tk_X) (a1 : Int32) (a2 : Int32) (m : tk_m) {out : Int32 × tk_m} (h : fX_root a1 a2 m = some out) : tk_Ru sc 5 146 [.ref 0, .int a1, .int a2] (tk_full m) (some (.int out.1), tk_full out.2) := by
  unfold fX_root at h
  refine tk_Ru0 me146 (ls := [(0, .ref 0), (1, .int a1), (2, .int a2)]) rfl rfl ?_
  refine tk_Ps  1 (pc' := 1) (ls' := [(0, .ref 0), (1, .int a1), (2, .int a2)]) (st' := [.int a1]) rfl ?_
  refine tk_cS1  rfl rfl (as := [.int a1]) (rest := []) rfl rfl rfl (ok_fX_isSpot sc a1 m) ?_
  by_cases hc1 : (fX_isSpot a1) = true
  · replace h := tk_ifT hc1 h
    refine tk_bT  rfl rfl tk_eB_eq (c := (fX_isSpot a1) = true) hc1 (pc' := 7) (ls' := [(0, .ref 0), (1, .int a1), (2, .int a2)]) (st' := []) ?_
    refine tk_Ps  3 (pc' := 12) (ls' := [(0, .ref 0), (1, .int a1), (2, .int a2)]) (st' := [.int (1000000 : Int32), .int (0 : Int32), .int a2]) rfl ?_
    refine tk_cS1  rfl rfl (as := [.int a2, .int (0 : Int32), .int (1000000 : Int32)]) (rest := []) rfl rfl rfl (ok_fX_isWithin sc a2 (0 : Int32) (1000000 : Int32) m) ?_
    by_cases hc2 : (fX_isWithin a2 (0 : Int32) (1000000 : Int32)) = true
    · replace h := tk_ifT hc2 h
      refine tk_bT  rfl rfl tk_eB_ne (c := (fX_isWithin a2 (0 : Int32) (1000000 : Int32)) = true) hc2 (pc' := 24) (ls' := [(0, .ref 0), (1, .int a1), (2, .int a2)]) (st' := []) ?_
      refine tk_Ps  1 (pc' := 25) (ls' := [(0, .ref 0), (1, .int a1), (2, .int a2)]) (st' := [.ref 0]) rfl ?_
      refine tk_HR  rfl rfl ly0 rt0_3 ?_
      refine tk_Ps  1 (pc' := 29) (ls' := [(0, .ref 0), (1, .int a1), (2, .int a2)]) (st' := [.int a1, .ref 11]) rfl ?_
      obtain ⟨hg3, h⟩ := tk_grd h
      refine tk_HQ  rfl rfl ly11 hg3 (la11 _ (hg3).2).1 ?_
      refine tk_Ps  2 (pc' := 32) (ls' := [(0, .ref 0), (1, .int a1), (2, .int a2)]) (st' := [.long (Int32.toInt64 a2), .ref (254 + 2 * (tk_n a1))]) rfl ?_
      obtain ⟨o4, ho4, h⟩ := tk_bnd h
      refine tk_cV0  rfl rfl (r := (254 + 2 * (tk_n a1))) (as := [.long (Int32.toInt64 a2)]) (rest := []) rfl ((la11 _ (hg3).2).2) rfl rfl (ok_fN_holdRoot sc (254 + 2 * (tk_n a1)) (Int32.toInt64 a2) m ((la11 _ (hg3).2).2) ho4) ?_
      refine tk_Ps  1 (pc' := 36) (ls' := [(0, .ref 0), (1, .int a1), (2, .int a2)]) (st' := [.int (1 : Int32)]) rfl ?_
      replace h := Option.some.inj h
      subst h
      exact tk_RI  rfl rfl rfl
    · replace h := tk_ifF hc2 h
      refine tk_bF  rfl rfl tk_eB_ne (c := (fX_isWithin a2 (0 : Int32) (1000000 : Int32)) = true) hc2 (pc' := 18) (ls' := [(0, .ref 0), (1, .int a1), (2, .int a2)]) (st' := []) ?_
      refine tk_Ps  2 (pc' := 20) (ls' := [(0, .ref 0), (1, .int a1), (2, .int a2)]) (st' := [.int (0 : Int32), .ref 0]) rfl ?_
      obtain ⟨o5, ho5, h⟩ := tk_bnd h
      refine tk_cV1  rfl rfl (r := 0) (as := [.int (0 : Int32)]) (rest := []) rfl ly0 rfl rfl (ok_fX_finding sc (0 : Int32) m ho5) ?_
      replace h := Option.some.inj h
      subst h
      exact tk_RI  rfl rfl rfl
  · replace h := tk_ifF hc1 h
    refine tk_bF  rfl rfl tk_eB_eq (c := (fX_isSpot a1) = true) hc1 (pc' := 18) (ls' := [(0, .ref 0), (1, .int a1), (2, .int a2)]) (st' := []) ?_
    refine tk_Ps  2 (pc' := 20) (ls' := [(0, .ref 0), (1, .int a1), (2, .int a2)]) (st' := [.int (0 : Int32), .ref 0]) rfl ?_
    obtain ⟨o6, ho6, h⟩ := tk_bnd h
    refine tk_cV1  rfl rfl (r := 0) (as := [.int (0 : Int32)]) (rest := []) rfl ly0 rfl rfl (ok_fX_finding sc (0 : Int32) m ho6) ?_
    replace h := Option.some.inj h
    subst h
    exact tk_RI  rfl rfl rfl
theorem ok_fN_isOf (sc : tk_X) (t : Nat) (a1 : Int32) (m : tk_m) (ht : tk_lay[t]? = some (.inl 4)) : tk_Ru sc 2 148 [.ref t, .int a1] (tk_full m) (some (.int (tk_b (fN_isOf t a1 m))), tk_full m) := by
  obtain ⟨out, h⟩ : ∃ out, fN_isOf t a1 m = out := ⟨_, rfl⟩
  rw [h]
  unfold fN_isOf at h
  refine tk_Ru0 me148 (ls := [(0, .ref t), (1, .int a1)]) rfl rfl ?_
  refine tk_Ps  1 (pc' := 1) (ls' := [(0, .ref t), (1, .int a1)]) (st' := [.int a1]) rfl ?_
  by_cases hs1 : a1 = 0
  · replace h := tk_ifT hs1 h
    refine tk_sw  rfl rfl hs1 rfl (pc' := 28) (ls' := [(0, .ref t), (1, .int a1)]) (st' := []) ?_
    refine tk_Ps  1 (pc' := 29) (ls' := [(0, .ref t), (1, .int a1)]) (st' := [.int (1 : Int32)]) rfl ?_
    subst h
    exact tk_RB (b := true)  rfl rfl rfl
  replace h := tk_ifF hs1 h
  by_cases hs2 : a1 = 1
  · replace h := tk_ifT hs2 h
    refine tk_sw  rfl rfl hs2 rfl (pc' := 30) (ls' := [(0, .ref t), (1, .int a1)]) (st' := []) ?_
    refine tk_Ps  1 (pc' := 31) (ls' := [(0, .ref t), (1, .int a1)]) (st' := [.ref t]) rfl ?_
    refine tk_cV1  rfl rfl (r := t) (as := []) (rest := []) rfl ht rfl rfl (ok_fN_q sc t m ht) ?_
    refine tk_Ps  2 (pc' := 36) (ls' := [(0, .ref t), (1, .int a1)]) (st' := [.int (lg_cmp (fN_q t m) (0 : Int64))]) rfl ?_
    by_cases hc3 : (fN_q t m) = (0 : Int64)
    · replace h := tk_ifT hc3 h
      refine tk_bT  rfl rfl tk_eL_eq (c := (fN_q t m) = (0 : Int64)) hc3 (pc' := 43) (ls' := [(0, .ref t), (1, .int a1)]) (st' := []) ?_
      refine tk_Ps  1 (pc' := 44) (ls' := [(0, .ref t), (1, .int a1)]) (st' := [.int (0 : Int32)]) rfl ?_
      subst h
      exact tk_RB (b := false)  rfl rfl rfl
    · replace h := tk_ifF hc3 h
      refine tk_bF  rfl rfl tk_eL_eq (c := (fN_q t m) = (0 : Int64)) hc3 (pc' := 39) (ls' := [(0, .ref t), (1, .int a1)]) (st' := []) ?_
      refine tk_Ps  2 (pc' := 44) (ls' := [(0, .ref t), (1, .int a1)]) (st' := [.int (1 : Int32)]) rfl ?_
      subst h
      exact tk_RB (b := true)  rfl rfl rfl
  replace h := tk_ifF hs2 h
  by_cases hs4 : a1 = 2
  · replace h := tk_ifT hs4 h
    refine tk_sw  rfl rfl hs4 rfl (pc' := 45) (ls' := [(0, .ref t), (1, .int a1)]) (st' := []) ?_
    refine tk_Ps  1 (pc' := 46) (ls' := [(0, .ref t), (1, .int a1)]) (st' := [.ref t]) rfl ?_
    refine tk_cV1  rfl rfl (r := t) (as := []) (rest := []) rfl ht rfl rfl (ok_fN_q sc t m ht) ?_
    refine tk_Ps  2 (pc' := 51) (ls' := [(0, .ref t), (1, .int a1)]) (st' := [.int (lg_cmp (fN_q t m) (0 : Int64))]) rfl ?_
    by_cases hc5 : (fN_q t m) = (0 : Int64)
    · replace h := tk_ifT hc5 h
      refine tk_bT  rfl rfl tk_eL_ne (c := (fN_q t m) = (0 : Int64)) hc5 (pc' := 54) (ls' := [(0, .ref t), (1, .int a1)]) (st' := []) ?_
      refine tk_Ps  2 (pc' := 59) (ls' := [(0, .ref t), (1, .int a1)]) (st' := [.int (1 : Int32)]) rfl ?_
      subst h
      exact tk_RB (b := true)  rfl rfl rfl
    · replace h := tk_ifF hc5 h
      refine tk_bF  rfl rfl tk_eL_ne (c := (fN_q t m) = (0 : Int64)) hc5 (pc' := 58) (ls' := [(0, .ref t), (1, .int a1)]) (st' := []) ?_
      refine tk_Ps  1 (pc' := 59) (ls' := [(0, .ref t), (1, .int a1)]) (st' := [.int (0 : Int32)]) rfl ?_
      subst h
      exact tk_RB (b := false)  rfl rfl rfl
  replace h := tk_ifF hs4 h
  refine tk_swD  rfl rfl (tk_swo_0_2 hs1 hs2 hs4) rfl rfl (pc' := 60) (ls' := [(0, .ref t), (1, .int a1)]) (st' := []) ?_
  refine tk_Ps  1 (pc' := 61) (ls' := [(0, .ref t), (1, .int a1)]) (st' := [.ref t]) rfl ?_
  refine tk_cV1  rfl rfl (r := t) (as := []) (rest := []) rfl ht rfl rfl (ok_fN_q sc t m ht) ?_
  refine tk_Ps  2 (pc' := 66) (ls' := [(0, .ref t), (1, .int a1)]) (st' := [.int (lg_cmp (fN_q t m) (0 : Int64))]) rfl ?_
  by_cases hc6 : (fN_q t m) = (0 : Int64)
  · replace h := tk_ifT hc6 h
    refine tk_bT  rfl rfl tk_eL_ne (c := (fN_q t m) = (0 : Int64)) hc6 (pc' := 69) (ls' := [(0, .ref t), (1, .int a1)]) (st' := []) ?_
    refine tk_Ps  1 (pc' := 70) (ls' := [(0, .ref t), (1, .int a1)]) (st' := [.ref t]) rfl ?_
    refine tk_cV1  rfl rfl (r := t) (as := []) (rest := []) rfl ht rfl rfl (ok_fN_m sc t m ht) ?_
    refine tk_Ps  2 (pc' := 75) (ls' := [(0, .ref t), (1, .int a1)]) (st' := [.int (lg_cmp (fN_m t m) (1 : Int64))]) rfl ?_
    by_cases hc7 : (fN_m t m) = (1 : Int64)
    · replace h := tk_ifT hc7 h
      refine tk_bT  rfl rfl tk_eL_ne (c := (fN_m t m) = (1 : Int64)) hc7 (pc' := 78) (ls' := [(0, .ref t), (1, .int a1)]) (st' := []) ?_
      refine tk_Ps  2 (pc' := 83) (ls' := [(0, .ref t), (1, .int a1)]) (st' := [.int (1 : Int32)]) rfl ?_
      subst h
      exact tk_RB (b := true)  rfl rfl rfl
    · replace h := tk_ifF hc7 h
      refine tk_bF  rfl rfl tk_eL_ne (c := (fN_m t m) = (1 : Int64)) hc7 (pc' := 82) (ls' := [(0, .ref t), (1, .int a1)]) (st' := []) ?_
      refine tk_Ps  1 (pc' := 83) (ls' := [(0, .ref t), (1, .int a1)]) (st' := [.int (0 : Int32)]) rfl ?_
      subst h
      exact tk_RB (b := false)  rfl rfl rfl
  · replace h := tk_ifF hc6 h
    refine tk_bF  rfl rfl tk_eL_ne (c := (fN_q t m) = (0 : Int64)) hc6 (pc' := 82) (ls' := [(0, .ref t), (1, .int a1)]) (st' := []) ?_
    refine tk_Ps  1 (pc' := 83) (ls' := [(0, .ref t), (1, .int a1)]) (st' := [.int (0 : Int32)]) rfl ?_
    subst h
    exact tk_RB (b := false)  rfl rfl rfl
theorem ok_fK_rootOfBoth (sc : tk_X) (a1 : Nat) (a2 : Nat) (m : tk_m) (ha1 : tk_lay[a1]? = some (.inl 4)) (ha2 : tk_lay[a2]? = some (.inl 4)) : tk_Ru sc 1 151 [.ref a1, .ref a2] (tk_full m) (some (.long (fK_rootOfBoth a1 a2 m)), tk_full m) := by
  obtain ⟨out, h⟩ : ∃ out, fK_rootOfBoth a1 a2 m = out := ⟨_, rfl⟩
  rw [h]
  unfold fK_rootOfBoth at h
  refine tk_Ru0 me151 (ls := [(0, .ref a1), (1, .ref a2)]) rfl rfl ?_
  refine tk_Ps  1 (pc' := 1) (ls' := [(0, .ref a1), (1, .ref a2)]) (st' := [.ref a1]) rfl ?_
  refine tk_HJ  rfl rfl ha1 ?_
  refine tk_Ps  2 (pc' := 6) (ls' := [(0, .ref a1), (1, .ref a2)]) (st' := [.int (lg_cmp (m.2.1 a1 2) (0 : Int64))]) rfl ?_
  by_cases hc1 : (m.2.1 a1 2) = (0 : Int64)
  · replace h := tk_ifT hc1 h
    refine tk_bT  rfl rfl tk_eL_eq (c := (m.2.1 a1 2) = (0 : Int64)) hc1 (pc' := 16) (ls' := [(0, .ref a1), (1, .ref a2)]) (st' := []) ?_
    refine tk_Ps  1 (pc' := 17) (ls' := [(0, .ref a1), (1, .ref a2)]) (st' := [.ref a2]) rfl ?_
    refine tk_HJ  rfl rfl ha2 ?_
    subst h
    exact tk_RJ  rfl rfl rfl
  · replace h := tk_ifF hc1 h
    refine tk_bF  rfl rfl tk_eL_eq (c := (m.2.1 a1 2) = (0 : Int64)) hc1 (pc' := 9) (ls' := [(0, .ref a1), (1, .ref a2)]) (st' := []) ?_
    refine tk_Ps  1 (pc' := 10) (ls' := [(0, .ref a1), (1, .ref a2)]) (st' := [.ref a1]) rfl ?_
    refine tk_HJ  rfl rfl ha1 ?_
    refine tk_Ps  1 (pc' := 20) (ls' := [(0, .ref a1), (1, .ref a2)]) (st' := [.long (m.2.1 a1 2)]) rfl ?_
    subst h
    exact tk_RJ  rfl rfl rfl
theorem ok_fK_conclude (sc : tk_X) (a1 : Int64) (a2 : Int64) (a3 : Int64) (a4 : Int64) (m : tk_m) {out : Bool × tk_m} (h : fK_conclude a1 a2 a3 a4 m = some out) : tk_Ru sc 4 152 [.ref 34, .long a1, .long a2, .long a3, .long a4] (tk_full m) (some (.int (tk_b out.1)), tk_full out.2) := by
  unfold fK_conclude at h
  refine tk_Ru0 me152 (ls := [(0, .ref 34), (1, .long a1), (3, .long a2), (5, .long a3), (7, .long a4)]) rfl rfl ?_
  refine tk_Ps  1 (pc' := 1) (ls' := [(0, .ref 34), (1, .long a1), (3, .long a2), (5, .long a3), (7, .long a4)]) (st' := [.ref 34]) rfl ?_
  refine tk_HB  rfl rfl ly34 ?_
  by_cases hc1 : (m.2.2.1 34 0) = true
  · replace h := tk_ifT hc1 h
    refine tk_bT  rfl rfl tk_eB_ne (c := (m.2.2.1 34 0) = true) hc1 (pc' := 27) (ls' := [(0, .ref 34), (1, .long a1), (3, .long a2), (5, .long a3), (7, .long a4)]) (st' := []) ?_
    refine tk_Ps  1 (pc' := 28) (ls' := [(0, .ref 34), (1, .long a1), (3, .long a2), (5, .long a3), (7, .long a4)]) (st' := [.int (0 : Int32)]) rfl ?_
    replace h := Option.some.inj h
    subst h
    exact tk_RB (b := false)  rfl rfl rfl
  · replace h := tk_ifF hc1 h
    refine tk_bF  rfl rfl tk_eB_ne (c := (m.2.2.1 34 0) = true) hc1 (pc' := 7) (ls' := [(0, .ref 34), (1, .long a1), (3, .long a2), (5, .long a3), (7, .long a4)]) (st' := []) ?_
    refine tk_Ps  1 (pc' := 8) (ls' := [(0, .ref 34), (1, .long a1), (3, .long a2), (5, .long a3), (7, .long a4)]) (st' := [.ref 34]) rfl ?_
    refine tk_HR  rfl rfl ly34 rt34_1 ?_
    refine tk_Ps  4 (pc' := 17) (ls' := [(0, .ref 34), (1, .long a1), (3, .long a2), (5, .long a3), (7, .long a4)]) (st' := [.long a4, .long a3, .long a2, .long a1, .ref 35]) rfl ?_
    obtain ⟨o2, ho2, h⟩ := tk_bnd h
    refine tk_cV1  rfl rfl (r := 35) (as := [.long a1, .long a2, .long a3, .long a4]) (rest := []) rfl ly35 rfl rfl (ok_fN_hold sc 35 a1 a2 a3 a4 m ly35 ho2) ?_
    by_cases hc3 : o2.1 = true
    · replace h := tk_ifT hc3 h
      refine tk_bT  rfl rfl tk_eB_eq (c := o2.1 = true) hc3 (pc' := 23) (ls' := [(0, .ref 34), (1, .long a1), (3, .long a2), (5, .long a3), (7, .long a4)]) (st' := []) ?_
      refine tk_Ps  2 (pc' := 28) (ls' := [(0, .ref 34), (1, .long a1), (3, .long a2), (5, .long a3), (7, .long a4)]) (st' := [.int (1 : Int32)]) rfl ?_
      replace h := Option.some.inj h
      subst h
      exact tk_RB (b := true)  rfl rfl rfl
    · replace h := tk_ifF hc3 h
      refine tk_bF  rfl rfl tk_eB_eq (c := o2.1 = true) hc3 (pc' := 27) (ls' := [(0, .ref 34), (1, .long a1), (3, .long a2), (5, .long a3), (7, .long a4)]) (st' := []) ?_
      refine tk_Ps  1 (pc' := 28) (ls' := [(0, .ref 34), (1, .long a1), (3, .long a2), (5, .long a3), (7, .long a4)]) (st' := [.int (0 : Int32)]) rfl ?_
      replace h := Option.some.inj h
      subst h
      exact tk_RB (b := false)  rfl rfl rfl
theorem ok_fK_addUp (sc : tk_X) (a1 : Nat) (a2 : Nat) (m : tk_m) (ha1 : tk_lay[a1]? = some (.inl 4)) (ha2 : tk_lay[a2]? = some (.inl 4)) {out : Bool × tk_m} (h : fK_addUp a1 a2 m = some out) : tk_Ru sc 5 150 [.ref 34, .ref a1, .ref a2] (tk_full m) (some (.int (tk_b out.1)), tk_full out.2) := by
  unfold fK_addUp at h
  refine tk_Ru0 me150 (ls := [(0, .ref 34), (1, .ref a1), (2, .ref a2)]) rfl rfl ?_
  refine tk_Ps  3 (pc' := 3) (ls' := [(0, .ref 34), (1, .ref a1), (2, .ref a2)]) (st' := [.ref a1, .ref 34, .ref 34]) rfl ?_
  refine tk_cV1  rfl rfl (r := a1) (as := []) (rest := [.ref 34, .ref 34]) rfl ha1 rfl rfl (ok_fN_p sc a1 m ha1) ?_
  refine tk_Ps  1 (pc' := 7) (ls' := [(0, .ref 34), (1, .ref a1), (2, .ref a2)]) (st' := [.ref a2, .long (fN_p a1 m), .ref 34, .ref 34]) rfl ?_
  refine tk_cV1  rfl rfl (r := a2) (as := []) (rest := [.long (fN_p a1 m), .ref 34, .ref 34]) rfl ha2 rfl rfl (ok_fN_m sc a2 m ha2) ?_
  obtain ⟨o1, ho1, h⟩ := tk_bnd h
  refine tk_cV1  rfl rfl (r := 34) (as := [.long (fN_p a1 m), .long (fN_m a2 m)]) (rest := [.ref 34]) rfl ly34 rfl rfl (ok_fK_times sc (fN_p a1 m) (fN_m a2 m) m ho1) ?_
  refine tk_Ps  2 (pc' := 15) (ls' := [(0, .ref 34), (1, .ref a1), (2, .ref a2)]) (st' := [.ref a2, .ref 34, .long o1.1, .ref 34]) rfl ?_
  refine tk_cV1  rfl rfl (r := a2) (as := []) (rest := [.ref 34, .long o1.1, .ref 34]) rfl ha2 rfl rfl (ok_fN_p sc a2 o1.2 ha2) ?_
  refine tk_Ps  1 (pc' := 19) (ls' := [(0, .ref 34), (1, .ref a1), (2, .ref a2)]) (st' := [.ref a1, .long (fN_p a2 o1.2), .ref 34, .long o1.1, .ref 34]) rfl ?_
  refine tk_cV1  rfl rfl (r := a1) (as := []) (rest := [.long (fN_p a2 o1.2), .ref 34, .long o1.1, .ref 34]) rfl ha1 rfl rfl (ok_fN_m sc a1 o1.2 ha1) ?_
  obtain ⟨o2, ho2, h⟩ := tk_bnd h
  refine tk_cV1  rfl rfl (r := 34) (as := [.long (fN_p a2 o1.2), .long (fN_m a1 o1.2)]) (rest := [.long o1.1, .ref 34]) rfl ly34 rfl rfl (ok_fK_times sc (fN_p a2 o1.2) (fN_m a1 o1.2) o1.2 ho2) ?_
  obtain ⟨o3, ho3, h⟩ := tk_lete h
  refine tk_cV1  rfl rfl (r := 34) (as := [.long o1.1, .long o2.1]) (rest := []) rfl ly34 rfl rfl (ok_fK_plus sc o1.1 o2.1 o2.2 ho3) ?_
  refine tk_Ps  4 (pc' := 32) (ls' := [(3, .long o3.1), (0, .ref 34), (1, .ref a1), (2, .ref a2)]) (st' := [.ref a1, .ref 34, .ref 34]) rfl ?_
  refine tk_cV1  rfl rfl (r := a1) (as := []) (rest := [.ref 34, .ref 34]) rfl ha1 rfl rfl (ok_fN_q sc a1 o3.2 ha1) ?_
  refine tk_Ps  1 (pc' := 36) (ls' := [(3, .long o3.1), (0, .ref 34), (1, .ref a1), (2, .ref a2)]) (st' := [.ref a2, .long (fN_q a1 o3.2), .ref 34, .ref 34]) rfl ?_
  refine tk_cV1  rfl rfl (r := a2) (as := []) (rest := [.long (fN_q a1 o3.2), .ref 34, .ref 34]) rfl ha2 rfl rfl (ok_fN_m sc a2 o3.2 ha2) ?_
  obtain ⟨o4, ho4, h⟩ := tk_bnd h
  refine tk_cV1  rfl rfl (r := 34) (as := [.long (fN_q a1 o3.2), .long (fN_m a2 o3.2)]) (rest := [.ref 34]) rfl ly34 rfl rfl (ok_fK_times sc (fN_q a1 o3.2) (fN_m a2 o3.2) o3.2 ho4) ?_
  refine tk_Ps  2 (pc' := 44) (ls' := [(3, .long o3.1), (0, .ref 34), (1, .ref a1), (2, .ref a2)]) (st' := [.ref a2, .ref 34, .long o4.1, .ref 34]) rfl ?_
  refine tk_cV1  rfl rfl (r := a2) (as := []) (rest := [.ref 34, .long o4.1, .ref 34]) rfl ha2 rfl rfl (ok_fN_q sc a2 o4.2 ha2) ?_
  refine tk_Ps  1 (pc' := 48) (ls' := [(3, .long o3.1), (0, .ref 34), (1, .ref a1), (2, .ref a2)]) (st' := [.ref a1, .long (fN_q a2 o4.2), .ref 34, .long o4.1, .ref 34]) rfl ?_
  refine tk_cV1  rfl rfl (r := a1) (as := []) (rest := [.long (fN_q a2 o4.2), .ref 34, .long o4.1, .ref 34]) rfl ha1 rfl rfl (ok_fN_m sc a1 o4.2 ha1) ?_
  obtain ⟨o5, ho5, h⟩ := tk_bnd h
  refine tk_cV1  rfl rfl (r := 34) (as := [.long (fN_q a2 o4.2), .long (fN_m a1 o4.2)]) (rest := [.long o4.1, .ref 34]) rfl ly34 rfl rfl (ok_fK_times sc (fN_q a2 o4.2) (fN_m a1 o4.2) o4.2 ho5) ?_
  obtain ⟨o6, ho6, h⟩ := tk_lete h
  refine tk_cV1  rfl rfl (r := 34) (as := [.long o4.1, .long o5.1]) (rest := []) rfl ly34 rfl rfl (ok_fK_plus sc o4.1 o5.1 o5.2 ho6) ?_
  refine tk_Ps  6 (pc' := 65) (ls' := [(5, .long o6.1), (3, .long o3.1), (0, .ref 34), (1, .ref a1), (2, .ref a2)]) (st' := [.ref a2, .ref a1, .long o6.1, .long o3.1, .ref 34]) rfl ?_
  refine tk_cS1  rfl rfl (as := [.ref a1, .ref a2]) (rest := [.long o6.1, .long o3.1, .ref 34]) rfl rfl rfl (ok_fK_rootOfBoth sc a1 a2 o6.2 ha1 ha2) ?_
  refine tk_Ps  2 (pc' := 70) (ls' := [(5, .long o6.1), (3, .long o3.1), (0, .ref 34), (1, .ref a1), (2, .ref a2)]) (st' := [.ref a1, .ref 34, .long (fK_rootOfBoth a1 a2 o6.2), .long o6.1, .long o3.1, .ref 34]) rfl ?_
  refine tk_cV1  rfl rfl (r := a1) (as := []) (rest := [.ref 34, .long (fK_rootOfBoth a1 a2 o6.2), .long o6.1, .long o3.1, .ref 34]) rfl ha1 rfl rfl (ok_fN_m sc a1 o6.2 ha1) ?_
  refine tk_Ps  1 (pc' := 74) (ls' := [(5, .long o6.1), (3, .long o3.1), (0, .ref 34), (1, .ref a1), (2, .ref a2)]) (st' := [.ref a2, .long (fN_m a1 o6.2), .ref 34, .long (fK_rootOfBoth a1 a2 o6.2), .long o6.1, .long o3.1, .ref 34]) rfl ?_
  refine tk_cV1  rfl rfl (r := a2) (as := []) (rest := [.long (fN_m a1 o6.2), .ref 34, .long (fK_rootOfBoth a1 a2 o6.2), .long o6.1, .long o3.1, .ref 34]) rfl ha2 rfl rfl (ok_fN_m sc a2 o6.2 ha2) ?_
  obtain ⟨o7, ho7, h⟩ := tk_bnd h
  refine tk_cV1  rfl rfl (r := 34) (as := [.long (fN_m a1 o6.2), .long (fN_m a2 o6.2)]) (rest := [.long (fK_rootOfBoth a1 a2 o6.2), .long o6.1, .long o3.1, .ref 34]) rfl ly34 rfl rfl (ok_fK_times sc (fN_m a1 o6.2) (fN_m a2 o6.2) o6.2 ho7) ?_
  obtain ⟨o8, ho8, h⟩ := tk_bnd h
  refine tk_cV1  rfl rfl (r := 34) (as := [.long o3.1, .long o6.1, .long (fK_rootOfBoth a1 a2 o6.2), .long o7.1]) (rest := []) rfl ly34 rfl rfl (ok_fK_conclude sc o3.1 o6.1 (fK_rootOfBoth a1 a2 o6.2) o7.1 o7.2 ho8) ?_
  replace h := Option.some.inj h
  subst h
  exact tk_RB (b := o8.1)  rfl rfl rfl
theorem ok_fK_takeOff (sc : tk_X) (a1 : Nat) (a2 : Nat) (m : tk_m) (ha1 : tk_lay[a1]? = some (.inl 4)) (ha2 : tk_lay[a2]? = some (.inl 4)) {out : Bool × tk_m} (h : fK_takeOff a1 a2 m = some out) : tk_Ru sc 5 153 [.ref 34, .ref a1, .ref a2] (tk_full m) (some (.int (tk_b out.1)), tk_full out.2) := by
  unfold fK_takeOff at h
  refine tk_Ru0 me153 (ls := [(0, .ref 34), (1, .ref a1), (2, .ref a2)]) rfl rfl ?_
  refine tk_Ps  3 (pc' := 3) (ls' := [(0, .ref 34), (1, .ref a1), (2, .ref a2)]) (st' := [.ref a1, .ref 34, .ref 34]) rfl ?_
  refine tk_cV1  rfl rfl (r := a1) (as := []) (rest := [.ref 34, .ref 34]) rfl ha1 rfl rfl (ok_fN_p sc a1 m ha1) ?_
  refine tk_Ps  1 (pc' := 7) (ls' := [(0, .ref 34), (1, .ref a1), (2, .ref a2)]) (st' := [.ref a2, .long (fN_p a1 m), .ref 34, .ref 34]) rfl ?_
  refine tk_cV1  rfl rfl (r := a2) (as := []) (rest := [.long (fN_p a1 m), .ref 34, .ref 34]) rfl ha2 rfl rfl (ok_fN_m sc a2 m ha2) ?_
  obtain ⟨o1, ho1, h⟩ := tk_bnd h
  refine tk_cV1  rfl rfl (r := 34) (as := [.long (fN_p a1 m), .long (fN_m a2 m)]) (rest := [.ref 34]) rfl ly34 rfl rfl (ok_fK_times sc (fN_p a1 m) (fN_m a2 m) m ho1) ?_
  refine tk_Ps  2 (pc' := 15) (ls' := [(0, .ref 34), (1, .ref a1), (2, .ref a2)]) (st' := [.ref a2, .ref 34, .long o1.1, .ref 34]) rfl ?_
  refine tk_cV1  rfl rfl (r := a2) (as := []) (rest := [.ref 34, .long o1.1, .ref 34]) rfl ha2 rfl rfl (ok_fN_p sc a2 o1.2 ha2) ?_
  refine tk_Ps  1 (pc' := 19) (ls' := [(0, .ref 34), (1, .ref a1), (2, .ref a2)]) (st' := [.ref a1, .long (fN_p a2 o1.2), .ref 34, .long o1.1, .ref 34]) rfl ?_
  refine tk_cV1  rfl rfl (r := a1) (as := []) (rest := [.long (fN_p a2 o1.2), .ref 34, .long o1.1, .ref 34]) rfl ha1 rfl rfl (ok_fN_m sc a1 o1.2 ha1) ?_
  obtain ⟨o2, ho2, h⟩ := tk_bnd h
  refine tk_cV1  rfl rfl (r := 34) (as := [.long (fN_p a2 o1.2), .long (fN_m a1 o1.2)]) (rest := [.long o1.1, .ref 34]) rfl ly34 rfl rfl (ok_fK_times sc (fN_p a2 o1.2) (fN_m a1 o1.2) o1.2 ho2) ?_
  obtain ⟨o3, ho3, h⟩ := tk_lete h
  refine tk_cV1  rfl rfl (r := 34) (as := [.long o1.1, .long o2.1]) (rest := []) rfl ly34 rfl rfl (ok_fK_minus sc o1.1 o2.1 o2.2 ho3) ?_
  refine tk_Ps  4 (pc' := 32) (ls' := [(3, .long o3.1), (0, .ref 34), (1, .ref a1), (2, .ref a2)]) (st' := [.ref a1, .ref 34, .ref 34]) rfl ?_
  refine tk_cV1  rfl rfl (r := a1) (as := []) (rest := [.ref 34, .ref 34]) rfl ha1 rfl rfl (ok_fN_q sc a1 o3.2 ha1) ?_
  refine tk_Ps  1 (pc' := 36) (ls' := [(3, .long o3.1), (0, .ref 34), (1, .ref a1), (2, .ref a2)]) (st' := [.ref a2, .long (fN_q a1 o3.2), .ref 34, .ref 34]) rfl ?_
  refine tk_cV1  rfl rfl (r := a2) (as := []) (rest := [.long (fN_q a1 o3.2), .ref 34, .ref 34]) rfl ha2 rfl rfl (ok_fN_m sc a2 o3.2 ha2) ?_
  obtain ⟨o4, ho4, h⟩ := tk_bnd h
  refine tk_cV1  rfl rfl (r := 34) (as := [.long (fN_q a1 o3.2), .long (fN_m a2 o3.2)]) (rest := [.ref 34]) rfl ly34 rfl rfl (ok_fK_times sc (fN_q a1 o3.2) (fN_m a2 o3.2) o3.2 ho4) ?_
  refine tk_Ps  2 (pc' := 44) (ls' := [(3, .long o3.1), (0, .ref 34), (1, .ref a1), (2, .ref a2)]) (st' := [.ref a2, .ref 34, .long o4.1, .ref 34]) rfl ?_
  refine tk_cV1  rfl rfl (r := a2) (as := []) (rest := [.ref 34, .long o4.1, .ref 34]) rfl ha2 rfl rfl (ok_fN_q sc a2 o4.2 ha2) ?_
  refine tk_Ps  1 (pc' := 48) (ls' := [(3, .long o3.1), (0, .ref 34), (1, .ref a1), (2, .ref a2)]) (st' := [.ref a1, .long (fN_q a2 o4.2), .ref 34, .long o4.1, .ref 34]) rfl ?_
  refine tk_cV1  rfl rfl (r := a1) (as := []) (rest := [.long (fN_q a2 o4.2), .ref 34, .long o4.1, .ref 34]) rfl ha1 rfl rfl (ok_fN_m sc a1 o4.2 ha1) ?_
  obtain ⟨o5, ho5, h⟩ := tk_bnd h
  refine tk_cV1  rfl rfl (r := 34) (as := [.long (fN_q a2 o4.2), .long (fN_m a1 o4.2)]) (rest := [.long o4.1, .ref 34]) rfl ly34 rfl rfl (ok_fK_times sc (fN_q a2 o4.2) (fN_m a1 o4.2) o4.2 ho5) ?_
  obtain ⟨o6, ho6, h⟩ := tk_lete h
  refine tk_cV1  rfl rfl (r := 34) (as := [.long o4.1, .long o5.1]) (rest := []) rfl ly34 rfl rfl (ok_fK_minus sc o4.1 o5.1 o5.2 ho6) ?_
  refine tk_Ps  6 (pc' := 65) (ls' := [(5, .long o6.1), (3, .long o3.1), (0, .ref 34), (1, .ref a1), (2, .ref a2)]) (st' := [.ref a2, .ref a1, .long o6.1, .long o3.1, .ref 34]) rfl ?_
  refine tk_cS1  rfl rfl (as := [.ref a1, .ref a2]) (rest := [.long o6.1, .long o3.1, .ref 34]) rfl rfl rfl (ok_fK_rootOfBoth sc a1 a2 o6.2 ha1 ha2) ?_
  refine tk_Ps  2 (pc' := 70) (ls' := [(5, .long o6.1), (3, .long o3.1), (0, .ref 34), (1, .ref a1), (2, .ref a2)]) (st' := [.ref a1, .ref 34, .long (fK_rootOfBoth a1 a2 o6.2), .long o6.1, .long o3.1, .ref 34]) rfl ?_
  refine tk_cV1  rfl rfl (r := a1) (as := []) (rest := [.ref 34, .long (fK_rootOfBoth a1 a2 o6.2), .long o6.1, .long o3.1, .ref 34]) rfl ha1 rfl rfl (ok_fN_m sc a1 o6.2 ha1) ?_
  refine tk_Ps  1 (pc' := 74) (ls' := [(5, .long o6.1), (3, .long o3.1), (0, .ref 34), (1, .ref a1), (2, .ref a2)]) (st' := [.ref a2, .long (fN_m a1 o6.2), .ref 34, .long (fK_rootOfBoth a1 a2 o6.2), .long o6.1, .long o3.1, .ref 34]) rfl ?_
  refine tk_cV1  rfl rfl (r := a2) (as := []) (rest := [.long (fN_m a1 o6.2), .ref 34, .long (fK_rootOfBoth a1 a2 o6.2), .long o6.1, .long o3.1, .ref 34]) rfl ha2 rfl rfl (ok_fN_m sc a2 o6.2 ha2) ?_
  obtain ⟨o7, ho7, h⟩ := tk_bnd h
  refine tk_cV1  rfl rfl (r := 34) (as := [.long (fN_m a1 o6.2), .long (fN_m a2 o6.2)]) (rest := [.long (fK_rootOfBoth a1 a2 o6.2), .long o6.1, .long o3.1, .ref 34]) rfl ly34 rfl rfl (ok_fK_times sc (fN_m a1 o6.2) (fN_m a2 o6.2) o6.2 ho7) ?_
  obtain ⟨o8, ho8, h⟩ := tk_bnd h
  refine tk_cV1  rfl rfl (r := 34) (as := [.long o3.1, .long o6.1, .long (fK_rootOfBoth a1 a2 o6.2), .long o7.1]) (rest := []) rfl ly34 rfl rfl (ok_fK_conclude sc o3.1 o6.1 (fK_rootOfBoth a1 a2 o6.2) o7.1 o7.2 ho8) ?_
  replace h := Option.some.inj h
  subst h
  exact tk_RB (b := o8.1)  rfl rfl rfl
theorem ok_fK_multiply (sc : tk_X) (a1 : Nat) (a2 : Nat) (m : tk_m) (ha1 : tk_lay[a1]? = some (.inl 4)) (ha2 : tk_lay[a2]? = some (.inl 4)) {out : Bool × tk_m} (h : fK_multiply a1 a2 m = some out) : tk_Ru sc 5 154 [.ref 34, .ref a1, .ref a2] (tk_full m) (some (.int (tk_b out.1)), tk_full out.2) := by
  unfold fK_multiply at h
  refine tk_Ru0 me154 (ls := [(0, .ref 34), (1, .ref a1), (2, .ref a2)]) rfl rfl ?_
  refine tk_Ps  2 (pc' := 2) (ls' := [(0, .ref 34), (1, .ref a1), (2, .ref a2)]) (st' := [.ref a2, .ref a1]) rfl ?_
  refine tk_cS1  rfl rfl (as := [.ref a1, .ref a2]) (rest := []) rfl rfl rfl (ok_fK_rootOfBoth sc a1 a2 m ha1 ha2) ?_
  refine tk_Ps  4 (pc' := 9) (ls' := [(3, .long (fK_rootOfBoth a1 a2 m)), (0, .ref 34), (1, .ref a1), (2, .ref a2)]) (st' := [.ref a1, .ref 34, .ref 34]) rfl ?_
  refine tk_cV1  rfl rfl (r := a1) (as := []) (rest := [.ref 34, .ref 34]) rfl ha1 rfl rfl (ok_fN_p sc a1 m ha1) ?_
  refine tk_Ps  1 (pc' := 13) (ls' := [(3, .long (fK_rootOfBoth a1 a2 m)), (0, .ref 34), (1, .ref a1), (2, .ref a2)]) (st' := [.ref a2, .long (fN_p a1 m), .ref 34, .ref 34]) rfl ?_
  refine tk_cV1  rfl rfl (r := a2) (as := []) (rest := [.long (fN_p a1 m), .ref 34, .ref 34]) rfl ha2 rfl rfl (ok_fN_p sc a2 m ha2) ?_
  obtain ⟨o1, ho1, h⟩ := tk_bnd h
  refine tk_cV1  rfl rfl (r := 34) (as := [.long (fN_p a1 m), .long (fN_p a2 m)]) (rest := [.ref 34]) rfl ly34 rfl rfl (ok_fK_times sc (fN_p a1 m) (fN_p a2 m) m ho1) ?_
  refine tk_Ps  3 (pc' := 22) (ls' := [(3, .long (fK_rootOfBoth a1 a2 m)), (0, .ref 34), (1, .ref a1), (2, .ref a2)]) (st' := [.ref a1, .ref 34, .ref 34, .long o1.1, .ref 34]) rfl ?_
  refine tk_cV1  rfl rfl (r := a1) (as := []) (rest := [.ref 34, .ref 34, .long o1.1, .ref 34]) rfl ha1 rfl rfl (ok_fN_q sc a1 o1.2 ha1) ?_
  refine tk_Ps  1 (pc' := 26) (ls' := [(3, .long (fK_rootOfBoth a1 a2 m)), (0, .ref 34), (1, .ref a1), (2, .ref a2)]) (st' := [.ref a2, .long (fN_q a1 o1.2), .ref 34, .ref 34, .long o1.1, .ref 34]) rfl ?_
  refine tk_cV1  rfl rfl (r := a2) (as := []) (rest := [.long (fN_q a1 o1.2), .ref 34, .ref 34, .long o1.1, .ref 34]) rfl ha2 rfl rfl (ok_fN_q sc a2 o1.2 ha2) ?_
  obtain ⟨o2, ho2, h⟩ := tk_bnd h
  refine tk_cV1  rfl rfl (r := 34) (as := [.long (fN_q a1 o1.2), .long (fN_q a2 o1.2)]) (rest := [.ref 34, .long o1.1, .ref 34]) rfl ly34 rfl rfl (ok_fK_times sc (fN_q a1 o1.2) (fN_q a2 o1.2) o1.2 ho2) ?_
  refine tk_Ps  1 (pc' := 33) (ls' := [(3, .long (fK_rootOfBoth a1 a2 m)), (0, .ref 34), (1, .ref a1), (2, .ref a2)]) (st' := [.long (fK_rootOfBoth a1 a2 m), .long o2.1, .ref 34, .long o1.1, .ref 34]) rfl ?_
  obtain ⟨o3, ho3, h⟩ := tk_bnd h
  refine tk_cV1  rfl rfl (r := 34) (as := [.long o2.1, .long (fK_rootOfBoth a1 a2 m)]) (rest := [.long o1.1, .ref 34]) rfl ly34 rfl rfl (ok_fK_times sc o2.1 (fK_rootOfBoth a1 a2 m) o2.2 ho3) ?_
  obtain ⟨o4, ho4, h⟩ := tk_lete h
  refine tk_cV1  rfl rfl (r := 34) (as := [.long o1.1, .long o3.1]) (rest := []) rfl ly34 rfl rfl (ok_fK_plus sc o1.1 o3.1 o3.2 ho4) ?_
  refine tk_Ps  4 (pc' := 44) (ls' := [(5, .long o4.1), (3, .long (fK_rootOfBoth a1 a2 m)), (0, .ref 34), (1, .ref a1), (2, .ref a2)]) (st' := [.ref a1, .ref 34, .ref 34]) rfl ?_
  refine tk_cV1  rfl rfl (r := a1) (as := []) (rest := [.ref 34, .ref 34]) rfl ha1 rfl rfl (ok_fN_p sc a1 o4.2 ha1) ?_
  refine tk_Ps  1 (pc' := 48) (ls' := [(5, .long o4.1), (3, .long (fK_rootOfBoth a1 a2 m)), (0, .ref 34), (1, .ref a1), (2, .ref a2)]) (st' := [.ref a2, .long (fN_p a1 o4.2), .ref 34, .ref 34]) rfl ?_
  refine tk_cV1  rfl rfl (r := a2) (as := []) (rest := [.long (fN_p a1 o4.2), .ref 34, .ref 34]) rfl ha2 rfl rfl (ok_fN_q sc a2 o4.2 ha2) ?_
  obtain ⟨o5, ho5, h⟩ := tk_bnd h
  refine tk_cV1  rfl rfl (r := 34) (as := [.long (fN_p a1 o4.2), .long (fN_q a2 o4.2)]) (rest := [.ref 34]) rfl ly34 rfl rfl (ok_fK_times sc (fN_p a1 o4.2) (fN_q a2 o4.2) o4.2 ho5) ?_
  refine tk_Ps  2 (pc' := 56) (ls' := [(5, .long o4.1), (3, .long (fK_rootOfBoth a1 a2 m)), (0, .ref 34), (1, .ref a1), (2, .ref a2)]) (st' := [.ref a1, .ref 34, .long o5.1, .ref 34]) rfl ?_
  refine tk_cV1  rfl rfl (r := a1) (as := []) (rest := [.ref 34, .long o5.1, .ref 34]) rfl ha1 rfl rfl (ok_fN_q sc a1 o5.2 ha1) ?_
  refine tk_Ps  1 (pc' := 60) (ls' := [(5, .long o4.1), (3, .long (fK_rootOfBoth a1 a2 m)), (0, .ref 34), (1, .ref a1), (2, .ref a2)]) (st' := [.ref a2, .long (fN_q a1 o5.2), .ref 34, .long o5.1, .ref 34]) rfl ?_
  refine tk_cV1  rfl rfl (r := a2) (as := []) (rest := [.long (fN_q a1 o5.2), .ref 34, .long o5.1, .ref 34]) rfl ha2 rfl rfl (ok_fN_p sc a2 o5.2 ha2) ?_
  obtain ⟨o6, ho6, h⟩ := tk_bnd h
  refine tk_cV1  rfl rfl (r := 34) (as := [.long (fN_q a1 o5.2), .long (fN_p a2 o5.2)]) (rest := [.long o5.1, .ref 34]) rfl ly34 rfl rfl (ok_fK_times sc (fN_q a1 o5.2) (fN_p a2 o5.2) o5.2 ho6) ?_
  obtain ⟨o7, ho7, h⟩ := tk_lete h
  refine tk_cV1  rfl rfl (r := 34) (as := [.long o5.1, .long o6.1]) (rest := []) rfl ly34 rfl rfl (ok_fK_plus sc o5.1 o6.1 o6.2 ho7) ?_
  refine tk_Ps  7 (pc' := 79) (ls' := [(7, .long o7.1), (5, .long o4.1), (3, .long (fK_rootOfBoth a1 a2 m)), (0, .ref 34), (1, .ref a1), (2, .ref a2)]) (st' := [.ref a1, .ref 34, .long (fK_rootOfBoth a1 a2 m), .long o7.1, .long o4.1, .ref 34]) rfl ?_
  refine tk_cV1  rfl rfl (r := a1) (as := []) (rest := [.ref 34, .long (fK_rootOfBoth a1 a2 m), .long o7.1, .long o4.1, .ref 34]) rfl ha1 rfl rfl (ok_fN_m sc a1 o7.2 ha1) ?_
  refine tk_Ps  1 (pc' := 83) (ls' := [(7, .long o7.1), (5, .long o4.1), (3, .long (fK_rootOfBoth a1 a2 m)), (0, .ref 34), (1, .ref a1), (2, .ref a2)]) (st' := [.ref a2, .long (fN_m a1 o7.2), .ref 34, .long (fK_rootOfBoth a1 a2 m), .long o7.1, .long o4.1, .ref 34]) rfl ?_
  refine tk_cV1  rfl rfl (r := a2) (as := []) (rest := [.long (fN_m a1 o7.2), .ref 34, .long (fK_rootOfBoth a1 a2 m), .long o7.1, .long o4.1, .ref 34]) rfl ha2 rfl rfl (ok_fN_m sc a2 o7.2 ha2) ?_
  obtain ⟨o8, ho8, h⟩ := tk_bnd h
  refine tk_cV1  rfl rfl (r := 34) (as := [.long (fN_m a1 o7.2), .long (fN_m a2 o7.2)]) (rest := [.long (fK_rootOfBoth a1 a2 m), .long o7.1, .long o4.1, .ref 34]) rfl ly34 rfl rfl (ok_fK_times sc (fN_m a1 o7.2) (fN_m a2 o7.2) o7.2 ho8) ?_
  obtain ⟨o9, ho9, h⟩ := tk_bnd h
  refine tk_cV1  rfl rfl (r := 34) (as := [.long o4.1, .long o7.1, .long (fK_rootOfBoth a1 a2 m), .long o8.1]) (rest := []) rfl ly34 rfl rfl (ok_fK_conclude sc o4.1 o7.1 (fK_rootOfBoth a1 a2 m) o8.1 o8.2 ho9) ?_
  replace h := Option.some.inj h
  subst h
  exact tk_RB (b := o9.1)  rfl rfl rfl
theorem ok_fK_divide (sc : tk_X) (a1 : Nat) (a2 : Nat) (m : tk_m) (ha1 : tk_lay[a1]? = some (.inl 4)) (ha2 : tk_lay[a2]? = some (.inl 4)) {out : Bool × tk_m} (h : fK_divide a1 a2 m = some out) : tk_Ru sc 5 155 [.ref 34, .ref a1, .ref a2] (tk_full m) (some (.int (tk_b out.1)), tk_full out.2) := by
  unfold fK_divide at h
  refine tk_Ru0 me155 (ls := [(0, .ref 34), (1, .ref a1), (2, .ref a2)]) rfl rfl ?_
  refine tk_Ps  2 (pc' := 2) (ls' := [(0, .ref 34), (1, .ref a1), (2, .ref a2)]) (st' := [.ref a2, .ref a1]) rfl ?_
  refine tk_cS1  rfl rfl (as := [.ref a1, .ref a2]) (rest := []) rfl rfl rfl (ok_fK_rootOfBoth sc a1 a2 m ha1 ha2) ?_
  refine tk_Ps  5 (pc' := 10) (ls' := [(3, .long (fK_rootOfBoth a1 a2 m)), (0, .ref 34), (1, .ref a1), (2, .ref a2)]) (st' := [.ref a1, .ref 34, .ref 34, .ref 34]) rfl ?_
  refine tk_cV1  rfl rfl (r := a1) (as := []) (rest := [.ref 34, .ref 34, .ref 34]) rfl ha1 rfl rfl (ok_fN_p sc a1 m ha1) ?_
  refine tk_Ps  1 (pc' := 14) (ls' := [(3, .long (fK_rootOfBoth a1 a2 m)), (0, .ref 34), (1, .ref a1), (2, .ref a2)]) (st' := [.ref a2, .long (fN_p a1 m), .ref 34, .ref 34, .ref 34]) rfl ?_
  refine tk_cV1  rfl rfl (r := a2) (as := []) (rest := [.long (fN_p a1 m), .ref 34, .ref 34, .ref 34]) rfl ha2 rfl rfl (ok_fN_p sc a2 m ha2) ?_
  obtain ⟨o1, ho1, h⟩ := tk_bnd h
  refine tk_cV1  rfl rfl (r := 34) (as := [.long (fN_p a1 m), .long (fN_p a2 m)]) (rest := [.ref 34, .ref 34]) rfl ly34 rfl rfl (ok_fK_times sc (fN_p a1 m) (fN_p a2 m) m ho1) ?_
  refine tk_Ps  3 (pc' := 23) (ls' := [(3, .long (fK_rootOfBoth a1 a2 m)), (0, .ref 34), (1, .ref a1), (2, .ref a2)]) (st' := [.ref a1, .ref 34, .ref 34, .long o1.1, .ref 34, .ref 34]) rfl ?_
  refine tk_cV1  rfl rfl (r := a1) (as := []) (rest := [.ref 34, .ref 34, .long o1.1, .ref 34, .ref 34]) rfl ha1 rfl rfl (ok_fN_q sc a1 o1.2 ha1) ?_
  refine tk_Ps  1 (pc' := 27) (ls' := [(3, .long (fK_rootOfBoth a1 a2 m)), (0, .ref 34), (1, .ref a1), (2, .ref a2)]) (st' := [.ref a2, .long (fN_q a1 o1.2), .ref 34, .ref 34, .long o1.1, .ref 34, .ref 34]) rfl ?_
  refine tk_cV1  rfl rfl (r := a2) (as := []) (rest := [.long (fN_q a1 o1.2), .ref 34, .ref 34, .long o1.1, .ref 34, .ref 34]) rfl ha2 rfl rfl (ok_fN_q sc a2 o1.2 ha2) ?_
  obtain ⟨o2, ho2, h⟩ := tk_bnd h
  refine tk_cV1  rfl rfl (r := 34) (as := [.long (fN_q a1 o1.2), .long (fN_q a2 o1.2)]) (rest := [.ref 34, .long o1.1, .ref 34, .ref 34]) rfl ly34 rfl rfl (ok_fK_times sc (fN_q a1 o1.2) (fN_q a2 o1.2) o1.2 ho2) ?_
  refine tk_Ps  1 (pc' := 34) (ls' := [(3, .long (fK_rootOfBoth a1 a2 m)), (0, .ref 34), (1, .ref a1), (2, .ref a2)]) (st' := [.long (fK_rootOfBoth a1 a2 m), .long o2.1, .ref 34, .long o1.1, .ref 34, .ref 34]) rfl ?_
  obtain ⟨o3, ho3, h⟩ := tk_bnd h
  refine tk_cV1  rfl rfl (r := 34) (as := [.long o2.1, .long (fK_rootOfBoth a1 a2 m)]) (rest := [.long o1.1, .ref 34, .ref 34]) rfl ly34 rfl rfl (ok_fK_times sc o2.1 (fK_rootOfBoth a1 a2 m) o2.2 ho3) ?_
  obtain ⟨o4, ho4, h⟩ := tk_lete h
  refine tk_cV1  rfl rfl (r := 34) (as := [.long o1.1, .long o3.1]) (rest := [.ref 34]) rfl ly34 rfl rfl (ok_fK_minus sc o1.1 o3.1 o3.2 ho4) ?_
  refine tk_Ps  1 (pc' := 41) (ls' := [(3, .long (fK_rootOfBoth a1 a2 m)), (0, .ref 34), (1, .ref a1), (2, .ref a2)]) (st' := [.ref a2, .long o4.1, .ref 34]) rfl ?_
  refine tk_cV1  rfl rfl (r := a2) (as := []) (rest := [.long o4.1, .ref 34]) rfl ha2 rfl rfl (ok_fN_m sc a2 o4.2 ha2) ?_
  obtain ⟨o5, ho5, h⟩ := tk_bnd h
  refine tk_cV1  rfl rfl (r := 34) (as := [.long o4.1, .long (fN_m a2 o4.2)]) (rest := []) rfl ly34 rfl rfl (ok_fK_times sc o4.1 (fN_m a2 o4.2) o4.2 ho5) ?_
  refine tk_Ps  5 (pc' := 53) (ls' := [(5, .long o5.1), (3, .long (fK_rootOfBoth a1 a2 m)), (0, .ref 34), (1, .ref a1), (2, .ref a2)]) (st' := [.ref a1, .ref 34, .ref 34, .ref 34]) rfl ?_
  refine tk_cV1  rfl rfl (r := a1) (as := []) (rest := [.ref 34, .ref 34, .ref 34]) rfl ha1 rfl rfl (ok_fN_q sc a1 o5.2 ha1) ?_
  refine tk_Ps  1 (pc' := 57) (ls' := [(5, .long o5.1), (3, .long (fK_rootOfBoth a1 a2 m)), (0, .ref 34), (1, .ref a1), (2, .ref a2)]) (st' := [.ref a2, .long (fN_q a1 o5.2), .ref 34, .ref 34, .ref 34]) rfl ?_
  refine tk_cV1  rfl rfl (r := a2) (as := []) (rest := [.long (fN_q a1 o5.2), .ref 34, .ref 34, .ref 34]) rfl ha2 rfl rfl (ok_fN_p sc a2 o5.2 ha2) ?_
  obtain ⟨o6, ho6, h⟩ := tk_bnd h
  refine tk_cV1  rfl rfl (r := 34) (as := [.long (fN_q a1 o5.2), .long (fN_p a2 o5.2)]) (rest := [.ref 34, .ref 34]) rfl ly34 rfl rfl (ok_fK_times sc (fN_q a1 o5.2) (fN_p a2 o5.2) o5.2 ho6) ?_
  refine tk_Ps  2 (pc' := 65) (ls' := [(5, .long o5.1), (3, .long (fK_rootOfBoth a1 a2 m)), (0, .ref 34), (1, .ref a1), (2, .ref a2)]) (st' := [.ref a1, .ref 34, .long o6.1, .ref 34, .ref 34]) rfl ?_
  refine tk_cV1  rfl rfl (r := a1) (as := []) (rest := [.ref 34, .long o6.1, .ref 34, .ref 34]) rfl ha1 rfl rfl (ok_fN_p sc a1 o6.2 ha1) ?_
  refine tk_Ps  1 (pc' := 69) (ls' := [(5, .long o5.1), (3, .long (fK_rootOfBoth a1 a2 m)), (0, .ref 34), (1, .ref a1), (2, .ref a2)]) (st' := [.ref a2, .long (fN_p a1 o6.2), .ref 34, .long o6.1, .ref 34, .ref 34]) rfl ?_
  refine tk_cV1  rfl rfl (r := a2) (as := []) (rest := [.long (fN_p a1 o6.2), .ref 34, .long o6.1, .ref 34, .ref 34]) rfl ha2 rfl rfl (ok_fN_q sc a2 o6.2 ha2) ?_
  obtain ⟨o7, ho7, h⟩ := tk_bnd h
  refine tk_cV1  rfl rfl (r := 34) (as := [.long (fN_p a1 o6.2), .long (fN_q a2 o6.2)]) (rest := [.long o6.1, .ref 34, .ref 34]) rfl ly34 rfl rfl (ok_fK_times sc (fN_p a1 o6.2) (fN_q a2 o6.2) o6.2 ho7) ?_
  obtain ⟨o8, ho8, h⟩ := tk_lete h
  refine tk_cV1  rfl rfl (r := 34) (as := [.long o6.1, .long o7.1]) (rest := [.ref 34]) rfl ly34 rfl rfl (ok_fK_minus sc o6.1 o7.1 o7.2 ho8) ?_
  refine tk_Ps  1 (pc' := 79) (ls' := [(5, .long o5.1), (3, .long (fK_rootOfBoth a1 a2 m)), (0, .ref 34), (1, .ref a1), (2, .ref a2)]) (st' := [.ref a2, .long o8.1, .ref 34]) rfl ?_
  refine tk_cV1  rfl rfl (r := a2) (as := []) (rest := [.long o8.1, .ref 34]) rfl ha2 rfl rfl (ok_fN_m sc a2 o8.2 ha2) ?_
  obtain ⟨o9, ho9, h⟩ := tk_bnd h
  refine tk_cV1  rfl rfl (r := 34) (as := [.long o8.1, .long (fN_m a2 o8.2)]) (rest := []) rfl ly34 rfl rfl (ok_fK_times sc o8.1 (fN_m a2 o8.2) o8.2 ho9) ?_
  refine tk_Ps  4 (pc' := 90) (ls' := [(7, .long o9.1), (5, .long o5.1), (3, .long (fK_rootOfBoth a1 a2 m)), (0, .ref 34), (1, .ref a1), (2, .ref a2)]) (st' := [.ref a2, .ref 34, .ref 34]) rfl ?_
  refine tk_cV1  rfl rfl (r := a2) (as := []) (rest := [.ref 34, .ref 34]) rfl ha2 rfl rfl (ok_fN_p sc a2 o9.2 ha2) ?_
  refine tk_Ps  1 (pc' := 94) (ls' := [(7, .long o9.1), (5, .long o5.1), (3, .long (fK_rootOfBoth a1 a2 m)), (0, .ref 34), (1, .ref a1), (2, .ref a2)]) (st' := [.ref a2, .long (fN_p a2 o9.2), .ref 34, .ref 34]) rfl ?_
  refine tk_cV1  rfl rfl (r := a2) (as := []) (rest := [.long (fN_p a2 o9.2), .ref 34, .ref 34]) rfl ha2 rfl rfl (ok_fN_p sc a2 o9.2 ha2) ?_
  obtain ⟨o10, ho10, h⟩ := tk_bnd h
  refine tk_cV1  rfl rfl (r := 34) (as := [.long (fN_p a2 o9.2), .long (fN_p a2 o9.2)]) (rest := [.ref 34]) rfl ly34 rfl rfl (ok_fK_times sc (fN_p a2 o9.2) (fN_p a2 o9.2) o9.2 ho10) ?_
  refine tk_Ps  3 (pc' := 103) (ls' := [(7, .long o9.1), (5, .long o5.1), (3, .long (fK_rootOfBoth a1 a2 m)), (0, .ref 34), (1, .ref a1), (2, .ref a2)]) (st' := [.ref a2, .ref 34, .ref 34, .long o10.1, .ref 34]) rfl ?_
  refine tk_cV1  rfl rfl (r := a2) (as := []) (rest := [.ref 34, .ref 34, .long o10.1, .ref 34]) rfl ha2 rfl rfl (ok_fN_q sc a2 o10.2 ha2) ?_
  refine tk_Ps  1 (pc' := 107) (ls' := [(7, .long o9.1), (5, .long o5.1), (3, .long (fK_rootOfBoth a1 a2 m)), (0, .ref 34), (1, .ref a1), (2, .ref a2)]) (st' := [.ref a2, .long (fN_q a2 o10.2), .ref 34, .ref 34, .long o10.1, .ref 34]) rfl ?_
  refine tk_cV1  rfl rfl (r := a2) (as := []) (rest := [.long (fN_q a2 o10.2), .ref 34, .ref 34, .long o10.1, .ref 34]) rfl ha2 rfl rfl (ok_fN_q sc a2 o10.2 ha2) ?_
  obtain ⟨o11, ho11, h⟩ := tk_bnd h
  refine tk_cV1  rfl rfl (r := 34) (as := [.long (fN_q a2 o10.2), .long (fN_q a2 o10.2)]) (rest := [.ref 34, .long o10.1, .ref 34]) rfl ly34 rfl rfl (ok_fK_times sc (fN_q a2 o10.2) (fN_q a2 o10.2) o10.2 ho11) ?_
  refine tk_Ps  1 (pc' := 114) (ls' := [(7, .long o9.1), (5, .long o5.1), (3, .long (fK_rootOfBoth a1 a2 m)), (0, .ref 34), (1, .ref a1), (2, .ref a2)]) (st' := [.long (fK_rootOfBoth a1 a2 m), .long o11.1, .ref 34, .long o10.1, .ref 34]) rfl ?_
  obtain ⟨o12, ho12, h⟩ := tk_bnd h
  refine tk_cV1  rfl rfl (r := 34) (as := [.long o11.1, .long (fK_rootOfBoth a1 a2 m)]) (rest := [.long o10.1, .ref 34]) rfl ly34 rfl rfl (ok_fK_times sc o11.1 (fK_rootOfBoth a1 a2 m) o11.2 ho12) ?_
  obtain ⟨o13, ho13, h⟩ := tk_lete h
  refine tk_cV1  rfl rfl (r := 34) (as := [.long o10.1, .long o12.1]) (rest := []) rfl ly34 rfl rfl (ok_fK_minus sc o10.1 o12.1 o12.2 ho13) ?_
  refine tk_Ps  7 (pc' := 130) (ls' := [(9, .long o13.1), (7, .long o9.1), (5, .long o5.1), (3, .long (fK_rootOfBoth a1 a2 m)), (0, .ref 34), (1, .ref a1), (2, .ref a2)]) (st' := [.ref a1, .ref 34, .long (fK_rootOfBoth a1 a2 m), .long o9.1, .long o5.1, .ref 34]) rfl ?_
  refine tk_cV1  rfl rfl (r := a1) (as := []) (rest := [.ref 34, .long (fK_rootOfBoth a1 a2 m), .long o9.1, .long o5.1, .ref 34]) rfl ha1 rfl rfl (ok_fN_m sc a1 o13.2 ha1) ?_
  refine tk_Ps  1 (pc' := 135) (ls' := [(9, .long o13.1), (7, .long o9.1), (5, .long o5.1), (3, .long (fK_rootOfBoth a1 a2 m)), (0, .ref 34), (1, .ref a1), (2, .ref a2)]) (st' := [.long o13.1, .long (fN_m a1 o13.2), .ref 34, .long (fK_rootOfBoth a1 a2 m), .long o9.1, .long o5.1, .ref 34]) rfl ?_
  obtain ⟨o14, ho14, h⟩ := tk_bnd h
  refine tk_cV1  rfl rfl (r := 34) (as := [.long (fN_m a1 o13.2), .long o13.1]) (rest := [.long (fK_rootOfBoth a1 a2 m), .long o9.1, .long o5.1, .ref 34]) rfl ly34 rfl rfl (ok_fK_times sc (fN_m a1 o13.2) o13.1 o13.2 ho14) ?_
  obtain ⟨o15, ho15, h⟩ := tk_bnd h
  refine tk_cV1  rfl rfl (r := 34) (as := [.long o5.1, .long o9.1, .long (fK_rootOfBoth a1 a2 m), .long o14.1]) (rest := []) rfl ly34 rfl rfl (ok_fK_conclude sc o5.1 o9.1 (fK_rootOfBoth a1 a2 m) o14.1 o14.2 ho15) ?_
  replace h := Option.some.inj h
  subst h
  exact tk_RB (b := o15.1)  rfl rfl rfl
theorem ok_fK_workOut (sc : tk_X) (a1 : Nat) (a2 : Nat) (a3 : Int32) (m : tk_m) (ha1 : tk_lay[a1]? = some (.inl 4)) (ha2 : tk_lay[a2]? = some (.inl 4)) {out : Bool × tk_m} (h : fK_workOut a1 a2 a3 m = some out) : tk_Ru sc 6 149 [.ref 34, .ref a1, .ref a2, .int a3] (tk_full m) (some (.int (tk_b out.1)), tk_full out.2) := by
  unfold fK_workOut at h
  refine tk_Ru0 me149 (ls := [(0, .ref 34), (1, .ref a1), (2, .ref a2), (3, .int a3)]) rfl rfl ?_
  refine tk_Ps  2 (pc' := 2) (ls' := [(0, .ref 34), (1, .ref a1), (2, .ref a2), (3, .int a3)]) (st' := [.int (0 : Int32), .ref 34]) rfl ?_
  refine tk_SB (b := false)  rfl rfl ly34 ?_
  refine tk_Ps  1 (pc' := 6) (ls' := [(0, .ref 34), (1, .ref a1), (2, .ref a2), (3, .int a3)]) (st' := [.int a3]) rfl ?_
  by_cases hs1 : a3 = 0
  · replace h := tk_ifT hs1 h
    refine tk_sw  rfl rfl hs1 rfl (pc' := 32) (ls' := [(0, .ref 34), (1, .ref a1), (2, .ref a2), (3, .int a3)]) (st' := []) ?_
    refine tk_Ps  3 (pc' := 35) (ls' := [(0, .ref 34), (1, .ref a1), (2, .ref a2), (3, .int a3)]) (st' := [.ref a2, .ref a1, .ref 34]) rfl ?_
    obtain ⟨o2, ho2, h⟩ := tk_bnd h
    refine tk_cV1  rfl rfl (r := 34) (as := [.ref a1, .ref a2]) (rest := []) rfl ly34 rfl rfl (ok_fK_addUp sc a1 a2 (m.1, m.2.1, tk_u2 m.2.2.1 34 0 false, m.2.2.2) ha1 ha2 ho2) ?_
    replace h := Option.some.inj h
    subst h
    exact tk_RB (b := o2.1)  rfl rfl rfl
  replace h := tk_ifF hs1 h
  by_cases hs3 : a3 = 1
  · replace h := tk_ifT hs3 h
    refine tk_sw  rfl rfl hs3 rfl (pc' := 39) (ls' := [(0, .ref 34), (1, .ref a1), (2, .ref a2), (3, .int a3)]) (st' := []) ?_
    refine tk_Ps  3 (pc' := 42) (ls' := [(0, .ref 34), (1, .ref a1), (2, .ref a2), (3, .int a3)]) (st' := [.ref a2, .ref a1, .ref 34]) rfl ?_
    obtain ⟨o4, ho4, h⟩ := tk_bnd h
    refine tk_cV1  rfl rfl (r := 34) (as := [.ref a1, .ref a2]) (rest := []) rfl ly34 rfl rfl (ok_fK_takeOff sc a1 a2 (m.1, m.2.1, tk_u2 m.2.2.1 34 0 false, m.2.2.2) ha1 ha2 ho4) ?_
    replace h := Option.some.inj h
    subst h
    exact tk_RB (b := o4.1)  rfl rfl rfl
  replace h := tk_ifF hs3 h
  by_cases hs5 : a3 = 2
  · replace h := tk_ifT hs5 h
    refine tk_sw  rfl rfl hs5 rfl (pc' := 46) (ls' := [(0, .ref 34), (1, .ref a1), (2, .ref a2), (3, .int a3)]) (st' := []) ?_
    refine tk_Ps  3 (pc' := 49) (ls' := [(0, .ref 34), (1, .ref a1), (2, .ref a2), (3, .int a3)]) (st' := [.ref a2, .ref a1, .ref 34]) rfl ?_
    obtain ⟨o6, ho6, h⟩ := tk_bnd h
    refine tk_cV1  rfl rfl (r := 34) (as := [.ref a1, .ref a2]) (rest := []) rfl ly34 rfl rfl (ok_fK_multiply sc a1 a2 (m.1, m.2.1, tk_u2 m.2.2.1 34 0 false, m.2.2.2) ha1 ha2 ho6) ?_
    replace h := Option.some.inj h
    subst h
    exact tk_RB (b := o6.1)  rfl rfl rfl
  replace h := tk_ifF hs5 h
  refine tk_swD  rfl rfl (tk_swo_0_2 hs1 hs3 hs5) rfl rfl (pc' := 53) (ls' := [(0, .ref 34), (1, .ref a1), (2, .ref a2), (3, .int a3)]) (st' := []) ?_
  refine tk_Ps  3 (pc' := 56) (ls' := [(0, .ref 34), (1, .ref a1), (2, .ref a2), (3, .int a3)]) (st' := [.ref a2, .ref a1, .ref 34]) rfl ?_
  obtain ⟨o7, ho7, h⟩ := tk_bnd h
  refine tk_cV1  rfl rfl (r := 34) (as := [.ref a1, .ref a2]) (rest := []) rfl ly34 rfl rfl (ok_fK_divide sc a1 a2 (m.1, m.2.1, tk_u2 m.2.2.1 34 0 false, m.2.2.2) ha1 ha2 ho7) ?_
  replace h := Option.some.inj h
  subst h
  exact tk_RB (b := o7.1)  rfl rfl rfl
theorem ok_fX_work_145 (sc : tk_X) (v1 : Int32) (v4 : Int32) (v5 : Nat) (v6 : Nat) (m : tk_m) (hv5 : tk_lay[v5]? = some (.inl 4)) (hv6 : tk_lay[v6]? = some (.inl 4)) (out : Int32 × tk_m) (h : fX_work_145 v1 v4 v5 v6 m = some out) : tk_Ex sc 6 tk_r147 tk_k147 145 [(0, .ref 0), (1, .int v1), (4, .int v4), (5, .ref v5), (6, .ref v6)] [] (tk_full m) (some (.int out.1), tk_full out.2) := by
  unfold fX_work_145 at h
  refine tk_Ps  1 (pc' := 146) (ls' := [(0, .ref 0), (1, .int v1), (4, .int v4), (5, .ref v5), (6, .ref v6)]) (st' := [.ref 0]) rfl ?_
  refine tk_HR  rfl rfl ly0 rt0_6 ?_
  refine tk_Ps  3 (pc' := 155) (ls' := [(0, .ref 0), (1, .int v1), (4, .int v4), (5, .ref v5), (6, .ref v6)]) (st' := [.int v4, .ref v6, .ref v5, .ref 34]) rfl ?_
  obtain ⟨o1, ho1, h⟩ := tk_bnd h
  refine tk_cV1  rfl rfl (r := 34) (as := [.ref v5, .ref v6, .int v4]) (rest := []) rfl ly34 rfl rfl (ok_fK_workOut sc v5 v6 v4 m hv5 hv6 ho1) ?_
  by_cases hc2 : o1.1 = true
  · replace h := tk_ifT hc2 h
    refine tk_bT  rfl rfl tk_eB_ne (c := o1.1 = true) hc2 (pc' := 168) (ls' := [(0, .ref 0), (1, .int v1), (4, .int v4), (5, .ref v5), (6, .ref v6)]) (st' := []) ?_
    refine tk_Ps  1 (pc' := 169) (ls' := [(0, .ref 0), (1, .int v1), (4, .int v4), (5, .ref v5), (6, .ref v6)]) (st' := [.ref 0]) rfl ?_
    refine tk_HR  rfl rfl ly0 rt0_3 ?_
    refine tk_Ps  1 (pc' := 173) (ls' := [(0, .ref 0), (1, .int v1), (4, .int v4), (5, .ref v5), (6, .ref v6)]) (st' := [.int v1, .ref 11]) rfl ?_
    obtain ⟨hg3, h⟩ := tk_grd h
    refine tk_HQ  rfl rfl ly11 hg3 (la11 _ (hg3).2).1 ?_
    refine tk_Ps  1 (pc' := 175) (ls' := [(0, .ref 0), (1, .int v1), (4, .int v4), (5, .ref v5), (6, .ref v6)]) (st' := [.ref 0, .ref (254 + 2 * (tk_n v1))]) rfl ?_
    refine tk_HR  rfl rfl ly0 rt0_6 ?_
    refine tk_HR  rfl rfl ly34 rt34_1 ?_
    obtain ⟨o4, ho4, h⟩ := tk_lete h
    refine tk_cV0  rfl rfl (r := (254 + 2 * (tk_n v1))) (as := [.ref 35]) (rest := []) rfl ((la11 _ (hg3).2).2) rfl rfl (ok_fN_become sc (254 + 2 * (tk_n v1)) 35 o1.2 ((la11 _ (hg3).2).2) ly35 ho4) ?_
    refine tk_Ps  1 (pc' := 185) (ls' := [(0, .ref 0), (1, .int v1), (4, .int v4), (5, .ref v5), (6, .ref v6)]) (st' := [.int (1 : Int32)]) rfl ?_
    replace h := Option.some.inj h
    subst h
    exact tk_RI  rfl rfl rfl
  · replace h := tk_ifF hc2 h
    refine tk_bF  rfl rfl tk_eB_ne (c := o1.1 = true) hc2 (pc' := 161) (ls' := [(0, .ref 0), (1, .int v1), (4, .int v4), (5, .ref v5), (6, .ref v6)]) (st' := []) ?_
    refine tk_Ps  2 (pc' := 164) (ls' := [(0, .ref 0), (1, .int v1), (4, .int v4), (5, .ref v5), (6, .ref v6)]) (st' := [.int (7 : Int32), .ref 0]) rfl ?_
    obtain ⟨o5, ho5, h⟩ := tk_bnd h
    refine tk_cV1  rfl rfl (r := 0) (as := [.int (7 : Int32)]) (rest := []) rfl ly0 rfl rfl (ok_fX_finding sc (7 : Int32) o1.2 ho5) ?_
    replace h := Option.some.inj h
    subst h
    exact tk_RI  rfl rfl rfl
theorem ok_fX_work_113 (sc : tk_X) (v1 : Int32) (v4 : Int32) (v5 : Nat) (v6 : Nat) (m : tk_m) (hv5 : tk_lay[v5]? = some (.inl 4)) (hv6 : tk_lay[v6]? = some (.inl 4)) (out : Int32 × tk_m) (h : fX_work_113 v1 v4 v5 v6 m = some out) : tk_Ex sc 6 tk_r147 tk_k147 113 [(0, .ref 0), (1, .int v1), (4, .int v4), (5, .ref v5), (6, .ref v6)] [] (tk_full m) (some (.int out.1), tk_full out.2) := by
  unfold fX_work_113 at h
  refine tk_Ps  2 (pc' := 116) (ls' := [(0, .ref 0), (1, .int v1), (4, .int v4), (5, .ref v5), (6, .ref v6)]) (st' := [.int (3 : Int32), .int v4]) rfl ?_
  by_cases hc1 : v4 = (3 : Int32)
  · replace h := tk_ifT hc1 h
    refine tk_bT  rfl rfl rfl (c := v4 = (3 : Int32)) hc1 (pc' := 119) (ls' := [(0, .ref 0), (1, .int v1), (4, .int v4), (5, .ref v5), (6, .ref v6)]) (st' := []) ?_
    refine tk_Ps  1 (pc' := 121) (ls' := [(0, .ref 0), (1, .int v1), (4, .int v4), (5, .ref v5), (6, .ref v6)]) (st' := [.ref v6]) rfl ?_
    refine tk_cV1  rfl rfl (r := v6) (as := []) (rest := []) rfl hv6 rfl rfl (ok_fN_p sc v6 m hv6) ?_
    refine tk_Ps  2 (pc' := 126) (ls' := [(0, .ref 0), (1, .int v1), (4, .int v4), (5, .ref v5), (6, .ref v6)]) (st' := [.int (lg_cmp (fN_p v6 m) (0 : Int64))]) rfl ?_
    by_cases hc2 : (fN_p v6 m) = (0 : Int64)
    · replace h := tk_ifT hc2 h
      refine tk_bT  rfl rfl tk_eL_ne (c := (fN_p v6 m) = (0 : Int64)) hc2 (pc' := 129) (ls' := [(0, .ref 0), (1, .int v1), (4, .int v4), (5, .ref v5), (6, .ref v6)]) (st' := []) ?_
      refine tk_Ps  1 (pc' := 131) (ls' := [(0, .ref 0), (1, .int v1), (4, .int v4), (5, .ref v5), (6, .ref v6)]) (st' := [.ref v6]) rfl ?_
      refine tk_cV1  rfl rfl (r := v6) (as := []) (rest := []) rfl hv6 rfl rfl (ok_fN_q sc v6 m hv6) ?_
      refine tk_Ps  2 (pc' := 136) (ls' := [(0, .ref 0), (1, .int v1), (4, .int v4), (5, .ref v5), (6, .ref v6)]) (st' := [.int (lg_cmp (fN_q v6 m) (0 : Int64))]) rfl ?_
      by_cases hc3 : (fN_q v6 m) = (0 : Int64)
      · replace h := tk_ifT hc3 h
        refine tk_bT  rfl rfl tk_eL_ne (c := (fN_q v6 m) = (0 : Int64)) hc3 (pc' := 139) (ls' := [(0, .ref 0), (1, .int v1), (4, .int v4), (5, .ref v5), (6, .ref v6)]) (st' := []) ?_
        refine tk_Ps  2 (pc' := 141) (ls' := [(0, .ref 0), (1, .int v1), (4, .int v4), (5, .ref v5), (6, .ref v6)]) (st' := [.int (4 : Int32), .ref 0]) rfl ?_
        obtain ⟨o4, ho4, h⟩ := tk_bnd h
        refine tk_cV1  rfl rfl (r := 0) (as := [.int (4 : Int32)]) (rest := []) rfl ly0 rfl rfl (ok_fX_finding sc (4 : Int32) m ho4) ?_
        replace h := Option.some.inj h
        subst h
        exact tk_RI  rfl rfl rfl
      · replace h := tk_ifF hc3 h
        refine tk_bF  rfl rfl tk_eL_ne (c := (fN_q v6 m) = (0 : Int64)) hc3 (pc' := 145) (ls' := [(0, .ref 0), (1, .int v1), (4, .int v4), (5, .ref v5), (6, .ref v6)]) (st' := []) ?_
        refine tk_Kp  (ls' := [(0, .ref 0), (1, .int v1), (4, .int v4), (5, .ref v5), (6, .ref v6)]) rfl rfl ?_
        exact ok_fX_work_145 sc v1 v4 v5 v6 m hv5 hv6 _ h
    · replace h := tk_ifF hc2 h
      refine tk_bF  rfl rfl tk_eL_ne (c := (fN_p v6 m) = (0 : Int64)) hc2 (pc' := 145) (ls' := [(0, .ref 0), (1, .int v1), (4, .int v4), (5, .ref v5), (6, .ref v6)]) (st' := []) ?_
      refine tk_Kp  (ls' := [(0, .ref 0), (1, .int v1), (4, .int v4), (5, .ref v5), (6, .ref v6)]) rfl rfl ?_
      exact ok_fX_work_145 sc v1 v4 v5 v6 m hv5 hv6 _ h
  · replace h := tk_ifF hc1 h
    refine tk_bF  rfl rfl rfl (c := v4 = (3 : Int32)) hc1 (pc' := 145) (ls' := [(0, .ref 0), (1, .int v1), (4, .int v4), (5, .ref v5), (6, .ref v6)]) (st' := []) ?_
    refine tk_Kp  (ls' := [(0, .ref 0), (1, .int v1), (4, .int v4), (5, .ref v5), (6, .ref v6)]) rfl rfl ?_
    exact ok_fX_work_145 sc v1 v4 v5 v6 m hv5 hv6 _ h
theorem ok_fX_work (sc : tk_X) (a1 : Int32) (a2 : Int32) (a3 : Int32) (a4 : Int32) (m : tk_m) {out : Int32 × tk_m} (h : fX_work a1 a2 a3 a4 m = some out) : tk_Ru sc 7 147 [.ref 0, .int a1, .int a2, .int a3, .int a4] (tk_full m) (some (.int out.1), tk_full out.2) := by
  unfold fX_work at h
  refine tk_Ru0 me147 (ls := [(0, .ref 0), (1, .int a1), (2, .int a2), (3, .int a3), (4, .int a4)]) rfl rfl ?_
  refine tk_Ps  1 (pc' := 1) (ls' := [(0, .ref 0), (1, .int a1), (2, .int a2), (3, .int a3), (4, .int a4)]) (st' := [.int a1]) rfl ?_
  refine tk_cS1  rfl rfl (as := [.int a1]) (rest := []) rfl rfl rfl (ok_fX_isSpot sc a1 m) ?_
  by_cases hc1 : (fX_isSpot a1) = true
  · replace h := tk_ifT hc1 h
    refine tk_bT  rfl rfl tk_eB_eq (c := (fX_isSpot a1) = true) hc1 (pc' := 7) (ls' := [(0, .ref 0), (1, .int a1), (2, .int a2), (3, .int a3), (4, .int a4)]) (st' := []) ?_
    refine tk_Ps  1 (pc' := 8) (ls' := [(0, .ref 0), (1, .int a1), (2, .int a2), (3, .int a3), (4, .int a4)]) (st' := [.int a2]) rfl ?_
    refine tk_cS1  rfl rfl (as := [.int a2]) (rest := []) rfl rfl rfl (ok_fX_isSpot sc a2 m) ?_
    by_cases hc2 : (fX_isSpot a2) = true
    · replace h := tk_ifT hc2 h
      refine tk_bT  rfl rfl tk_eB_eq (c := (fX_isSpot a2) = true) hc2 (pc' := 14) (ls' := [(0, .ref 0), (1, .int a1), (2, .int a2), (3, .int a3), (4, .int a4)]) (st' := []) ?_
      refine tk_Ps  1 (pc' := 15) (ls' := [(0, .ref 0), (1, .int a1), (2, .int a2), (3, .int a3), (4, .int a4)]) (st' := [.int a3]) rfl ?_
      refine tk_cS1  rfl rfl (as := [.int a3]) (rest := []) rfl rfl rfl (ok_fX_isSpot sc a3 m) ?_
      by_cases hc3 : (fX_isSpot a3) = true
      · replace h := tk_ifT hc3 h
        refine tk_bT  rfl rfl tk_eB_eq (c := (fX_isSpot a3) = true) hc3 (pc' := 21) (ls' := [(0, .ref 0), (1, .int a1), (2, .int a2), (3, .int a3), (4, .int a4)]) (st' := []) ?_
        refine tk_Ps  3 (pc' := 25) (ls' := [(0, .ref 0), (1, .int a1), (2, .int a2), (3, .int a3), (4, .int a4)]) (st' := [.int (3 : Int32), .int (0 : Int32), .int a4]) rfl ?_
        refine tk_cS1  rfl rfl (as := [.int a4, .int (0 : Int32), .int (3 : Int32)]) (rest := []) rfl rfl rfl (ok_fX_isWithin sc a4 (0 : Int32) (3 : Int32) m) ?_
        by_cases hc4 : (fX_isWithin a4 (0 : Int32) (3 : Int32)) = true
        · replace h := tk_ifT hc4 h
          refine tk_bT  rfl rfl tk_eB_ne (c := (fX_isWithin a4 (0 : Int32) (3 : Int32)) = true) hc4 (pc' := 37) (ls' := [(0, .ref 0), (1, .int a1), (2, .int a2), (3, .int a3), (4, .int a4)]) (st' := []) ?_
          refine tk_Ps  1 (pc' := 38) (ls' := [(0, .ref 0), (1, .int a1), (2, .int a2), (3, .int a3), (4, .int a4)]) (st' := [.ref 0]) rfl ?_
          refine tk_HR  rfl rfl ly0 rt0_3 ?_
          refine tk_Ps  1 (pc' := 42) (ls' := [(0, .ref 0), (1, .int a1), (2, .int a2), (3, .int a3), (4, .int a4)]) (st' := [.int a2, .ref 11]) rfl ?_
          obtain ⟨hg5, h⟩ := tk_grd h
          refine tk_HQ  rfl rfl ly11 hg5 (la11 _ (hg5).2).1 ?_
          refine tk_Ps  2 (pc' := 46) (ls' := [(5, .ref (254 + 2 * (tk_n a2))), (0, .ref 0), (1, .int a1), (2, .int a2), (3, .int a3), (4, .int a4)]) (st' := [.ref 0]) rfl ?_
          refine tk_HR  rfl rfl ly0 rt0_3 ?_
          refine tk_Ps  1 (pc' := 50) (ls' := [(5, .ref (254 + 2 * (tk_n a2))), (0, .ref 0), (1, .int a1), (2, .int a2), (3, .int a3), (4, .int a4)]) (st' := [.int a3, .ref 11]) rfl ?_
          obtain ⟨hg6, h⟩ := tk_grd h
          refine tk_HQ  rfl rfl ly11 hg6 (la11 _ (hg6).2).1 ?_
          refine tk_Ps  2 (pc' := 55) (ls' := [(6, .ref (254 + 2 * (tk_n a3))), (5, .ref (254 + 2 * (tk_n a2))), (0, .ref 0), (1, .int a1), (2, .int a2), (3, .int a3), (4, .int a4)]) (st' := [.ref (254 + 2 * (tk_n a2))]) rfl ?_
          refine tk_HB  rfl rfl ((la11 _ (hg5).2).2) ?_
          by_cases hc7 : (m.2.2.1 (254 + 2 * (tk_n a2)) 0) = true
          · replace h := tk_ifT hc7 h
            refine tk_bT  rfl rfl tk_eB_eq (c := (m.2.2.1 (254 + 2 * (tk_n a2)) 0) = true) hc7 (pc' := 61) (ls' := [(6, .ref (254 + 2 * (tk_n a3))), (5, .ref (254 + 2 * (tk_n a2))), (0, .ref 0), (1, .int a1), (2, .int a2), (3, .int a3), (4, .int a4)]) (st' := []) ?_
            refine tk_Ps  1 (pc' := 63) (ls' := [(6, .ref (254 + 2 * (tk_n a3))), (5, .ref (254 + 2 * (tk_n a2))), (0, .ref 0), (1, .int a1), (2, .int a2), (3, .int a3), (4, .int a4)]) (st' := [.ref (254 + 2 * (tk_n a3))]) rfl ?_
            refine tk_HB  rfl rfl ((la11 _ (hg6).2).2) ?_
            by_cases hc8 : (m.2.2.1 (254 + 2 * (tk_n a3)) 0) = true
            · replace h := tk_ifT hc8 h
              refine tk_bT  rfl rfl tk_eB_ne (c := (m.2.2.1 (254 + 2 * (tk_n a3)) 0) = true) hc8 (pc' := 75) (ls' := [(6, .ref (254 + 2 * (tk_n a3))), (5, .ref (254 + 2 * (tk_n a2))), (0, .ref 0), (1, .int a1), (2, .int a2), (3, .int a3), (4, .int a4)]) (st' := []) ?_
              refine tk_Ps  2 (pc' := 78) (ls' := [(6, .ref (254 + 2 * (tk_n a3))), (5, .ref (254 + 2 * (tk_n a2))), (0, .ref 0), (1, .int a1), (2, .int a2), (3, .int a3), (4, .int a4)]) (st' := [.int (1 : Int32), .ref (254 + 2 * (tk_n a2))]) rfl ?_
              refine tk_cV1  rfl rfl (r := (254 + 2 * (tk_n a2))) (as := [.int (1 : Int32)]) (rest := []) rfl ((la11 _ (hg5).2).2) rfl rfl (ok_fN_isOf sc (254 + 2 * (tk_n a2)) (1 : Int32) m ((la11 _ (hg5).2).2)) ?_
              by_cases hc9 : (fN_isOf (254 + 2 * (tk_n a2)) (1 : Int32) m) = true
              · replace h := tk_ifT hc9 h
                refine tk_bT  rfl rfl tk_eB_eq (c := (fN_isOf (254 + 2 * (tk_n a2)) (1 : Int32) m) = true) hc9 (pc' := 84) (ls' := [(6, .ref (254 + 2 * (tk_n a3))), (5, .ref (254 + 2 * (tk_n a2))), (0, .ref 0), (1, .int a1), (2, .int a2), (3, .int a3), (4, .int a4)]) (st' := []) ?_
                refine tk_Ps  2 (pc' := 87) (ls' := [(6, .ref (254 + 2 * (tk_n a3))), (5, .ref (254 + 2 * (tk_n a2))), (0, .ref 0), (1, .int a1), (2, .int a2), (3, .int a3), (4, .int a4)]) (st' := [.int (1 : Int32), .ref (254 + 2 * (tk_n a3))]) rfl ?_
                refine tk_cV1  rfl rfl (r := (254 + 2 * (tk_n a3))) (as := [.int (1 : Int32)]) (rest := []) rfl ((la11 _ (hg6).2).2) rfl rfl (ok_fN_isOf sc (254 + 2 * (tk_n a3)) (1 : Int32) m ((la11 _ (hg6).2).2)) ?_
                by_cases hc10 : (fN_isOf (254 + 2 * (tk_n a3)) (1 : Int32) m) = true
                · replace h := tk_ifT hc10 h
                  refine tk_bT  rfl rfl tk_eB_eq (c := (fN_isOf (254 + 2 * (tk_n a3)) (1 : Int32) m) = true) hc10 (pc' := 93) (ls' := [(6, .ref (254 + 2 * (tk_n a3))), (5, .ref (254 + 2 * (tk_n a2))), (0, .ref 0), (1, .int a1), (2, .int a2), (3, .int a3), (4, .int a4)]) (st' := []) ?_
                  refine tk_Ps  1 (pc' := 95) (ls' := [(6, .ref (254 + 2 * (tk_n a3))), (5, .ref (254 + 2 * (tk_n a2))), (0, .ref 0), (1, .int a1), (2, .int a2), (3, .int a3), (4, .int a4)]) (st' := [.ref (254 + 2 * (tk_n a2))]) rfl ?_
                  refine tk_HJ  rfl rfl ((la11 _ (hg5).2).2) ?_
                  refine tk_Ps  1 (pc' := 100) (ls' := [(6, .ref (254 + 2 * (tk_n a3))), (5, .ref (254 + 2 * (tk_n a2))), (0, .ref 0), (1, .int a1), (2, .int a2), (3, .int a3), (4, .int a4)]) (st' := [.ref (254 + 2 * (tk_n a3)), .long (m.2.1 (254 + 2 * (tk_n a2)) 2)]) rfl ?_
                  refine tk_HJ  rfl rfl ((la11 _ (hg6).2).2) ?_
                  refine tk_Ps  1 (pc' := 104) (ls' := [(6, .ref (254 + 2 * (tk_n a3))), (5, .ref (254 + 2 * (tk_n a2))), (0, .ref 0), (1, .int a1), (2, .int a2), (3, .int a3), (4, .int a4)]) (st' := [.int (lg_cmp (m.2.1 (254 + 2 * (tk_n a2)) 2) (m.2.1 (254 + 2 * (tk_n a3)) 2))]) rfl ?_
                  by_cases hc11 : (m.2.1 (254 + 2 * (tk_n a2)) 2) = (m.2.1 (254 + 2 * (tk_n a3)) 2)
                  · replace h := tk_ifT hc11 h
                    refine tk_bT  rfl rfl tk_eL_eq (c := (m.2.1 (254 + 2 * (tk_n a2)) 2) = (m.2.1 (254 + 2 * (tk_n a3)) 2)) hc11 (pc' := 113) (ls' := [(6, .ref (254 + 2 * (tk_n a3))), (5, .ref (254 + 2 * (tk_n a2))), (0, .ref 0), (1, .int a1), (2, .int a2), (3, .int a3), (4, .int a4)]) (st' := []) ?_
                    refine tk_Kp  (ls' := [(0, .ref 0), (1, .int a1), (4, .int a4), (5, .ref (254 + 2 * (tk_n a2))), (6, .ref (254 + 2 * (tk_n a3)))]) rfl rfl ?_
                    exact ok_fX_work_113 sc a1 a4 (254 + 2 * (tk_n a2)) (254 + 2 * (tk_n a3)) m ((la11 _ (hg5).2).2) ((la11 _ (hg6).2).2) _ h
                  · replace h := tk_ifF hc11 h
                    refine tk_bF  rfl rfl tk_eL_eq (c := (m.2.1 (254 + 2 * (tk_n a2)) 2) = (m.2.1 (254 + 2 * (tk_n a3)) 2)) hc11 (pc' := 107) (ls' := [(6, .ref (254 + 2 * (tk_n a3))), (5, .ref (254 + 2 * (tk_n a2))), (0, .ref 0), (1, .int a1), (2, .int a2), (3, .int a3), (4, .int a4)]) (st' := []) ?_
                    refine tk_Ps  2 (pc' := 109) (ls' := [(6, .ref (254 + 2 * (tk_n a3))), (5, .ref (254 + 2 * (tk_n a2))), (0, .ref 0), (1, .int a1), (2, .int a2), (3, .int a3), (4, .int a4)]) (st' := [.int (2 : Int32), .ref 0]) rfl ?_
                    obtain ⟨o12, ho12, h⟩ := tk_bnd h
                    refine tk_cV1  rfl rfl (r := 0) (as := [.int (2 : Int32)]) (rest := []) rfl ly0 rfl rfl (ok_fX_finding sc (2 : Int32) m ho12) ?_
                    replace h := Option.some.inj h
                    subst h
                    exact tk_RI  rfl rfl rfl
                · replace h := tk_ifF hc10 h
                  refine tk_bF  rfl rfl tk_eB_eq (c := (fN_isOf (254 + 2 * (tk_n a3)) (1 : Int32) m) = true) hc10 (pc' := 113) (ls' := [(6, .ref (254 + 2 * (tk_n a3))), (5, .ref (254 + 2 * (tk_n a2))), (0, .ref 0), (1, .int a1), (2, .int a2), (3, .int a3), (4, .int a4)]) (st' := []) ?_
                  refine tk_Kp  (ls' := [(0, .ref 0), (1, .int a1), (4, .int a4), (5, .ref (254 + 2 * (tk_n a2))), (6, .ref (254 + 2 * (tk_n a3)))]) rfl rfl ?_
                  exact ok_fX_work_113 sc a1 a4 (254 + 2 * (tk_n a2)) (254 + 2 * (tk_n a3)) m ((la11 _ (hg5).2).2) ((la11 _ (hg6).2).2) _ h
              · replace h := tk_ifF hc9 h
                refine tk_bF  rfl rfl tk_eB_eq (c := (fN_isOf (254 + 2 * (tk_n a2)) (1 : Int32) m) = true) hc9 (pc' := 113) (ls' := [(6, .ref (254 + 2 * (tk_n a3))), (5, .ref (254 + 2 * (tk_n a2))), (0, .ref 0), (1, .int a1), (2, .int a2), (3, .int a3), (4, .int a4)]) (st' := []) ?_
                refine tk_Kp  (ls' := [(0, .ref 0), (1, .int a1), (4, .int a4), (5, .ref (254 + 2 * (tk_n a2))), (6, .ref (254 + 2 * (tk_n a3)))]) rfl rfl ?_
                exact ok_fX_work_113 sc a1 a4 (254 + 2 * (tk_n a2)) (254 + 2 * (tk_n a3)) m ((la11 _ (hg5).2).2) ((la11 _ (hg6).2).2) _ h
            · replace h := tk_ifF hc8 h
              refine tk_bF  rfl rfl tk_eB_ne (c := (m.2.2.1 (254 + 2 * (tk_n a3)) 0) = true) hc8 (pc' := 69) (ls' := [(6, .ref (254 + 2 * (tk_n a3))), (5, .ref (254 + 2 * (tk_n a2))), (0, .ref 0), (1, .int a1), (2, .int a2), (3, .int a3), (4, .int a4)]) (st' := []) ?_
              refine tk_Ps  2 (pc' := 71) (ls' := [(6, .ref (254 + 2 * (tk_n a3))), (5, .ref (254 + 2 * (tk_n a2))), (0, .ref 0), (1, .int a1), (2, .int a2), (3, .int a3), (4, .int a4)]) (st' := [.int (5 : Int32), .ref 0]) rfl ?_
              obtain ⟨o13, ho13, h⟩ := tk_bnd h
              refine tk_cV1  rfl rfl (r := 0) (as := [.int (5 : Int32)]) (rest := []) rfl ly0 rfl rfl (ok_fX_finding sc (5 : Int32) m ho13) ?_
              replace h := Option.some.inj h
              subst h
              exact tk_RI  rfl rfl rfl
          · replace h := tk_ifF hc7 h
            refine tk_bF  rfl rfl tk_eB_eq (c := (m.2.2.1 (254 + 2 * (tk_n a2)) 0) = true) hc7 (pc' := 69) (ls' := [(6, .ref (254 + 2 * (tk_n a3))), (5, .ref (254 + 2 * (tk_n a2))), (0, .ref 0), (1, .int a1), (2, .int a2), (3, .int a3), (4, .int a4)]) (st' := []) ?_
            refine tk_Ps  2 (pc' := 71) (ls' := [(6, .ref (254 + 2 * (tk_n a3))), (5, .ref (254 + 2 * (tk_n a2))), (0, .ref 0), (1, .int a1), (2, .int a2), (3, .int a3), (4, .int a4)]) (st' := [.int (5 : Int32), .ref 0]) rfl ?_
            obtain ⟨o14, ho14, h⟩ := tk_bnd h
            refine tk_cV1  rfl rfl (r := 0) (as := [.int (5 : Int32)]) (rest := []) rfl ly0 rfl rfl (ok_fX_finding sc (5 : Int32) m ho14) ?_
            replace h := Option.some.inj h
            subst h
            exact tk_RI  rfl rfl rfl
        · replace h := tk_ifF hc4 h
          refine tk_bF  rfl rfl tk_eB_ne (c := (fX_isWithin a4 (0 : Int32) (3 : Int32)) = true) hc4 (pc' := 31) (ls' := [(0, .ref 0), (1, .int a1), (2, .int a2), (3, .int a3), (4, .int a4)]) (st' := []) ?_
          refine tk_Ps  2 (pc' := 33) (ls' := [(0, .ref 0), (1, .int a1), (2, .int a2), (3, .int a3), (4, .int a4)]) (st' := [.int (0 : Int32), .ref 0]) rfl ?_
          obtain ⟨o15, ho15, h⟩ := tk_bnd h
          refine tk_cV1  rfl rfl (r := 0) (as := [.int (0 : Int32)]) (rest := []) rfl ly0 rfl rfl (ok_fX_finding sc (0 : Int32) m ho15) ?_
          replace h := Option.some.inj h
          subst h
          exact tk_RI  rfl rfl rfl
      · replace h := tk_ifF hc3 h
        refine tk_bF  rfl rfl tk_eB_eq (c := (fX_isSpot a3) = true) hc3 (pc' := 31) (ls' := [(0, .ref 0), (1, .int a1), (2, .int a2), (3, .int a3), (4, .int a4)]) (st' := []) ?_
        refine tk_Ps  2 (pc' := 33) (ls' := [(0, .ref 0), (1, .int a1), (2, .int a2), (3, .int a3), (4, .int a4)]) (st' := [.int (0 : Int32), .ref 0]) rfl ?_
        obtain ⟨o16, ho16, h⟩ := tk_bnd h
        refine tk_cV1  rfl rfl (r := 0) (as := [.int (0 : Int32)]) (rest := []) rfl ly0 rfl rfl (ok_fX_finding sc (0 : Int32) m ho16) ?_
        replace h := Option.some.inj h
        subst h
        exact tk_RI  rfl rfl rfl
    · replace h := tk_ifF hc2 h
      refine tk_bF  rfl rfl tk_eB_eq (c := (fX_isSpot a2) = true) hc2 (pc' := 31) (ls' := [(0, .ref 0), (1, .int a1), (2, .int a2), (3, .int a3), (4, .int a4)]) (st' := []) ?_
      refine tk_Ps  2 (pc' := 33) (ls' := [(0, .ref 0), (1, .int a1), (2, .int a2), (3, .int a3), (4, .int a4)]) (st' := [.int (0 : Int32), .ref 0]) rfl ?_
      obtain ⟨o17, ho17, h⟩ := tk_bnd h
      refine tk_cV1  rfl rfl (r := 0) (as := [.int (0 : Int32)]) (rest := []) rfl ly0 rfl rfl (ok_fX_finding sc (0 : Int32) m ho17) ?_
      replace h := Option.some.inj h
      subst h
      exact tk_RI  rfl rfl rfl
  · replace h := tk_ifF hc1 h
    refine tk_bF  rfl rfl tk_eB_eq (c := (fX_isSpot a1) = true) hc1 (pc' := 31) (ls' := [(0, .ref 0), (1, .int a1), (2, .int a2), (3, .int a3), (4, .int a4)]) (st' := []) ?_
    refine tk_Ps  2 (pc' := 33) (ls' := [(0, .ref 0), (1, .int a1), (2, .int a2), (3, .int a3), (4, .int a4)]) (st' := [.int (0 : Int32), .ref 0]) rfl ?_
    obtain ⟨o18, ho18, h⟩ := tk_bnd h
    refine tk_cV1  rfl rfl (r := 0) (as := [.int (0 : Int32)]) (rest := []) rfl ly0 rfl rfl (ok_fX_finding sc (0 : Int32) m ho18) ?_
    replace h := Option.some.inj h
    subst h
    exact tk_RI  rfl rfl rfl

theorem ok_fX_isWithin (sc : tk_X) (a1 : Int32) (a2 : Int32) (a3 : Int32) (m : tk_m) : tk_Ru sc 1 12 [.int a1, .int a2, .int a3] (tk_full m) (some (.int (tk_b (fX_isWithin a1 a2 a3))), tk_full m) := by
  obtain ⟨out, h⟩ : ∃ out, fX_isWithin a1 a2 a3 = out := ⟨_, rfl⟩
  rw [h]
  unfold fX_isWithin at h
  refine tk_Ru0 me12 (ls := [(0, .int a1), (1, .int a2), (2, .int a3)]) rfl rfl ?_
  refine tk_Ps  2 (pc' := 2) (ls' := [(0, .int a1), (1, .int a2), (2, .int a3)]) (st' := [.int a2, .int a1]) rfl ?_
  by_cases hc1 : a1 < a2
  · replace h := tk_ifT hc1 h
    refine tk_bT  rfl rfl rfl (c := a1 < a2) hc1 (pc' := 14) (ls' := [(0, .int a1), (1, .int a2), (2, .int a3)]) (st' := []) ?_
    refine tk_Ps  1 (pc' := 15) (ls' := [(0, .int a1), (1, .int a2), (2, .int a3)]) (st' := [.int (0 : Int32)]) rfl ?_
    subst h
    exact tk_RB (b := false)  rfl rfl rfl
  · replace h := tk_ifF hc1 h
    refine tk_bF  rfl rfl rfl (c := a1 < a2) hc1 (pc' := 5) (ls' := [(0, .int a1), (1, .int a2), (2, .int a3)]) (st' := []) ?_
    refine tk_Ps  2 (pc' := 7) (ls' := [(0, .int a1), (1, .int a2), (2, .int a3)]) (st' := [.int a3, .int a1]) rfl ?_
    by_cases hc2 : a3 < a1
    · replace h := tk_ifT hc2 h
      refine tk_bT  rfl rfl rfl (c := a3 < a1) hc2 (pc' := 14) (ls' := [(0, .int a1), (1, .int a2), (2, .int a3)]) (st' := []) ?_
      refine tk_Ps  1 (pc' := 15) (ls' := [(0, .int a1), (1, .int a2), (2, .int a3)]) (st' := [.int (0 : Int32)]) rfl ?_
      subst h
      exact tk_RB (b := false)  rfl rfl rfl
    · replace h := tk_ifF hc2 h
      refine tk_bF  rfl rfl rfl (c := a3 < a1) hc2 (pc' := 10) (ls' := [(0, .int a1), (1, .int a2), (2, .int a3)]) (st' := []) ?_
      refine tk_Ps  2 (pc' := 15) (ls' := [(0, .int a1), (1, .int a2), (2, .int a3)]) (st' := [.int (1 : Int32)]) rfl ?_
      subst h
      exact tk_RB (b := true)  rfl rfl rfl
theorem ok_fX_finding (sc : tk_X) (a1 : Int32) (m : tk_m) {out : Int32 × tk_m} (h : fX_finding a1 m = some out) : tk_Ru sc 2 13 [.ref 0, .int a1] (tk_full m) (some (.int out.1), tk_full out.2) := by
  unfold fX_finding at h
  refine tk_Ru0 me13 (ls := [(0, .ref 0), (1, .int a1)]) rfl rfl ?_
  refine tk_Ps  3 (pc' := 4) (ls' := [(0, .ref 0), (1, .int a1)]) (st' := [.int (7 : Int32), .int (0 : Int32), .int a1]) rfl ?_
  refine tk_cS1  rfl rfl (as := [.int a1, .int (0 : Int32), .int (7 : Int32)]) (rest := []) rfl rfl rfl (ok_fX_isWithin sc a1 (0 : Int32) (7 : Int32) m) ?_
  by_cases hc1 : (fX_isWithin a1 (0 : Int32) (7 : Int32)) = true
  · replace h := tk_ifT hc1 h
    refine tk_bT  rfl rfl tk_eB_eq (c := (fX_isWithin a1 (0 : Int32) (7 : Int32)) = true) hc1 (pc' := 10) (ls' := [(0, .ref 0), (1, .int a1)]) (st' := []) ?_
    refine tk_Ps  1 (pc' := 11) (ls' := [(0, .ref 0), (1, .int a1)]) (st' := [.ref 0]) rfl ?_
    refine tk_HR  rfl rfl ly0 rt0_8 ?_
    refine tk_Ps  2 (pc' := 16) (ls' := [(0, .ref 0), (1, .int a1)]) (st' := [.int a1, .ref 202, .int a1, .ref 202]) rfl ?_
    obtain ⟨hg2, h⟩ := tk_grd h
    refine tk_HIa  rfl rfl ly202 hg2 ?_
    refine tk_Ps  2 (pc' := 19) (ls' := [(0, .ref 0), (1, .int a1)]) (st' := [.int ((m.1 202 (tk_n a1)) + (1 : Int32)), .int a1, .ref 202]) rfl ?_
    refine tk_SIa  rfl rfl ly202 hg2 ?_
    refine tk_Ps  3 (pc' := 24) (ls' := [(0, .ref 0), (1, .int a1)]) (st' := [.int ((-1000001 : Int32) - a1)]) rfl ?_
    replace h := Option.some.inj h
    subst h
    exact tk_RI  rfl rfl rfl
  · replace h := tk_ifF hc1 h
    refine tk_bF  rfl rfl tk_eB_eq (c := (fX_isWithin a1 (0 : Int32) (7 : Int32)) = true) hc1 (pc' := 20) (ls' := [(0, .ref 0), (1, .int a1)]) (st' := []) ?_
    refine tk_Ps  3 (pc' := 24) (ls' := [(0, .ref 0), (1, .int a1)]) (st' := [.int ((-1000001 : Int32) - a1)]) rfl ?_
    replace h := Option.some.inj h
    subst h
    exact tk_RI  rfl rfl rfl
theorem ok_fH_becomeRound (sc : tk_X) (t : Nat) (a1 : Int32) (a2 : Int32) (a3 : Int32) (m : tk_m) (ht : tk_lay[t]? = some (.inl 6)) {out : tk_m} (h : fH_becomeRound t a1 a2 a3 m = out) : tk_Ru sc 1 15 [.ref t, .int a1, .int a2, .int a3] (tk_full m) (none, tk_full out) := by
  unfold fH_becomeRound at h
  refine tk_Ru0 me15 (ls := [(0, .ref t), (1, .int a1), (2, .int a2), (3, .int a3)]) rfl rfl ?_
  refine tk_Ps  2 (pc' := 2) (ls' := [(0, .ref t), (1, .int a1), (2, .int a2), (3, .int a3)]) (st' := [.int (0 : Int32), .ref t]) rfl ?_
  refine tk_SB (b := false)  rfl rfl ht ?_
  refine tk_Ps  2 (pc' := 7) (ls' := [(0, .ref t), (1, .int a1), (2, .int a2), (3, .int a3)]) (st' := [.int a1, .ref t]) rfl ?_
  refine tk_SI  rfl rfl ht ?_
  refine tk_Ps  2 (pc' := 12) (ls' := [(0, .ref t), (1, .int a1), (2, .int a2), (3, .int a3)]) (st' := [.int a2, .ref t]) rfl ?_
  refine tk_SI  rfl rfl ht ?_
  refine tk_Ps  2 (pc' := 17) (ls' := [(0, .ref t), (1, .int a1), (2, .int a2), (3, .int a3)]) (st' := [.int a3, .ref t]) rfl ?_
  refine tk_SI  rfl rfl ht ?_
  subst h
  exact tk_RV  rfl rfl rfl
theorem ok_fS_grow (sc : tk_X) (t : Nat) (m : tk_m) (ht : tk_lay[t]? = some (.inl 5)) {out : Int32 × tk_m} (h : fS_grow t m = out) : tk_Ru sc 1 16 [.ref t] (tk_full m) (some (.int out.1), tk_full out.2) := by
  unfold fS_grow at h
  refine tk_Ru0 me16 (ls := [(0, .ref t)]) rfl rfl ?_
  refine tk_Ps  2 (pc' := 2) (ls' := [(0, .ref t)]) (st' := [.int (1 : Int32), .ref t]) rfl ?_
  refine tk_SB (b := true)  rfl rfl ht ?_
  refine tk_Ps  2 (pc' := 7) (ls' := [(0, .ref t)]) (st' := [.ref t, .ref t]) rfl ?_
  refine tk_HI  rfl rfl ht ?_
  refine tk_Ps  2 (pc' := 12) (ls' := [(0, .ref t)]) (st' := [.int ((m.1 t 1) + (1 : Int32)), .ref t]) rfl ?_
  refine tk_SI  rfl rfl ht ?_
  refine tk_Ps  1 (pc' := 16) (ls' := [(0, .ref t)]) (st' := [.ref t]) rfl ?_
  refine tk_HI  rfl rfl ht ?_
  refine tk_Ps  2 (pc' := 21) (ls' := [(0, .ref t)]) (st' := [.int ((tk_u2 m.1 t 1 ((m.1 t 1) + (1 : Int32)) t 1) - (1 : Int32))]) rfl ?_
  subst h
  exact tk_RI  rfl rfl rfl
theorem ok_fS_addRound (sc : tk_X) (t : Nat) (a1 : Int32) (a2 : Int32) (a3 : Int32) (m : tk_m) (ht : tk_lay[t]? = some (.inl 5)) {out : Int32 × tk_m} (h : fS_addRound t a1 a2 a3 m = some out) : tk_Ru sc 2 14 [.ref t, .int a1, .int a2, .int a3] (tk_full m) (some (.int out.1), tk_full out.2) := by
  unfold fS_addRound at h
  refine tk_Ru0 me14 (ls := [(0, .ref t), (1, .int a1), (2, .int a2), (3, .int a3)]) rfl rfl ?_
  refine tk_Ps  1 (pc' := 1) (ls' := [(0, .ref t), (1, .int a1), (2, .int a2), (3, .int a3)]) (st' := [.ref t]) rfl ?_
  refine tk_HR  rfl rfl ht (ro5_0 ht) ?_
  refine tk_Ps  1 (pc' := 5) (ls' := [(0, .ref t), (1, .int a1), (2, .int a2), (3, .int a3)]) (st' := [.ref t, .ref (t + 1)]) rfl ?_
  refine tk_HI  rfl rfl ht ?_
  obtain ⟨hg1, h⟩ := tk_grd h
  refine tk_HP  rfl rfl (lo5_0 ht) hg1 ?_
  refine tk_Ps  3 (pc' := 12) (ls' := [(0, .ref t), (1, .int a1), (2, .int a2), (3, .int a3)]) (st' := [.int a3, .int a2, .int a1, .ref ((t + 1) + 2 + (m.2.2.2 (t + 1) (tk_n (m.1 t 1))).val)]) rfl ?_
  obtain ⟨o2, ho2, h⟩ := tk_lete h
  refine tk_cV0  rfl rfl (r := ((t + 1) + 2 + (m.2.2.2 (t + 1) (tk_n (m.1 t 1))).val)) (as := [.int a1, .int a2, .int a3]) (rest := []) rfl (tk_sh (lo5_0 ht) _) rfl rfl (ok_fH_becomeRound sc ((t + 1) + 2 + (m.2.2.2 (t + 1) (tk_n (m.1 t 1))).val) a1 a2 a3 m (tk_sh (lo5_0 ht) _) ho2) ?_
  refine tk_Ps  1 (pc' := 16) (ls' := [(0, .ref t), (1, .int a1), (2, .int a2), (3, .int a3)]) (st' := [.ref t]) rfl ?_
  obtain ⟨o3, ho3, h⟩ := tk_lete h
  refine tk_cV1  rfl rfl (r := t) (as := []) (rest := []) rfl ht rfl rfl (ok_fS_grow sc t o2 ht ho3) ?_
  replace h := Option.some.inj h
  subst h
  exact tk_RI  rfl rfl rfl
theorem ok_fX_round (sc : tk_X) (a1 : Int32) (a2 : Int32) (a3 : Int32) (m : tk_m) {out : Int32 × tk_m} (h : fX_round a1 a2 a3 m = some out) : tk_Ru sc 3 11 [.ref 0, .int a1, .int a2, .int a3] (tk_full m) (some (.int out.1), tk_full out.2) := by
  unfold fX_round at h
  refine tk_Ru0 me11 (ls := [(0, .ref 0), (1, .int a1), (2, .int a2), (3, .int a3)]) rfl rfl ?_
  refine tk_Ps  3 (pc' := 4) (ls' := [(0, .ref 0), (1, .int a1), (2, .int a2), (3, .int a3)]) (st' := [.int (5 : Int32), .int (-5 : Int32), .int a1]) rfl ?_
  refine tk_cS1  rfl rfl (as := [.int a1, .int (-5 : Int32), .int (5 : Int32)]) (rest := []) rfl rfl rfl (ok_fX_isWithin sc a1 (-5 : Int32) (5 : Int32) m) ?_
  by_cases hc1 : (fX_isWithin a1 (-5 : Int32) (5 : Int32)) = true
  · replace h := tk_ifT hc1 h
    refine tk_bT  rfl rfl tk_eB_eq (c := (fX_isWithin a1 (-5 : Int32) (5 : Int32)) = true) hc1 (pc' := 10) (ls' := [(0, .ref 0), (1, .int a1), (2, .int a2), (3, .int a3)]) (st' := []) ?_
    refine tk_Ps  3 (pc' := 14) (ls' := [(0, .ref 0), (1, .int a1), (2, .int a2), (3, .int a3)]) (st' := [.int (5 : Int32), .int (-5 : Int32), .int a2]) rfl ?_
    refine tk_cS1  rfl rfl (as := [.int a2, .int (-5 : Int32), .int (5 : Int32)]) (rest := []) rfl rfl rfl (ok_fX_isWithin sc a2 (-5 : Int32) (5 : Int32) m) ?_
    by_cases hc2 : (fX_isWithin a2 (-5 : Int32) (5 : Int32)) = true
    · replace h := tk_ifT hc2 h
      refine tk_bT  rfl rfl tk_eB_eq (c := (fX_isWithin a2 (-5 : Int32) (5 : Int32)) = true) hc2 (pc' := 20) (ls' := [(0, .ref 0), (1, .int a1), (2, .int a2), (3, .int a3)]) (st' := []) ?_
      refine tk_Ps  3 (pc' := 23) (ls' := [(0, .ref 0), (1, .int a1), (2, .int a2), (3, .int a3)]) (st' := [.int (5 : Int32), .int (0 : Int32), .int a3]) rfl ?_
      refine tk_cS1  rfl rfl (as := [.int a3, .int (0 : Int32), .int (5 : Int32)]) (rest := []) rfl rfl rfl (ok_fX_isWithin sc a3 (0 : Int32) (5 : Int32) m) ?_
      by_cases hc3 : (fX_isWithin a3 (0 : Int32) (5 : Int32)) = true
      · replace h := tk_ifT hc3 h
        refine tk_bT  rfl rfl tk_eB_ne (c := (fX_isWithin a3 (0 : Int32) (5 : Int32)) = true) hc3 (pc' := 35) (ls' := [(0, .ref 0), (1, .int a1), (2, .int a2), (3, .int a3)]) (st' := []) ?_
        refine tk_Ps  1 (pc' := 36) (ls' := [(0, .ref 0), (1, .int a1), (2, .int a2), (3, .int a3)]) (st' := [.ref 0]) rfl ?_
        refine tk_HR  rfl rfl ly0 rt0_0 ?_
        refine tk_HI  rfl rfl ly1 ?_
        refine tk_Ps  1 (pc' := 44) (ls' := [(0, .ref 0), (1, .int a1), (2, .int a2), (3, .int a3)]) (st' := [.int (6 : Int32), .int (m.1 1 1)]) rfl ?_
        by_cases hc4 : (m.1 1 1) < (6 : Int32)
        · replace h := tk_ifT hc4 h
          refine tk_bT  rfl rfl rfl (c := (m.1 1 1) < (6 : Int32)) hc4 (pc' := 53) (ls' := [(0, .ref 0), (1, .int a1), (2, .int a2), (3, .int a3)]) (st' := []) ?_
          refine tk_Ps  1 (pc' := 54) (ls' := [(0, .ref 0), (1, .int a1), (2, .int a2), (3, .int a3)]) (st' := [.ref 0]) rfl ?_
          refine tk_HR  rfl rfl ly0 rt0_0 ?_
          refine tk_Ps  3 (pc' := 60) (ls' := [(0, .ref 0), (1, .int a1), (2, .int a2), (3, .int a3)]) (st' := [.int a3, .int a2, .int a1, .ref 1]) rfl ?_
          obtain ⟨o5, ho5, h⟩ := tk_bnd h
          refine tk_cV1  rfl rfl (r := 1) (as := [.int a1, .int a2, .int a3]) (rest := []) rfl ly1 rfl rfl (ok_fS_addRound sc 1 a1 a2 a3 m ly1 ho5) ?_
          replace h := Option.some.inj h
          subst h
          exact tk_RI  rfl rfl rfl
        · replace h := tk_ifF hc4 h
          refine tk_bF  rfl rfl rfl (c := (m.1 1 1) < (6 : Int32)) hc4 (pc' := 47) (ls' := [(0, .ref 0), (1, .int a1), (2, .int a2), (3, .int a3)]) (st' := []) ?_
          refine tk_Ps  2 (pc' := 49) (ls' := [(0, .ref 0), (1, .int a1), (2, .int a2), (3, .int a3)]) (st' := [.int (1 : Int32), .ref 0]) rfl ?_
          obtain ⟨o6, ho6, h⟩ := tk_bnd h
          refine tk_cV1  rfl rfl (r := 0) (as := [.int (1 : Int32)]) (rest := []) rfl ly0 rfl rfl (ok_fX_finding sc (1 : Int32) m ho6) ?_
          replace h := Option.some.inj h
          subst h
          exact tk_RI  rfl rfl rfl
      · replace h := tk_ifF hc3 h
        refine tk_bF  rfl rfl tk_eB_ne (c := (fX_isWithin a3 (0 : Int32) (5 : Int32)) = true) hc3 (pc' := 29) (ls' := [(0, .ref 0), (1, .int a1), (2, .int a2), (3, .int a3)]) (st' := []) ?_
        refine tk_Ps  2 (pc' := 31) (ls' := [(0, .ref 0), (1, .int a1), (2, .int a2), (3, .int a3)]) (st' := [.int (0 : Int32), .ref 0]) rfl ?_
        obtain ⟨o7, ho7, h⟩ := tk_bnd h
        refine tk_cV1  rfl rfl (r := 0) (as := [.int (0 : Int32)]) (rest := []) rfl ly0 rfl rfl (ok_fX_finding sc (0 : Int32) m ho7) ?_
        replace h := Option.some.inj h
        subst h
        exact tk_RI  rfl rfl rfl
    · replace h := tk_ifF hc2 h
      refine tk_bF  rfl rfl tk_eB_eq (c := (fX_isWithin a2 (-5 : Int32) (5 : Int32)) = true) hc2 (pc' := 29) (ls' := [(0, .ref 0), (1, .int a1), (2, .int a2), (3, .int a3)]) (st' := []) ?_
      refine tk_Ps  2 (pc' := 31) (ls' := [(0, .ref 0), (1, .int a1), (2, .int a2), (3, .int a3)]) (st' := [.int (0 : Int32), .ref 0]) rfl ?_
      obtain ⟨o8, ho8, h⟩ := tk_bnd h
      refine tk_cV1  rfl rfl (r := 0) (as := [.int (0 : Int32)]) (rest := []) rfl ly0 rfl rfl (ok_fX_finding sc (0 : Int32) m ho8) ?_
      replace h := Option.some.inj h
      subst h
      exact tk_RI  rfl rfl rfl
  · replace h := tk_ifF hc1 h
    refine tk_bF  rfl rfl tk_eB_eq (c := (fX_isWithin a1 (-5 : Int32) (5 : Int32)) = true) hc1 (pc' := 29) (ls' := [(0, .ref 0), (1, .int a1), (2, .int a2), (3, .int a3)]) (st' := []) ?_
    refine tk_Ps  2 (pc' := 31) (ls' := [(0, .ref 0), (1, .int a1), (2, .int a2), (3, .int a3)]) (st' := [.int (0 : Int32), .ref 0]) rfl ?_
    obtain ⟨o9, ho9, h⟩ := tk_bnd h
    refine tk_cV1  rfl rfl (r := 0) (as := [.int (0 : Int32)]) (rest := []) rfl ly0 rfl rfl (ok_fX_finding sc (0 : Int32) m ho9) ?_
    replace h := Option.some.inj h
    subst h
    exact tk_RI  rfl rfl rfl
theorem ok_fH_setSlant (sc : tk_X) (t : Nat) (a1 : Int32) (m : tk_m) (ht : tk_lay[t]? = some (.inl 6)) {out : tk_m} (h : fH_setSlant t a1 m = some out) : tk_Ru sc 2 20 [.ref t, .int a1] (tk_full m) (none, tk_full out) := by
  unfold fH_setSlant at h
  refine tk_Ru0 me20 (ls := [(0, .ref t), (1, .int a1)]) rfl rfl ?_
  refine tk_Ps  2 (pc' := 2) (ls' := [(0, .ref t), (1, .int a1)]) (st' := [.int (0 : Int32), .int a1]) rfl ?_
  refine tk_Hst  rfl rfl ?_
  refine tk_Hlk (k := 0)  rfl rfl (by decide) ?_
  refine tk_Ps  2 (pc' := 8) (ls' := [(0, .ref t), (1, .int a1)]) (st' := [.int ((6 : Int32) - (1 : Int32)), .int (0 : Int32), .int a1]) rfl ?_
  refine tk_cS1  rfl rfl (as := [.int a1, .int (0 : Int32), .int ((6 : Int32) - (1 : Int32))]) (rest := []) rfl rfl rfl (ok_fX_isWithin sc a1 (0 : Int32) ((6 : Int32) - (1 : Int32)) m) ?_
  by_cases hc1 : (fX_isWithin a1 (0 : Int32) ((6 : Int32) - (1 : Int32))) = true
  · replace h := tk_ifT hc1 h
    refine tk_bT  rfl rfl tk_eB_eq (c := (fX_isWithin a1 (0 : Int32) ((6 : Int32) - (1 : Int32))) = true) hc1 (pc' := 14) (ls' := [(0, .ref t), (1, .int a1)]) (st' := []) ?_
    refine tk_Ps  2 (pc' := 16) (ls' := [(0, .ref t), (1, .int a1)]) (st' := [.int a1, .ref t]) rfl ?_
    refine tk_SI  rfl rfl ht ?_
    refine tk_Ps  1 (pc' := 20) (ls' := [(0, .ref t), (1, .int a1)]) (st' := [.ref t]) rfl ?_
    refine tk_Hst  rfl rfl ?_
    refine tk_Ps  1 (pc' := 24) (ls' := [(0, .ref t), (1, .int a1)]) (st' := [.int a1, .ref 1000, .ref t]) rfl ?_
    obtain ⟨hg2, h⟩ := tk_grd h
    refine tk_Hx  rfl rfl (k := 0) (by decide) hg2 ?_
    refine tk_SI  rfl rfl ht ?_
    refine tk_Ps  1 (pc' := 29) (ls' := [(0, .ref t), (1, .int a1)]) (st' := [.ref t]) rfl ?_
    refine tk_Hst  rfl rfl ?_
    refine tk_Ps  1 (pc' := 33) (ls' := [(0, .ref t), (1, .int a1)]) (st' := [.int a1, .ref 1001, .ref t]) rfl ?_
    refine tk_Hx  rfl rfl (k := 1) (by decide) hg2 ?_
    refine tk_SI  rfl rfl ht ?_
    refine tk_Ps  1 (pc' := 38) (ls' := [(0, .ref t), (1, .int a1)]) (st' := [.ref t]) rfl ?_
    refine tk_Hst  rfl rfl ?_
    refine tk_Ps  1 (pc' := 42) (ls' := [(0, .ref t), (1, .int a1)]) (st' := [.int a1, .ref 1002, .ref t]) rfl ?_
    refine tk_Hx  rfl rfl (k := 2) (by decide) hg2 ?_
    refine tk_SI  rfl rfl ht ?_
    replace h := Option.some.inj h
    subst h
    exact tk_RV  rfl rfl rfl
  · replace h := tk_ifF hc1 h
    refine tk_bF  rfl rfl tk_eB_eq (c := (fX_isWithin a1 (0 : Int32) ((6 : Int32) - (1 : Int32))) = true) hc1 (pc' := 46) (ls' := [(0, .ref t), (1, .int a1)]) (st' := []) ?_
    replace h := Option.some.inj h
    subst h
    exact tk_RV  rfl rfl rfl
theorem ok_fH_becomeStraight (sc : tk_X) (t : Nat) (a1 : Int32) (a2 : Int32) (m : tk_m) (ht : tk_lay[t]? = some (.inl 6)) {out : tk_m} (h : fH_becomeStraight t a1 a2 m = some out) : tk_Ru sc 3 19 [.ref t, .int a1, .int a2] (tk_full m) (none, tk_full out) := by
  unfold fH_becomeStraight at h
  refine tk_Ru0 me19 (ls := [(0, .ref t), (1, .int a1), (2, .int a2)]) rfl rfl ?_
  refine tk_Ps  2 (pc' := 2) (ls' := [(0, .ref t), (1, .int a1), (2, .int a2)]) (st' := [.int (1 : Int32), .ref t]) rfl ?_
  refine tk_SB (b := true)  rfl rfl ht ?_
  refine tk_Ps  2 (pc' := 7) (ls' := [(0, .ref t), (1, .int a1), (2, .int a2)]) (st' := [.int a1, .ref t]) rfl ?_
  obtain ⟨o1, ho1, h⟩ := tk_bnd h
  refine tk_cV0  rfl rfl (r := t) (as := [.int a1]) (rest := []) rfl ht rfl rfl (ok_fH_setSlant sc t a1 (m.1, m.2.1, tk_u2 m.2.2.1 t 0 true, m.2.2.2) ht ho1) ?_
  refine tk_Ps  2 (pc' := 12) (ls' := [(0, .ref t), (1, .int a1), (2, .int a2)]) (st' := [.int a2, .ref t]) rfl ?_
  refine tk_SI  rfl rfl ht ?_
  replace h := Option.some.inj h
  subst h
  exact tk_RV  rfl rfl rfl
theorem ok_fS_addStraight (sc : tk_X) (t : Nat) (a1 : Int32) (a2 : Int32) (m : tk_m) (ht : tk_lay[t]? = some (.inl 5)) {out : Int32 × tk_m} (h : fS_addStraight t a1 a2 m = some out) : tk_Ru sc 4 18 [.ref t, .int a1, .int a2] (tk_full m) (some (.int out.1), tk_full out.2) := by
  unfold fS_addStraight at h
  refine tk_Ru0 me18 (ls := [(0, .ref t), (1, .int a1), (2, .int a2)]) rfl rfl ?_
  refine tk_Ps  1 (pc' := 1) (ls' := [(0, .ref t), (1, .int a1), (2, .int a2)]) (st' := [.ref t]) rfl ?_
  refine tk_HR  rfl rfl ht (ro5_0 ht) ?_
  refine tk_Ps  1 (pc' := 5) (ls' := [(0, .ref t), (1, .int a1), (2, .int a2)]) (st' := [.ref t, .ref (t + 1)]) rfl ?_
  refine tk_HI  rfl rfl ht ?_
  obtain ⟨hg1, h⟩ := tk_grd h
  refine tk_HP  rfl rfl (lo5_0 ht) hg1 ?_
  refine tk_Ps  2 (pc' := 11) (ls' := [(0, .ref t), (1, .int a1), (2, .int a2)]) (st' := [.int a2, .int a1, .ref ((t + 1) + 2 + (m.2.2.2 (t + 1) (tk_n (m.1 t 1))).val)]) rfl ?_
  obtain ⟨o2, ho2, h⟩ := tk_bnd h
  refine tk_cV0  rfl rfl (r := ((t + 1) + 2 + (m.2.2.2 (t + 1) (tk_n (m.1 t 1))).val)) (as := [.int a1, .int a2]) (rest := []) rfl (tk_sh (lo5_0 ht) _) rfl rfl (ok_fH_becomeStraight sc ((t + 1) + 2 + (m.2.2.2 (t + 1) (tk_n (m.1 t 1))).val) a1 a2 m (tk_sh (lo5_0 ht) _) ho2) ?_
  refine tk_Ps  1 (pc' := 15) (ls' := [(0, .ref t), (1, .int a1), (2, .int a2)]) (st' := [.ref t]) rfl ?_
  obtain ⟨o3, ho3, h⟩ := tk_lete h
  refine tk_cV1  rfl rfl (r := t) (as := []) (rest := []) rfl ht rfl rfl (ok_fS_grow sc t o2 ht ho3) ?_
  replace h := Option.some.inj h
  subst h
  exact tk_RI  rfl rfl rfl
theorem ok_fX_straight (sc : tk_X) (a1 : Int32) (a2 : Int32) (m : tk_m) {out : Int32 × tk_m} (h : fX_straight a1 a2 m = some out) : tk_Ru sc 5 17 [.ref 0, .int a1, .int a2] (tk_full m) (some (.int out.1), tk_full out.2) := by
  unfold fX_straight at h
  refine tk_Ru0 me17 (ls := [(0, .ref 0), (1, .int a1), (2, .int a2)]) rfl rfl ?_
  refine tk_Ps  3 (pc' := 3) (ls' := [(0, .ref 0), (1, .int a1), (2, .int a2)]) (st' := [.int (5 : Int32), .int (0 : Int32), .int a1]) rfl ?_
  refine tk_cS1  rfl rfl (as := [.int a1, .int (0 : Int32), .int (5 : Int32)]) (rest := []) rfl rfl rfl (ok_fX_isWithin sc a1 (0 : Int32) (5 : Int32) m) ?_
  by_cases hc1 : (fX_isWithin a1 (0 : Int32) (5 : Int32)) = true
  · replace h := tk_ifT hc1 h
    refine tk_bT  rfl rfl tk_eB_eq (c := (fX_isWithin a1 (0 : Int32) (5 : Int32)) = true) hc1 (pc' := 9) (ls' := [(0, .ref 0), (1, .int a1), (2, .int a2)]) (st' := []) ?_
    refine tk_Ps  3 (pc' := 14) (ls' := [(0, .ref 0), (1, .int a1), (2, .int a2)]) (st' := [.int (30 : Int32), .int (-30 : Int32), .int a2]) rfl ?_
    refine tk_cS1  rfl rfl (as := [.int a2, .int (-30 : Int32), .int (30 : Int32)]) (rest := []) rfl rfl rfl (ok_fX_isWithin sc a2 (-30 : Int32) (30 : Int32) m) ?_
    by_cases hc2 : (fX_isWithin a2 (-30 : Int32) (30 : Int32)) = true
    · replace h := tk_ifT hc2 h
      refine tk_bT  rfl rfl tk_eB_ne (c := (fX_isWithin a2 (-30 : Int32) (30 : Int32)) = true) hc2 (pc' := 26) (ls' := [(0, .ref 0), (1, .int a1), (2, .int a2)]) (st' := []) ?_
      refine tk_Ps  1 (pc' := 27) (ls' := [(0, .ref 0), (1, .int a1), (2, .int a2)]) (st' := [.ref 0]) rfl ?_
      refine tk_HR  rfl rfl ly0 rt0_0 ?_
      refine tk_HI  rfl rfl ly1 ?_
      refine tk_Ps  1 (pc' := 35) (ls' := [(0, .ref 0), (1, .int a1), (2, .int a2)]) (st' := [.int (6 : Int32), .int (m.1 1 1)]) rfl ?_
      by_cases hc3 : (m.1 1 1) < (6 : Int32)
      · replace h := tk_ifT hc3 h
        refine tk_bT  rfl rfl rfl (c := (m.1 1 1) < (6 : Int32)) hc3 (pc' := 44) (ls' := [(0, .ref 0), (1, .int a1), (2, .int a2)]) (st' := []) ?_
        refine tk_Ps  1 (pc' := 45) (ls' := [(0, .ref 0), (1, .int a1), (2, .int a2)]) (st' := [.ref 0]) rfl ?_
        refine tk_HR  rfl rfl ly0 rt0_0 ?_
        refine tk_Ps  2 (pc' := 50) (ls' := [(0, .ref 0), (1, .int a1), (2, .int a2)]) (st' := [.int a2, .int a1, .ref 1]) rfl ?_
        obtain ⟨o4, ho4, h⟩ := tk_bnd h
        refine tk_cV1  rfl rfl (r := 1) (as := [.int a1, .int a2]) (rest := []) rfl ly1 rfl rfl (ok_fS_addStraight sc 1 a1 a2 m ly1 ho4) ?_
        replace h := Option.some.inj h
        subst h
        exact tk_RI  rfl rfl rfl
      · replace h := tk_ifF hc3 h
        refine tk_bF  rfl rfl rfl (c := (m.1 1 1) < (6 : Int32)) hc3 (pc' := 38) (ls' := [(0, .ref 0), (1, .int a1), (2, .int a2)]) (st' := []) ?_
        refine tk_Ps  2 (pc' := 40) (ls' := [(0, .ref 0), (1, .int a1), (2, .int a2)]) (st' := [.int (1 : Int32), .ref 0]) rfl ?_
        obtain ⟨o5, ho5, h⟩ := tk_bnd h
        refine tk_cV1  rfl rfl (r := 0) (as := [.int (1 : Int32)]) (rest := []) rfl ly0 rfl rfl (ok_fX_finding sc (1 : Int32) m ho5) ?_
        replace h := Option.some.inj h
        subst h
        exact tk_RI  rfl rfl rfl
    · replace h := tk_ifF hc2 h
      refine tk_bF  rfl rfl tk_eB_ne (c := (fX_isWithin a2 (-30 : Int32) (30 : Int32)) = true) hc2 (pc' := 20) (ls' := [(0, .ref 0), (1, .int a1), (2, .int a2)]) (st' := []) ?_
      refine tk_Ps  2 (pc' := 22) (ls' := [(0, .ref 0), (1, .int a1), (2, .int a2)]) (st' := [.int (0 : Int32), .ref 0]) rfl ?_
      obtain ⟨o6, ho6, h⟩ := tk_bnd h
      refine tk_cV1  rfl rfl (r := 0) (as := [.int (0 : Int32)]) (rest := []) rfl ly0 rfl rfl (ok_fX_finding sc (0 : Int32) m ho6) ?_
      replace h := Option.some.inj h
      subst h
      exact tk_RI  rfl rfl rfl
  · replace h := tk_ifF hc1 h
    refine tk_bF  rfl rfl tk_eB_eq (c := (fX_isWithin a1 (0 : Int32) (5 : Int32)) = true) hc1 (pc' := 20) (ls' := [(0, .ref 0), (1, .int a1), (2, .int a2)]) (st' := []) ?_
    refine tk_Ps  2 (pc' := 22) (ls' := [(0, .ref 0), (1, .int a1), (2, .int a2)]) (st' := [.int (0 : Int32), .ref 0]) rfl ?_
    obtain ⟨o7, ho7, h⟩ := tk_bnd h
    refine tk_cV1  rfl rfl (r := 0) (as := [.int (0 : Int32)]) (rest := []) rfl ly0 rfl rfl (ok_fX_finding sc (0 : Int32) m ho7) ?_
    replace h := Option.some.inj h
    subst h
    exact tk_RI  rfl rfl rfl
theorem ok_fS_has (sc : tk_X) (t : Nat) (a1 : Int32) (m : tk_m) (ht : tk_lay[t]? = some (.inl 5)) : tk_Ru sc 1 22 [.ref t, .int a1] (tk_full m) (some (.int (tk_b (fS_has t a1 m))), tk_full m) := by
  obtain ⟨out, h⟩ : ∃ out, fS_has t a1 m = out := ⟨_, rfl⟩
  rw [h]
  unfold fS_has at h
  refine tk_Ru0 me22 (ls := [(0, .ref t), (1, .int a1)]) rfl rfl ?_
  refine tk_Ps  1 (pc' := 1) (ls' := [(0, .ref t), (1, .int a1)]) (st' := [.int a1]) rfl ?_
  by_cases hc1 : a1 < 0
  · replace h := tk_ifT hc1 h
    refine tk_bT  rfl rfl rfl (c := a1 < 0) hc1 (pc' := 16) (ls' := [(0, .ref t), (1, .int a1)]) (st' := []) ?_
    refine tk_Ps  1 (pc' := 17) (ls' := [(0, .ref t), (1, .int a1)]) (st' := [.int (0 : Int32)]) rfl ?_
    subst h
    exact tk_RB (b := false)  rfl rfl rfl
  · replace h := tk_ifF hc1 h
    refine tk_bF  rfl rfl rfl (c := a1 < 0) hc1 (pc' := 4) (ls' := [(0, .ref t), (1, .int a1)]) (st' := []) ?_
    refine tk_Ps  2 (pc' := 6) (ls' := [(0, .ref t), (1, .int a1)]) (st' := [.ref t, .int a1]) rfl ?_
    refine tk_HI  rfl rfl ht ?_
    by_cases hc2 : (m.1 t 1) ≤ a1
    · replace h := tk_ifT hc2 h
      refine tk_bT  rfl rfl rfl (c := (m.1 t 1) ≤ a1) hc2 (pc' := 16) (ls' := [(0, .ref t), (1, .int a1)]) (st' := []) ?_
      refine tk_Ps  1 (pc' := 17) (ls' := [(0, .ref t), (1, .int a1)]) (st' := [.int (0 : Int32)]) rfl ?_
      subst h
      exact tk_RB (b := false)  rfl rfl rfl
    · replace h := tk_ifF hc2 h
      refine tk_bF  rfl rfl rfl (c := (m.1 t 1) ≤ a1) hc2 (pc' := 12) (ls' := [(0, .ref t), (1, .int a1)]) (st' := []) ?_
      refine tk_Ps  2 (pc' := 17) (ls' := [(0, .ref t), (1, .int a1)]) (st' := [.int (1 : Int32)]) rfl ?_
      subst h
      exact tk_RB (b := true)  rfl rfl rfl
theorem ok_fH_lowestKind (sc : tk_X) (t : Nat) (m : tk_m) (ht : tk_lay[t]? = some (.inl 6)) : tk_Ru sc 1 23 [.ref t] (tk_full m) (some (.int (fH_lowestKind t m)), tk_full m) := by
  obtain ⟨out, h⟩ : ∃ out, fH_lowestKind t m = out := ⟨_, rfl⟩
  rw [h]
  unfold fH_lowestKind at h
  refine tk_Ru0 me23 (ls := [(0, .ref t)]) rfl rfl ?_
  refine tk_Ps  1 (pc' := 1) (ls' := [(0, .ref t)]) (st' := [.ref t]) rfl ?_
  refine tk_HB  rfl rfl ht ?_
  by_cases hc1 : (m.2.2.1 t 0) = true
  · replace h := tk_ifT hc1 h
    refine tk_bT  rfl rfl tk_eB_eq (c := (m.2.2.1 t 0) = true) hc1 (pc' := 7) (ls' := [(0, .ref t)]) (st' := []) ?_
    refine tk_Ps  1 (pc' := 8) (ls' := [(0, .ref t)]) (st' := [.ref t]) rfl ?_
    refine tk_HI  rfl rfl ht ?_
    refine tk_Ps  1 (pc' := 12) (ls' := [(0, .ref t)]) (st' := [.int (1 : Int32), .int (m.1 t 4)]) rfl ?_
    by_cases hc2 : (1 : Int32) < (m.1 t 4)
    · replace h := tk_ifT hc2 h
      refine tk_bT  rfl rfl rfl (c := (1 : Int32) < (m.1 t 4)) hc2 (pc' := 19) (ls' := [(0, .ref t)]) (st' := []) ?_
      refine tk_Ps  1 (pc' := 20) (ls' := [(0, .ref t)]) (st' := [.int (2 : Int32)]) rfl ?_
      subst h
      exact tk_RI  rfl rfl rfl
    · replace h := tk_ifF hc2 h
      refine tk_bF  rfl rfl rfl (c := (1 : Int32) < (m.1 t 4)) hc2 (pc' := 15) (ls' := [(0, .ref t)]) (st' := []) ?_
      refine tk_Ps  2 (pc' := 20) (ls' := [(0, .ref t)]) (st' := [.int (4 : Int32)]) rfl ?_
      subst h
      exact tk_RI  rfl rfl rfl
  · replace h := tk_ifF hc1 h
    refine tk_bF  rfl rfl tk_eB_eq (c := (m.2.2.1 t 0) = true) hc1 (pc' := 21) (ls' := [(0, .ref t)]) (st' := []) ?_
    refine tk_Ps  1 (pc' := 22) (ls' := [(0, .ref t)]) (st' := [.ref t]) rfl ?_
    refine tk_HI  rfl rfl ht ?_
    by_cases hc3 : (m.1 t 3) = 0
    · replace h := tk_ifT hc3 h
      refine tk_bT  rfl rfl rfl (c := (m.1 t 3) = 0) hc3 (pc' := 28) (ls' := [(0, .ref t)]) (st' := []) ?_
      refine tk_Ps  2 (pc' := 33) (ls' := [(0, .ref t)]) (st' := [.int (3 : Int32)]) rfl ?_
      subst h
      exact tk_RI  rfl rfl rfl
    · replace h := tk_ifF hc3 h
      refine tk_bF  rfl rfl rfl (c := (m.1 t 3) = 0) hc3 (pc' := 32) (ls' := [(0, .ref t)]) (st' := []) ?_
      refine tk_Ps  1 (pc' := 33) (ls' := [(0, .ref t)]) (st' := [.int (1 : Int32)]) rfl ?_
      subst h
      exact tk_RI  rfl rfl rfl
theorem ok_fH_formNumber (sc : tk_X) (t : Nat) (a1 : Int32) (m : tk_m) (ht : tk_lay[t]? = some (.inl 6)) : tk_Ru sc 1 24 [.ref t, .int a1] (tk_full m) (some (.int (fH_formNumber t a1 m)), tk_full m) := by
  obtain ⟨out, h⟩ : ∃ out, fH_formNumber t a1 m = out := ⟨_, rfl⟩
  rw [h]
  unfold fH_formNumber at h
  refine tk_Ru0 me24 (ls := [(0, .ref t), (1, .int a1)]) rfl rfl ?_
  refine tk_Ps  1 (pc' := 1) (ls' := [(0, .ref t), (1, .int a1)]) (st' := [.int a1]) rfl ?_
  by_cases hs1 : a1 = 0
  · replace h := tk_ifT hs1 h
    refine tk_sw  rfl rfl hs1 rfl (pc' := 28) (ls' := [(0, .ref t), (1, .int a1)]) (st' := []) ?_
    refine tk_Ps  1 (pc' := 29) (ls' := [(0, .ref t), (1, .int a1)]) (st' := [.ref t]) rfl ?_
    refine tk_HB  rfl rfl ht ?_
    by_cases hc2 : (m.2.2.1 t 0) = true
    · replace h := tk_ifT hc2 h
      refine tk_bT  rfl rfl tk_eB_eq (c := (m.2.2.1 t 0) = true) hc2 (pc' := 35) (ls' := [(0, .ref t), (1, .int a1)]) (st' := []) ?_
      refine tk_Ps  2 (pc' := 40) (ls' := [(0, .ref t), (1, .int a1)]) (st' := [.int (0 : Int32)]) rfl ?_
      subst h
      exact tk_RI  rfl rfl rfl
    · replace h := tk_ifF hc2 h
      refine tk_bF  rfl rfl tk_eB_eq (c := (m.2.2.1 t 0) = true) hc2 (pc' := 39) (ls' := [(0, .ref t), (1, .int a1)]) (st' := []) ?_
      refine tk_Ps  1 (pc' := 40) (ls' := [(0, .ref t), (1, .int a1)]) (st' := [.int (1 : Int32)]) rfl ?_
      subst h
      exact tk_RI  rfl rfl rfl
  replace h := tk_ifF hs1 h
  by_cases hs3 : a1 = 1
  · replace h := tk_ifT hs3 h
    refine tk_sw  rfl rfl hs3 rfl (pc' := 41) (ls' := [(0, .ref t), (1, .int a1)]) (st' := []) ?_
    refine tk_Ps  1 (pc' := 42) (ls' := [(0, .ref t), (1, .int a1)]) (st' := [.ref t]) rfl ?_
    refine tk_HB  rfl rfl ht ?_
    by_cases hc4 : (m.2.2.1 t 0) = true
    · replace h := tk_ifT hc4 h
      refine tk_bT  rfl rfl tk_eB_eq (c := (m.2.2.1 t 0) = true) hc4 (pc' := 48) (ls' := [(0, .ref t), (1, .int a1)]) (st' := []) ?_
      refine tk_Ps  1 (pc' := 49) (ls' := [(0, .ref t), (1, .int a1)]) (st' := [.ref t]) rfl ?_
      refine tk_HI  rfl rfl ht ?_
      refine tk_Ps  1 (pc' := 62) (ls' := [(0, .ref t), (1, .int a1)]) (st' := [.int (m.1 t 6)]) rfl ?_
      subst h
      exact tk_RI  rfl rfl rfl
    · replace h := tk_ifF hc4 h
      refine tk_bF  rfl rfl tk_eB_eq (c := (m.2.2.1 t 0) = true) hc4 (pc' := 55) (ls' := [(0, .ref t), (1, .int a1)]) (st' := []) ?_
      refine tk_Ps  2 (pc' := 58) (ls' := [(0, .ref t), (1, .int a1)]) (st' := [.ref t, .int (-2 : Int32)]) rfl ?_
      refine tk_HI  rfl rfl ht ?_
      refine tk_Ps  1 (pc' := 62) (ls' := [(0, .ref t), (1, .int a1)]) (st' := [.int ((-2 : Int32) * (m.1 t 1))]) rfl ?_
      subst h
      exact tk_RI  rfl rfl rfl
  replace h := tk_ifF hs3 h
  by_cases hs5 : a1 = 2
  · replace h := tk_ifT hs5 h
    refine tk_sw  rfl rfl hs5 rfl (pc' := 63) (ls' := [(0, .ref t), (1, .int a1)]) (st' := []) ?_
    refine tk_Ps  1 (pc' := 64) (ls' := [(0, .ref t), (1, .int a1)]) (st' := [.ref t]) rfl ?_
    refine tk_HB  rfl rfl ht ?_
    by_cases hc6 : (m.2.2.1 t 0) = true
    · replace h := tk_ifT hc6 h
      refine tk_bT  rfl rfl tk_eB_eq (c := (m.2.2.1 t 0) = true) hc6 (pc' := 70) (ls' := [(0, .ref t), (1, .int a1)]) (st' := []) ?_
      refine tk_Ps  1 (pc' := 71) (ls' := [(0, .ref t), (1, .int a1)]) (st' := [.ref t]) rfl ?_
      refine tk_HI  rfl rfl ht ?_
      refine tk_Ps  1 (pc' := 84) (ls' := [(0, .ref t), (1, .int a1)]) (st' := [.int (m.1 t 7)]) rfl ?_
      subst h
      exact tk_RI  rfl rfl rfl
    · replace h := tk_ifF hc6 h
      refine tk_bF  rfl rfl tk_eB_eq (c := (m.2.2.1 t 0) = true) hc6 (pc' := 77) (ls' := [(0, .ref t), (1, .int a1)]) (st' := []) ?_
      refine tk_Ps  2 (pc' := 80) (ls' := [(0, .ref t), (1, .int a1)]) (st' := [.ref t, .int (-2 : Int32)]) rfl ?_
      refine tk_HI  rfl rfl ht ?_
      refine tk_Ps  1 (pc' := 84) (ls' := [(0, .ref t), (1, .int a1)]) (st' := [.int ((-2 : Int32) * (m.1 t 2))]) rfl ?_
      subst h
      exact tk_RI  rfl rfl rfl
  replace h := tk_ifF hs5 h
  refine tk_swD  rfl rfl (tk_swo_0_2 hs1 hs3 hs5) rfl rfl (pc' := 85) (ls' := [(0, .ref t), (1, .int a1)]) (st' := []) ?_
  refine tk_Ps  1 (pc' := 86) (ls' := [(0, .ref t), (1, .int a1)]) (st' := [.ref t]) rfl ?_
  refine tk_HB  rfl rfl ht ?_
  by_cases hc7 : (m.2.2.1 t 0) = true
  · replace h := tk_ifT hc7 h
    refine tk_bT  rfl rfl tk_eB_eq (c := (m.2.2.1 t 0) = true) hc7 (pc' := 92) (ls' := [(0, .ref t), (1, .int a1)]) (st' := []) ?_
    refine tk_Ps  1 (pc' := 93) (ls' := [(0, .ref t), (1, .int a1)]) (st' := [.ref t]) rfl ?_
    refine tk_HI  rfl rfl ht ?_
    refine tk_Ps  2 (pc' := 129) (ls' := [(0, .ref t), (1, .int a1)]) (st' := [.int (-(m.1 t 5))]) rfl ?_
    subst h
    exact tk_RI  rfl rfl rfl
  · replace h := tk_ifF hc7 h
    refine tk_bF  rfl rfl tk_eB_eq (c := (m.2.2.1 t 0) = true) hc7 (pc' := 100) (ls' := [(0, .ref t), (1, .int a1)]) (st' := []) ?_
    refine tk_Ps  1 (pc' := 101) (ls' := [(0, .ref t), (1, .int a1)]) (st' := [.ref t]) rfl ?_
    refine tk_HI  rfl rfl ht ?_
    refine tk_Ps  1 (pc' := 105) (ls' := [(0, .ref t), (1, .int a1)]) (st' := [.ref t, .int (m.1 t 1)]) rfl ?_
    refine tk_HI  rfl rfl ht ?_
    refine tk_Ps  2 (pc' := 110) (ls' := [(0, .ref t), (1, .int a1)]) (st' := [.ref t, .int ((m.1 t 1) * (m.1 t 1))]) rfl ?_
    refine tk_HI  rfl rfl ht ?_
    refine tk_Ps  1 (pc' := 114) (ls' := [(0, .ref t), (1, .int a1)]) (st' := [.ref t, .int (m.1 t 2), .int ((m.1 t 1) * (m.1 t 1))]) rfl ?_
    refine tk_HI  rfl rfl ht ?_
    refine tk_Ps  3 (pc' := 120) (ls' := [(0, .ref t), (1, .int a1)]) (st' := [.ref t, .int (((m.1 t 1) * (m.1 t 1)) + ((m.1 t 2) * (m.1 t 2)))]) rfl ?_
    refine tk_HI  rfl rfl ht ?_
    refine tk_Ps  1 (pc' := 124) (ls' := [(0, .ref t), (1, .int a1)]) (st' := [.ref t, .int (m.1 t 3), .int (((m.1 t 1) * (m.1 t 1)) + ((m.1 t 2) * (m.1 t 2)))]) rfl ?_
    refine tk_HI  rfl rfl ht ?_
    refine tk_Ps  2 (pc' := 129) (ls' := [(0, .ref t), (1, .int a1)]) (st' := [.int ((((m.1 t 1) * (m.1 t 1)) + ((m.1 t 2) * (m.1 t 2))) - ((m.1 t 3) * (m.1 t 3)))]) rfl ?_
    subst h
    exact tk_RI  rfl rfl rfl
theorem ok_fH_measure (sc : tk_X) (t : Nat) (a1 : Int32) (m : tk_m) (ht : tk_lay[t]? = some (.inl 6)) : tk_Ru sc 1 25 [.ref t, .int a1] (tk_full m) (some (.int (fH_measure t a1 m)), tk_full m) := by
  obtain ⟨out, h⟩ : ∃ out, fH_measure t a1 m = out := ⟨_, rfl⟩
  rw [h]
  unfold fH_measure at h
  refine tk_Ru0 me25 (ls := [(0, .ref t), (1, .int a1)]) rfl rfl ?_
  refine tk_Ps  1 (pc' := 1) (ls' := [(0, .ref t), (1, .int a1)]) (st' := [.int a1]) rfl ?_
  by_cases hs1 : a1 = 1
  · replace h := tk_ifT hs1 h
    refine tk_sw  rfl rfl hs1 rfl (pc' := 32) (ls' := [(0, .ref t), (1, .int a1)]) (st' := []) ?_
    refine tk_Ps  1 (pc' := 33) (ls' := [(0, .ref t), (1, .int a1)]) (st' := [.ref t]) rfl ?_
    refine tk_HI  rfl rfl ht ?_
    subst h
    exact tk_RI  rfl rfl rfl
  replace h := tk_ifF hs1 h
  by_cases hs2 : a1 = 2
  · replace h := tk_ifT hs2 h
    refine tk_sw  rfl rfl hs2 rfl (pc' := 37) (ls' := [(0, .ref t), (1, .int a1)]) (st' := []) ?_
    refine tk_Ps  1 (pc' := 38) (ls' := [(0, .ref t), (1, .int a1)]) (st' := [.ref t]) rfl ?_
    refine tk_HI  rfl rfl ht ?_
    subst h
    exact tk_RI  rfl rfl rfl
  replace h := tk_ifF hs2 h
  by_cases hs3 : a1 = 3
  · replace h := tk_ifT hs3 h
    refine tk_sw  rfl rfl hs3 rfl (pc' := 42) (ls' := [(0, .ref t), (1, .int a1)]) (st' := []) ?_
    refine tk_Ps  1 (pc' := 43) (ls' := [(0, .ref t), (1, .int a1)]) (st' := [.ref t]) rfl ?_
    refine tk_HI  rfl rfl ht ?_
    subst h
    exact tk_RI  rfl rfl rfl
  replace h := tk_ifF hs3 h
  by_cases hs4 : a1 = 4
  · replace h := tk_ifT hs4 h
    refine tk_sw  rfl rfl hs4 rfl (pc' := 47) (ls' := [(0, .ref t), (1, .int a1)]) (st' := []) ?_
    refine tk_Ps  1 (pc' := 48) (ls' := [(0, .ref t), (1, .int a1)]) (st' := [.ref t]) rfl ?_
    refine tk_HI  rfl rfl ht ?_
    subst h
    exact tk_RI  rfl rfl rfl
  replace h := tk_ifF hs4 h
  refine tk_swD  rfl rfl (tk_swo_1_4 hs1 hs2 hs3 hs4) rfl rfl (pc' := 52) (ls' := [(0, .ref t), (1, .int a1)]) (st' := []) ?_
  refine tk_Ps  1 (pc' := 53) (ls' := [(0, .ref t), (1, .int a1)]) (st' := [.ref t]) rfl ?_
  refine tk_HI  rfl rfl ht ?_
  subst h
  exact tk_RI  rfl rfl rfl
theorem ok_fX_of (sc : tk_X) (a1 : Int32) (a2 : Int32) (m : tk_m) {out : Int32 × tk_m} (h : fX_of a1 a2 m = some out) : tk_Ru sc 3 21 [.ref 0, .int a1, .int a2] (tk_full m) (some (.int out.1), tk_full out.2) := by
  unfold fX_of at h
  refine tk_Ru0 me21 (ls := [(0, .ref 0), (1, .int a1), (2, .int a2)]) rfl rfl ?_
  refine tk_Ps  1 (pc' := 1) (ls' := [(0, .ref 0), (1, .int a1), (2, .int a2)]) (st' := [.ref 0]) rfl ?_
  refine tk_HR  rfl rfl ly0 rt0_0 ?_
  refine tk_Ps  1 (pc' := 5) (ls' := [(0, .ref 0), (1, .int a1), (2, .int a2)]) (st' := [.int a1, .ref 1]) rfl ?_
  refine tk_cV1  rfl rfl (r := 1) (as := [.int a1]) (rest := []) rfl ly1 rfl rfl (ok_fS_has sc 1 a1 m ly1) ?_
  by_cases hc1 : (fS_has 1 a1 m) = true
  · replace h := tk_ifT hc1 h
    refine tk_bT  rfl rfl tk_eB_eq (c := (fS_has 1 a1 m) = true) hc1 (pc' := 11) (ls' := [(0, .ref 0), (1, .int a1), (2, .int a2)]) (st' := []) ?_
    refine tk_Ps  3 (pc' := 15) (ls' := [(0, .ref 0), (1, .int a1), (2, .int a2)]) (st' := [.int (9 : Int32), .int (0 : Int32), .int a2]) rfl ?_
    refine tk_cS1  rfl rfl (as := [.int a2, .int (0 : Int32), .int (9 : Int32)]) (rest := []) rfl rfl rfl (ok_fX_isWithin sc a2 (0 : Int32) (9 : Int32) m) ?_
    by_cases hc2 : (fX_isWithin a2 (0 : Int32) (9 : Int32)) = true
    · replace h := tk_ifT hc2 h
      refine tk_bT  rfl rfl tk_eB_ne (c := (fX_isWithin a2 (0 : Int32) (9 : Int32)) = true) hc2 (pc' := 27) (ls' := [(0, .ref 0), (1, .int a1), (2, .int a2)]) (st' := []) ?_
      refine tk_Ps  1 (pc' := 28) (ls' := [(0, .ref 0), (1, .int a1), (2, .int a2)]) (st' := [.ref 0]) rfl ?_
      refine tk_HR  rfl rfl ly0 rt0_0 ?_
      refine tk_HR  rfl rfl ly1 rt1_0 ?_
      refine tk_Ps  1 (pc' := 35) (ls' := [(0, .ref 0), (1, .int a1), (2, .int a2)]) (st' := [.int a1, .ref 2]) rfl ?_
      obtain ⟨hg3, h⟩ := tk_grd h
      refine tk_HP  rfl rfl ly2 hg3 ?_
      refine tk_Ps  2 (pc' := 38) (ls' := [(3, .ref (2 + 2 + (m.2.2.2 2 (tk_n a1)).val)), (0, .ref 0), (1, .int a1), (2, .int a2)]) (st' := [.int a2]) rfl ?_
      by_cases hc4 : a2 = 0
      · replace h := tk_ifT hc4 h
        refine tk_bT  rfl rfl rfl (c := a2 = 0) hc4 (pc' := 41) (ls' := [(3, .ref (2 + 2 + (m.2.2.2 2 (tk_n a1)).val)), (0, .ref 0), (1, .int a1), (2, .int a2)]) (st' := []) ?_
        refine tk_Ps  1 (pc' := 42) (ls' := [(3, .ref (2 + 2 + (m.2.2.2 2 (tk_n a1)).val)), (0, .ref 0), (1, .int a1), (2, .int a2)]) (st' := [.ref (2 + 2 + (m.2.2.2 2 (tk_n a1)).val)]) rfl ?_
        refine tk_cV1  rfl rfl (r := (2 + 2 + (m.2.2.2 2 (tk_n a1)).val)) (as := []) (rest := []) rfl (tk_sh ly2 _) rfl rfl (ok_fH_lowestKind sc (2 + 2 + (m.2.2.2 2 (tk_n a1)).val) m (tk_sh ly2 _)) ?_
        replace h := Option.some.inj h
        subst h
        exact tk_RI  rfl rfl rfl
      · replace h := tk_ifF hc4 h
        refine tk_bF  rfl rfl rfl (c := a2 = 0) hc4 (pc' := 46) (ls' := [(3, .ref (2 + 2 + (m.2.2.2 2 (tk_n a1)).val)), (0, .ref 0), (1, .int a1), (2, .int a2)]) (st' := []) ?_
        refine tk_Ps  2 (pc' := 49) (ls' := [(3, .ref (2 + 2 + (m.2.2.2 2 (tk_n a1)).val)), (0, .ref 0), (1, .int a1), (2, .int a2)]) (st' := [.int (6 : Int32), .int a2]) rfl ?_
        by_cases hc5 : a2 < (6 : Int32)
        · replace h := tk_ifT hc5 h
          refine tk_bT  rfl rfl rfl (c := a2 < (6 : Int32)) hc5 (pc' := 61) (ls' := [(3, .ref (2 + 2 + (m.2.2.2 2 (tk_n a1)).val)), (0, .ref 0), (1, .int a1), (2, .int a2)]) (st' := []) ?_
          refine tk_Ps  1 (pc' := 62) (ls' := [(3, .ref (2 + 2 + (m.2.2.2 2 (tk_n a1)).val)), (0, .ref 0), (1, .int a1), (2, .int a2)]) (st' := [.ref (2 + 2 + (m.2.2.2 2 (tk_n a1)).val)]) rfl ?_
          refine tk_HB  rfl rfl (tk_sh ly2 _) ?_
          refine tk_Ps  2 (pc' := 67) (ls' := [(3, .ref (2 + 2 + (m.2.2.2 2 (tk_n a1)).val)), (0, .ref 0), (1, .int a1), (2, .int a2)]) (st' := [.int (4 : Int32), .int a2, .int (tk_b (m.2.2.1 (2 + 2 + (m.2.2.2 2 (tk_n a1)).val) 0))]) rfl ?_
          by_cases hc6 : a2 < (4 : Int32)
          · replace h := tk_ifT hc6 h
            refine tk_bT  rfl rfl rfl (c := a2 < (4 : Int32)) hc6 (pc' := 74) (ls' := [(3, .ref (2 + 2 + (m.2.2.2 2 (tk_n a1)).val)), (0, .ref 0), (1, .int a1), (2, .int a2)]) (st' := [.int (tk_b (m.2.2.1 (2 + 2 + (m.2.2.2 2 (tk_n a1)).val) 0))]) ?_
            refine tk_Ps  1 (pc' := 75) (ls' := [(3, .ref (2 + 2 + (m.2.2.2 2 (tk_n a1)).val)), (0, .ref 0), (1, .int a1), (2, .int a2)]) (st' := [.int (0 : Int32), .int (tk_b (m.2.2.1 (2 + 2 + (m.2.2.2 2 (tk_n a1)).val) 0))]) rfl ?_
            by_cases hc7 : (tk_b (m.2.2.1 (2 + 2 + (m.2.2.2 2 (tk_n a1)).val) 0)) = (0 : Int32)
            · replace h := tk_ifT hc7 h
              refine tk_bT  rfl rfl rfl (c := (tk_b (m.2.2.1 (2 + 2 + (m.2.2.2 2 (tk_n a1)).val) 0)) = (0 : Int32)) hc7 (pc' := 84) (ls' := [(3, .ref (2 + 2 + (m.2.2.2 2 (tk_n a1)).val)), (0, .ref 0), (1, .int a1), (2, .int a2)]) (st' := []) ?_
              refine tk_Ps  2 (pc' := 86) (ls' := [(3, .ref (2 + 2 + (m.2.2.2 2 (tk_n a1)).val)), (0, .ref 0), (1, .int a1), (2, .int a2)]) (st' := [.int a2, .ref (2 + 2 + (m.2.2.2 2 (tk_n a1)).val)]) rfl ?_
              refine tk_cV1  rfl rfl (r := (2 + 2 + (m.2.2.2 2 (tk_n a1)).val)) (as := [.int a2]) (rest := []) rfl (tk_sh ly2 _) rfl rfl (ok_fH_measure sc (2 + 2 + (m.2.2.2 2 (tk_n a1)).val) a2 m (tk_sh ly2 _)) ?_
              replace h := Option.some.inj h
              subst h
              exact tk_RI  rfl rfl rfl
            · replace h := tk_ifF hc7 h
              refine tk_bF  rfl rfl rfl (c := (tk_b (m.2.2.1 (2 + 2 + (m.2.2.2 2 (tk_n a1)).val) 0)) = (0 : Int32)) hc7 (pc' := 78) (ls' := [(3, .ref (2 + 2 + (m.2.2.2 2 (tk_n a1)).val)), (0, .ref 0), (1, .int a1), (2, .int a2)]) (st' := []) ?_
              refine tk_Ps  2 (pc' := 80) (ls' := [(3, .ref (2 + 2 + (m.2.2.2 2 (tk_n a1)).val)), (0, .ref 0), (1, .int a1), (2, .int a2)]) (st' := [.int (2 : Int32), .ref 0]) rfl ?_
              obtain ⟨o8, ho8, h⟩ := tk_bnd h
              refine tk_cV1  rfl rfl (r := 0) (as := [.int (2 : Int32)]) (rest := []) rfl ly0 rfl rfl (ok_fX_finding sc (2 : Int32) m ho8) ?_
              replace h := Option.some.inj h
              subst h
              exact tk_RI  rfl rfl rfl
          · replace h := tk_ifF hc6 h
            refine tk_bF  rfl rfl rfl (c := a2 < (4 : Int32)) hc6 (pc' := 70) (ls' := [(3, .ref (2 + 2 + (m.2.2.2 2 (tk_n a1)).val)), (0, .ref 0), (1, .int a1), (2, .int a2)]) (st' := [.int (tk_b (m.2.2.1 (2 + 2 + (m.2.2.2 2 (tk_n a1)).val) 0))]) ?_
            refine tk_Ps  2 (pc' := 75) (ls' := [(3, .ref (2 + 2 + (m.2.2.2 2 (tk_n a1)).val)), (0, .ref 0), (1, .int a1), (2, .int a2)]) (st' := [.int (1 : Int32), .int (tk_b (m.2.2.1 (2 + 2 + (m.2.2.2 2 (tk_n a1)).val) 0))]) rfl ?_
            by_cases hc9 : (tk_b (m.2.2.1 (2 + 2 + (m.2.2.2 2 (tk_n a1)).val) 0)) = (1 : Int32)
            · replace h := tk_ifT hc9 h
              refine tk_bT  rfl rfl rfl (c := (tk_b (m.2.2.1 (2 + 2 + (m.2.2.2 2 (tk_n a1)).val) 0)) = (1 : Int32)) hc9 (pc' := 84) (ls' := [(3, .ref (2 + 2 + (m.2.2.2 2 (tk_n a1)).val)), (0, .ref 0), (1, .int a1), (2, .int a2)]) (st' := []) ?_
              refine tk_Ps  2 (pc' := 86) (ls' := [(3, .ref (2 + 2 + (m.2.2.2 2 (tk_n a1)).val)), (0, .ref 0), (1, .int a1), (2, .int a2)]) (st' := [.int a2, .ref (2 + 2 + (m.2.2.2 2 (tk_n a1)).val)]) rfl ?_
              refine tk_cV1  rfl rfl (r := (2 + 2 + (m.2.2.2 2 (tk_n a1)).val)) (as := [.int a2]) (rest := []) rfl (tk_sh ly2 _) rfl rfl (ok_fH_measure sc (2 + 2 + (m.2.2.2 2 (tk_n a1)).val) a2 m (tk_sh ly2 _)) ?_
              replace h := Option.some.inj h
              subst h
              exact tk_RI  rfl rfl rfl
            · replace h := tk_ifF hc9 h
              refine tk_bF  rfl rfl rfl (c := (tk_b (m.2.2.1 (2 + 2 + (m.2.2.2 2 (tk_n a1)).val) 0)) = (1 : Int32)) hc9 (pc' := 78) (ls' := [(3, .ref (2 + 2 + (m.2.2.2 2 (tk_n a1)).val)), (0, .ref 0), (1, .int a1), (2, .int a2)]) (st' := []) ?_
              refine tk_Ps  2 (pc' := 80) (ls' := [(3, .ref (2 + 2 + (m.2.2.2 2 (tk_n a1)).val)), (0, .ref 0), (1, .int a1), (2, .int a2)]) (st' := [.int (2 : Int32), .ref 0]) rfl ?_
              obtain ⟨o10, ho10, h⟩ := tk_bnd h
              refine tk_cV1  rfl rfl (r := 0) (as := [.int (2 : Int32)]) (rest := []) rfl ly0 rfl rfl (ok_fX_finding sc (2 : Int32) m ho10) ?_
              replace h := Option.some.inj h
              subst h
              exact tk_RI  rfl rfl rfl
        · replace h := tk_ifF hc5 h
          refine tk_bF  rfl rfl rfl (c := a2 < (6 : Int32)) hc5 (pc' := 52) (ls' := [(3, .ref (2 + 2 + (m.2.2.2 2 (tk_n a1)).val)), (0, .ref 0), (1, .int a1), (2, .int a2)]) (st' := []) ?_
          refine tk_Ps  4 (pc' := 57) (ls' := [(3, .ref (2 + 2 + (m.2.2.2 2 (tk_n a1)).val)), (0, .ref 0), (1, .int a1), (2, .int a2)]) (st' := [.int (a2 - (6 : Int32)), .ref (2 + 2 + (m.2.2.2 2 (tk_n a1)).val)]) rfl ?_
          refine tk_cV1  rfl rfl (r := (2 + 2 + (m.2.2.2 2 (tk_n a1)).val)) (as := [.int (a2 - (6 : Int32))]) (rest := []) rfl (tk_sh ly2 _) rfl rfl (ok_fH_formNumber sc (2 + 2 + (m.2.2.2 2 (tk_n a1)).val) (a2 - (6 : Int32)) m (tk_sh ly2 _)) ?_
          replace h := Option.some.inj h
          subst h
          exact tk_RI  rfl rfl rfl
    · replace h := tk_ifF hc2 h
      refine tk_bF  rfl rfl tk_eB_ne (c := (fX_isWithin a2 (0 : Int32) (9 : Int32)) = true) hc2 (pc' := 21) (ls' := [(0, .ref 0), (1, .int a1), (2, .int a2)]) (st' := []) ?_
      refine tk_Ps  2 (pc' := 23) (ls' := [(0, .ref 0), (1, .int a1), (2, .int a2)]) (st' := [.int (0 : Int32), .ref 0]) rfl ?_
      obtain ⟨o11, ho11, h⟩ := tk_bnd h
      refine tk_cV1  rfl rfl (r := 0) (as := [.int (0 : Int32)]) (rest := []) rfl ly0 rfl rfl (ok_fX_finding sc (0 : Int32) m ho11) ?_
      replace h := Option.some.inj h
      subst h
      exact tk_RI  rfl rfl rfl
  · replace h := tk_ifF hc1 h
    refine tk_bF  rfl rfl tk_eB_eq (c := (fS_has 1 a1 m) = true) hc1 (pc' := 21) (ls' := [(0, .ref 0), (1, .int a1), (2, .int a2)]) (st' := []) ?_
    refine tk_Ps  2 (pc' := 23) (ls' := [(0, .ref 0), (1, .int a1), (2, .int a2)]) (st' := [.int (0 : Int32), .ref 0]) rfl ?_
    obtain ⟨o12, ho12, h⟩ := tk_bnd h
    refine tk_cV1  rfl rfl (r := 0) (as := [.int (0 : Int32)]) (rest := []) rfl ly0 rfl rfl (ok_fX_finding sc (0 : Int32) m ho12) ?_
    replace h := Option.some.inj h
    subst h
    exact tk_RI  rfl rfl rfl
theorem ok_fH_mayMeasure (sc : tk_X) (a1 : Int32) (a2 : Int32) (m : tk_m) : tk_Ru sc 2 27 [.int a1, .int a2] (tk_full m) (some (.int (tk_b (fH_mayMeasure a1 a2))), tk_full m) := by
  obtain ⟨out, h⟩ : ∃ out, fH_mayMeasure a1 a2 = out := ⟨_, rfl⟩
  rw [h]
  unfold fH_mayMeasure at h
  refine tk_Ru0 me27 (ls := [(0, .int a1), (1, .int a2)]) rfl rfl ?_
  refine tk_Ps  1 (pc' := 1) (ls' := [(0, .int a1), (1, .int a2)]) (st' := [.int a1]) rfl ?_
  by_cases hs1 : a1 = 1
  · replace h := tk_ifT hs1 h
    refine tk_sw  rfl rfl hs1 rfl (pc' := 32) (ls' := [(0, .int a1), (1, .int a2)]) (st' := []) ?_
    refine tk_Ps  3 (pc' := 36) (ls' := [(0, .int a1), (1, .int a2)]) (st' := [.int (5 : Int32), .int (-5 : Int32), .int a2]) rfl ?_
    refine tk_cS1  rfl rfl (as := [.int a2, .int (-5 : Int32), .int (5 : Int32)]) (rest := []) rfl rfl rfl (ok_fX_isWithin sc a2 (-5 : Int32) (5 : Int32) m) ?_
    subst h
    exact tk_RB (b := fX_isWithin a2 (-5 : Int32) (5 : Int32))  rfl rfl rfl
  replace h := tk_ifF hs1 h
  by_cases hs2 : a1 = 2
  · replace h := tk_ifT hs2 h
    refine tk_sw  rfl rfl hs2 rfl (pc' := 32) (ls' := [(0, .int a1), (1, .int a2)]) (st' := []) ?_
    refine tk_Ps  3 (pc' := 36) (ls' := [(0, .int a1), (1, .int a2)]) (st' := [.int (5 : Int32), .int (-5 : Int32), .int a2]) rfl ?_
    refine tk_cS1  rfl rfl (as := [.int a2, .int (-5 : Int32), .int (5 : Int32)]) (rest := []) rfl rfl rfl (ok_fX_isWithin sc a2 (-5 : Int32) (5 : Int32) m) ?_
    subst h
    exact tk_RB (b := fX_isWithin a2 (-5 : Int32) (5 : Int32))  rfl rfl rfl
  replace h := tk_ifF hs2 h
  by_cases hs3 : a1 = 3
  · replace h := tk_ifT hs3 h
    refine tk_sw  rfl rfl hs3 rfl (pc' := 40) (ls' := [(0, .int a1), (1, .int a2)]) (st' := []) ?_
    refine tk_Ps  3 (pc' := 43) (ls' := [(0, .int a1), (1, .int a2)]) (st' := [.int (5 : Int32), .int (0 : Int32), .int a2]) rfl ?_
    refine tk_cS1  rfl rfl (as := [.int a2, .int (0 : Int32), .int (5 : Int32)]) (rest := []) rfl rfl rfl (ok_fX_isWithin sc a2 (0 : Int32) (5 : Int32) m) ?_
    subst h
    exact tk_RB (b := fX_isWithin a2 (0 : Int32) (5 : Int32))  rfl rfl rfl
  replace h := tk_ifF hs3 h
  by_cases hs4 : a1 = 4
  · replace h := tk_ifT hs4 h
    refine tk_sw  rfl rfl hs4 rfl (pc' := 40) (ls' := [(0, .int a1), (1, .int a2)]) (st' := []) ?_
    refine tk_Ps  3 (pc' := 43) (ls' := [(0, .int a1), (1, .int a2)]) (st' := [.int (5 : Int32), .int (0 : Int32), .int a2]) rfl ?_
    refine tk_cS1  rfl rfl (as := [.int a2, .int (0 : Int32), .int (5 : Int32)]) (rest := []) rfl rfl rfl (ok_fX_isWithin sc a2 (0 : Int32) (5 : Int32) m) ?_
    subst h
    exact tk_RB (b := fX_isWithin a2 (0 : Int32) (5 : Int32))  rfl rfl rfl
  replace h := tk_ifF hs4 h
  refine tk_swD  rfl rfl (tk_swo_1_4 hs1 hs2 hs3 hs4) rfl rfl (pc' := 47) (ls' := [(0, .int a1), (1, .int a2)]) (st' := []) ?_
  refine tk_Ps  3 (pc' := 52) (ls' := [(0, .int a1), (1, .int a2)]) (st' := [.int (30 : Int32), .int (-30 : Int32), .int a2]) rfl ?_
  refine tk_cS1  rfl rfl (as := [.int a2, .int (-30 : Int32), .int (30 : Int32)]) (rest := []) rfl rfl rfl (ok_fX_isWithin sc a2 (-30 : Int32) (30 : Int32) m) ?_
  subst h
  exact tk_RB (b := fX_isWithin a2 (-30 : Int32) (30 : Int32))  rfl rfl rfl
theorem ok_fH_setMeasure (sc : tk_X) (t : Nat) (a1 : Int32) (a2 : Int32) (m : tk_m) (ht : tk_lay[t]? = some (.inl 6)) {out : tk_m} (h : fH_setMeasure t a1 a2 m = some out) : tk_Ru sc 3 29 [.ref t, .int a1, .int a2] (tk_full m) (none, tk_full out) := by
  unfold fH_setMeasure at h
  refine tk_Ru0 me29 (ls := [(0, .ref t), (1, .int a1), (2, .int a2)]) rfl rfl ?_
  refine tk_Ps  1 (pc' := 1) (ls' := [(0, .ref t), (1, .int a1), (2, .int a2)]) (st' := [.int a1]) rfl ?_
  by_cases hs1 : a1 = 1
  · replace h := tk_ifT hs1 h
    refine tk_sw  rfl rfl hs1 rfl (pc' := 32) (ls' := [(0, .ref t), (1, .int a1), (2, .int a2)]) (st' := []) ?_
    refine tk_Ps  2 (pc' := 34) (ls' := [(0, .ref t), (1, .int a1), (2, .int a2)]) (st' := [.int a2, .ref t]) rfl ?_
    refine tk_SI  rfl rfl ht ?_
    refine tk_Ps  1 (pc' := 69) (ls' := [(0, .ref t), (1, .int a1), (2, .int a2)]) (st' := []) rfl ?_
    replace h := Option.some.inj h
    subst h
    exact tk_RV  rfl rfl rfl
  replace h := tk_ifF hs1 h
  by_cases hs2 : a1 = 2
  · replace h := tk_ifT hs2 h
    refine tk_sw  rfl rfl hs2 rfl (pc' := 40) (ls' := [(0, .ref t), (1, .int a1), (2, .int a2)]) (st' := []) ?_
    refine tk_Ps  2 (pc' := 42) (ls' := [(0, .ref t), (1, .int a1), (2, .int a2)]) (st' := [.int a2, .ref t]) rfl ?_
    refine tk_SI  rfl rfl ht ?_
    refine tk_Ps  1 (pc' := 69) (ls' := [(0, .ref t), (1, .int a1), (2, .int a2)]) (st' := []) rfl ?_
    replace h := Option.some.inj h
    subst h
    exact tk_RV  rfl rfl rfl
  replace h := tk_ifF hs2 h
  by_cases hs3 : a1 = 3
  · replace h := tk_ifT hs3 h
    refine tk_sw  rfl rfl hs3 rfl (pc' := 48) (ls' := [(0, .ref t), (1, .int a1), (2, .int a2)]) (st' := []) ?_
    refine tk_Ps  2 (pc' := 50) (ls' := [(0, .ref t), (1, .int a1), (2, .int a2)]) (st' := [.int a2, .ref t]) rfl ?_
    refine tk_SI  rfl rfl ht ?_
    refine tk_Ps  1 (pc' := 69) (ls' := [(0, .ref t), (1, .int a1), (2, .int a2)]) (st' := []) rfl ?_
    replace h := Option.some.inj h
    subst h
    exact tk_RV  rfl rfl rfl
  replace h := tk_ifF hs3 h
  by_cases hs4 : a1 = 4
  · replace h := tk_ifT hs4 h
    refine tk_sw  rfl rfl hs4 rfl (pc' := 56) (ls' := [(0, .ref t), (1, .int a1), (2, .int a2)]) (st' := []) ?_
    refine tk_Ps  2 (pc' := 58) (ls' := [(0, .ref t), (1, .int a1), (2, .int a2)]) (st' := [.int a2, .ref t]) rfl ?_
    obtain ⟨o5, ho5, h⟩ := tk_bnd h
    refine tk_cV0  rfl rfl (r := t) (as := [.int a2]) (rest := []) rfl ht rfl rfl (ok_fH_setSlant sc t a2 m ht ho5) ?_
    refine tk_Ps  1 (pc' := 69) (ls' := [(0, .ref t), (1, .int a1), (2, .int a2)]) (st' := []) rfl ?_
    replace h := Option.some.inj h
    subst h
    exact tk_RV  rfl rfl rfl
  replace h := tk_ifF hs4 h
  refine tk_swD  rfl rfl (tk_swo_1_4 hs1 hs2 hs3 hs4) rfl rfl (pc' := 64) (ls' := [(0, .ref t), (1, .int a1), (2, .int a2)]) (st' := []) ?_
  refine tk_Ps  2 (pc' := 66) (ls' := [(0, .ref t), (1, .int a1), (2, .int a2)]) (st' := [.int a2, .ref t]) rfl ?_
  refine tk_SI  rfl rfl ht ?_
  replace h := Option.some.inj h
  subst h
  exact tk_RV  rfl rfl rfl
theorem ok_fS_setMeasure (sc : tk_X) (t : Nat) (a1 : Int32) (a2 : Int32) (a3 : Int32) (m : tk_m) (ht : tk_lay[t]? = some (.inl 5)) {out : Int32 × tk_m} (h : fS_setMeasure t a1 a2 a3 m = some out) : tk_Ru sc 4 28 [.ref t, .int a1, .int a2, .int a3] (tk_full m) (some (.int out.1), tk_full out.2) := by
  unfold fS_setMeasure at h
  refine tk_Ru0 me28 (ls := [(0, .ref t), (1, .int a1), (2, .int a2), (3, .int a3)]) rfl rfl ?_
  refine tk_Ps  1 (pc' := 1) (ls' := [(0, .ref t), (1, .int a1), (2, .int a2), (3, .int a3)]) (st' := [.ref t]) rfl ?_
  refine tk_HR  rfl rfl ht (ro5_0 ht) ?_
  refine tk_Ps  1 (pc' := 5) (ls' := [(0, .ref t), (1, .int a1), (2, .int a2), (3, .int a3)]) (st' := [.int a1, .ref (t + 1)]) rfl ?_
  obtain ⟨hg1, h⟩ := tk_grd h
  refine tk_HP  rfl rfl (lo5_0 ht) hg1 ?_
  refine tk_Ps  1 (pc' := 7) (ls' := [(0, .ref t), (1, .int a1), (2, .int a2), (3, .int a3)]) (st' := [.int a2, .ref ((t + 1) + 2 + (m.2.2.2 (t + 1) (tk_n a1)).val)]) rfl ?_
  refine tk_cV1  rfl rfl (r := ((t + 1) + 2 + (m.2.2.2 (t + 1) (tk_n a1)).val)) (as := [.int a2]) (rest := []) rfl (tk_sh (lo5_0 ht) _) rfl rfl (ok_fH_measure sc ((t + 1) + 2 + (m.2.2.2 (t + 1) (tk_n a1)).val) a2 m (tk_sh (lo5_0 ht) _)) ?_
  refine tk_Ps  2 (pc' := 13) (ls' := [(4, .int (fH_measure ((t + 1) + 2 + (m.2.2.2 (t + 1) (tk_n a1)).val) a2 m)), (0, .ref t), (1, .int a1), (2, .int a2), (3, .int a3)]) (st' := [.ref t]) rfl ?_
  refine tk_HR  rfl rfl ht (ro5_0 ht) ?_
  refine tk_Ps  1 (pc' := 17) (ls' := [(4, .int (fH_measure ((t + 1) + 2 + (m.2.2.2 (t + 1) (tk_n a1)).val) a2 m)), (0, .ref t), (1, .int a1), (2, .int a2), (3, .int a3)]) (st' := [.int a1, .ref (t + 1)]) rfl ?_
  refine tk_HP  rfl rfl (lo5_0 ht) hg1 ?_
  refine tk_Ps  2 (pc' := 20) (ls' := [(4, .int (fH_measure ((t + 1) + 2 + (m.2.2.2 (t + 1) (tk_n a1)).val) a2 m)), (0, .ref t), (1, .int a1), (2, .int a2), (3, .int a3)]) (st' := [.int a3, .int a2, .ref ((t + 1) + 2 + (m.2.2.2 (t + 1) (tk_n a1)).val)]) rfl ?_
  obtain ⟨o2, ho2, h⟩ := tk_bnd h
  refine tk_cV0  rfl rfl (r := ((t + 1) + 2 + (m.2.2.2 (t + 1) (tk_n a1)).val)) (as := [.int a2, .int a3]) (rest := []) rfl (tk_sh (lo5_0 ht) _) rfl rfl (ok_fH_setMeasure sc ((t + 1) + 2 + (m.2.2.2 (t + 1) (tk_n a1)).val) a2 a3 m (tk_sh (lo5_0 ht) _) ho2) ?_
  refine tk_Ps  2 (pc' := 25) (ls' := [(4, .int (fH_measure ((t + 1) + 2 + (m.2.2.2 (t + 1) (tk_n a1)).val) a2 m)), (0, .ref t), (1, .int a1), (2, .int a2), (3, .int a3)]) (st' := [.int (1 : Int32), .ref t]) rfl ?_
  refine tk_SB (b := true)  rfl rfl ht ?_
  refine tk_Ps  1 (pc' := 30) (ls' := [(4, .int (fH_measure ((t + 1) + 2 + (m.2.2.2 (t + 1) (tk_n a1)).val) a2 m)), (0, .ref t), (1, .int a1), (2, .int a2), (3, .int a3)]) (st' := [.int (fH_measure ((t + 1) + 2 + (m.2.2.2 (t + 1) (tk_n a1)).val) a2 m)]) rfl ?_
  replace h := Option.some.inj h
  subst h
  exact tk_RI  rfl rfl rfl
theorem ok_fX_change_48 (sc : tk_X) (v1 : Int32) (v2 : Int32) (v3 : Int32) (s0 : Int32) (s1 : Bool) (m : tk_m) (out : Int32 × tk_m) (h : fX_change_48 v1 v2 v3 s0 s1 m = some out) : tk_Ex sc 4 tk_r26 tk_k26 48 [(0, .ref 0), (1, .int v1), (2, .int v2), (3, .int v3)] [.int s0, .int (tk_b s1)] (tk_full m) (some (.int out.1), tk_full out.2) := by
  unfold fX_change_48 at h
  by_cases hc1 : (tk_b s1) = s0
  · replace h := tk_ifT hc1 h
    refine tk_bT  rfl rfl rfl (c := (tk_b s1) = s0) hc1 (pc' := 57) (ls' := [(0, .ref 0), (1, .int v1), (2, .int v2), (3, .int v3)]) (st' := []) ?_
    refine tk_Ps  2 (pc' := 59) (ls' := [(0, .ref 0), (1, .int v1), (2, .int v2), (3, .int v3)]) (st' := [.int v3, .int v2]) rfl ?_
    refine tk_cS1  rfl rfl (as := [.int v2, .int v3]) (rest := []) rfl rfl rfl (ok_fH_mayMeasure sc v2 v3 m) ?_
    by_cases hc2 : (fH_mayMeasure v2 v3) = true
    · replace h := tk_ifT hc2 h
      refine tk_bT  rfl rfl tk_eB_ne (c := (fH_mayMeasure v2 v3) = true) hc2 (pc' := 71) (ls' := [(0, .ref 0), (1, .int v1), (2, .int v2), (3, .int v3)]) (st' := []) ?_
      refine tk_Ps  1 (pc' := 72) (ls' := [(0, .ref 0), (1, .int v1), (2, .int v2), (3, .int v3)]) (st' := [.ref 0]) rfl ?_
      refine tk_HR  rfl rfl ly0 rt0_0 ?_
      refine tk_Ps  3 (pc' := 78) (ls' := [(0, .ref 0), (1, .int v1), (2, .int v2), (3, .int v3)]) (st' := [.int v3, .int v2, .int v1, .ref 1]) rfl ?_
      obtain ⟨o3, ho3, h⟩ := tk_bnd h
      refine tk_cV1  rfl rfl (r := 1) (as := [.int v1, .int v2, .int v3]) (rest := []) rfl ly1 rfl rfl (ok_fS_setMeasure sc 1 v1 v2 v3 m ly1 ho3) ?_
      replace h := Option.some.inj h
      subst h
      exact tk_RI  rfl rfl rfl
    · replace h := tk_ifF hc2 h
      refine tk_bF  rfl rfl tk_eB_ne (c := (fH_mayMeasure v2 v3) = true) hc2 (pc' := 65) (ls' := [(0, .ref 0), (1, .int v1), (2, .int v2), (3, .int v3)]) (st' := []) ?_
      refine tk_Ps  2 (pc' := 67) (ls' := [(0, .ref 0), (1, .int v1), (2, .int v2), (3, .int v3)]) (st' := [.int (0 : Int32), .ref 0]) rfl ?_
      obtain ⟨o4, ho4, h⟩ := tk_bnd h
      refine tk_cV1  rfl rfl (r := 0) (as := [.int (0 : Int32)]) (rest := []) rfl ly0 rfl rfl (ok_fX_finding sc (0 : Int32) m ho4) ?_
      replace h := Option.some.inj h
      subst h
      exact tk_RI  rfl rfl rfl
  · replace h := tk_ifF hc1 h
    refine tk_bF  rfl rfl rfl (c := (tk_b s1) = s0) hc1 (pc' := 51) (ls' := [(0, .ref 0), (1, .int v1), (2, .int v2), (3, .int v3)]) (st' := []) ?_
    refine tk_Ps  2 (pc' := 53) (ls' := [(0, .ref 0), (1, .int v1), (2, .int v2), (3, .int v3)]) (st' := [.int (2 : Int32), .ref 0]) rfl ?_
    obtain ⟨o5, ho5, h⟩ := tk_bnd h
    refine tk_cV1  rfl rfl (r := 0) (as := [.int (2 : Int32)]) (rest := []) rfl ly0 rfl rfl (ok_fX_finding sc (2 : Int32) m ho5) ?_
    replace h := Option.some.inj h
    subst h
    exact tk_RI  rfl rfl rfl
theorem ok_fX_change (sc : tk_X) (a1 : Int32) (a2 : Int32) (a3 : Int32) (m : tk_m) {out : Int32 × tk_m} (h : fX_change a1 a2 a3 m = some out) : tk_Ru sc 5 26 [.ref 0, .int a1, .int a2, .int a3] (tk_full m) (some (.int out.1), tk_full out.2) := by
  unfold fX_change at h
  refine tk_Ru0 me26 (ls := [(0, .ref 0), (1, .int a1), (2, .int a2), (3, .int a3)]) rfl rfl ?_
  refine tk_Ps  1 (pc' := 1) (ls' := [(0, .ref 0), (1, .int a1), (2, .int a2), (3, .int a3)]) (st' := [.ref 0]) rfl ?_
  refine tk_HR  rfl rfl ly0 rt0_0 ?_
  refine tk_Ps  1 (pc' := 5) (ls' := [(0, .ref 0), (1, .int a1), (2, .int a2), (3, .int a3)]) (st' := [.int a1, .ref 1]) rfl ?_
  refine tk_cV1  rfl rfl (r := 1) (as := [.int a1]) (rest := []) rfl ly1 rfl rfl (ok_fS_has sc 1 a1 m ly1) ?_
  by_cases hc1 : (fS_has 1 a1 m) = true
  · replace h := tk_ifT hc1 h
    refine tk_bT  rfl rfl tk_eB_eq (c := (fS_has 1 a1 m) = true) hc1 (pc' := 11) (ls' := [(0, .ref 0), (1, .int a1), (2, .int a2), (3, .int a3)]) (st' := []) ?_
    refine tk_Ps  3 (pc' := 14) (ls' := [(0, .ref 0), (1, .int a1), (2, .int a2), (3, .int a3)]) (st' := [.int (5 : Int32), .int (1 : Int32), .int a2]) rfl ?_
    refine tk_cS1  rfl rfl (as := [.int a2, .int (1 : Int32), .int (5 : Int32)]) (rest := []) rfl rfl rfl (ok_fX_isWithin sc a2 (1 : Int32) (5 : Int32) m) ?_
    by_cases hc2 : (fX_isWithin a2 (1 : Int32) (5 : Int32)) = true
    · replace h := tk_ifT hc2 h
      refine tk_bT  rfl rfl tk_eB_ne (c := (fX_isWithin a2 (1 : Int32) (5 : Int32)) = true) hc2 (pc' := 26) (ls' := [(0, .ref 0), (1, .int a1), (2, .int a2), (3, .int a3)]) (st' := []) ?_
      refine tk_Ps  1 (pc' := 27) (ls' := [(0, .ref 0), (1, .int a1), (2, .int a2), (3, .int a3)]) (st' := [.ref 0]) rfl ?_
      refine tk_HR  rfl rfl ly0 rt0_0 ?_
      refine tk_HR  rfl rfl ly1 rt1_0 ?_
      refine tk_Ps  1 (pc' := 34) (ls' := [(0, .ref 0), (1, .int a1), (2, .int a2), (3, .int a3)]) (st' := [.int a1, .ref 2]) rfl ?_
      obtain ⟨hg3, h⟩ := tk_grd h
      refine tk_HP  rfl rfl ly2 hg3 ?_
      refine tk_HB  rfl rfl (tk_sh ly2 _) ?_
      refine tk_Ps  2 (pc' := 40) (ls' := [(0, .ref 0), (1, .int a1), (2, .int a2), (3, .int a3)]) (st' := [.int (4 : Int32), .int a2, .int (tk_b (m.2.2.1 (2 + 2 + (m.2.2.2 2 (tk_n a1)).val) 0))]) rfl ?_
      by_cases hc4 : a2 < (4 : Int32)
      · replace h := tk_ifT hc4 h
        refine tk_bT  rfl rfl rfl (c := a2 < (4 : Int32)) hc4 (pc' := 47) (ls' := [(0, .ref 0), (1, .int a1), (2, .int a2), (3, .int a3)]) (st' := [.int (tk_b (m.2.2.1 (2 + 2 + (m.2.2.2 2 (tk_n a1)).val) 0))]) ?_
        refine tk_Ps  1 (pc' := 48) (ls' := [(0, .ref 0), (1, .int a1), (2, .int a2), (3, .int a3)]) (st' := [.int (0 : Int32), .int (tk_b (m.2.2.1 (2 + 2 + (m.2.2.2 2 (tk_n a1)).val) 0))]) rfl ?_
        refine tk_Kp  (ls' := [(0, .ref 0), (1, .int a1), (2, .int a2), (3, .int a3)]) rfl rfl ?_
        exact ok_fX_change_48 sc a1 a2 a3 (0 : Int32) (m.2.2.1 (2 + 2 + (m.2.2.2 2 (tk_n a1)).val) 0) m _ h
      · replace h := tk_ifF hc4 h
        refine tk_bF  rfl rfl rfl (c := a2 < (4 : Int32)) hc4 (pc' := 43) (ls' := [(0, .ref 0), (1, .int a1), (2, .int a2), (3, .int a3)]) (st' := [.int (tk_b (m.2.2.1 (2 + 2 + (m.2.2.2 2 (tk_n a1)).val) 0))]) ?_
        refine tk_Ps  2 (pc' := 48) (ls' := [(0, .ref 0), (1, .int a1), (2, .int a2), (3, .int a3)]) (st' := [.int (1 : Int32), .int (tk_b (m.2.2.1 (2 + 2 + (m.2.2.2 2 (tk_n a1)).val) 0))]) rfl ?_
        refine tk_Kp  (ls' := [(0, .ref 0), (1, .int a1), (2, .int a2), (3, .int a3)]) rfl rfl ?_
        exact ok_fX_change_48 sc a1 a2 a3 (1 : Int32) (m.2.2.1 (2 + 2 + (m.2.2.2 2 (tk_n a1)).val) 0) m _ h
    · replace h := tk_ifF hc2 h
      refine tk_bF  rfl rfl tk_eB_ne (c := (fX_isWithin a2 (1 : Int32) (5 : Int32)) = true) hc2 (pc' := 20) (ls' := [(0, .ref 0), (1, .int a1), (2, .int a2), (3, .int a3)]) (st' := []) ?_
      refine tk_Ps  2 (pc' := 22) (ls' := [(0, .ref 0), (1, .int a1), (2, .int a2), (3, .int a3)]) (st' := [.int (0 : Int32), .ref 0]) rfl ?_
      obtain ⟨o5, ho5, h⟩ := tk_bnd h
      refine tk_cV1  rfl rfl (r := 0) (as := [.int (0 : Int32)]) (rest := []) rfl ly0 rfl rfl (ok_fX_finding sc (0 : Int32) m ho5) ?_
      replace h := Option.some.inj h
      subst h
      exact tk_RI  rfl rfl rfl
  · replace h := tk_ifF hc1 h
    refine tk_bF  rfl rfl tk_eB_eq (c := (fS_has 1 a1 m) = true) hc1 (pc' := 20) (ls' := [(0, .ref 0), (1, .int a1), (2, .int a2), (3, .int a3)]) (st' := []) ?_
    refine tk_Ps  2 (pc' := 22) (ls' := [(0, .ref 0), (1, .int a1), (2, .int a2), (3, .int a3)]) (st' := [.int (0 : Int32), .ref 0]) rfl ?_
    obtain ⟨o6, ho6, h⟩ := tk_bnd h
    refine tk_cV1  rfl rfl (r := 0) (as := [.int (0 : Int32)]) (rest := []) rfl ly0 rfl rfl (ok_fX_finding sc (0 : Int32) m ho6) ?_
    replace h := Option.some.inj h
    subst h
    exact tk_RI  rfl rfl rfl
theorem ok_fH_isOf (sc : tk_X) (t : Nat) (a1 : Int32) (m : tk_m) (ht : tk_lay[t]? = some (.inl 6)) : tk_Ru sc 2 31 [.ref t, .int a1] (tk_full m) (some (.int (tk_b (fH_isOf t a1 m))), tk_full m) := by
  obtain ⟨out, h⟩ : ∃ out, fH_isOf t a1 m = out := ⟨_, rfl⟩
  rw [h]
  unfold fH_isOf at h
  refine tk_Ru0 me31 (ls := [(0, .ref t), (1, .int a1)]) rfl rfl ?_
  refine tk_Ps  1 (pc' := 1) (ls' := [(0, .ref t), (1, .int a1)]) (st' := [.int a1]) rfl ?_
  by_cases hc1 : a1 = 0
  · replace h := tk_ifT hc1 h
    refine tk_bT  rfl rfl rfl (c := a1 = 0) hc1 (pc' := 28) (ls' := [(0, .ref t), (1, .int a1)]) (st' := []) ?_
    refine tk_Ps  2 (pc' := 33) (ls' := [(0, .ref t), (1, .int a1)]) (st' := [.int (1 : Int32)]) rfl ?_
    subst h
    exact tk_RB (b := true)  rfl rfl rfl
  · replace h := tk_ifF hc1 h
    refine tk_bF  rfl rfl rfl (c := a1 = 0) hc1 (pc' := 4) (ls' := [(0, .ref t), (1, .int a1)]) (st' := []) ?_
    refine tk_Ps  2 (pc' := 6) (ls' := [(0, .ref t), (1, .int a1)]) (st' := [.ref t, .int a1]) rfl ?_
    refine tk_HB  rfl rfl ht ?_
    by_cases hc2 : (m.2.2.1 t 0) = true
    · replace h := tk_ifT hc2 h
      refine tk_bT  rfl rfl tk_eB_eq (c := (m.2.2.1 t 0) = true) hc2 (pc' := 12) (ls' := [(0, .ref t), (1, .int a1)]) (st' := [.int a1]) ?_
      refine tk_Ps  2 (pc' := 17) (ls' := [(0, .ref t), (1, .int a1)]) (st' := [.int (2 : Int32), .int a1]) rfl ?_
      by_cases hc3 : a1 = (2 : Int32)
      · replace h := tk_ifT hc3 h
        refine tk_bT  rfl rfl rfl (c := a1 = (2 : Int32)) hc3 (pc' := 28) (ls' := [(0, .ref t), (1, .int a1)]) (st' := []) ?_
        refine tk_Ps  2 (pc' := 33) (ls' := [(0, .ref t), (1, .int a1)]) (st' := [.int (1 : Int32)]) rfl ?_
        subst h
        exact tk_RB (b := true)  rfl rfl rfl
      · replace h := tk_ifF hc3 h
        refine tk_bF  rfl rfl rfl (c := a1 = (2 : Int32)) hc3 (pc' := 20) (ls' := [(0, .ref t), (1, .int a1)]) (st' := []) ?_
        refine tk_Ps  2 (pc' := 22) (ls' := [(0, .ref t), (1, .int a1)]) (st' := [.ref t, .int a1]) rfl ?_
        refine tk_cV1  rfl rfl (r := t) (as := []) (rest := [.int a1]) rfl ht rfl rfl (ok_fH_lowestKind sc t m ht) ?_
        by_cases hc4 : a1 = (fH_lowestKind t m)
        · replace h := tk_ifT hc4 h
          refine tk_bT  rfl rfl rfl (c := a1 = (fH_lowestKind t m)) hc4 (pc' := 28) (ls' := [(0, .ref t), (1, .int a1)]) (st' := []) ?_
          refine tk_Ps  2 (pc' := 33) (ls' := [(0, .ref t), (1, .int a1)]) (st' := [.int (1 : Int32)]) rfl ?_
          subst h
          exact tk_RB (b := true)  rfl rfl rfl
        · replace h := tk_ifF hc4 h
          refine tk_bF  rfl rfl rfl (c := a1 = (fH_lowestKind t m)) hc4 (pc' := 32) (ls' := [(0, .ref t), (1, .int a1)]) (st' := []) ?_
          refine tk_Ps  1 (pc' := 33) (ls' := [(0, .ref t), (1, .int a1)]) (st' := [.int (0 : Int32)]) rfl ?_
          subst h
          exact tk_RB (b := false)  rfl rfl rfl
    · replace h := tk_ifF hc2 h
      refine tk_bF  rfl rfl tk_eB_eq (c := (m.2.2.1 t 0) = true) hc2 (pc' := 16) (ls' := [(0, .ref t), (1, .int a1)]) (st' := [.int a1]) ?_
      refine tk_Ps  1 (pc' := 17) (ls' := [(0, .ref t), (1, .int a1)]) (st' := [.int (1 : Int32), .int a1]) rfl ?_
      by_cases hc5 : a1 = (1 : Int32)
      · replace h := tk_ifT hc5 h
        refine tk_bT  rfl rfl rfl (c := a1 = (1 : Int32)) hc5 (pc' := 28) (ls' := [(0, .ref t), (1, .int a1)]) (st' := []) ?_
        refine tk_Ps  2 (pc' := 33) (ls' := [(0, .ref t), (1, .int a1)]) (st' := [.int (1 : Int32)]) rfl ?_
        subst h
        exact tk_RB (b := true)  rfl rfl rfl
      · replace h := tk_ifF hc5 h
        refine tk_bF  rfl rfl rfl (c := a1 = (1 : Int32)) hc5 (pc' := 20) (ls' := [(0, .ref t), (1, .int a1)]) (st' := []) ?_
        refine tk_Ps  2 (pc' := 22) (ls' := [(0, .ref t), (1, .int a1)]) (st' := [.ref t, .int a1]) rfl ?_
        refine tk_cV1  rfl rfl (r := t) (as := []) (rest := [.int a1]) rfl ht rfl rfl (ok_fH_lowestKind sc t m ht) ?_
        by_cases hc6 : a1 = (fH_lowestKind t m)
        · replace h := tk_ifT hc6 h
          refine tk_bT  rfl rfl rfl (c := a1 = (fH_lowestKind t m)) hc6 (pc' := 28) (ls' := [(0, .ref t), (1, .int a1)]) (st' := []) ?_
          refine tk_Ps  2 (pc' := 33) (ls' := [(0, .ref t), (1, .int a1)]) (st' := [.int (1 : Int32)]) rfl ?_
          subst h
          exact tk_RB (b := true)  rfl rfl rfl
        · replace h := tk_ifF hc6 h
          refine tk_bF  rfl rfl rfl (c := a1 = (fH_lowestKind t m)) hc6 (pc' := 32) (ls' := [(0, .ref t), (1, .int a1)]) (st' := []) ?_
          refine tk_Ps  1 (pc' := 33) (ls' := [(0, .ref t), (1, .int a1)]) (st' := [.int (0 : Int32)]) rfl ?_
          subst h
          exact tk_RB (b := false)  rfl rfl rfl
theorem ok_fX_as (sc : tk_X) (a1 : Int32) (a2 : Int32) (m : tk_m) {out : Int32 × tk_m} (h : fX_as a1 a2 m = some out) : tk_Ru sc 3 30 [.ref 0, .int a1, .int a2] (tk_full m) (some (.int out.1), tk_full out.2) := by
  unfold fX_as at h
  refine tk_Ru0 me30 (ls := [(0, .ref 0), (1, .int a1), (2, .int a2)]) rfl rfl ?_
  refine tk_Ps  1 (pc' := 1) (ls' := [(0, .ref 0), (1, .int a1), (2, .int a2)]) (st' := [.ref 0]) rfl ?_
  refine tk_HR  rfl rfl ly0 rt0_0 ?_
  refine tk_Ps  1 (pc' := 5) (ls' := [(0, .ref 0), (1, .int a1), (2, .int a2)]) (st' := [.int a1, .ref 1]) rfl ?_
  refine tk_cV1  rfl rfl (r := 1) (as := [.int a1]) (rest := []) rfl ly1 rfl rfl (ok_fS_has sc 1 a1 m ly1) ?_
  by_cases hc1 : (fS_has 1 a1 m) = true
  · replace h := tk_ifT hc1 h
    refine tk_bT  rfl rfl tk_eB_eq (c := (fS_has 1 a1 m) = true) hc1 (pc' := 11) (ls' := [(0, .ref 0), (1, .int a1), (2, .int a2)]) (st' := []) ?_
    refine tk_Ps  3 (pc' := 14) (ls' := [(0, .ref 0), (1, .int a1), (2, .int a2)]) (st' := [.int (4 : Int32), .int (0 : Int32), .int a2]) rfl ?_
    refine tk_cS1  rfl rfl (as := [.int a2, .int (0 : Int32), .int (4 : Int32)]) (rest := []) rfl rfl rfl (ok_fX_isWithin sc a2 (0 : Int32) (4 : Int32) m) ?_
    by_cases hc2 : (fX_isWithin a2 (0 : Int32) (4 : Int32)) = true
    · replace h := tk_ifT hc2 h
      refine tk_bT  rfl rfl tk_eB_ne (c := (fX_isWithin a2 (0 : Int32) (4 : Int32)) = true) hc2 (pc' := 26) (ls' := [(0, .ref 0), (1, .int a1), (2, .int a2)]) (st' := []) ?_
      refine tk_Ps  1 (pc' := 27) (ls' := [(0, .ref 0), (1, .int a1), (2, .int a2)]) (st' := [.ref 0]) rfl ?_
      refine tk_HR  rfl rfl ly0 rt0_0 ?_
      refine tk_HR  rfl rfl ly1 rt1_0 ?_
      refine tk_Ps  1 (pc' := 34) (ls' := [(0, .ref 0), (1, .int a1), (2, .int a2)]) (st' := [.int a1, .ref 2]) rfl ?_
      obtain ⟨hg3, h⟩ := tk_grd h
      refine tk_HP  rfl rfl ly2 hg3 ?_
      refine tk_Ps  3 (pc' := 38) (ls' := [(3, .ref (2 + 2 + (m.2.2.2 2 (tk_n a1)).val)), (0, .ref 0), (1, .int a1), (2, .int a2)]) (st' := [.int a2, .ref (2 + 2 + (m.2.2.2 2 (tk_n a1)).val)]) rfl ?_
      refine tk_cV1  rfl rfl (r := (2 + 2 + (m.2.2.2 2 (tk_n a1)).val)) (as := [.int a2]) (rest := []) rfl (tk_sh ly2 _) rfl rfl (ok_fH_isOf sc (2 + 2 + (m.2.2.2 2 (tk_n a1)).val) a2 m (tk_sh ly2 _)) ?_
      by_cases hc4 : (fH_isOf (2 + 2 + (m.2.2.2 2 (tk_n a1)).val) a2 m) = true
      · replace h := tk_ifT hc4 h
        refine tk_bT  rfl rfl tk_eB_ne (c := (fH_isOf (2 + 2 + (m.2.2.2 2 (tk_n a1)).val) a2 m) = true) hc4 (pc' := 50) (ls' := [(3, .ref (2 + 2 + (m.2.2.2 2 (tk_n a1)).val)), (0, .ref 0), (1, .int a1), (2, .int a2)]) (st' := []) ?_
        refine tk_Ps  1 (pc' := 51) (ls' := [(3, .ref (2 + 2 + (m.2.2.2 2 (tk_n a1)).val)), (0, .ref 0), (1, .int a1), (2, .int a2)]) (st' := [.ref (2 + 2 + (m.2.2.2 2 (tk_n a1)).val)]) rfl ?_
        refine tk_HB  rfl rfl (tk_sh ly2 _) ?_
        by_cases hc5 : (m.2.2.1 (2 + 2 + (m.2.2.2 2 (tk_n a1)).val) 0) = true
        · replace h := tk_ifT hc5 h
          refine tk_bT  rfl rfl tk_eB_eq (c := (m.2.2.1 (2 + 2 + (m.2.2.2 2 (tk_n a1)).val) 0) = true) hc5 (pc' := 57) (ls' := [(3, .ref (2 + 2 + (m.2.2.2 2 (tk_n a1)).val)), (0, .ref 0), (1, .int a1), (2, .int a2)]) (st' := []) ?_
          refine tk_Ps  1 (pc' := 58) (ls' := [(3, .ref (2 + 2 + (m.2.2.2 2 (tk_n a1)).val)), (0, .ref 0), (1, .int a1), (2, .int a2)]) (st' := [.ref (2 + 2 + (m.2.2.2 2 (tk_n a1)).val)]) rfl ?_
          refine tk_HI  rfl rfl (tk_sh ly2 _) ?_
          refine tk_Ps  1 (pc' := 68) (ls' := [(3, .ref (2 + 2 + (m.2.2.2 2 (tk_n a1)).val)), (0, .ref 0), (1, .int a1), (2, .int a2)]) (st' := [.int (m.1 (2 + 2 + (m.2.2.2 2 (tk_n a1)).val) 5)]) rfl ?_
          replace h := Option.some.inj h
          subst h
          exact tk_RI  rfl rfl rfl
        · replace h := tk_ifF hc5 h
          refine tk_bF  rfl rfl tk_eB_eq (c := (m.2.2.1 (2 + 2 + (m.2.2.2 2 (tk_n a1)).val) 0) = true) hc5 (pc' := 64) (ls' := [(3, .ref (2 + 2 + (m.2.2.2 2 (tk_n a1)).val)), (0, .ref 0), (1, .int a1), (2, .int a2)]) (st' := []) ?_
          refine tk_Ps  1 (pc' := 65) (ls' := [(3, .ref (2 + 2 + (m.2.2.2 2 (tk_n a1)).val)), (0, .ref 0), (1, .int a1), (2, .int a2)]) (st' := [.ref (2 + 2 + (m.2.2.2 2 (tk_n a1)).val)]) rfl ?_
          refine tk_HI  rfl rfl (tk_sh ly2 _) ?_
          replace h := Option.some.inj h
          subst h
          exact tk_RI  rfl rfl rfl
      · replace h := tk_ifF hc4 h
        refine tk_bF  rfl rfl tk_eB_ne (c := (fH_isOf (2 + 2 + (m.2.2.2 2 (tk_n a1)).val) a2 m) = true) hc4 (pc' := 44) (ls' := [(3, .ref (2 + 2 + (m.2.2.2 2 (tk_n a1)).val)), (0, .ref 0), (1, .int a1), (2, .int a2)]) (st' := []) ?_
        refine tk_Ps  2 (pc' := 46) (ls' := [(3, .ref (2 + 2 + (m.2.2.2 2 (tk_n a1)).val)), (0, .ref 0), (1, .int a1), (2, .int a2)]) (st' := [.int (2 : Int32), .ref 0]) rfl ?_
        obtain ⟨o6, ho6, h⟩ := tk_bnd h
        refine tk_cV1  rfl rfl (r := 0) (as := [.int (2 : Int32)]) (rest := []) rfl ly0 rfl rfl (ok_fX_finding sc (2 : Int32) m ho6) ?_
        replace h := Option.some.inj h
        subst h
        exact tk_RI  rfl rfl rfl
    · replace h := tk_ifF hc2 h
      refine tk_bF  rfl rfl tk_eB_ne (c := (fX_isWithin a2 (0 : Int32) (4 : Int32)) = true) hc2 (pc' := 20) (ls' := [(0, .ref 0), (1, .int a1), (2, .int a2)]) (st' := []) ?_
      refine tk_Ps  2 (pc' := 22) (ls' := [(0, .ref 0), (1, .int a1), (2, .int a2)]) (st' := [.int (0 : Int32), .ref 0]) rfl ?_
      obtain ⟨o7, ho7, h⟩ := tk_bnd h
      refine tk_cV1  rfl rfl (r := 0) (as := [.int (0 : Int32)]) (rest := []) rfl ly0 rfl rfl (ok_fX_finding sc (0 : Int32) m ho7) ?_
      replace h := Option.some.inj h
      subst h
      exact tk_RI  rfl rfl rfl
  · replace h := tk_ifF hc1 h
    refine tk_bF  rfl rfl tk_eB_eq (c := (fS_has 1 a1 m) = true) hc1 (pc' := 20) (ls' := [(0, .ref 0), (1, .int a1), (2, .int a2)]) (st' := []) ?_
    refine tk_Ps  2 (pc' := 22) (ls' := [(0, .ref 0), (1, .int a1), (2, .int a2)]) (st' := [.int (0 : Int32), .ref 0]) rfl ?_
    obtain ⟨o8, ho8, h⟩ := tk_bnd h
    refine tk_cV1  rfl rfl (r := 0) (as := [.int (0 : Int32)]) (rest := []) rfl ly0 rfl rfl (ok_fX_finding sc (0 : Int32) m ho8) ?_
    replace h := Option.some.inj h
    subst h
    exact tk_RI  rfl rfl rfl
theorem ok_fS_dropLast (sc : tk_X) (t : Nat) (m : tk_m) (ht : tk_lay[t]? = some (.inl 5)) {out : Int32 × tk_m} (h : fS_dropLast t m = out) : tk_Ru sc 1 33 [.ref t] (tk_full m) (some (.int out.1), tk_full out.2) := by
  unfold fS_dropLast at h
  refine tk_Ru0 me33 (ls := [(0, .ref t)]) rfl rfl ?_
  refine tk_Ps  2 (pc' := 2) (ls' := [(0, .ref t)]) (st' := [.int (1 : Int32), .ref t]) rfl ?_
  refine tk_SB (b := true)  rfl rfl ht ?_
  refine tk_Ps  2 (pc' := 7) (ls' := [(0, .ref t)]) (st' := [.ref t, .ref t]) rfl ?_
  refine tk_HI  rfl rfl ht ?_
  refine tk_Ps  2 (pc' := 12) (ls' := [(0, .ref t)]) (st' := [.int ((m.1 t 1) - (1 : Int32)), .ref t]) rfl ?_
  refine tk_SI  rfl rfl ht ?_
  refine tk_Ps  1 (pc' := 16) (ls' := [(0, .ref t)]) (st' := [.ref t]) rfl ?_
  refine tk_HI  rfl rfl ht ?_
  subst h
  exact tk_RI  rfl rfl rfl
theorem ok_fX_drop (sc : tk_X) (m : tk_m) {out : Int32 × tk_m} (h : fX_drop m = some out) : tk_Ru sc 3 32 [.ref 0] (tk_full m) (some (.int out.1), tk_full out.2) := by
  unfold fX_drop at h
  refine tk_Ru0 me32 (ls := [(0, .ref 0)]) rfl rfl ?_
  refine tk_Ps  1 (pc' := 1) (ls' := [(0, .ref 0)]) (st' := [.ref 0]) rfl ?_
  refine tk_HR  rfl rfl ly0 rt0_0 ?_
  refine tk_HI  rfl rfl ly1 ?_
  by_cases hc1 : (m.1 1 1) = 0
  · replace h := tk_ifT hc1 h
    refine tk_bT  rfl rfl rfl (c := (m.1 1 1) = 0) hc1 (pc' := 10) (ls' := [(0, .ref 0)]) (st' := []) ?_
    refine tk_Ps  2 (pc' := 12) (ls' := [(0, .ref 0)]) (st' := [.int (3 : Int32), .ref 0]) rfl ?_
    obtain ⟨o2, ho2, h⟩ := tk_bnd h
    refine tk_cV1  rfl rfl (r := 0) (as := [.int (3 : Int32)]) (rest := []) rfl ly0 rfl rfl (ok_fX_finding sc (3 : Int32) m ho2) ?_
    replace h := Option.some.inj h
    subst h
    exact tk_RI  rfl rfl rfl
  · replace h := tk_ifF hc1 h
    refine tk_bF  rfl rfl rfl (c := (m.1 1 1) = 0) hc1 (pc' := 16) (ls' := [(0, .ref 0)]) (st' := []) ?_
    refine tk_Ps  1 (pc' := 17) (ls' := [(0, .ref 0)]) (st' := [.ref 0]) rfl ?_
    refine tk_HR  rfl rfl ly0 rt0_0 ?_
    obtain ⟨o3, ho3, h⟩ := tk_lete h
    refine tk_cV1  rfl rfl (r := 1) (as := []) (rest := []) rfl ly1 rfl rfl (ok_fS_dropLast sc 1 m ly1 ho3) ?_
    replace h := Option.some.inj h
    subst h
    exact tk_RI  rfl rfl rfl
theorem ok_fS_exchange (sc : tk_X) (t : Nat) (a1 : Int32) (a2 : Int32) (m : tk_m) (ht : tk_lay[t]? = some (.inl 5)) {out : tk_m} (h : fS_exchange t a1 a2 m = some out) : tk_Ru sc 1 36 [.ref t, .int a1, .int a2] (tk_full m) (none, tk_full out) := by
  unfold fS_exchange at h
  refine tk_Ru0 me36 (ls := [(0, .ref t), (1, .int a1), (2, .int a2)]) rfl rfl ?_
  refine tk_Ps  1 (pc' := 1) (ls' := [(0, .ref t), (1, .int a1), (2, .int a2)]) (st' := [.ref t]) rfl ?_
  refine tk_HR  rfl rfl ht (ro5_0 ht) ?_
  refine tk_Ps  1 (pc' := 5) (ls' := [(0, .ref t), (1, .int a1), (2, .int a2)]) (st' := [.int a1, .ref (t + 1)]) rfl ?_
  obtain ⟨hg1, h⟩ := tk_grd h
  refine tk_HP  rfl rfl (lo5_0 ht) hg1 ?_
  refine tk_Ps  2 (pc' := 8) (ls' := [(3, .ref ((t + 1) + 2 + (m.2.2.2 (t + 1) (tk_n a1)).val)), (0, .ref t), (1, .int a1), (2, .int a2)]) (st' := [.ref t]) rfl ?_
  refine tk_HR  rfl rfl ht (ro5_0 ht) ?_
  refine tk_Ps  2 (pc' := 13) (ls' := [(3, .ref ((t + 1) + 2 + (m.2.2.2 (t + 1) (tk_n a1)).val)), (0, .ref t), (1, .int a1), (2, .int a2)]) (st' := [.ref t, .int a1, .ref (t + 1)]) rfl ?_
  refine tk_HR  rfl rfl ht (ro5_0 ht) ?_
  refine tk_Ps  1 (pc' := 17) (ls' := [(3, .ref ((t + 1) + 2 + (m.2.2.2 (t + 1) (tk_n a1)).val)), (0, .ref t), (1, .int a1), (2, .int a2)]) (st' := [.int a2, .ref (t + 1), .int a1, .ref (t + 1)]) rfl ?_
  obtain ⟨hg2, h⟩ := tk_grd h
  refine tk_HP  rfl rfl (lo5_0 ht) hg2 ?_
  refine tk_SP (f := m.2.2.2 (t + 1) (tk_n a2))  rfl rfl (lo5_0 ht) hg1 ?_
  refine tk_Ps  1 (pc' := 20) (ls' := [(3, .ref ((t + 1) + 2 + (m.2.2.2 (t + 1) (tk_n a1)).val)), (0, .ref t), (1, .int a1), (2, .int a2)]) (st' := [.ref t]) rfl ?_
  refine tk_HR  rfl rfl ht (ro5_0 ht) ?_
  refine tk_Ps  2 (pc' := 25) (ls' := [(3, .ref ((t + 1) + 2 + (m.2.2.2 (t + 1) (tk_n a1)).val)), (0, .ref t), (1, .int a1), (2, .int a2)]) (st' := [.ref ((t + 1) + 2 + (m.2.2.2 (t + 1) (tk_n a1)).val), .int a2, .ref (t + 1)]) rfl ?_
  refine tk_SP (f := m.2.2.2 (t + 1) (tk_n a1))  rfl rfl (lo5_0 ht) hg2 ?_
  refine tk_Ps  2 (pc' := 28) (ls' := [(3, .ref ((t + 1) + 2 + (m.2.2.2 (t + 1) (tk_n a1)).val)), (0, .ref t), (1, .int a1), (2, .int a2)]) (st' := [.int (1 : Int32), .ref t]) rfl ?_
  refine tk_SB (b := true)  rfl rfl ht ?_
  replace h := Option.some.inj h
  subst h
  exact tk_RV  rfl rfl rfl
theorem ok_fS_takeOut_46 (sc : tk_X) (v0 : Nat) (v2 : Int32) (v3 : Int32) (m : tk_m) (hv0 : tk_lay[v0]? = some (.inl 5)) (out : Int32 × tk_m) (h : fS_takeOut_46 v0 v2 v3 m = some out) : tk_Ex sc 2 tk_r35 tk_k35 46 [(0, .ref v0), (2, .int v2), (3, .int v3)] [] (tk_full m) (some (.int out.1), tk_full out.2) := by
  unfold fS_takeOut_46 at h
  refine tk_Ps  2 (pc' := 48) (ls' := [(0, .ref v0), (2, .int v2), (3, .int v3)]) (st' := [.int (1 : Int32), .ref v0]) rfl ?_
  refine tk_SB (b := true)  rfl rfl hv0 ?_
  refine tk_Ps  2 (pc' := 53) (ls' := [(0, .ref v0), (2, .int v2), (3, .int v3)]) (st' := [.int v2, .ref v0]) rfl ?_
  refine tk_SI  rfl rfl hv0 ?_
  refine tk_Ps  3 (pc' := 59) (ls' := [(0, .ref v0), (2, .int v2), (3, .int v3)]) (st' := [.int (v3 - v2)]) rfl ?_
  replace h := Option.some.inj h
  subst h
  exact tk_RI  rfl rfl rfl
theorem ok_fS_takeOut_10 (sc : tk_X) : ∀ (n : Nat) (v0 : Nat) (v1 : Int32) (v2 : Int32) (v3 : Int32) (v4 : Int32) (m : tk_m) (hv0 : tk_lay[v0]? = some (.inl 5)) (out : Int32 × tk_m), fS_takeOut_10 n v0 v1 v2 v3 v4 m = some out → tk_Ex sc 2 tk_r35 tk_k35 10 [(0, .ref v0), (1, .int v1), (2, .int v2), (3, .int v3), (4, .int v4)] [] (tk_full m) (some (.int out.1), tk_full out.2) := by
  intro n
  induction n with
  | zero =>
    intro v0 v1 v2 v3 v4 m hv0 out h
    cases h
  | succ n ih =>
    intro v0 v1 v2 v3 v4 m hv0 out h
    unfold fS_takeOut_10 at h
    refine tk_Ps  2 (pc' := 13) (ls' := [(0, .ref v0), (1, .int v1), (2, .int v2), (3, .int v3), (4, .int v4)]) (st' := [.int v3, .int v4]) rfl ?_
    by_cases hc1 : v3 ≤ v4
    · replace h := tk_ifT hc1 h
      refine tk_bT  rfl rfl rfl (c := v3 ≤ v4) hc1 (pc' := 46) (ls' := [(0, .ref v0), (1, .int v1), (2, .int v2), (3, .int v3), (4, .int v4)]) (st' := []) ?_
      refine tk_Kp  (ls' := [(0, .ref v0), (2, .int v2), (3, .int v3)]) rfl rfl ?_
      exact ok_fS_takeOut_46 sc v0 v2 v3 m hv0 _ h
    · replace h := tk_ifF hc1 h
      refine tk_bF  rfl rfl rfl (c := v3 ≤ v4) hc1 (pc' := 16) (ls' := [(0, .ref v0), (1, .int v1), (2, .int v2), (3, .int v3), (4, .int v4)]) (st' := []) ?_
      refine tk_Ps  1 (pc' := 17) (ls' := [(0, .ref v0), (1, .int v1), (2, .int v2), (3, .int v3), (4, .int v4)]) (st' := [.ref v0]) rfl ?_
      refine tk_HR  rfl rfl hv0 (ro5_0 hv0) ?_
      refine tk_Ps  1 (pc' := 22) (ls' := [(0, .ref v0), (1, .int v1), (2, .int v2), (3, .int v3), (4, .int v4)]) (st' := [.int v4, .ref (v0 + 1)]) rfl ?_
      obtain ⟨hg2, h⟩ := tk_grd h
      refine tk_HP  rfl rfl (lo5_0 hv0) hg2 ?_
      refine tk_Ps  1 (pc' := 24) (ls' := [(0, .ref v0), (1, .int v1), (2, .int v2), (3, .int v3), (4, .int v4)]) (st' := [.int v1, .ref ((v0 + 1) + 2 + (m.2.2.2 (v0 + 1) (tk_n v4)).val)]) rfl ?_
      refine tk_cV1  rfl rfl (r := ((v0 + 1) + 2 + (m.2.2.2 (v0 + 1) (tk_n v4)).val)) (as := [.int v1]) (rest := []) rfl (tk_sh (lo5_0 hv0) _) rfl rfl (ok_fH_isOf sc ((v0 + 1) + 2 + (m.2.2.2 (v0 + 1) (tk_n v4)).val) v1 m (tk_sh (lo5_0 hv0) _)) ?_
      by_cases hc3 : (fH_isOf ((v0 + 1) + 2 + (m.2.2.2 (v0 + 1) (tk_n v4)).val) v1 m) = true
      · replace h := tk_ifT hc3 h
        refine tk_bT  rfl rfl tk_eB_ne (c := (fH_isOf ((v0 + 1) + 2 + (m.2.2.2 (v0 + 1) (tk_n v4)).val) v1 m) = true) hc3 (pc' := 40) (ls' := [(0, .ref v0), (1, .int v1), (2, .int v2), (3, .int v3), (4, .int v4)]) (st' := []) ?_
        refine tk_Ps  2 (pc' := 10) (ls' := [(4, .int (v4 + (1 : Int32))), (0, .ref v0), (1, .int v1), (2, .int v2), (3, .int v3)]) (st' := []) rfl ?_
        refine tk_Kp  (ls' := [(0, .ref v0), (1, .int v1), (2, .int v2), (3, .int v3), (4, .int (v4 + (1 : Int32)))]) rfl rfl ?_
        exact ih v0 v1 v2 v3 (v4 + (1 : Int32)) m hv0 _ h
      · replace h := tk_ifF hc3 h
        refine tk_bF  rfl rfl tk_eB_ne (c := (fH_isOf ((v0 + 1) + 2 + (m.2.2.2 (v0 + 1) (tk_n v4)).val) v1 m) = true) hc3 (pc' := 30) (ls' := [(0, .ref v0), (1, .int v1), (2, .int v2), (3, .int v3), (4, .int v4)]) (st' := []) ?_
        refine tk_Ps  3 (pc' := 34) (ls' := [(0, .ref v0), (1, .int v1), (2, .int v2), (3, .int v3), (4, .int v4)]) (st' := [.int v4, .int v2, .ref v0]) rfl ?_
        obtain ⟨o4, ho4, h⟩ := tk_bnd h
        refine tk_cV0  rfl rfl (r := v0) (as := [.int v2, .int v4]) (rest := []) rfl hv0 rfl rfl (ok_fS_exchange sc v0 v2 v4 m hv0 ho4) ?_
        refine tk_Ps  3 (pc' := 10) (ls' := [(4, .int (v4 + (1 : Int32))), (2, .int (v2 + (1 : Int32))), (0, .ref v0), (1, .int v1), (3, .int v3)]) (st' := []) rfl ?_
        refine tk_Kp  (ls' := [(0, .ref v0), (1, .int v1), (2, .int (v2 + (1 : Int32))), (3, .int v3), (4, .int (v4 + (1 : Int32)))]) rfl rfl ?_
        exact ih v0 v1 (v2 + (1 : Int32)) v3 (v4 + (1 : Int32)) o4 hv0 _ h
theorem ok_fS_takeOut (sc : tk_X) (t : Nat) (a1 : Int32) (m : tk_m) (ht : tk_lay[t]? = some (.inl 5)) {out : Int32 × tk_m} (h : fS_takeOut t a1 m = some out) : tk_Ru sc 3 35 [.ref t, .int a1] (tk_full m) (some (.int out.1), tk_full out.2) := by
  unfold fS_takeOut at h
  refine tk_Ru0 me35 (ls := [(0, .ref t), (1, .int a1)]) rfl rfl ?_
  refine tk_Ps  3 (pc' := 3) (ls' := [(2, .int (0 : Int32)), (0, .ref t), (1, .int a1)]) (st' := [.ref t]) rfl ?_
  refine tk_HI  rfl rfl ht ?_
  refine tk_Ps  3 (pc' := 10) (ls' := [(4, .int (0 : Int32)), (3, .int (m.1 t 1)), (2, .int (0 : Int32)), (0, .ref t), (1, .int a1)]) (st' := []) rfl ?_
  refine tk_Kp  (ls' := [(0, .ref t), (1, .int a1), (2, .int (0 : Int32)), (3, .int (m.1 t 1)), (4, .int (0 : Int32))]) rfl rfl ?_
  exact ok_fS_takeOut_10 sc tk_F t a1 (0 : Int32) (m.1 t 1) (0 : Int32) m ht _ h
theorem ok_fX_prune (sc : tk_X) (a1 : Int32) (m : tk_m) {out : Int32 × tk_m} (h : fX_prune a1 m = some out) : tk_Ru sc 4 34 [.ref 0, .int a1] (tk_full m) (some (.int out.1), tk_full out.2) := by
  unfold fX_prune at h
  refine tk_Ru0 me34 (ls := [(0, .ref 0), (1, .int a1)]) rfl rfl ?_
  refine tk_Ps  3 (pc' := 3) (ls' := [(0, .ref 0), (1, .int a1)]) (st' := [.int (4 : Int32), .int (0 : Int32), .int a1]) rfl ?_
  refine tk_cS1  rfl rfl (as := [.int a1, .int (0 : Int32), .int (4 : Int32)]) (rest := []) rfl rfl rfl (ok_fX_isWithin sc a1 (0 : Int32) (4 : Int32) m) ?_
  by_cases hc1 : (fX_isWithin a1 (0 : Int32) (4 : Int32)) = true
  · replace h := tk_ifT hc1 h
    refine tk_bT  rfl rfl tk_eB_ne (c := (fX_isWithin a1 (0 : Int32) (4 : Int32)) = true) hc1 (pc' := 15) (ls' := [(0, .ref 0), (1, .int a1)]) (st' := []) ?_
    refine tk_Ps  1 (pc' := 16) (ls' := [(0, .ref 0), (1, .int a1)]) (st' := [.ref 0]) rfl ?_
    refine tk_HR  rfl rfl ly0 rt0_0 ?_
    refine tk_Ps  1 (pc' := 20) (ls' := [(0, .ref 0), (1, .int a1)]) (st' := [.int a1, .ref 1]) rfl ?_
    obtain ⟨o2, ho2, h⟩ := tk_bnd h
    refine tk_cV1  rfl rfl (r := 1) (as := [.int a1]) (rest := []) rfl ly1 rfl rfl (ok_fS_takeOut sc 1 a1 m ly1 ho2) ?_
    replace h := Option.some.inj h
    subst h
    exact tk_RI  rfl rfl rfl
  · replace h := tk_ifF hc1 h
    refine tk_bF  rfl rfl tk_eB_ne (c := (fX_isWithin a1 (0 : Int32) (4 : Int32)) = true) hc1 (pc' := 9) (ls' := [(0, .ref 0), (1, .int a1)]) (st' := []) ?_
    refine tk_Ps  2 (pc' := 11) (ls' := [(0, .ref 0), (1, .int a1)]) (st' := [.int (0 : Int32), .ref 0]) rfl ?_
    obtain ⟨o3, ho3, h⟩ := tk_bnd h
    refine tk_cV1  rfl rfl (r := 0) (as := [.int (0 : Int32)]) (rest := []) rfl ly0 rfl rfl (ok_fX_finding sc (0 : Int32) m ho3) ?_
    replace h := Option.some.inj h
    subst h
    exact tk_RI  rfl rfl rfl
theorem ok_fX_swap (sc : tk_X) (a1 : Int32) (a2 : Int32) (m : tk_m) {out : Int32 × tk_m} (h : fX_swap a1 a2 m = some out) : tk_Ru sc 3 37 [.ref 0, .int a1, .int a2] (tk_full m) (some (.int out.1), tk_full out.2) := by
  unfold fX_swap at h
  refine tk_Ru0 me37 (ls := [(0, .ref 0), (1, .int a1), (2, .int a2)]) rfl rfl ?_
  refine tk_Ps  1 (pc' := 1) (ls' := [(0, .ref 0), (1, .int a1), (2, .int a2)]) (st' := [.ref 0]) rfl ?_
  refine tk_HR  rfl rfl ly0 rt0_0 ?_
  refine tk_Ps  1 (pc' := 5) (ls' := [(0, .ref 0), (1, .int a1), (2, .int a2)]) (st' := [.int a1, .ref 1]) rfl ?_
  refine tk_cV1  rfl rfl (r := 1) (as := [.int a1]) (rest := []) rfl ly1 rfl rfl (ok_fS_has sc 1 a1 m ly1) ?_
  by_cases hc1 : (fS_has 1 a1 m) = true
  · replace h := tk_ifT hc1 h
    refine tk_bT  rfl rfl tk_eB_eq (c := (fS_has 1 a1 m) = true) hc1 (pc' := 11) (ls' := [(0, .ref 0), (1, .int a1), (2, .int a2)]) (st' := []) ?_
    refine tk_Ps  1 (pc' := 12) (ls' := [(0, .ref 0), (1, .int a1), (2, .int a2)]) (st' := [.ref 0]) rfl ?_
    refine tk_HR  rfl rfl ly0 rt0_0 ?_
    refine tk_Ps  1 (pc' := 16) (ls' := [(0, .ref 0), (1, .int a1), (2, .int a2)]) (st' := [.int a2, .ref 1]) rfl ?_
    refine tk_cV1  rfl rfl (r := 1) (as := [.int a2]) (rest := []) rfl ly1 rfl rfl (ok_fS_has sc 1 a2 m ly1) ?_
    by_cases hc2 : (fS_has 1 a2 m) = true
    · replace h := tk_ifT hc2 h
      refine tk_bT  rfl rfl tk_eB_ne (c := (fS_has 1 a2 m) = true) hc2 (pc' := 28) (ls' := [(0, .ref 0), (1, .int a1), (2, .int a2)]) (st' := []) ?_
      refine tk_Ps  1 (pc' := 29) (ls' := [(0, .ref 0), (1, .int a1), (2, .int a2)]) (st' := [.ref 0]) rfl ?_
      refine tk_HR  rfl rfl ly0 rt0_0 ?_
      refine tk_Ps  2 (pc' := 34) (ls' := [(0, .ref 0), (1, .int a1), (2, .int a2)]) (st' := [.int a2, .int a1, .ref 1]) rfl ?_
      obtain ⟨o3, ho3, h⟩ := tk_bnd h
      refine tk_cV0  rfl rfl (r := 1) (as := [.int a1, .int a2]) (rest := []) rfl ly1 rfl rfl (ok_fS_exchange sc 1 a1 a2 m ly1 ho3) ?_
      refine tk_Ps  1 (pc' := 38) (ls' := [(0, .ref 0), (1, .int a1), (2, .int a2)]) (st' := [.int (1 : Int32)]) rfl ?_
      replace h := Option.some.inj h
      subst h
      exact tk_RI  rfl rfl rfl
    · replace h := tk_ifF hc2 h
      refine tk_bF  rfl rfl tk_eB_ne (c := (fS_has 1 a2 m) = true) hc2 (pc' := 22) (ls' := [(0, .ref 0), (1, .int a1), (2, .int a2)]) (st' := []) ?_
      refine tk_Ps  2 (pc' := 24) (ls' := [(0, .ref 0), (1, .int a1), (2, .int a2)]) (st' := [.int (0 : Int32), .ref 0]) rfl ?_
      obtain ⟨o4, ho4, h⟩ := tk_bnd h
      refine tk_cV1  rfl rfl (r := 0) (as := [.int (0 : Int32)]) (rest := []) rfl ly0 rfl rfl (ok_fX_finding sc (0 : Int32) m ho4) ?_
      replace h := Option.some.inj h
      subst h
      exact tk_RI  rfl rfl rfl
  · replace h := tk_ifF hc1 h
    refine tk_bF  rfl rfl tk_eB_eq (c := (fS_has 1 a1 m) = true) hc1 (pc' := 22) (ls' := [(0, .ref 0), (1, .int a1), (2, .int a2)]) (st' := []) ?_
    refine tk_Ps  2 (pc' := 24) (ls' := [(0, .ref 0), (1, .int a1), (2, .int a2)]) (st' := [.int (0 : Int32), .ref 0]) rfl ?_
    obtain ⟨o5, ho5, h⟩ := tk_bnd h
    refine tk_cV1  rfl rfl (r := 0) (as := [.int (0 : Int32)]) (rest := []) rfl ly0 rfl rfl (ok_fX_finding sc (0 : Int32) m ho5) ?_
    replace h := Option.some.inj h
    subst h
    exact tk_RI  rfl rfl rfl
theorem ok_fS_reverse_2 (sc : tk_X) : ∀ (n : Nat) (v0 : Nat) (v1 : Int32) (m : tk_m) (hv0 : tk_lay[v0]? = some (.inl 5)) (out : Int32 × tk_m), fS_reverse_2 n v0 v1 m = some out → tk_Ex sc 1 tk_r39 tk_k39 2 [(0, .ref v0), (1, .int v1)] [] (tk_full m) (some (.int out.1), tk_full out.2) := by
  intro n
  induction n with
  | zero =>
    intro v0 v1 m hv0 out h
    cases h
  | succ n ih =>
    intro v0 v1 m hv0 out h
    unfold fS_reverse_2 at h
    refine tk_Ps  2 (pc' := 4) (ls' := [(0, .ref v0), (1, .int v1)]) (st' := [.ref v0, .int v1]) rfl ?_
    refine tk_HI  rfl rfl hv0 ?_
    refine tk_Ps  2 (pc' := 9) (ls' := [(0, .ref v0), (1, .int v1)]) (st' := [.int ((m.1 v0 1) / (2 : Int32)), .int v1]) rfl ?_
    by_cases hc1 : ((m.1 v0 1) / (2 : Int32)) ≤ v1
    · replace h := tk_ifT hc1 h
      refine tk_bT  rfl rfl rfl (c := ((m.1 v0 1) / (2 : Int32)) ≤ v1) hc1 (pc' := 31) (ls' := [(0, .ref v0), (1, .int v1)]) (st' := []) ?_
      refine tk_Ps  1 (pc' := 32) (ls' := [(0, .ref v0), (1, .int v1)]) (st' := [.ref v0]) rfl ?_
      refine tk_HI  rfl rfl hv0 ?_
      replace h := Option.some.inj h
      subst h
      exact tk_RI  rfl rfl rfl
    · replace h := tk_ifF hc1 h
      refine tk_bF  rfl rfl rfl (c := ((m.1 v0 1) / (2 : Int32)) ≤ v1) hc1 (pc' := 12) (ls' := [(0, .ref v0), (1, .int v1)]) (st' := []) ?_
      refine tk_Ps  3 (pc' := 15) (ls' := [(0, .ref v0), (1, .int v1)]) (st' := [.ref v0, .int v1, .ref v0]) rfl ?_
      refine tk_HI  rfl rfl hv0 ?_
      refine tk_Ps  4 (pc' := 22) (ls' := [(0, .ref v0), (1, .int v1)]) (st' := [.int (((m.1 v0 1) - (1 : Int32)) - v1), .int v1, .ref v0]) rfl ?_
      obtain ⟨o2, ho2, h⟩ := tk_bnd h
      refine tk_cV0  rfl rfl (r := v0) (as := [.int v1, .int (((m.1 v0 1) - (1 : Int32)) - v1)]) (rest := []) rfl hv0 rfl rfl (ok_fS_exchange sc v0 v1 (((m.1 v0 1) - (1 : Int32)) - v1) m hv0 ho2) ?_
      refine tk_Ps  2 (pc' := 2) (ls' := [(1, .int (v1 + (1 : Int32))), (0, .ref v0)]) (st' := []) rfl ?_
      refine tk_Kp  (ls' := [(0, .ref v0), (1, .int (v1 + (1 : Int32)))]) rfl rfl ?_
      exact ih v0 (v1 + (1 : Int32)) o2 hv0 _ h
theorem ok_fS_reverse (sc : tk_X) (t : Nat) (m : tk_m) (ht : tk_lay[t]? = some (.inl 5)) {out : Int32 × tk_m} (h : fS_reverse t m = some out) : tk_Ru sc 2 39 [.ref t] (tk_full m) (some (.int out.1), tk_full out.2) := by
  unfold fS_reverse at h
  refine tk_Ru0 me39 (ls := [(0, .ref t)]) rfl rfl ?_
  refine tk_Ps  2 (pc' := 2) (ls' := [(1, .int (0 : Int32)), (0, .ref t)]) (st' := []) rfl ?_
  refine tk_Kp  (ls' := [(0, .ref t), (1, .int (0 : Int32))]) rfl rfl ?_
  exact ok_fS_reverse_2 sc tk_F t (0 : Int32) m ht _ h
theorem ok_fX_turn (sc : tk_X) (m : tk_m) {out : Int32 × tk_m} (h : fX_turn m = some out) : tk_Ru sc 3 38 [.ref 0] (tk_full m) (some (.int out.1), tk_full out.2) := by
  unfold fX_turn at h
  refine tk_Ru0 me38 (ls := [(0, .ref 0)]) rfl rfl ?_
  refine tk_Ps  1 (pc' := 1) (ls' := [(0, .ref 0)]) (st' := [.ref 0]) rfl ?_
  refine tk_HR  rfl rfl ly0 rt0_0 ?_
  obtain ⟨o1, ho1, h⟩ := tk_bnd h
  refine tk_cV1  rfl rfl (r := 1) (as := []) (rest := []) rfl ly1 rfl rfl (ok_fS_reverse sc 1 m ly1 ho1) ?_
  replace h := Option.some.inj h
  subst h
  exact tk_RI  rfl rfl rfl
theorem ok_fX_areTwoShapes (sc : tk_X) (a1 : Int32) (a2 : Int32) (m : tk_m) : tk_Ru sc 2 41 [.ref 0, .int a1, .int a2] (tk_full m) (some (.int (tk_b (fX_areTwoShapes a1 a2 m))), tk_full m) := by
  obtain ⟨out, h⟩ : ∃ out, fX_areTwoShapes a1 a2 m = out := ⟨_, rfl⟩
  rw [h]
  unfold fX_areTwoShapes at h
  refine tk_Ru0 me41 (ls := [(0, .ref 0), (1, .int a1), (2, .int a2)]) rfl rfl ?_
  refine tk_Ps  1 (pc' := 1) (ls' := [(0, .ref 0), (1, .int a1), (2, .int a2)]) (st' := [.ref 0]) rfl ?_
  refine tk_HR  rfl rfl ly0 rt0_0 ?_
  refine tk_Ps  1 (pc' := 5) (ls' := [(0, .ref 0), (1, .int a1), (2, .int a2)]) (st' := [.int a1, .ref 1]) rfl ?_
  refine tk_cV1  rfl rfl (r := 1) (as := [.int a1]) (rest := []) rfl ly1 rfl rfl (ok_fS_has sc 1 a1 m ly1) ?_
  by_cases hc1 : (fS_has 1 a1 m) = true
  · replace h := tk_ifT hc1 h
    refine tk_bT  rfl rfl tk_eB_eq (c := (fS_has 1 a1 m) = true) hc1 (pc' := 11) (ls' := [(0, .ref 0), (1, .int a1), (2, .int a2)]) (st' := []) ?_
    refine tk_Ps  1 (pc' := 12) (ls' := [(0, .ref 0), (1, .int a1), (2, .int a2)]) (st' := [.ref 0]) rfl ?_
    refine tk_HR  rfl rfl ly0 rt0_0 ?_
    refine tk_Ps  1 (pc' := 16) (ls' := [(0, .ref 0), (1, .int a1), (2, .int a2)]) (st' := [.int a2, .ref 1]) rfl ?_
    refine tk_cV1  rfl rfl (r := 1) (as := [.int a2]) (rest := []) rfl ly1 rfl rfl (ok_fS_has sc 1 a2 m ly1) ?_
    by_cases hc2 : (fS_has 1 a2 m) = true
    · replace h := tk_ifT hc2 h
      refine tk_bT  rfl rfl tk_eB_eq (c := (fS_has 1 a2 m) = true) hc2 (pc' := 22) (ls' := [(0, .ref 0), (1, .int a1), (2, .int a2)]) (st' := []) ?_
      refine tk_Ps  2 (pc' := 24) (ls' := [(0, .ref 0), (1, .int a1), (2, .int a2)]) (st' := [.int a2, .int a1]) rfl ?_
      by_cases hc3 : a1 = a2
      · replace h := tk_ifT hc3 h
        refine tk_bT  rfl rfl rfl (c := a1 = a2) hc3 (pc' := 31) (ls' := [(0, .ref 0), (1, .int a1), (2, .int a2)]) (st' := []) ?_
        refine tk_Ps  1 (pc' := 32) (ls' := [(0, .ref 0), (1, .int a1), (2, .int a2)]) (st' := [.int (0 : Int32)]) rfl ?_
        subst h
        exact tk_RB (b := false)  rfl rfl rfl
      · replace h := tk_ifF hc3 h
        refine tk_bF  rfl rfl rfl (c := a1 = a2) hc3 (pc' := 27) (ls' := [(0, .ref 0), (1, .int a1), (2, .int a2)]) (st' := []) ?_
        refine tk_Ps  2 (pc' := 32) (ls' := [(0, .ref 0), (1, .int a1), (2, .int a2)]) (st' := [.int (1 : Int32)]) rfl ?_
        subst h
        exact tk_RB (b := true)  rfl rfl rfl
    · replace h := tk_ifF hc2 h
      refine tk_bF  rfl rfl tk_eB_eq (c := (fS_has 1 a2 m) = true) hc2 (pc' := 31) (ls' := [(0, .ref 0), (1, .int a1), (2, .int a2)]) (st' := []) ?_
      refine tk_Ps  1 (pc' := 32) (ls' := [(0, .ref 0), (1, .int a1), (2, .int a2)]) (st' := [.int (0 : Int32)]) rfl ?_
      subst h
      exact tk_RB (b := false)  rfl rfl rfl
  · replace h := tk_ifF hc1 h
    refine tk_bF  rfl rfl tk_eB_eq (c := (fS_has 1 a1 m) = true) hc1 (pc' := 31) (ls' := [(0, .ref 0), (1, .int a1), (2, .int a2)]) (st' := []) ?_
    refine tk_Ps  1 (pc' := 32) (ls' := [(0, .ref 0), (1, .int a1), (2, .int a2)]) (st' := [.int (0 : Int32)]) rfl ?_
    subst h
    exact tk_RB (b := false)  rfl rfl rfl
theorem ok_fH_powerIn (sc : tk_X) (t : Nat) (a1 : Int32) (a2 : Int32) (m : tk_m) (ht : tk_lay[t]? = some (.inl 6)) : tk_Ru sc 2 44 [.ref t, .int a1, .int a2] (tk_full m) (some (.int (fH_powerIn t a1 a2 m)), tk_full m) := by
  obtain ⟨out, h⟩ : ∃ out, fH_powerIn t a1 a2 m = out := ⟨_, rfl⟩
  rw [h]
  unfold fH_powerIn at h
  refine tk_Ru0 me44 (ls := [(0, .ref t), (1, .int a1), (2, .int a2)]) rfl rfl ?_
  refine tk_Ps  2 (pc' := 2) (ls' := [(0, .ref t), (1, .int a1), (2, .int a2)]) (st' := [.int (0 : Int32), .ref t]) rfl ?_
  refine tk_cV1  rfl rfl (r := t) (as := [.int (0 : Int32)]) (rest := []) rfl ht rfl rfl (ok_fH_formNumber sc t (0 : Int32) m ht) ?_
  refine tk_Ps  10 (pc' := 15) (ls' := [(0, .ref t), (1, .int a1), (2, .int a2)]) (st' := [.int (1 : Int32), .ref t, .int ((fH_formNumber t (0 : Int32) m) * ((a1 * a1) + (a2 * a2)))]) rfl ?_
  refine tk_cV1  rfl rfl (r := t) (as := [.int (1 : Int32)]) (rest := [.int ((fH_formNumber t (0 : Int32) m) * ((a1 * a1) + (a2 * a2)))]) rfl ht rfl rfl (ok_fH_formNumber sc t (1 : Int32) m ht) ?_
  refine tk_Ps  5 (pc' := 23) (ls' := [(0, .ref t), (1, .int a1), (2, .int a2)]) (st' := [.int (2 : Int32), .ref t, .int (((fH_formNumber t (0 : Int32) m) * ((a1 * a1) + (a2 * a2))) + ((fH_formNumber t (1 : Int32) m) * a1))]) rfl ?_
  refine tk_cV1  rfl rfl (r := t) (as := [.int (2 : Int32)]) (rest := [.int (((fH_formNumber t (0 : Int32) m) * ((a1 * a1) + (a2 * a2))) + ((fH_formNumber t (1 : Int32) m) * a1))]) rfl ht rfl rfl (ok_fH_formNumber sc t (2 : Int32) m ht) ?_
  refine tk_Ps  5 (pc' := 31) (ls' := [(0, .ref t), (1, .int a1), (2, .int a2)]) (st' := [.int (3 : Int32), .ref t, .int ((((fH_formNumber t (0 : Int32) m) * ((a1 * a1) + (a2 * a2))) + ((fH_formNumber t (1 : Int32) m) * a1)) + ((fH_formNumber t (2 : Int32) m) * a2))]) rfl ?_
  refine tk_cV1  rfl rfl (r := t) (as := [.int (3 : Int32)]) (rest := [.int ((((fH_formNumber t (0 : Int32) m) * ((a1 * a1) + (a2 * a2))) + ((fH_formNumber t (1 : Int32) m) * a1)) + ((fH_formNumber t (2 : Int32) m) * a2))]) rfl ht rfl rfl (ok_fH_formNumber sc t (3 : Int32) m ht) ?_
  refine tk_Ps  1 (pc' := 35) (ls' := [(0, .ref t), (1, .int a1), (2, .int a2)]) (st' := [.int (((((fH_formNumber t (0 : Int32) m) * ((a1 * a1) + (a2 * a2))) + ((fH_formNumber t (1 : Int32) m) * a1)) + ((fH_formNumber t (2 : Int32) m) * a2)) + (fH_formNumber t (3 : Int32) m))]) rfl ?_
  subst h
  exact tk_RI  rfl rfl rfl
theorem ok_fZ_compare_I (sc : tk_X) (a1 : Int32) (a2 : Int32) (m : tk_m) : tk_Ru sc 1 45 [.int a1, .int a2] (tk_full m) (some (.int (fZ_compare_I a1 a2)), tk_full m) := by
  obtain ⟨out, h⟩ : ∃ out, fZ_compare_I a1 a2 = out := ⟨_, rfl⟩
  rw [h]
  unfold fZ_compare_I at h
  refine tk_Ru0 me45 (ls := [(0, .int a1), (1, .int a2)]) rfl rfl ?_
  refine tk_Ps  2 (pc' := 2) (ls' := [(0, .int a1), (1, .int a2)]) (st' := [.int a2, .int a1]) rfl ?_
  by_cases hc1 : a2 ≤ a1
  · replace h := tk_ifT hc1 h
    refine tk_bT  rfl rfl rfl (c := a2 ≤ a1) hc1 (pc' := 9) (ls' := [(0, .int a1), (1, .int a2)]) (st' := []) ?_
    refine tk_Ps  2 (pc' := 11) (ls' := [(0, .int a1), (1, .int a2)]) (st' := [.int a2, .int a1]) rfl ?_
    by_cases hc2 : a1 = a2
    · replace h := tk_ifT hc2 h
      refine tk_bT  rfl rfl rfl (c := a1 = a2) hc2 (pc' := 14) (ls' := [(0, .int a1), (1, .int a2)]) (st' := []) ?_
      refine tk_Ps  2 (pc' := 19) (ls' := [(0, .int a1), (1, .int a2)]) (st' := [.int (0 : Int32)]) rfl ?_
      subst h
      exact tk_RI  rfl rfl rfl
    · replace h := tk_ifF hc2 h
      refine tk_bF  rfl rfl rfl (c := a1 = a2) hc2 (pc' := 18) (ls' := [(0, .int a1), (1, .int a2)]) (st' := []) ?_
      refine tk_Ps  1 (pc' := 19) (ls' := [(0, .int a1), (1, .int a2)]) (st' := [.int (1 : Int32)]) rfl ?_
      subst h
      exact tk_RI  rfl rfl rfl
  · replace h := tk_ifF hc1 h
    refine tk_bF  rfl rfl rfl (c := a2 ≤ a1) hc1 (pc' := 5) (ls' := [(0, .int a1), (1, .int a2)]) (st' := []) ?_
    refine tk_Ps  2 (pc' := 19) (ls' := [(0, .int a1), (1, .int a2)]) (st' := [.int (-1 : Int32)]) rfl ?_
    subst h
    exact tk_RI  rfl rfl rfl
theorem ok_fH_crossings (sc : tk_X) (t : Nat) (a1 : Nat) (m : tk_m) (ht : tk_lay[t]? = some (.inl 6)) (ha1 : tk_lay[a1]? = some (.inl 6)) : tk_Ru sc 3 43 [.ref t, .ref a1] (tk_full m) (some (.int (fH_crossings t a1 m)), tk_full m) := by
  obtain ⟨out, h⟩ : ∃ out, fH_crossings t a1 m = out := ⟨_, rfl⟩
  rw [h]
  unfold fH_crossings at h
  refine tk_Ru0 me43 (ls := [(0, .ref t), (1, .ref a1)]) rfl rfl ?_
  refine tk_Ps  2 (pc' := 2) (ls' := [(0, .ref t), (1, .ref a1)]) (st' := [.ref a1, .ref t]) rfl ?_
  refine tk_HI  rfl rfl ha1 ?_
  refine tk_Ps  1 (pc' := 6) (ls' := [(0, .ref t), (1, .ref a1)]) (st' := [.ref a1, .int (m.1 a1 1), .ref t]) rfl ?_
  refine tk_HI  rfl rfl ha1 ?_
  refine tk_cV1  rfl rfl (r := t) (as := [.int (m.1 a1 1), .int (m.1 a1 2)]) (rest := []) rfl ht rfl rfl (ok_fH_powerIn sc t (m.1 a1 1) (m.1 a1 2) m ht) ?_
  refine tk_Ps  2 (pc' := 14) (ls' := [(2, .int (fH_powerIn t (m.1 a1 1) (m.1 a1 2) m)), (0, .ref t), (1, .ref a1)]) (st' := [.ref t]) rfl ?_
  refine tk_HI  rfl rfl ht ?_
  refine tk_Ps  1 (pc' := 18) (ls' := [(2, .int (fH_powerIn t (m.1 a1 1) (m.1 a1 2) m)), (0, .ref t), (1, .ref a1)]) (st' := [.ref a1, .int (m.1 t 8)]) rfl ?_
  refine tk_HI  rfl rfl ha1 ?_
  refine tk_Ps  9 (pc' := 30) (ls' := [(3, .int ((m.1 t 8) * (m.1 a1 3))), (2, .int (fH_powerIn t (m.1 a1 1) (m.1 a1 2) m)), (0, .ref t), (1, .ref a1)]) (st' := [.int (((m.1 t 8) * (m.1 a1 3)) * ((m.1 t 8) * (m.1 a1 3))), .int ((fH_powerIn t (m.1 a1 1) (m.1 a1 2) m) * (fH_powerIn t (m.1 a1 1) (m.1 a1 2) m)), .int (1 : Int32)]) rfl ?_
  refine tk_cS1  rfl rfl (as := [.int ((fH_powerIn t (m.1 a1 1) (m.1 a1 2) m) * (fH_powerIn t (m.1 a1 1) (m.1 a1 2) m)), .int (((m.1 t 8) * (m.1 a1 3)) * ((m.1 t 8) * (m.1 a1 3)))]) (rest := [.int (1 : Int32)]) rfl rfl rfl (ok_fZ_compare_I sc ((fH_powerIn t (m.1 a1 1) (m.1 a1 2) m) * (fH_powerIn t (m.1 a1 1) (m.1 a1 2) m)) (((m.1 t 8) * (m.1 a1 3)) * ((m.1 t 8) * (m.1 a1 3))) m) ?_
  refine tk_Ps  1 (pc' := 34) (ls' := [(3, .int ((m.1 t 8) * (m.1 a1 3))), (2, .int (fH_powerIn t (m.1 a1 1) (m.1 a1 2) m)), (0, .ref t), (1, .ref a1)]) (st' := [.int ((1 : Int32) - (fZ_compare_I ((fH_powerIn t (m.1 a1 1) (m.1 a1 2) m) * (fH_powerIn t (m.1 a1 1) (m.1 a1 2) m)) (((m.1 t 8) * (m.1 a1 3)) * ((m.1 t 8) * (m.1 a1 3)))))]) rfl ?_
  subst h
  exact tk_RI  rfl rfl rfl
theorem ok_fH_apartSquared (sc : tk_X) (t : Nat) (a1 : Nat) (m : tk_m) (ht : tk_lay[t]? = some (.inl 6)) (ha1 : tk_lay[a1]? = some (.inl 6)) : tk_Ru sc 1 47 [.ref t, .ref a1] (tk_full m) (some (.int (fH_apartSquared t a1 m)), tk_full m) := by
  obtain ⟨out, h⟩ : ∃ out, fH_apartSquared t a1 m = out := ⟨_, rfl⟩
  rw [h]
  unfold fH_apartSquared at h
  refine tk_Ru0 me47 (ls := [(0, .ref t), (1, .ref a1)]) rfl rfl ?_
  refine tk_Ps  1 (pc' := 1) (ls' := [(0, .ref t), (1, .ref a1)]) (st' := [.ref t]) rfl ?_
  refine tk_HI  rfl rfl ht ?_
  refine tk_Ps  1 (pc' := 5) (ls' := [(0, .ref t), (1, .ref a1)]) (st' := [.ref a1, .int (m.1 t 1)]) rfl ?_
  refine tk_HI  rfl rfl ha1 ?_
  refine tk_Ps  2 (pc' := 10) (ls' := [(0, .ref t), (1, .ref a1)]) (st' := [.ref t, .int ((m.1 t 1) - (m.1 a1 1))]) rfl ?_
  refine tk_HI  rfl rfl ht ?_
  refine tk_Ps  1 (pc' := 14) (ls' := [(0, .ref t), (1, .ref a1)]) (st' := [.ref a1, .int (m.1 t 1), .int ((m.1 t 1) - (m.1 a1 1))]) rfl ?_
  refine tk_HI  rfl rfl ha1 ?_
  refine tk_Ps  3 (pc' := 20) (ls' := [(0, .ref t), (1, .ref a1)]) (st' := [.ref t, .int (((m.1 t 1) - (m.1 a1 1)) * ((m.1 t 1) - (m.1 a1 1)))]) rfl ?_
  refine tk_HI  rfl rfl ht ?_
  refine tk_Ps  1 (pc' := 24) (ls' := [(0, .ref t), (1, .ref a1)]) (st' := [.ref a1, .int (m.1 t 2), .int (((m.1 t 1) - (m.1 a1 1)) * ((m.1 t 1) - (m.1 a1 1)))]) rfl ?_
  refine tk_HI  rfl rfl ha1 ?_
  refine tk_Ps  2 (pc' := 29) (ls' := [(0, .ref t), (1, .ref a1)]) (st' := [.ref t, .int ((m.1 t 2) - (m.1 a1 2)), .int (((m.1 t 1) - (m.1 a1 1)) * ((m.1 t 1) - (m.1 a1 1)))]) rfl ?_
  refine tk_HI  rfl rfl ht ?_
  refine tk_Ps  1 (pc' := 33) (ls' := [(0, .ref t), (1, .ref a1)]) (st' := [.ref a1, .int (m.1 t 2), .int ((m.1 t 2) - (m.1 a1 2)), .int (((m.1 t 1) - (m.1 a1 1)) * ((m.1 t 1) - (m.1 a1 1)))]) rfl ?_
  refine tk_HI  rfl rfl ha1 ?_
  refine tk_Ps  3 (pc' := 39) (ls' := [(0, .ref t), (1, .ref a1)]) (st' := [.int ((((m.1 t 1) - (m.1 a1 1)) * ((m.1 t 1) - (m.1 a1 1))) + (((m.1 t 2) - (m.1 a1 2)) * ((m.1 t 2) - (m.1 a1 2))))]) rfl ?_
  subst h
  exact tk_RI  rfl rfl rfl
theorem ok_fH_meetings_38 (sc : tk_X) (v2 : Int32) (v3 : Int32) (v4 : Int32) (m : tk_m) (out : Int32) (h : fH_meetings_38 v2 v3 v4 m = out) : tk_Ex sc 1 tk_r46 tk_k46 38 [(2, .int v2), (3, .int v3), (4, .int v4)] [] (tk_full m) (some (.int out), tk_full m) := by
  unfold fH_meetings_38 at h
  refine tk_Ps  4 (pc' := 42) (ls' := [(2, .int v2), (3, .int v3), (4, .int v4)]) (st' := [.int (v3 * v3), .int v2]) rfl ?_
  by_cases hc1 : (v3 * v3) < v2
  · replace h := tk_ifT hc1 h
    refine tk_bT  rfl rfl rfl (c := (v3 * v3) < v2) hc1 (pc' := 54) (ls' := [(2, .int v2), (3, .int v3), (4, .int v4)]) (st' := []) ?_
    refine tk_Ps  1 (pc' := 55) (ls' := [(2, .int v2), (3, .int v3), (4, .int v4)]) (st' := [.int (0 : Int32)]) rfl ?_
    subst h
    exact tk_RI  rfl rfl rfl
  · replace h := tk_ifF hc1 h
    refine tk_bF  rfl rfl rfl (c := (v3 * v3) < v2) hc1 (pc' := 45) (ls' := [(2, .int v2), (3, .int v3), (4, .int v4)]) (st' := []) ?_
    refine tk_Ps  4 (pc' := 51) (ls' := [(2, .int v2), (3, .int v3), (4, .int v4)]) (st' := [.int (v4 * v4), .int v2]) rfl ?_
    by_cases hc2 : (v4 * v4) ≤ v2
    · replace h := tk_ifT hc2 h
      refine tk_bT  rfl rfl rfl (c := (v4 * v4) ≤ v2) hc2 (pc' := 56) (ls' := [(2, .int v2), (3, .int v3), (4, .int v4)]) (st' := []) ?_
      refine tk_Ps  4 (pc' := 60) (ls' := [(2, .int v2), (3, .int v3), (4, .int v4)]) (st' := [.int (v3 * v3), .int v2]) rfl ?_
      by_cases hc3 : v2 = (v3 * v3)
      · replace h := tk_ifT hc3 h
        refine tk_bT  rfl rfl rfl (c := v2 = (v3 * v3)) hc3 (pc' := 72) (ls' := [(2, .int v2), (3, .int v3), (4, .int v4)]) (st' := []) ?_
        refine tk_Ps  2 (pc' := 77) (ls' := [(2, .int v2), (3, .int v3), (4, .int v4)]) (st' := [.int (1 : Int32)]) rfl ?_
        subst h
        exact tk_RI  rfl rfl rfl
      · replace h := tk_ifF hc3 h
        refine tk_bF  rfl rfl rfl (c := v2 = (v3 * v3)) hc3 (pc' := 63) (ls' := [(2, .int v2), (3, .int v3), (4, .int v4)]) (st' := []) ?_
        refine tk_Ps  4 (pc' := 69) (ls' := [(2, .int v2), (3, .int v3), (4, .int v4)]) (st' := [.int (v4 * v4), .int v2]) rfl ?_
        by_cases hc4 : v2 = (v4 * v4)
        · replace h := tk_ifT hc4 h
          refine tk_bT  rfl rfl rfl (c := v2 = (v4 * v4)) hc4 (pc' := 72) (ls' := [(2, .int v2), (3, .int v3), (4, .int v4)]) (st' := []) ?_
          refine tk_Ps  2 (pc' := 77) (ls' := [(2, .int v2), (3, .int v3), (4, .int v4)]) (st' := [.int (1 : Int32)]) rfl ?_
          subst h
          exact tk_RI  rfl rfl rfl
        · replace h := tk_ifF hc4 h
          refine tk_bF  rfl rfl rfl (c := v2 = (v4 * v4)) hc4 (pc' := 76) (ls' := [(2, .int v2), (3, .int v3), (4, .int v4)]) (st' := []) ?_
          refine tk_Ps  1 (pc' := 77) (ls' := [(2, .int v2), (3, .int v3), (4, .int v4)]) (st' := [.int (2 : Int32)]) rfl ?_
          subst h
          exact tk_RI  rfl rfl rfl
    · replace h := tk_ifF hc2 h
      refine tk_bF  rfl rfl rfl (c := (v4 * v4) ≤ v2) hc2 (pc' := 54) (ls' := [(2, .int v2), (3, .int v3), (4, .int v4)]) (st' := []) ?_
      refine tk_Ps  1 (pc' := 55) (ls' := [(2, .int v2), (3, .int v3), (4, .int v4)]) (st' := [.int (0 : Int32)]) rfl ?_
      subst h
      exact tk_RI  rfl rfl rfl
theorem ok_fH_meetings (sc : tk_X) (t : Nat) (a1 : Nat) (m : tk_m) (ht : tk_lay[t]? = some (.inl 6)) (ha1 : tk_lay[a1]? = some (.inl 6)) : tk_Ru sc 2 46 [.ref t, .ref a1] (tk_full m) (some (.int (fH_meetings t a1 m)), tk_full m) := by
  obtain ⟨out, h⟩ : ∃ out, fH_meetings t a1 m = out := ⟨_, rfl⟩
  rw [h]
  unfold fH_meetings at h
  refine tk_Ru0 me46 (ls := [(0, .ref t), (1, .ref a1)]) rfl rfl ?_
  refine tk_Ps  2 (pc' := 2) (ls' := [(0, .ref t), (1, .ref a1)]) (st' := [.ref a1, .ref t]) rfl ?_
  refine tk_cV1  rfl rfl (r := t) (as := [.ref a1]) (rest := []) rfl ht rfl rfl (ok_fH_apartSquared sc t a1 m ht ha1) ?_
  refine tk_Ps  2 (pc' := 7) (ls' := [(2, .int (fH_apartSquared t a1 m)), (0, .ref t), (1, .ref a1)]) (st' := [.ref t]) rfl ?_
  refine tk_HI  rfl rfl ht ?_
  refine tk_Ps  1 (pc' := 11) (ls' := [(2, .int (fH_apartSquared t a1 m)), (0, .ref t), (1, .ref a1)]) (st' := [.ref a1, .int (m.1 t 3)]) rfl ?_
  refine tk_HI  rfl rfl ha1 ?_
  refine tk_Ps  3 (pc' := 17) (ls' := [(3, .int ((m.1 t 3) + (m.1 a1 3))), (2, .int (fH_apartSquared t a1 m)), (0, .ref t), (1, .ref a1)]) (st' := [.ref t]) rfl ?_
  refine tk_HI  rfl rfl ht ?_
  refine tk_Ps  1 (pc' := 21) (ls' := [(3, .int ((m.1 t 3) + (m.1 a1 3))), (2, .int (fH_apartSquared t a1 m)), (0, .ref t), (1, .ref a1)]) (st' := [.ref a1, .int (m.1 t 3)]) rfl ?_
  refine tk_HI  rfl rfl ha1 ?_
  refine tk_Ps  3 (pc' := 28) (ls' := [(4, .int ((m.1 t 3) - (m.1 a1 3))), (3, .int ((m.1 t 3) + (m.1 a1 3))), (2, .int (fH_apartSquared t a1 m)), (0, .ref t), (1, .ref a1)]) (st' := [.int (fH_apartSquared t a1 m)]) rfl ?_
  by_cases hc1 : (fH_apartSquared t a1 m) = 0
  · replace h := tk_ifT hc1 h
    refine tk_bT  rfl rfl rfl (c := (fH_apartSquared t a1 m) = 0) hc1 (pc' := 31) (ls' := [(4, .int ((m.1 t 3) - (m.1 a1 3))), (3, .int ((m.1 t 3) + (m.1 a1 3))), (2, .int (fH_apartSquared t a1 m)), (0, .ref t), (1, .ref a1)]) (st' := []) ?_
    refine tk_Ps  1 (pc' := 33) (ls' := [(4, .int ((m.1 t 3) - (m.1 a1 3))), (3, .int ((m.1 t 3) + (m.1 a1 3))), (2, .int (fH_apartSquared t a1 m)), (0, .ref t), (1, .ref a1)]) (st' := [.int ((m.1 t 3) - (m.1 a1 3))]) rfl ?_
    by_cases hc2 : ((m.1 t 3) - (m.1 a1 3)) = 0
    · replace h := tk_ifT hc2 h
      refine tk_bT  rfl rfl rfl (c := ((m.1 t 3) - (m.1 a1 3)) = 0) hc2 (pc' := 36) (ls' := [(4, .int ((m.1 t 3) - (m.1 a1 3))), (3, .int ((m.1 t 3) + (m.1 a1 3))), (2, .int (fH_apartSquared t a1 m)), (0, .ref t), (1, .ref a1)]) (st' := []) ?_
      refine tk_Ps  1 (pc' := 37) (ls' := [(4, .int ((m.1 t 3) - (m.1 a1 3))), (3, .int ((m.1 t 3) + (m.1 a1 3))), (2, .int (fH_apartSquared t a1 m)), (0, .ref t), (1, .ref a1)]) (st' := [.int (3 : Int32)]) rfl ?_
      subst h
      exact tk_RI  rfl rfl rfl
    · replace h := tk_ifF hc2 h
      refine tk_bF  rfl rfl rfl (c := ((m.1 t 3) - (m.1 a1 3)) = 0) hc2 (pc' := 38) (ls' := [(4, .int ((m.1 t 3) - (m.1 a1 3))), (3, .int ((m.1 t 3) + (m.1 a1 3))), (2, .int (fH_apartSquared t a1 m)), (0, .ref t), (1, .ref a1)]) (st' := []) ?_
      refine tk_Kp  (ls' := [(2, .int (fH_apartSquared t a1 m)), (3, .int ((m.1 t 3) + (m.1 a1 3))), (4, .int ((m.1 t 3) - (m.1 a1 3)))]) rfl rfl ?_
      exact ok_fH_meetings_38 sc (fH_apartSquared t a1 m) ((m.1 t 3) + (m.1 a1 3)) ((m.1 t 3) - (m.1 a1 3)) m _ h
  · replace h := tk_ifF hc1 h
    refine tk_bF  rfl rfl rfl (c := (fH_apartSquared t a1 m) = 0) hc1 (pc' := 38) (ls' := [(4, .int ((m.1 t 3) - (m.1 a1 3))), (3, .int ((m.1 t 3) + (m.1 a1 3))), (2, .int (fH_apartSquared t a1 m)), (0, .ref t), (1, .ref a1)]) (st' := []) ?_
    refine tk_Kp  (ls' := [(2, .int (fH_apartSquared t a1 m)), (3, .int ((m.1 t 3) + (m.1 a1 3))), (4, .int ((m.1 t 3) - (m.1 a1 3)))]) rfl rfl ?_
    exact ok_fH_meetings_38 sc (fH_apartSquared t a1 m) ((m.1 t 3) + (m.1 a1 3)) ((m.1 t 3) - (m.1 a1 3)) m _ h
theorem ok_fH_commonWith_46 (sc : tk_X) (v0 : Nat) (v1 : Nat) (m : tk_m) (hv0 : tk_lay[v0]? = some (.inl 6)) (hv1 : tk_lay[v1]? = some (.inl 6)) (out : Int32) (h : fH_commonWith_46 v0 v1 m = out) : tk_Ex sc 3 tk_r42 tk_k42 46 [(0, .ref v0), (1, .ref v1)] [] (tk_full m) (some (.int out), tk_full m) := by
  unfold fH_commonWith_46 at h
  refine tk_Ps  1 (pc' := 47) (ls' := [(0, .ref v0), (1, .ref v1)]) (st' := [.ref v0]) rfl ?_
  refine tk_HB  rfl rfl hv0 ?_
  by_cases hc1 : (m.2.2.1 v0 0) = true
  · replace h := tk_ifT hc1 h
    refine tk_bT  rfl rfl tk_eB_eq (c := (m.2.2.1 v0 0) = true) hc1 (pc' := 53) (ls' := [(0, .ref v0), (1, .ref v1)]) (st' := []) ?_
    refine tk_Ps  2 (pc' := 55) (ls' := [(0, .ref v0), (1, .ref v1)]) (st' := [.ref v1, .ref v0]) rfl ?_
    refine tk_cV1  rfl rfl (r := v0) (as := [.ref v1]) (rest := []) rfl hv0 rfl rfl (ok_fH_crossings sc v0 v1 m hv0 hv1) ?_
    subst h
    exact tk_RI  rfl rfl rfl
  · replace h := tk_ifF hc1 h
    refine tk_bF  rfl rfl tk_eB_eq (c := (m.2.2.1 v0 0) = true) hc1 (pc' := 59) (ls' := [(0, .ref v0), (1, .ref v1)]) (st' := []) ?_
    refine tk_Ps  1 (pc' := 60) (ls' := [(0, .ref v0), (1, .ref v1)]) (st' := [.ref v1]) rfl ?_
    refine tk_HB  rfl rfl hv1 ?_
    by_cases hc2 : (m.2.2.1 v1 0) = true
    · replace h := tk_ifT hc2 h
      refine tk_bT  rfl rfl tk_eB_eq (c := (m.2.2.1 v1 0) = true) hc2 (pc' := 66) (ls' := [(0, .ref v0), (1, .ref v1)]) (st' := []) ?_
      refine tk_Ps  2 (pc' := 68) (ls' := [(0, .ref v0), (1, .ref v1)]) (st' := [.ref v0, .ref v1]) rfl ?_
      refine tk_cV1  rfl rfl (r := v1) (as := [.ref v0]) (rest := []) rfl hv1 rfl rfl (ok_fH_crossings sc v1 v0 m hv1 hv0) ?_
      refine tk_Ps  1 (pc' := 79) (ls' := [(0, .ref v0), (1, .ref v1)]) (st' := [.int (fH_crossings v1 v0 m)]) rfl ?_
      subst h
      exact tk_RI  rfl rfl rfl
    · replace h := tk_ifF hc2 h
      refine tk_bF  rfl rfl tk_eB_eq (c := (m.2.2.1 v1 0) = true) hc2 (pc' := 74) (ls' := [(0, .ref v0), (1, .ref v1)]) (st' := []) ?_
      refine tk_Ps  2 (pc' := 76) (ls' := [(0, .ref v0), (1, .ref v1)]) (st' := [.ref v1, .ref v0]) rfl ?_
      refine tk_cV1  rfl rfl (r := v0) (as := [.ref v1]) (rest := []) rfl hv0 rfl rfl (ok_fH_meetings sc v0 v1 m hv0 hv1) ?_
      subst h
      exact tk_RI  rfl rfl rfl
theorem ok_fH_commonWith (sc : tk_X) (t : Nat) (a1 : Nat) (m : tk_m) (ht : tk_lay[t]? = some (.inl 6)) (ha1 : tk_lay[a1]? = some (.inl 6)) : tk_Ru sc 4 42 [.ref t, .ref a1] (tk_full m) (some (.int (fH_commonWith t a1 m)), tk_full m) := by
  obtain ⟨out, h⟩ : ∃ out, fH_commonWith t a1 m = out := ⟨_, rfl⟩
  rw [h]
  unfold fH_commonWith at h
  refine tk_Ru0 me42 (ls := [(0, .ref t), (1, .ref a1)]) rfl rfl ?_
  refine tk_Ps  1 (pc' := 1) (ls' := [(0, .ref t), (1, .ref a1)]) (st' := [.ref t]) rfl ?_
  refine tk_HB  rfl rfl ht ?_
  by_cases hc1 : (m.2.2.1 t 0) = true
  · replace h := tk_ifT hc1 h
    refine tk_bT  rfl rfl tk_eB_eq (c := (m.2.2.1 t 0) = true) hc1 (pc' := 7) (ls' := [(0, .ref t), (1, .ref a1)]) (st' := []) ?_
    refine tk_Ps  1 (pc' := 8) (ls' := [(0, .ref t), (1, .ref a1)]) (st' := [.ref a1]) rfl ?_
    refine tk_HB  rfl rfl ha1 ?_
    by_cases hc2 : (m.2.2.1 a1 0) = true
    · replace h := tk_ifT hc2 h
      refine tk_bT  rfl rfl tk_eB_eq (c := (m.2.2.1 a1 0) = true) hc2 (pc' := 14) (ls' := [(0, .ref t), (1, .ref a1)]) (st' := []) ?_
      refine tk_Ps  1 (pc' := 15) (ls' := [(0, .ref t), (1, .ref a1)]) (st' := [.ref t]) rfl ?_
      refine tk_HI  rfl rfl ht ?_
      refine tk_Ps  1 (pc' := 19) (ls' := [(0, .ref t), (1, .ref a1)]) (st' := [.ref a1, .int (m.1 t 4)]) rfl ?_
      refine tk_HI  rfl rfl ha1 ?_
      by_cases hc3 : (m.1 t 4) = (m.1 a1 4)
      · replace h := tk_ifT hc3 h
        refine tk_bT  rfl rfl rfl (c := (m.1 t 4) = (m.1 a1 4)) hc3 (pc' := 29) (ls' := [(0, .ref t), (1, .ref a1)]) (st' := []) ?_
        refine tk_Ps  1 (pc' := 30) (ls' := [(0, .ref t), (1, .ref a1)]) (st' := [.ref t]) rfl ?_
        refine tk_HI  rfl rfl ht ?_
        refine tk_Ps  1 (pc' := 34) (ls' := [(0, .ref t), (1, .ref a1)]) (st' := [.ref a1, .int (m.1 t 5)]) rfl ?_
        refine tk_HI  rfl rfl ha1 ?_
        by_cases hc4 : (m.1 t 5) = (m.1 a1 5)
        · replace h := tk_ifT hc4 h
          refine tk_bT  rfl rfl rfl (c := (m.1 t 5) = (m.1 a1 5)) hc4 (pc' := 40) (ls' := [(0, .ref t), (1, .ref a1)]) (st' := []) ?_
          refine tk_Ps  2 (pc' := 45) (ls' := [(0, .ref t), (1, .ref a1)]) (st' := [.int (3 : Int32)]) rfl ?_
          subst h
          exact tk_RI  rfl rfl rfl
        · replace h := tk_ifF hc4 h
          refine tk_bF  rfl rfl rfl (c := (m.1 t 5) = (m.1 a1 5)) hc4 (pc' := 44) (ls' := [(0, .ref t), (1, .ref a1)]) (st' := []) ?_
          refine tk_Ps  1 (pc' := 45) (ls' := [(0, .ref t), (1, .ref a1)]) (st' := [.int (0 : Int32)]) rfl ?_
          subst h
          exact tk_RI  rfl rfl rfl
      · replace h := tk_ifF hc3 h
        refine tk_bF  rfl rfl rfl (c := (m.1 t 4) = (m.1 a1 4)) hc3 (pc' := 25) (ls' := [(0, .ref t), (1, .ref a1)]) (st' := []) ?_
        refine tk_Ps  2 (pc' := 45) (ls' := [(0, .ref t), (1, .ref a1)]) (st' := [.int (1 : Int32)]) rfl ?_
        subst h
        exact tk_RI  rfl rfl rfl
    · replace h := tk_ifF hc2 h
      refine tk_bF  rfl rfl tk_eB_eq (c := (m.2.2.1 a1 0) = true) hc2 (pc' := 46) (ls' := [(0, .ref t), (1, .ref a1)]) (st' := []) ?_
      refine tk_Kp  (ls' := [(0, .ref t), (1, .ref a1)]) rfl rfl ?_
      exact ok_fH_commonWith_46 sc t a1 m ht ha1 _ h
  · replace h := tk_ifF hc1 h
    refine tk_bF  rfl rfl tk_eB_eq (c := (m.2.2.1 t 0) = true) hc1 (pc' := 46) (ls' := [(0, .ref t), (1, .ref a1)]) (st' := []) ?_
    refine tk_Kp  (ls' := [(0, .ref t), (1, .ref a1)]) rfl rfl ?_
    exact ok_fH_commonWith_46 sc t a1 m ht ha1 _ h

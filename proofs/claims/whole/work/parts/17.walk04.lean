theorem ok_fJ_wholeAgainstRootsq (sc : tk_X) (m : tk_m) {out : Int32 × tk_m} (h : fJ_wholeAgainstRootsq m = some out) : tk_Ru sc 4 119 [.ref 40] (tk_full m) (some (.int out.1), tk_full out.2) := by
  unfold fJ_wholeAgainstRootsq at h
  refine tk_Ru0 me119 (ls := [(0, .ref 40)]) rfl rfl ?_
  refine tk_Ps  1 (pc' := 1) (ls' := [(0, .ref 40)]) (st' := [.ref 40]) rfl ?_
  refine tk_HR  rfl rfl ly40 rt40_7 ?_
  refine tk_Ps  1 (pc' := 5) (ls' := [(0, .ref 40)]) (st' := [.ref 40, .ref 55]) rfl ?_
  refine tk_HR  rfl rfl ly40 rt40_1 ?_
  refine tk_Ps  1 (pc' := 9) (ls' := [(0, .ref 40)]) (st' := [.ref 40, .ref 43, .ref 55]) rfl ?_
  refine tk_HR  rfl rfl ly40 rt40_1 ?_
  obtain ⟨o1, ho1, h⟩ := tk_bnd h
  refine tk_cV0  rfl rfl (r := 55) (as := [.ref 43, .ref 43]) (rest := []) rfl ly55 rfl rfl (ok_fB_takeProduct sc 55 43 43 m ly55 ly43 ly43 ho1) ?_
  refine tk_Ps  1 (pc' := 16) (ls' := [(0, .ref 40)]) (st' := [.ref 40]) rfl ?_
  refine tk_HR  rfl rfl ly40 rt40_6 ?_
  refine tk_Ps  1 (pc' := 20) (ls' := [(0, .ref 40)]) (st' := [.ref 40, .ref 53]) rfl ?_
  refine tk_HR  rfl rfl ly40 rt40_7 ?_
  refine tk_Ps  2 (pc' := 25) (ls' := [(0, .ref 40)]) (st' := [.ref 40, .int (-1 : Int32), .ref 55, .ref 53]) rfl ?_
  refine tk_HR  rfl rfl ly40 rt40_4 ?_
  obtain ⟨o2, ho2, h⟩ := tk_bnd h
  refine tk_cV0  rfl rfl (r := 53) (as := [.ref 55, .int (-1 : Int32), .ref 49]) (rest := []) rfl ly53 rfl rfl (ok_fB_takeSum sc 53 55 (-1 : Int32) 49 o1 ly53 ly55 ly49 ho2) ?_
  refine tk_Ps  1 (pc' := 32) (ls' := [(0, .ref 40)]) (st' := [.ref 40]) rfl ?_
  refine tk_HR  rfl rfl ly40 rt40_6 ?_
  refine tk_Ps  1 (pc' := 36) (ls' := [(0, .ref 40)]) (st' := [.ref 40, .ref 53]) rfl ?_
  refine tk_HR  rfl rfl ly40 rt40_6 ?_
  refine tk_Ps  2 (pc' := 41) (ls' := [(0, .ref 40)]) (st' := [.ref 40, .int (-1 : Int32), .ref 53, .ref 53]) rfl ?_
  refine tk_HR  rfl rfl ly40 rt40_5 ?_
  obtain ⟨o3, ho3, h⟩ := tk_bnd h
  refine tk_cV0  rfl rfl (r := 53) (as := [.ref 53, .int (-1 : Int32), .ref 51]) (rest := []) rfl ly53 rfl rfl (ok_fB_takeSum sc 53 53 (-1 : Int32) 51 o2 ly53 ly53 ly51 ho3) ?_
  refine tk_Ps  1 (pc' := 48) (ls' := [(0, .ref 40)]) (st' := [.ref 40]) rfl ?_
  refine tk_HR  rfl rfl ly40 rt40_2 ?_
  refine tk_HI  rfl rfl ly45 ?_
  refine tk_Ps  1 (pc' := 55) (ls' := [(0, .ref 40)]) (st' := [.ref 40, .int (o3.1 45 0)]) rfl ?_
  refine tk_HR  rfl rfl ly40 rt40_3 ?_
  refine tk_HI  rfl rfl ly47 ?_
  refine tk_Ps  3 (pc' := 64) (ls' := [(1, .int ((o3.1 45 0) * (o3.1 47 0))), (0, .ref 40)]) (st' := [.ref 40]) rfl ?_
  refine tk_HR  rfl rfl ly40 rt40_6 ?_
  refine tk_HI  rfl rfl ly53 ?_
  refine tk_Ps  1 (pc' := 71) (ls' := [(1, .int ((o3.1 45 0) * (o3.1 47 0))), (0, .ref 40)]) (st' := [.int ((o3.1 45 0) * (o3.1 47 0)), .int (o3.1 53 0)]) rfl ?_
  by_cases hc4 : (o3.1 53 0) = ((o3.1 45 0) * (o3.1 47 0))
  · replace h := tk_ifT hc4 h
    refine tk_bT  rfl rfl rfl (c := (o3.1 53 0) = ((o3.1 45 0) * (o3.1 47 0))) hc4 (pc' := 86) (ls' := [(1, .int ((o3.1 45 0) * (o3.1 47 0))), (0, .ref 40)]) (st' := []) ?_
    refine tk_Ps  1 (pc' := 87) (ls' := [(1, .int ((o3.1 45 0) * (o3.1 47 0))), (0, .ref 40)]) (st' := [.ref 40]) rfl ?_
    refine tk_HR  rfl rfl ly40 rt40_7 ?_
    refine tk_Ps  1 (pc' := 91) (ls' := [(1, .int ((o3.1 45 0) * (o3.1 47 0))), (0, .ref 40)]) (st' := [.ref 40, .ref 55]) rfl ?_
    refine tk_HR  rfl rfl ly40 rt40_6 ?_
    refine tk_Ps  1 (pc' := 95) (ls' := [(1, .int ((o3.1 45 0) * (o3.1 47 0))), (0, .ref 40)]) (st' := [.ref 40, .ref 53, .ref 55]) rfl ?_
    refine tk_HR  rfl rfl ly40 rt40_6 ?_
    obtain ⟨o5, ho5, h⟩ := tk_bnd h
    refine tk_cV0  rfl rfl (r := 55) (as := [.ref 53, .ref 53]) (rest := []) rfl ly55 rfl rfl (ok_fB_takeProduct sc 55 53 53 o3 ly55 ly53 ly53 ho5) ?_
    refine tk_Ps  1 (pc' := 102) (ls' := [(1, .int ((o3.1 45 0) * (o3.1 47 0))), (0, .ref 40)]) (st' := [.ref 40]) rfl ?_
    refine tk_HR  rfl rfl ly40 rt40_8 ?_
    refine tk_Ps  1 (pc' := 106) (ls' := [(1, .int ((o3.1 45 0) * (o3.1 47 0))), (0, .ref 40)]) (st' := [.ref 40, .ref 57]) rfl ?_
    refine tk_HR  rfl rfl ly40 rt40_4 ?_
    refine tk_Ps  1 (pc' := 110) (ls' := [(1, .int ((o3.1 45 0) * (o3.1 47 0))), (0, .ref 40)]) (st' := [.ref 40, .ref 49, .ref 57]) rfl ?_
    refine tk_HR  rfl rfl ly40 rt40_5 ?_
    obtain ⟨o6, ho6, h⟩ := tk_bnd h
    refine tk_cV0  rfl rfl (r := 57) (as := [.ref 49, .ref 51]) (rest := []) rfl ly57 rfl rfl (ok_fB_takeProduct sc 57 49 51 o5 ly57 ly49 ly51 ho6) ?_
    refine tk_Ps  1 (pc' := 117) (ls' := [(1, .int ((o3.1 45 0) * (o3.1 47 0))), (0, .ref 40)]) (st' := [.ref 40]) rfl ?_
    refine tk_HR  rfl rfl ly40 rt40_8 ?_
    refine tk_Ps  1 (pc' := 121) (ls' := [(1, .int ((o3.1 45 0) * (o3.1 47 0))), (0, .ref 40)]) (st' := [.ref 40, .ref 57]) rfl ?_
    refine tk_HR  rfl rfl ly40 rt40_8 ?_
    refine tk_Ps  2 (pc' := 126) (ls' := [(1, .int ((o3.1 45 0) * (o3.1 47 0))), (0, .ref 40)]) (st' := [.ref 40, .int (1 : Int32), .ref 57, .ref 57]) rfl ?_
    refine tk_HR  rfl rfl ly40 rt40_8 ?_
    obtain ⟨o7, ho7, h⟩ := tk_bnd h
    refine tk_cV0  rfl rfl (r := 57) (as := [.ref 57, .int (1 : Int32), .ref 57]) (rest := []) rfl ly57 rfl rfl (ok_fB_takeSum sc 57 57 (1 : Int32) 57 o6 ly57 ly57 ly57 ho7) ?_
    refine tk_Ps  1 (pc' := 133) (ls' := [(1, .int ((o3.1 45 0) * (o3.1 47 0))), (0, .ref 40)]) (st' := [.ref 40]) rfl ?_
    refine tk_HR  rfl rfl ly40 rt40_8 ?_
    refine tk_Ps  1 (pc' := 137) (ls' := [(1, .int ((o3.1 45 0) * (o3.1 47 0))), (0, .ref 40)]) (st' := [.ref 40, .ref 57]) rfl ?_
    refine tk_HR  rfl rfl ly40 rt40_8 ?_
    refine tk_Ps  2 (pc' := 142) (ls' := [(1, .int ((o3.1 45 0) * (o3.1 47 0))), (0, .ref 40)]) (st' := [.ref 40, .int (1 : Int32), .ref 57, .ref 57]) rfl ?_
    refine tk_HR  rfl rfl ly40 rt40_8 ?_
    obtain ⟨o8, ho8, h⟩ := tk_bnd h
    refine tk_cV0  rfl rfl (r := 57) (as := [.ref 57, .int (1 : Int32), .ref 57]) (rest := []) rfl ly57 rfl rfl (ok_fB_takeSum sc 57 57 (1 : Int32) 57 o7 ly57 ly57 ly57 ho8) ?_
    refine tk_Ps  2 (pc' := 150) (ls' := [(1, .int ((o3.1 45 0) * (o3.1 47 0))), (0, .ref 40)]) (st' := [.ref 40, .int ((o3.1 45 0) * (o3.1 47 0))]) rfl ?_
    refine tk_HR  rfl rfl ly40 rt40_7 ?_
    refine tk_Ps  1 (pc' := 154) (ls' := [(1, .int ((o3.1 45 0) * (o3.1 47 0))), (0, .ref 40)]) (st' := [.ref 40, .ref 55, .int ((o3.1 45 0) * (o3.1 47 0))]) rfl ?_
    refine tk_HR  rfl rfl ly40 rt40_8 ?_
    obtain ⟨o9, ho9, h⟩ := tk_bnd h
    refine tk_cV1  rfl rfl (r := 55) (as := [.ref 57]) (rest := [.int ((o3.1 45 0) * (o3.1 47 0))]) rfl ly55 rfl rfl (ok_fB_sizeAgainst sc 55 57 o8 ly55 ly57 ho9) ?_
    refine tk_Ps  1 (pc' := 161) (ls' := [(1, .int ((o3.1 45 0) * (o3.1 47 0))), (0, .ref 40)]) (st' := [.int (((o3.1 45 0) * (o3.1 47 0)) * o9)]) rfl ?_
    replace h := Option.some.inj h
    subst h
    exact tk_RI  rfl rfl rfl
  · replace h := tk_ifF hc4 h
    refine tk_bF  rfl rfl rfl (c := (o3.1 53 0) = ((o3.1 45 0) * (o3.1 47 0))) hc4 (pc' := 74) (ls' := [(1, .int ((o3.1 45 0) * (o3.1 47 0))), (0, .ref 40)]) (st' := []) ?_
    refine tk_Ps  1 (pc' := 75) (ls' := [(1, .int ((o3.1 45 0) * (o3.1 47 0))), (0, .ref 40)]) (st' := [.ref 40]) rfl ?_
    refine tk_HR  rfl rfl ly40 rt40_6 ?_
    refine tk_HI  rfl rfl ly53 ?_
    refine tk_Ps  1 (pc' := 82) (ls' := [(1, .int ((o3.1 45 0) * (o3.1 47 0))), (0, .ref 40)]) (st' := [.int ((o3.1 45 0) * (o3.1 47 0)), .int (o3.1 53 0)]) rfl ?_
    refine tk_cS1  rfl rfl (as := [.int (o3.1 53 0), .int ((o3.1 45 0) * (o3.1 47 0))]) (rest := []) rfl rfl rfl (ok_fZ_compare_I sc (o3.1 53 0) ((o3.1 45 0) * (o3.1 47 0)) o3) ?_
    replace h := Option.some.inj h
    subst h
    exact tk_RI  rfl rfl rfl
theorem ok_fJ_order (sc : tk_X) (a1 : Nat) (a2 : Nat) (m : tk_m) (ha1 : tk_lay[a1]? = some (.inl 4)) (ha2 : tk_lay[a2]? = some (.inl 4)) {out : Int32 × tk_m} (h : fJ_order a1 a2 m = some out) : tk_Ru sc 5 105 [.ref 13, .ref a1, .ref a2] (tk_full m) (some (.int out.1), tk_full out.2) := by
  unfold fJ_order at h
  refine tk_Ru0 me105 (ls := [(0, .ref 13), (1, .ref a1), (2, .ref a2)]) rfl rfl ?_
  refine tk_Ps  2 (pc' := 2) (ls' := [(0, .ref 13), (1, .ref a1), (2, .ref a2)]) (st' := [.ref 13, .ref 13]) rfl ?_
  refine tk_HR  rfl rfl ly13 rt13_2 ?_
  refine tk_Ps  1 (pc' := 6) (ls' := [(0, .ref 13), (1, .ref a1), (2, .ref a2)]) (st' := [.ref a1, .ref 18, .ref 13]) rfl ?_
  refine tk_cV1  rfl rfl (r := a1) (as := []) (rest := [.ref 18, .ref 13]) rfl ha1 rfl rfl (ok_fN_p sc a1 m ha1) ?_
  refine tk_Ps  1 (pc' := 10) (ls' := [(0, .ref 13), (1, .ref a1), (2, .ref a2)]) (st' := [.ref a2, .long (fN_p a1 m), .ref 18, .ref 13]) rfl ?_
  refine tk_cV1  rfl rfl (r := a2) (as := []) (rest := [.long (fN_p a1 m), .ref 18, .ref 13]) rfl ha2 rfl rfl (ok_fN_m sc a2 m ha2) ?_
  obtain ⟨o1, ho1, h⟩ := tk_bnd h
  refine tk_cV0  rfl rfl (r := 13) (as := [.ref 18, .long (fN_p a1 m), .long (fN_m a2 m)]) (rest := []) rfl ly13 rfl rfl (ok_fJ_takeProduct sc 18 (fN_p a1 m) (fN_m a2 m) m ly18 ho1) ?_
  refine tk_Ps  2 (pc' := 18) (ls' := [(0, .ref 13), (1, .ref a1), (2, .ref a2)]) (st' := [.ref 13, .ref 13]) rfl ?_
  refine tk_HR  rfl rfl ly13 rt13_3 ?_
  refine tk_Ps  1 (pc' := 22) (ls' := [(0, .ref 13), (1, .ref a1), (2, .ref a2)]) (st' := [.ref a2, .ref 20, .ref 13]) rfl ?_
  refine tk_cV1  rfl rfl (r := a2) (as := []) (rest := [.ref 20, .ref 13]) rfl ha2 rfl rfl (ok_fN_p sc a2 o1 ha2) ?_
  refine tk_Ps  1 (pc' := 26) (ls' := [(0, .ref 13), (1, .ref a1), (2, .ref a2)]) (st' := [.ref a1, .long (fN_p a2 o1), .ref 20, .ref 13]) rfl ?_
  refine tk_cV1  rfl rfl (r := a1) (as := []) (rest := [.long (fN_p a2 o1), .ref 20, .ref 13]) rfl ha1 rfl rfl (ok_fN_m sc a1 o1 ha1) ?_
  obtain ⟨o2, ho2, h⟩ := tk_bnd h
  refine tk_cV0  rfl rfl (r := 13) (as := [.ref 20, .long (fN_p a2 o1), .long (fN_m a1 o1)]) (rest := []) rfl ly13 rfl rfl (ok_fJ_takeProduct sc 20 (fN_p a2 o1) (fN_m a1 o1) o1 ly20 ho2) ?_
  refine tk_Ps  1 (pc' := 33) (ls' := [(0, .ref 13), (1, .ref a1), (2, .ref a2)]) (st' := [.ref 13]) rfl ?_
  refine tk_HR  rfl rfl ly13 rt13_1 ?_
  refine tk_Ps  1 (pc' := 37) (ls' := [(0, .ref 13), (1, .ref a1), (2, .ref a2)]) (st' := [.ref 13, .ref 16]) rfl ?_
  refine tk_HR  rfl rfl ly13 rt13_2 ?_
  refine tk_Ps  2 (pc' := 42) (ls' := [(0, .ref 13), (1, .ref a1), (2, .ref a2)]) (st' := [.ref 13, .int (-1 : Int32), .ref 18, .ref 16]) rfl ?_
  refine tk_HR  rfl rfl ly13 rt13_3 ?_
  obtain ⟨o3, ho3, h⟩ := tk_bnd h
  refine tk_cV0  rfl rfl (r := 16) (as := [.ref 18, .int (-1 : Int32), .ref 20]) (rest := []) rfl ly16 rfl rfl (ok_fB_takeSum sc 16 18 (-1 : Int32) 20 o2 ly16 ly18 ly20 ho3) ?_
  refine tk_Ps  2 (pc' := 50) (ls' := [(0, .ref 13), (1, .ref a1), (2, .ref a2)]) (st' := [.ref 13, .ref 13]) rfl ?_
  refine tk_HR  rfl rfl ly13 rt13_2 ?_
  refine tk_Ps  1 (pc' := 54) (ls' := [(0, .ref 13), (1, .ref a1), (2, .ref a2)]) (st' := [.ref a1, .ref 18, .ref 13]) rfl ?_
  refine tk_cV1  rfl rfl (r := a1) (as := []) (rest := [.ref 18, .ref 13]) rfl ha1 rfl rfl (ok_fN_q sc a1 o3 ha1) ?_
  refine tk_Ps  1 (pc' := 58) (ls' := [(0, .ref 13), (1, .ref a1), (2, .ref a2)]) (st' := [.ref a2, .long (fN_q a1 o3), .ref 18, .ref 13]) rfl ?_
  refine tk_cV1  rfl rfl (r := a2) (as := []) (rest := [.long (fN_q a1 o3), .ref 18, .ref 13]) rfl ha2 rfl rfl (ok_fN_m sc a2 o3 ha2) ?_
  obtain ⟨o4, ho4, h⟩ := tk_bnd h
  refine tk_cV0  rfl rfl (r := 13) (as := [.ref 18, .long (fN_q a1 o3), .long (fN_m a2 o3)]) (rest := []) rfl ly13 rfl rfl (ok_fJ_takeProduct sc 18 (fN_q a1 o3) (fN_m a2 o3) o3 ly18 ho4) ?_
  refine tk_Ps  2 (pc' := 66) (ls' := [(0, .ref 13), (1, .ref a1), (2, .ref a2)]) (st' := [.ref 13, .ref 13]) rfl ?_
  refine tk_HR  rfl rfl ly13 rt13_3 ?_
  refine tk_Ps  1 (pc' := 70) (ls' := [(0, .ref 13), (1, .ref a1), (2, .ref a2)]) (st' := [.ref a2, .ref 20, .ref 13]) rfl ?_
  refine tk_cV1  rfl rfl (r := a2) (as := []) (rest := [.ref 20, .ref 13]) rfl ha2 rfl rfl (ok_fN_q sc a2 o4 ha2) ?_
  refine tk_Ps  1 (pc' := 74) (ls' := [(0, .ref 13), (1, .ref a1), (2, .ref a2)]) (st' := [.ref a1, .long (fN_q a2 o4), .ref 20, .ref 13]) rfl ?_
  refine tk_cV1  rfl rfl (r := a1) (as := []) (rest := [.long (fN_q a2 o4), .ref 20, .ref 13]) rfl ha1 rfl rfl (ok_fN_m sc a1 o4 ha1) ?_
  obtain ⟨o5, ho5, h⟩ := tk_bnd h
  refine tk_cV0  rfl rfl (r := 13) (as := [.ref 20, .long (fN_q a2 o4), .long (fN_m a1 o4)]) (rest := []) rfl ly13 rfl rfl (ok_fJ_takeProduct sc 20 (fN_q a2 o4) (fN_m a1 o4) o4 ly20 ho5) ?_
  refine tk_Ps  1 (pc' := 81) (ls' := [(0, .ref 13), (1, .ref a1), (2, .ref a2)]) (st' := [.ref 13]) rfl ?_
  refine tk_HR  rfl rfl ly13 rt13_3 ?_
  refine tk_Ps  1 (pc' := 85) (ls' := [(0, .ref 13), (1, .ref a1), (2, .ref a2)]) (st' := [.ref 13, .ref 20]) rfl ?_
  refine tk_HR  rfl rfl ly13 rt13_3 ?_
  refine tk_HI  rfl rfl ly20 ?_
  refine tk_Ps  1 (pc' := 92) (ls' := [(0, .ref 13), (1, .ref a1), (2, .ref a2)]) (st' := [.int (-(o5.1 20 0)), .ref 20]) rfl ?_
  refine tk_SI  rfl rfl ly20 ?_
  refine tk_Ps  2 (pc' := 97) (ls' := [(0, .ref 13), (1, .ref a1), (2, .ref a2)]) (st' := [.ref 13, .ref 13]) rfl ?_
  refine tk_HR  rfl rfl ly13 rt13_4 ?_
  refine tk_Ps  1 (pc' := 101) (ls' := [(0, .ref 13), (1, .ref a1), (2, .ref a2)]) (st' := [.ref 13, .ref 22, .ref 13]) rfl ?_
  refine tk_HR  rfl rfl ly13 rt13_2 ?_
  refine tk_Ps  1 (pc' := 105) (ls' := [(0, .ref 13), (1, .ref a1), (2, .ref a2)]) (st' := [.ref a1, .ref 18, .ref 22, .ref 13]) rfl ?_
  refine tk_HJ  rfl rfl ha1 ?_
  obtain ⟨o6, ho6, h⟩ := tk_bnd h
  refine tk_cV0  rfl rfl (r := 13) (as := [.ref 22, .ref 18, .long (o5.2.1 a1 2)]) (rest := []) rfl ly13 rfl rfl (ok_fJ_takeSquare sc 22 18 (o5.2.1 a1 2) (tk_u2 o5.1 20 0 (-(o5.1 20 0)), o5.2.1, o5.2.2.1, o5.2.2.2) ly22 ly18 ho6) ?_
  refine tk_Ps  2 (pc' := 113) (ls' := [(0, .ref 13), (1, .ref a1), (2, .ref a2)]) (st' := [.ref 13, .ref 13]) rfl ?_
  refine tk_HR  rfl rfl ly13 rt13_5 ?_
  refine tk_Ps  1 (pc' := 117) (ls' := [(0, .ref 13), (1, .ref a1), (2, .ref a2)]) (st' := [.ref 13, .ref 24, .ref 13]) rfl ?_
  refine tk_HR  rfl rfl ly13 rt13_3 ?_
  refine tk_Ps  1 (pc' := 121) (ls' := [(0, .ref 13), (1, .ref a1), (2, .ref a2)]) (st' := [.ref a2, .ref 20, .ref 24, .ref 13]) rfl ?_
  refine tk_HJ  rfl rfl ha2 ?_
  obtain ⟨o7, ho7, h⟩ := tk_bnd h
  refine tk_cV0  rfl rfl (r := 13) (as := [.ref 24, .ref 20, .long (o6.2.1 a2 2)]) (rest := []) rfl ly13 rfl rfl (ok_fJ_takeSquare sc 24 20 (o6.2.1 a2 2) o6 ly24 ly20 ho7) ?_
  refine tk_Ps  1 (pc' := 128) (ls' := [(0, .ref 13), (1, .ref a1), (2, .ref a2)]) (st' := [.ref 13]) rfl ?_
  obtain ⟨o8, ho8, h⟩ := tk_bnd h
  refine tk_cV1  rfl rfl (r := 13) (as := []) (rest := []) rfl ly13 rfl rfl (ok_fJ_signOfRoots sc o7 ho8) ?_
  refine tk_Ps  2 (pc' := 133) (ls' := [(3, .int o8), (0, .ref 13), (1, .ref a1), (2, .ref a2)]) (st' := [.ref 13]) rfl ?_
  refine tk_HR  rfl rfl ly13 rt13_1 ?_
  refine tk_HI  rfl rfl ly16 ?_
  by_cases hc9 : (o7.1 16 0) = 0
  · replace h := tk_ifT hc9 h
    refine tk_bT  rfl rfl rfl (c := (o7.1 16 0) = 0) hc9 (pc' := 157) (ls' := [(3, .int o8), (0, .ref 13), (1, .ref a1), (2, .ref a2)]) (st' := []) ?_
    refine tk_Ps  1 (pc' := 158) (ls' := [(3, .int o8), (0, .ref 13), (1, .ref a1), (2, .ref a2)]) (st' := [.ref 13]) rfl ?_
    refine tk_HR  rfl rfl ly13 rt13_1 ?_
    refine tk_HI  rfl rfl ly16 ?_
    refine tk_bT  rfl rfl rfl (c := (o7.1 16 0) = 0) hc9 (pc' := 177) (ls' := [(3, .int o8), (0, .ref 13), (1, .ref a1), (2, .ref a2)]) (st' := []) ?_
    refine tk_Ps  1 (pc' := 178) (ls' := [(3, .int o8), (0, .ref 13), (1, .ref a1), (2, .ref a2)]) (st' := [.int o8]) rfl ?_
    replace h := Option.some.inj h
    subst h
    exact tk_RI  rfl rfl rfl
  · replace h := tk_ifF hc9 h
    refine tk_bF  rfl rfl rfl (c := (o7.1 16 0) = 0) hc9 (pc' := 142) (ls' := [(3, .int o8), (0, .ref 13), (1, .ref a1), (2, .ref a2)]) (st' := []) ?_
    refine tk_Ps  1 (pc' := 143) (ls' := [(3, .int o8), (0, .ref 13), (1, .ref a1), (2, .ref a2)]) (st' := [.int o8]) rfl ?_
    by_cases hc10 : o8 = 0
    · replace h := tk_ifT hc10 h
      refine tk_bT  rfl rfl rfl (c := o8 = 0) hc10 (pc' := 157) (ls' := [(3, .int o8), (0, .ref 13), (1, .ref a1), (2, .ref a2)]) (st' := []) ?_
      refine tk_Ps  1 (pc' := 158) (ls' := [(3, .int o8), (0, .ref 13), (1, .ref a1), (2, .ref a2)]) (st' := [.ref 13]) rfl ?_
      refine tk_HR  rfl rfl ly13 rt13_1 ?_
      refine tk_HI  rfl rfl ly16 ?_
      refine tk_bF  rfl rfl rfl (c := (o7.1 16 0) = 0) hc9 (pc' := 167) (ls' := [(3, .int o8), (0, .ref 13), (1, .ref a1), (2, .ref a2)]) (st' := []) ?_
      refine tk_Ps  1 (pc' := 168) (ls' := [(3, .int o8), (0, .ref 13), (1, .ref a1), (2, .ref a2)]) (st' := [.ref 13]) rfl ?_
      refine tk_HR  rfl rfl ly13 rt13_1 ?_
      refine tk_HI  rfl rfl ly16 ?_
      refine tk_Ps  1 (pc' := 178) (ls' := [(3, .int o8), (0, .ref 13), (1, .ref a1), (2, .ref a2)]) (st' := [.int (o7.1 16 0)]) rfl ?_
      replace h := Option.some.inj h
      subst h
      exact tk_RI  rfl rfl rfl
    · replace h := tk_ifF hc10 h
      refine tk_bF  rfl rfl rfl (c := o8 = 0) hc10 (pc' := 146) (ls' := [(3, .int o8), (0, .ref 13), (1, .ref a1), (2, .ref a2)]) (st' := []) ?_
      refine tk_Ps  1 (pc' := 147) (ls' := [(3, .int o8), (0, .ref 13), (1, .ref a1), (2, .ref a2)]) (st' := [.ref 13]) rfl ?_
      refine tk_HR  rfl rfl ly13 rt13_1 ?_
      refine tk_HI  rfl rfl ly16 ?_
      refine tk_Ps  1 (pc' := 154) (ls' := [(3, .int o8), (0, .ref 13), (1, .ref a1), (2, .ref a2)]) (st' := [.int o8, .int (o7.1 16 0)]) rfl ?_
      by_cases hc11 : (o7.1 16 0) = o8
      · replace h := tk_ifT hc11 h
        refine tk_bT  rfl rfl rfl (c := (o7.1 16 0) = o8) hc11 (pc' := 157) (ls' := [(3, .int o8), (0, .ref 13), (1, .ref a1), (2, .ref a2)]) (st' := []) ?_
        refine tk_Ps  1 (pc' := 158) (ls' := [(3, .int o8), (0, .ref 13), (1, .ref a1), (2, .ref a2)]) (st' := [.ref 13]) rfl ?_
        refine tk_HR  rfl rfl ly13 rt13_1 ?_
        refine tk_HI  rfl rfl ly16 ?_
        refine tk_bF  rfl rfl rfl (c := (o7.1 16 0) = 0) hc9 (pc' := 167) (ls' := [(3, .int o8), (0, .ref 13), (1, .ref a1), (2, .ref a2)]) (st' := []) ?_
        refine tk_Ps  1 (pc' := 168) (ls' := [(3, .int o8), (0, .ref 13), (1, .ref a1), (2, .ref a2)]) (st' := [.ref 13]) rfl ?_
        refine tk_HR  rfl rfl ly13 rt13_1 ?_
        refine tk_HI  rfl rfl ly16 ?_
        refine tk_Ps  1 (pc' := 178) (ls' := [(3, .int o8), (0, .ref 13), (1, .ref a1), (2, .ref a2)]) (st' := [.int (o7.1 16 0)]) rfl ?_
        replace h := Option.some.inj h
        subst h
        exact tk_RI  rfl rfl rfl
      · replace h := tk_ifF hc11 h
        refine tk_bF  rfl rfl rfl (c := (o7.1 16 0) = o8) hc11 (pc' := 179) (ls' := [(3, .int o8), (0, .ref 13), (1, .ref a1), (2, .ref a2)]) (st' := []) ?_
        refine tk_Ps  1 (pc' := 180) (ls' := [(3, .int o8), (0, .ref 13), (1, .ref a1), (2, .ref a2)]) (st' := [.ref 13]) rfl ?_
        refine tk_HR  rfl rfl ly13 rt13_1 ?_
        refine tk_HI  rfl rfl ly16 ?_
        refine tk_Ps  1 (pc' := 187) (ls' := [(3, .int o8), (0, .ref 13), (1, .ref a1), (2, .ref a2)]) (st' := [.ref 13, .int (o7.1 16 0)]) rfl ?_
        obtain ⟨o12, ho12, h⟩ := tk_bnd h
        refine tk_cV1  rfl rfl (r := 13) (as := []) (rest := [.int (o7.1 16 0)]) rfl ly13 rfl rfl (ok_fJ_wholeAgainstRoots sc o7 ho12) ?_
        refine tk_Ps  1 (pc' := 191) (ls' := [(3, .int o8), (0, .ref 13), (1, .ref a1), (2, .ref a2)]) (st' := [.int ((o7.1 16 0) * o12.1)]) rfl ?_
        replace h := Option.some.inj h
        subst h
        exact tk_RI  rfl rfl rfl
theorem ok_fJ_orderq (sc : tk_X) (a1 : Nat) (a2 : Nat) (m : tk_m) (ha1 : tk_lay[a1]? = some (.inl 4)) (ha2 : tk_lay[a2]? = some (.inl 4)) {out : Int32 × tk_m} (h : fJ_orderq a1 a2 m = some out) : tk_Ru sc 5 105 [.ref 40, .ref a1, .ref a2] (tk_full m) (some (.int out.1), tk_full out.2) := by
  unfold fJ_orderq at h
  refine tk_Ru0 me105 (ls := [(0, .ref 40), (1, .ref a1), (2, .ref a2)]) rfl rfl ?_
  refine tk_Ps  2 (pc' := 2) (ls' := [(0, .ref 40), (1, .ref a1), (2, .ref a2)]) (st' := [.ref 40, .ref 40]) rfl ?_
  refine tk_HR  rfl rfl ly40 rt40_2 ?_
  refine tk_Ps  1 (pc' := 6) (ls' := [(0, .ref 40), (1, .ref a1), (2, .ref a2)]) (st' := [.ref a1, .ref 45, .ref 40]) rfl ?_
  refine tk_cV1  rfl rfl (r := a1) (as := []) (rest := [.ref 45, .ref 40]) rfl ha1 rfl rfl (ok_fN_p sc a1 m ha1) ?_
  refine tk_Ps  1 (pc' := 10) (ls' := [(0, .ref 40), (1, .ref a1), (2, .ref a2)]) (st' := [.ref a2, .long (fN_p a1 m), .ref 45, .ref 40]) rfl ?_
  refine tk_cV1  rfl rfl (r := a2) (as := []) (rest := [.long (fN_p a1 m), .ref 45, .ref 40]) rfl ha2 rfl rfl (ok_fN_m sc a2 m ha2) ?_
  obtain ⟨o1, ho1, h⟩ := tk_bnd h
  refine tk_cV0  rfl rfl (r := 40) (as := [.ref 45, .long (fN_p a1 m), .long (fN_m a2 m)]) (rest := []) rfl ly40 rfl rfl (ok_fJ_takeProductq sc 45 (fN_p a1 m) (fN_m a2 m) m ly45 ho1) ?_
  refine tk_Ps  2 (pc' := 18) (ls' := [(0, .ref 40), (1, .ref a1), (2, .ref a2)]) (st' := [.ref 40, .ref 40]) rfl ?_
  refine tk_HR  rfl rfl ly40 rt40_3 ?_
  refine tk_Ps  1 (pc' := 22) (ls' := [(0, .ref 40), (1, .ref a1), (2, .ref a2)]) (st' := [.ref a2, .ref 47, .ref 40]) rfl ?_
  refine tk_cV1  rfl rfl (r := a2) (as := []) (rest := [.ref 47, .ref 40]) rfl ha2 rfl rfl (ok_fN_p sc a2 o1 ha2) ?_
  refine tk_Ps  1 (pc' := 26) (ls' := [(0, .ref 40), (1, .ref a1), (2, .ref a2)]) (st' := [.ref a1, .long (fN_p a2 o1), .ref 47, .ref 40]) rfl ?_
  refine tk_cV1  rfl rfl (r := a1) (as := []) (rest := [.long (fN_p a2 o1), .ref 47, .ref 40]) rfl ha1 rfl rfl (ok_fN_m sc a1 o1 ha1) ?_
  obtain ⟨o2, ho2, h⟩ := tk_bnd h
  refine tk_cV0  rfl rfl (r := 40) (as := [.ref 47, .long (fN_p a2 o1), .long (fN_m a1 o1)]) (rest := []) rfl ly40 rfl rfl (ok_fJ_takeProductq sc 47 (fN_p a2 o1) (fN_m a1 o1) o1 ly47 ho2) ?_
  refine tk_Ps  1 (pc' := 33) (ls' := [(0, .ref 40), (1, .ref a1), (2, .ref a2)]) (st' := [.ref 40]) rfl ?_
  refine tk_HR  rfl rfl ly40 rt40_1 ?_
  refine tk_Ps  1 (pc' := 37) (ls' := [(0, .ref 40), (1, .ref a1), (2, .ref a2)]) (st' := [.ref 40, .ref 43]) rfl ?_
  refine tk_HR  rfl rfl ly40 rt40_2 ?_
  refine tk_Ps  2 (pc' := 42) (ls' := [(0, .ref 40), (1, .ref a1), (2, .ref a2)]) (st' := [.ref 40, .int (-1 : Int32), .ref 45, .ref 43]) rfl ?_
  refine tk_HR  rfl rfl ly40 rt40_3 ?_
  obtain ⟨o3, ho3, h⟩ := tk_bnd h
  refine tk_cV0  rfl rfl (r := 43) (as := [.ref 45, .int (-1 : Int32), .ref 47]) (rest := []) rfl ly43 rfl rfl (ok_fB_takeSum sc 43 45 (-1 : Int32) 47 o2 ly43 ly45 ly47 ho3) ?_
  refine tk_Ps  2 (pc' := 50) (ls' := [(0, .ref 40), (1, .ref a1), (2, .ref a2)]) (st' := [.ref 40, .ref 40]) rfl ?_
  refine tk_HR  rfl rfl ly40 rt40_2 ?_
  refine tk_Ps  1 (pc' := 54) (ls' := [(0, .ref 40), (1, .ref a1), (2, .ref a2)]) (st' := [.ref a1, .ref 45, .ref 40]) rfl ?_
  refine tk_cV1  rfl rfl (r := a1) (as := []) (rest := [.ref 45, .ref 40]) rfl ha1 rfl rfl (ok_fN_q sc a1 o3 ha1) ?_
  refine tk_Ps  1 (pc' := 58) (ls' := [(0, .ref 40), (1, .ref a1), (2, .ref a2)]) (st' := [.ref a2, .long (fN_q a1 o3), .ref 45, .ref 40]) rfl ?_
  refine tk_cV1  rfl rfl (r := a2) (as := []) (rest := [.long (fN_q a1 o3), .ref 45, .ref 40]) rfl ha2 rfl rfl (ok_fN_m sc a2 o3 ha2) ?_
  obtain ⟨o4, ho4, h⟩ := tk_bnd h
  refine tk_cV0  rfl rfl (r := 40) (as := [.ref 45, .long (fN_q a1 o3), .long (fN_m a2 o3)]) (rest := []) rfl ly40 rfl rfl (ok_fJ_takeProductq sc 45 (fN_q a1 o3) (fN_m a2 o3) o3 ly45 ho4) ?_
  refine tk_Ps  2 (pc' := 66) (ls' := [(0, .ref 40), (1, .ref a1), (2, .ref a2)]) (st' := [.ref 40, .ref 40]) rfl ?_
  refine tk_HR  rfl rfl ly40 rt40_3 ?_
  refine tk_Ps  1 (pc' := 70) (ls' := [(0, .ref 40), (1, .ref a1), (2, .ref a2)]) (st' := [.ref a2, .ref 47, .ref 40]) rfl ?_
  refine tk_cV1  rfl rfl (r := a2) (as := []) (rest := [.ref 47, .ref 40]) rfl ha2 rfl rfl (ok_fN_q sc a2 o4 ha2) ?_
  refine tk_Ps  1 (pc' := 74) (ls' := [(0, .ref 40), (1, .ref a1), (2, .ref a2)]) (st' := [.ref a1, .long (fN_q a2 o4), .ref 47, .ref 40]) rfl ?_
  refine tk_cV1  rfl rfl (r := a1) (as := []) (rest := [.long (fN_q a2 o4), .ref 47, .ref 40]) rfl ha1 rfl rfl (ok_fN_m sc a1 o4 ha1) ?_
  obtain ⟨o5, ho5, h⟩ := tk_bnd h
  refine tk_cV0  rfl rfl (r := 40) (as := [.ref 47, .long (fN_q a2 o4), .long (fN_m a1 o4)]) (rest := []) rfl ly40 rfl rfl (ok_fJ_takeProductq sc 47 (fN_q a2 o4) (fN_m a1 o4) o4 ly47 ho5) ?_
  refine tk_Ps  1 (pc' := 81) (ls' := [(0, .ref 40), (1, .ref a1), (2, .ref a2)]) (st' := [.ref 40]) rfl ?_
  refine tk_HR  rfl rfl ly40 rt40_3 ?_
  refine tk_Ps  1 (pc' := 85) (ls' := [(0, .ref 40), (1, .ref a1), (2, .ref a2)]) (st' := [.ref 40, .ref 47]) rfl ?_
  refine tk_HR  rfl rfl ly40 rt40_3 ?_
  refine tk_HI  rfl rfl ly47 ?_
  refine tk_Ps  1 (pc' := 92) (ls' := [(0, .ref 40), (1, .ref a1), (2, .ref a2)]) (st' := [.int (-(o5.1 47 0)), .ref 47]) rfl ?_
  refine tk_SI  rfl rfl ly47 ?_
  refine tk_Ps  2 (pc' := 97) (ls' := [(0, .ref 40), (1, .ref a1), (2, .ref a2)]) (st' := [.ref 40, .ref 40]) rfl ?_
  refine tk_HR  rfl rfl ly40 rt40_4 ?_
  refine tk_Ps  1 (pc' := 101) (ls' := [(0, .ref 40), (1, .ref a1), (2, .ref a2)]) (st' := [.ref 40, .ref 49, .ref 40]) rfl ?_
  refine tk_HR  rfl rfl ly40 rt40_2 ?_
  refine tk_Ps  1 (pc' := 105) (ls' := [(0, .ref 40), (1, .ref a1), (2, .ref a2)]) (st' := [.ref a1, .ref 45, .ref 49, .ref 40]) rfl ?_
  refine tk_HJ  rfl rfl ha1 ?_
  obtain ⟨o6, ho6, h⟩ := tk_bnd h
  refine tk_cV0  rfl rfl (r := 40) (as := [.ref 49, .ref 45, .long (o5.2.1 a1 2)]) (rest := []) rfl ly40 rfl rfl (ok_fJ_takeSquareq sc 49 45 (o5.2.1 a1 2) (tk_u2 o5.1 47 0 (-(o5.1 47 0)), o5.2.1, o5.2.2.1, o5.2.2.2) ly49 ly45 ho6) ?_
  refine tk_Ps  2 (pc' := 113) (ls' := [(0, .ref 40), (1, .ref a1), (2, .ref a2)]) (st' := [.ref 40, .ref 40]) rfl ?_
  refine tk_HR  rfl rfl ly40 rt40_5 ?_
  refine tk_Ps  1 (pc' := 117) (ls' := [(0, .ref 40), (1, .ref a1), (2, .ref a2)]) (st' := [.ref 40, .ref 51, .ref 40]) rfl ?_
  refine tk_HR  rfl rfl ly40 rt40_3 ?_
  refine tk_Ps  1 (pc' := 121) (ls' := [(0, .ref 40), (1, .ref a1), (2, .ref a2)]) (st' := [.ref a2, .ref 47, .ref 51, .ref 40]) rfl ?_
  refine tk_HJ  rfl rfl ha2 ?_
  obtain ⟨o7, ho7, h⟩ := tk_bnd h
  refine tk_cV0  rfl rfl (r := 40) (as := [.ref 51, .ref 47, .long (o6.2.1 a2 2)]) (rest := []) rfl ly40 rfl rfl (ok_fJ_takeSquareq sc 51 47 (o6.2.1 a2 2) o6 ly51 ly47 ho7) ?_
  refine tk_Ps  1 (pc' := 128) (ls' := [(0, .ref 40), (1, .ref a1), (2, .ref a2)]) (st' := [.ref 40]) rfl ?_
  obtain ⟨o8, ho8, h⟩ := tk_bnd h
  refine tk_cV1  rfl rfl (r := 40) (as := []) (rest := []) rfl ly40 rfl rfl (ok_fJ_signOfRootsq sc o7 ho8) ?_
  refine tk_Ps  2 (pc' := 133) (ls' := [(3, .int o8), (0, .ref 40), (1, .ref a1), (2, .ref a2)]) (st' := [.ref 40]) rfl ?_
  refine tk_HR  rfl rfl ly40 rt40_1 ?_
  refine tk_HI  rfl rfl ly43 ?_
  by_cases hc9 : (o7.1 43 0) = 0
  · replace h := tk_ifT hc9 h
    refine tk_bT  rfl rfl rfl (c := (o7.1 43 0) = 0) hc9 (pc' := 157) (ls' := [(3, .int o8), (0, .ref 40), (1, .ref a1), (2, .ref a2)]) (st' := []) ?_
    refine tk_Ps  1 (pc' := 158) (ls' := [(3, .int o8), (0, .ref 40), (1, .ref a1), (2, .ref a2)]) (st' := [.ref 40]) rfl ?_
    refine tk_HR  rfl rfl ly40 rt40_1 ?_
    refine tk_HI  rfl rfl ly43 ?_
    refine tk_bT  rfl rfl rfl (c := (o7.1 43 0) = 0) hc9 (pc' := 177) (ls' := [(3, .int o8), (0, .ref 40), (1, .ref a1), (2, .ref a2)]) (st' := []) ?_
    refine tk_Ps  1 (pc' := 178) (ls' := [(3, .int o8), (0, .ref 40), (1, .ref a1), (2, .ref a2)]) (st' := [.int o8]) rfl ?_
    replace h := Option.some.inj h
    subst h
    exact tk_RI  rfl rfl rfl
  · replace h := tk_ifF hc9 h
    refine tk_bF  rfl rfl rfl (c := (o7.1 43 0) = 0) hc9 (pc' := 142) (ls' := [(3, .int o8), (0, .ref 40), (1, .ref a1), (2, .ref a2)]) (st' := []) ?_
    refine tk_Ps  1 (pc' := 143) (ls' := [(3, .int o8), (0, .ref 40), (1, .ref a1), (2, .ref a2)]) (st' := [.int o8]) rfl ?_
    by_cases hc10 : o8 = 0
    · replace h := tk_ifT hc10 h
      refine tk_bT  rfl rfl rfl (c := o8 = 0) hc10 (pc' := 157) (ls' := [(3, .int o8), (0, .ref 40), (1, .ref a1), (2, .ref a2)]) (st' := []) ?_
      refine tk_Ps  1 (pc' := 158) (ls' := [(3, .int o8), (0, .ref 40), (1, .ref a1), (2, .ref a2)]) (st' := [.ref 40]) rfl ?_
      refine tk_HR  rfl rfl ly40 rt40_1 ?_
      refine tk_HI  rfl rfl ly43 ?_
      refine tk_bF  rfl rfl rfl (c := (o7.1 43 0) = 0) hc9 (pc' := 167) (ls' := [(3, .int o8), (0, .ref 40), (1, .ref a1), (2, .ref a2)]) (st' := []) ?_
      refine tk_Ps  1 (pc' := 168) (ls' := [(3, .int o8), (0, .ref 40), (1, .ref a1), (2, .ref a2)]) (st' := [.ref 40]) rfl ?_
      refine tk_HR  rfl rfl ly40 rt40_1 ?_
      refine tk_HI  rfl rfl ly43 ?_
      refine tk_Ps  1 (pc' := 178) (ls' := [(3, .int o8), (0, .ref 40), (1, .ref a1), (2, .ref a2)]) (st' := [.int (o7.1 43 0)]) rfl ?_
      replace h := Option.some.inj h
      subst h
      exact tk_RI  rfl rfl rfl
    · replace h := tk_ifF hc10 h
      refine tk_bF  rfl rfl rfl (c := o8 = 0) hc10 (pc' := 146) (ls' := [(3, .int o8), (0, .ref 40), (1, .ref a1), (2, .ref a2)]) (st' := []) ?_
      refine tk_Ps  1 (pc' := 147) (ls' := [(3, .int o8), (0, .ref 40), (1, .ref a1), (2, .ref a2)]) (st' := [.ref 40]) rfl ?_
      refine tk_HR  rfl rfl ly40 rt40_1 ?_
      refine tk_HI  rfl rfl ly43 ?_
      refine tk_Ps  1 (pc' := 154) (ls' := [(3, .int o8), (0, .ref 40), (1, .ref a1), (2, .ref a2)]) (st' := [.int o8, .int (o7.1 43 0)]) rfl ?_
      by_cases hc11 : (o7.1 43 0) = o8
      · replace h := tk_ifT hc11 h
        refine tk_bT  rfl rfl rfl (c := (o7.1 43 0) = o8) hc11 (pc' := 157) (ls' := [(3, .int o8), (0, .ref 40), (1, .ref a1), (2, .ref a2)]) (st' := []) ?_
        refine tk_Ps  1 (pc' := 158) (ls' := [(3, .int o8), (0, .ref 40), (1, .ref a1), (2, .ref a2)]) (st' := [.ref 40]) rfl ?_
        refine tk_HR  rfl rfl ly40 rt40_1 ?_
        refine tk_HI  rfl rfl ly43 ?_
        refine tk_bF  rfl rfl rfl (c := (o7.1 43 0) = 0) hc9 (pc' := 167) (ls' := [(3, .int o8), (0, .ref 40), (1, .ref a1), (2, .ref a2)]) (st' := []) ?_
        refine tk_Ps  1 (pc' := 168) (ls' := [(3, .int o8), (0, .ref 40), (1, .ref a1), (2, .ref a2)]) (st' := [.ref 40]) rfl ?_
        refine tk_HR  rfl rfl ly40 rt40_1 ?_
        refine tk_HI  rfl rfl ly43 ?_
        refine tk_Ps  1 (pc' := 178) (ls' := [(3, .int o8), (0, .ref 40), (1, .ref a1), (2, .ref a2)]) (st' := [.int (o7.1 43 0)]) rfl ?_
        replace h := Option.some.inj h
        subst h
        exact tk_RI  rfl rfl rfl
      · replace h := tk_ifF hc11 h
        refine tk_bF  rfl rfl rfl (c := (o7.1 43 0) = o8) hc11 (pc' := 179) (ls' := [(3, .int o8), (0, .ref 40), (1, .ref a1), (2, .ref a2)]) (st' := []) ?_
        refine tk_Ps  1 (pc' := 180) (ls' := [(3, .int o8), (0, .ref 40), (1, .ref a1), (2, .ref a2)]) (st' := [.ref 40]) rfl ?_
        refine tk_HR  rfl rfl ly40 rt40_1 ?_
        refine tk_HI  rfl rfl ly43 ?_
        refine tk_Ps  1 (pc' := 187) (ls' := [(3, .int o8), (0, .ref 40), (1, .ref a1), (2, .ref a2)]) (st' := [.ref 40, .int (o7.1 43 0)]) rfl ?_
        obtain ⟨o12, ho12, h⟩ := tk_bnd h
        refine tk_cV1  rfl rfl (r := 40) (as := []) (rest := [.int (o7.1 43 0)]) rfl ly40 rfl rfl (ok_fJ_wholeAgainstRootsq sc o7 ho12) ?_
        refine tk_Ps  1 (pc' := 191) (ls' := [(3, .int o8), (0, .ref 40), (1, .ref a1), (2, .ref a2)]) (st' := [.int ((o7.1 43 0) * o12.1)]) rfl ?_
        replace h := Option.some.inj h
        subst h
        exact tk_RI  rfl rfl rfl
theorem ok_fF_utmost_4 (sc : tk_X) : ∀ (n : Nat) (v1 : Int32) (v2 : Int32) (v3 : Int32) (m : tk_m) (out : Int32 × tk_m), fF_utmost_4 n v1 v2 v3 m = some out → tk_Ex sc 5 tk_r104 tk_k104 4 [(0, .ref 39), (1, .int v1), (2, .int v2), (3, .int v3)] [] (tk_full m) (some (.int out.1), tk_full out.2) := by
  intro n
  induction n with
  | zero =>
    intro v1 v2 v3 m out h
    cases h
  | succ n ih =>
    intro v1 v2 v3 m out h
    unfold fF_utmost_4 at h
    refine tk_Ps  2 (pc' := 6) (ls' := [(0, .ref 39), (1, .int v1), (2, .int v2), (3, .int v3)]) (st' := [.ref 39, .int v3]) rfl ?_
    refine tk_HI  rfl rfl ly39 ?_
    by_cases hc1 : (m.1 39 2) ≤ v3
    · replace h := tk_ifT hc1 h
      refine tk_bT  rfl rfl rfl (c := (m.1 39 2) ≤ v3) hc1 (pc' := 50) (ls' := [(0, .ref 39), (1, .int v1), (2, .int v2), (3, .int v3)]) (st' := []) ?_
      refine tk_Ps  1 (pc' := 51) (ls' := [(0, .ref 39), (1, .int v1), (2, .int v2), (3, .int v3)]) (st' := [.int v2]) rfl ?_
      replace h := Option.some.inj h
      subst h
      exact tk_RI  rfl rfl rfl
    · replace h := tk_ifF hc1 h
      refine tk_bF  rfl rfl rfl (c := (m.1 39 2) ≤ v3) hc1 (pc' := 12) (ls' := [(0, .ref 39), (1, .int v1), (2, .int v2), (3, .int v3)]) (st' := []) ?_
      refine tk_Ps  2 (pc' := 14) (ls' := [(0, .ref 39), (1, .int v1), (2, .int v2), (3, .int v3)]) (st' := [.ref 39, .int v1]) rfl ?_
      refine tk_HR  rfl rfl ly39 rt39_0 ?_
      refine tk_Ps  1 (pc' := 18) (ls' := [(0, .ref 39), (1, .int v1), (2, .int v2), (3, .int v3)]) (st' := [.ref 39, .ref 40, .int v1]) rfl ?_
      refine tk_HR  rfl rfl ly39 rt39_1 ?_
      refine tk_Ps  1 (pc' := 22) (ls' := [(0, .ref 39), (1, .int v1), (2, .int v2), (3, .int v3)]) (st' := [.int v3, .ref 61, .ref 40, .int v1]) rfl ?_
      obtain ⟨hg2, h⟩ := tk_grd h
      refine tk_HQ  rfl rfl ly61 hg2 (la61 _ (hg2).2).1 ?_
      refine tk_HR  rfl rfl ((la61 _ (hg2).2).2) (ro1_5 ((la61 _ (hg2).2).2)) ?_
      refine tk_Ps  1 (pc' := 27) (ls' := [(0, .ref 39), (1, .int v1), (2, .int v2), (3, .int v3)]) (st' := [.ref 39, .ref ((71 + 8 * (tk_n v3)) + 6), .ref 40, .int v1]) rfl ?_
      refine tk_HR  rfl rfl ly39 rt39_1 ?_
      refine tk_Ps  1 (pc' := 31) (ls' := [(0, .ref 39), (1, .int v1), (2, .int v2), (3, .int v3)]) (st' := [.int v2, .ref 61, .ref ((71 + 8 * (tk_n v3)) + 6), .ref 40, .int v1]) rfl ?_
      obtain ⟨hg3, h⟩ := tk_grd h
      refine tk_HQ  rfl rfl ly61 hg3 (la61 _ (hg3).2).1 ?_
      refine tk_HR  rfl rfl ((la61 _ (hg3).2).2) (ro1_5 ((la61 _ (hg3).2).2)) ?_
      obtain ⟨o4, ho4, h⟩ := tk_bnd h
      refine tk_cV1  rfl rfl (r := 40) (as := [.ref ((71 + 8 * (tk_n v3)) + 6), .ref ((71 + 8 * (tk_n v2)) + 6)]) (rest := [.int v1]) rfl ly40 rfl rfl (ok_fJ_orderq sc ((71 + 8 * (tk_n v3)) + 6) ((71 + 8 * (tk_n v2)) + 6) m (lo1_5 ((la61 _ (hg2).2).2)) (lo1_5 ((la61 _ (hg3).2).2)) ho4) ?_
      refine tk_Ps  1 (pc' := 39) (ls' := [(0, .ref 39), (1, .int v1), (2, .int v2), (3, .int v3)]) (st' := [.int (v1 * o4.1)]) rfl ?_
      by_cases hc5 : (v1 * o4.1) ≤ 0
      · replace h := tk_ifT hc5 h
        refine tk_bT  rfl rfl rfl (c := (v1 * o4.1) ≤ 0) hc5 (pc' := 44) (ls' := [(0, .ref 39), (1, .int v1), (2, .int v2), (3, .int v3)]) (st' := []) ?_
        refine tk_Ps  2 (pc' := 4) (ls' := [(3, .int (v3 + (1 : Int32))), (0, .ref 39), (1, .int v1), (2, .int v2)]) (st' := []) rfl ?_
        refine tk_Kp  (ls' := [(0, .ref 39), (1, .int v1), (2, .int v2), (3, .int (v3 + (1 : Int32)))]) rfl rfl ?_
        exact ih v1 v2 (v3 + (1 : Int32)) o4.2 _ h
      · replace h := tk_ifF hc5 h
        refine tk_bF  rfl rfl rfl (c := (v1 * o4.1) ≤ 0) hc5 (pc' := 42) (ls' := [(0, .ref 39), (1, .int v1), (2, .int v2), (3, .int v3)]) (st' := []) ?_
        refine tk_Ps  4 (pc' := 4) (ls' := [(3, .int (v3 + (1 : Int32))), (2, .int v3), (0, .ref 39), (1, .int v1)]) (st' := []) rfl ?_
        refine tk_Kp  (ls' := [(0, .ref 39), (1, .int v1), (2, .int v3), (3, .int (v3 + (1 : Int32)))]) rfl rfl ?_
        exact ih v1 v3 (v3 + (1 : Int32)) o4.2 _ h
theorem ok_fF_utmost (sc : tk_X) (a1 : Int32) (m : tk_m) {out : Int32 × tk_m} (h : fF_utmost a1 m = some out) : tk_Ru sc 6 104 [.ref 39, .int a1] (tk_full m) (some (.int out.1), tk_full out.2) := by
  unfold fF_utmost at h
  refine tk_Ru0 me104 (ls := [(0, .ref 39), (1, .int a1)]) rfl rfl ?_
  refine tk_Ps  4 (pc' := 4) (ls' := [(3, .int (1 : Int32)), (2, .int (0 : Int32)), (0, .ref 39), (1, .int a1)]) (st' := []) rfl ?_
  refine tk_Kp  (ls' := [(0, .ref 39), (1, .int a1), (2, .int (0 : Int32)), (3, .int (1 : Int32))]) rfl rfl ?_
  exact ok_fF_utmost_4 sc tk_F a1 (0 : Int32) (1 : Int32) m _ h
theorem ok_fX_best (sc : tk_X) (a1 : Int32) (m : tk_m) {out : Int32 × tk_m} (h : fX_best a1 m = some out) : tk_Ru sc 7 103 [.ref 0, .int a1] (tk_full m) (some (.int out.1), tk_full out.2) := by
  unfold fX_best at h
  refine tk_Ru0 me103 (ls := [(0, .ref 0), (1, .int a1)]) rfl rfl ?_
  refine tk_Ps  3 (pc' := 3) (ls' := [(0, .ref 0), (1, .int a1)]) (st' := [.int (1 : Int32), .int (0 : Int32), .int a1]) rfl ?_
  refine tk_cS1  rfl rfl (as := [.int a1, .int (0 : Int32), .int (1 : Int32)]) (rest := []) rfl rfl rfl (ok_fX_isWithin sc a1 (0 : Int32) (1 : Int32) m) ?_
  by_cases hc1 : (fX_isWithin a1 (0 : Int32) (1 : Int32)) = true
  · replace h := tk_ifT hc1 h
    refine tk_bT  rfl rfl tk_eB_ne (c := (fX_isWithin a1 (0 : Int32) (1 : Int32)) = true) hc1 (pc' := 15) (ls' := [(0, .ref 0), (1, .int a1)]) (st' := []) ?_
    refine tk_Ps  2 (pc' := 17) (ls' := [(0, .ref 0), (1, .int a1)]) (st' := [.int (0 : Int32), .ref 0]) rfl ?_
    obtain ⟨o2, ho2, h⟩ := tk_bnd h
    refine tk_cV1  rfl rfl (r := 0) (as := [.int (0 : Int32)]) (rest := []) rfl ly0 rfl rfl (ok_fX_missesAnswer sc (0 : Int32) m ho2) ?_
    refine tk_Ps  2 (pc' := 22) (ls' := [(2, .int o2.1), (0, .ref 0), (1, .int a1)]) (st' := [.int o2.1]) rfl ?_
    by_cases hc3 : o2.1 < 0
    · replace h := tk_ifT hc3 h
      refine tk_bT  rfl rfl rfl (c := o2.1 < 0) hc3 (pc' := 31) (ls' := [(2, .int o2.1), (0, .ref 0), (1, .int a1)]) (st' := []) ?_
      refine tk_Ps  1 (pc' := 32) (ls' := [(2, .int o2.1), (0, .ref 0), (1, .int a1)]) (st' := [.ref 0]) rfl ?_
      refine tk_HR  rfl rfl ly0 rt0_7 ?_
      refine tk_Ps  1 (pc' := 36) (ls' := [(2, .int o2.1), (0, .ref 0), (1, .int a1)]) (st' := [.int a1, .ref 39]) rfl ?_
      by_cases hc4 : a1 = 0
      · replace h := tk_ifT hc4 h
        refine tk_bT  rfl rfl rfl (c := a1 = 0) hc4 (pc' := 39) (ls' := [(2, .int o2.1), (0, .ref 0), (1, .int a1)]) (st' := [.ref 39]) ?_
        refine tk_Ps  2 (pc' := 44) (ls' := [(2, .int o2.1), (0, .ref 0), (1, .int a1)]) (st' := [.int (1 : Int32), .ref 39]) rfl ?_
        obtain ⟨o5, ho5, h⟩ := tk_bnd h
        refine tk_cV1  rfl rfl (r := 39) (as := [.int (1 : Int32)]) (rest := []) rfl ly39 rfl rfl (ok_fF_utmost sc (1 : Int32) o2.2 ho5) ?_
        replace h := Option.some.inj h
        subst h
        exact tk_RI  rfl rfl rfl
      · replace h := tk_ifF hc4 h
        refine tk_bF  rfl rfl rfl (c := a1 = 0) hc4 (pc' := 43) (ls' := [(2, .int o2.1), (0, .ref 0), (1, .int a1)]) (st' := [.ref 39]) ?_
        refine tk_Ps  1 (pc' := 44) (ls' := [(2, .int o2.1), (0, .ref 0), (1, .int a1)]) (st' := [.int (-1 : Int32), .ref 39]) rfl ?_
        obtain ⟨o6, ho6, h⟩ := tk_bnd h
        refine tk_cV1  rfl rfl (r := 39) (as := [.int (-1 : Int32)]) (rest := []) rfl ly39 rfl rfl (ok_fF_utmost sc (-1 : Int32) o2.2 ho6) ?_
        replace h := Option.some.inj h
        subst h
        exact tk_RI  rfl rfl rfl
    · replace h := tk_ifF hc3 h
      refine tk_bF  rfl rfl rfl (c := o2.1 < 0) hc3 (pc' := 25) (ls' := [(2, .int o2.1), (0, .ref 0), (1, .int a1)]) (st' := []) ?_
      refine tk_Ps  2 (pc' := 27) (ls' := [(2, .int o2.1), (0, .ref 0), (1, .int a1)]) (st' := [.int o2.1, .ref 0]) rfl ?_
      obtain ⟨o7, ho7, h⟩ := tk_bnd h
      refine tk_cV1  rfl rfl (r := 0) (as := [.int o2.1]) (rest := []) rfl ly0 rfl rfl (ok_fX_finding sc o2.1 o2.2 ho7) ?_
      replace h := Option.some.inj h
      subst h
      exact tk_RI  rfl rfl rfl
  · replace h := tk_ifF hc1 h
    refine tk_bF  rfl rfl tk_eB_ne (c := (fX_isWithin a1 (0 : Int32) (1 : Int32)) = true) hc1 (pc' := 9) (ls' := [(0, .ref 0), (1, .int a1)]) (st' := []) ?_
    refine tk_Ps  2 (pc' := 11) (ls' := [(0, .ref 0), (1, .int a1)]) (st' := [.int (0 : Int32), .ref 0]) rfl ?_
    obtain ⟨o8, ho8, h⟩ := tk_bnd h
    refine tk_cV1  rfl rfl (r := 0) (as := [.int (0 : Int32)]) (rest := []) rfl ly0 rfl rfl (ok_fX_finding sc (0 : Int32) m ho8) ?_
    replace h := Option.some.inj h
    subst h
    exact tk_RI  rfl rfl rfl
theorem ok_fF_howManyLess_4 (sc : tk_X) : ∀ (n : Nat) (v1 : Nat) (v2 : Int32) (v3 : Int32) (m : tk_m) (hv1 : tk_lay[v1]? = some (.inl 4)) (out : Int32 × tk_m), fF_howManyLess_4 n v1 v2 v3 m = some out → tk_Ex sc 5 tk_r121 tk_k121 4 [(0, .ref 39), (1, .ref v1), (2, .int v2), (3, .int v3)] [] (tk_full m) (some (.int out.1), tk_full out.2) := by
  intro n
  induction n with
  | zero =>
    intro v1 v2 v3 m hv1 out h
    cases h
  | succ n ih =>
    intro v1 v2 v3 m hv1 out h
    unfold fF_howManyLess_4 at h
    refine tk_Ps  2 (pc' := 6) (ls' := [(0, .ref 39), (1, .ref v1), (2, .int v2), (3, .int v3)]) (st' := [.ref 39, .int v3]) rfl ?_
    refine tk_HI  rfl rfl ly39 ?_
    by_cases hc1 : (m.1 39 2) ≤ v3
    · replace h := tk_ifT hc1 h
      refine tk_bT  rfl rfl rfl (c := (m.1 39 2) ≤ v3) hc1 (pc' := 41) (ls' := [(0, .ref 39), (1, .ref v1), (2, .int v2), (3, .int v3)]) (st' := []) ?_
      refine tk_Ps  1 (pc' := 42) (ls' := [(0, .ref 39), (1, .ref v1), (2, .int v2), (3, .int v3)]) (st' := [.int v2]) rfl ?_
      replace h := Option.some.inj h
      subst h
      exact tk_RI  rfl rfl rfl
    · replace h := tk_ifF hc1 h
      refine tk_bF  rfl rfl rfl (c := (m.1 39 2) ≤ v3) hc1 (pc' := 12) (ls' := [(0, .ref 39), (1, .ref v1), (2, .int v2), (3, .int v3)]) (st' := []) ?_
      refine tk_Ps  1 (pc' := 13) (ls' := [(0, .ref 39), (1, .ref v1), (2, .int v2), (3, .int v3)]) (st' := [.ref 39]) rfl ?_
      refine tk_HR  rfl rfl ly39 rt39_0 ?_
      refine tk_Ps  1 (pc' := 17) (ls' := [(0, .ref 39), (1, .ref v1), (2, .int v2), (3, .int v3)]) (st' := [.ref 39, .ref 40]) rfl ?_
      refine tk_HR  rfl rfl ly39 rt39_1 ?_
      refine tk_Ps  1 (pc' := 21) (ls' := [(0, .ref 39), (1, .ref v1), (2, .int v2), (3, .int v3)]) (st' := [.int v3, .ref 61, .ref 40]) rfl ?_
      obtain ⟨hg2, h⟩ := tk_grd h
      refine tk_HQ  rfl rfl ly61 hg2 (la61 _ (hg2).2).1 ?_
      refine tk_HR  rfl rfl ((la61 _ (hg2).2).2) (ro1_5 ((la61 _ (hg2).2).2)) ?_
      refine tk_Ps  1 (pc' := 26) (ls' := [(0, .ref 39), (1, .ref v1), (2, .int v2), (3, .int v3)]) (st' := [.ref v1, .ref ((71 + 8 * (tk_n v3)) + 6), .ref 40]) rfl ?_
      obtain ⟨o3, ho3, h⟩ := tk_bnd h
      refine tk_cV1  rfl rfl (r := 40) (as := [.ref ((71 + 8 * (tk_n v3)) + 6), .ref v1]) (rest := []) rfl ly40 rfl rfl (ok_fJ_orderq sc ((71 + 8 * (tk_n v3)) + 6) v1 m (lo1_5 ((la61 _ (hg2).2).2)) hv1 ho3) ?_
      by_cases hc4 : 0 ≤ o3.1
      · replace h := tk_ifT hc4 h
        refine tk_bT  rfl rfl rfl (c := 0 ≤ o3.1) hc4 (pc' := 35) (ls' := [(0, .ref 39), (1, .ref v1), (2, .int v2), (3, .int v3)]) (st' := []) ?_
        refine tk_Ps  2 (pc' := 4) (ls' := [(3, .int (v3 + (1 : Int32))), (0, .ref 39), (1, .ref v1), (2, .int v2)]) (st' := []) rfl ?_
        refine tk_Kp  (ls' := [(0, .ref 39), (1, .ref v1), (2, .int v2), (3, .int (v3 + (1 : Int32)))]) rfl rfl ?_
        exact ih v1 v2 (v3 + (1 : Int32)) o3.2 hv1 _ h
      · replace h := tk_ifF hc4 h
        refine tk_bF  rfl rfl rfl (c := 0 ≤ o3.1) hc4 (pc' := 32) (ls' := [(0, .ref 39), (1, .ref v1), (2, .int v2), (3, .int v3)]) (st' := []) ?_
        refine tk_Ps  3 (pc' := 4) (ls' := [(3, .int (v3 + (1 : Int32))), (2, .int (v2 + (1 : Int32))), (0, .ref 39), (1, .ref v1)]) (st' := []) rfl ?_
        refine tk_Kp  (ls' := [(0, .ref 39), (1, .ref v1), (2, .int (v2 + (1 : Int32))), (3, .int (v3 + (1 : Int32)))]) rfl rfl ?_
        exact ih v1 (v2 + (1 : Int32)) (v3 + (1 : Int32)) o3.2 hv1 _ h
theorem ok_fF_howManyLess (sc : tk_X) (a1 : Nat) (m : tk_m) (ha1 : tk_lay[a1]? = some (.inl 4)) {out : Int32 × tk_m} (h : fF_howManyLess a1 m = some out) : tk_Ru sc 6 121 [.ref 39, .ref a1] (tk_full m) (some (.int out.1), tk_full out.2) := by
  unfold fF_howManyLess at h
  refine tk_Ru0 me121 (ls := [(0, .ref 39), (1, .ref a1)]) rfl rfl ?_
  refine tk_Ps  4 (pc' := 4) (ls' := [(3, .int (0 : Int32)), (2, .int (0 : Int32)), (0, .ref 39), (1, .ref a1)]) (st' := []) rfl ?_
  refine tk_Kp  (ls' := [(0, .ref 39), (1, .ref a1), (2, .int (0 : Int32)), (3, .int (0 : Int32))]) rfl rfl ?_
  exact ok_fF_howManyLess_4 sc tk_F a1 (0 : Int32) (0 : Int32) m ha1 _ h
theorem ok_fX_rank (sc : tk_X) (a1 : Int32) (m : tk_m) {out : Int32 × tk_m} (h : fX_rank a1 m = some out) : tk_Ru sc 7 120 [.ref 0, .int a1] (tk_full m) (some (.int out.1), tk_full out.2) := by
  unfold fX_rank at h
  refine tk_Ru0 me120 (ls := [(0, .ref 0), (1, .int a1)]) rfl rfl ?_
  refine tk_Ps  2 (pc' := 2) (ls' := [(0, .ref 0), (1, .int a1)]) (st' := [.int a1, .ref 0]) rfl ?_
  obtain ⟨o1, ho1, h⟩ := tk_bnd h
  refine tk_cV1  rfl rfl (r := 0) (as := [.int a1]) (rest := []) rfl ly0 rfl rfl (ok_fX_missesAnswer sc a1 m ho1) ?_
  refine tk_Ps  2 (pc' := 7) (ls' := [(2, .int o1.1), (0, .ref 0), (1, .int a1)]) (st' := [.int o1.1]) rfl ?_
  by_cases hc2 : o1.1 < 0
  · replace h := tk_ifT hc2 h
    refine tk_bT  rfl rfl rfl (c := o1.1 < 0) hc2 (pc' := 16) (ls' := [(2, .int o1.1), (0, .ref 0), (1, .int a1)]) (st' := []) ?_
    refine tk_Ps  1 (pc' := 17) (ls' := [(2, .int o1.1), (0, .ref 0), (1, .int a1)]) (st' := [.ref 0]) rfl ?_
    refine tk_HR  rfl rfl ly0 rt0_7 ?_
    refine tk_Ps  1 (pc' := 21) (ls' := [(2, .int o1.1), (0, .ref 0), (1, .int a1)]) (st' := [.ref 0, .ref 39]) rfl ?_
    refine tk_HR  rfl rfl ly0 rt0_7 ?_
    refine tk_HR  rfl rfl ly39 rt39_1 ?_
    refine tk_Ps  1 (pc' := 28) (ls' := [(2, .int o1.1), (0, .ref 0), (1, .int a1)]) (st' := [.int a1, .ref 61, .ref 39]) rfl ?_
    obtain ⟨hg3, h⟩ := tk_grd h
    refine tk_HQ  rfl rfl ly61 hg3 (la61 _ (hg3).2).1 ?_
    refine tk_HR  rfl rfl ((la61 _ (hg3).2).2) (ro1_5 ((la61 _ (hg3).2).2)) ?_
    obtain ⟨o4, ho4, h⟩ := tk_bnd h
    refine tk_cV1  rfl rfl (r := 39) (as := [.ref ((71 + 8 * (tk_n a1)) + 6)]) (rest := []) rfl ly39 rfl rfl (ok_fF_howManyLess sc ((71 + 8 * (tk_n a1)) + 6) o1.2 (lo1_5 ((la61 _ (hg3).2).2)) ho4) ?_
    replace h := Option.some.inj h
    subst h
    exact tk_RI  rfl rfl rfl
  · replace h := tk_ifF hc2 h
    refine tk_bF  rfl rfl rfl (c := o1.1 < 0) hc2 (pc' := 10) (ls' := [(2, .int o1.1), (0, .ref 0), (1, .int a1)]) (st' := []) ?_
    refine tk_Ps  2 (pc' := 12) (ls' := [(2, .int o1.1), (0, .ref 0), (1, .int a1)]) (st' := [.int o1.1, .ref 0]) rfl ?_
    obtain ⟨o5, ho5, h⟩ := tk_bnd h
    refine tk_cV1  rfl rfl (r := 0) (as := [.int o1.1]) (rest := []) rfl ly0 rfl rfl (ok_fX_finding sc o1.1 o1.2 ho5) ?_
    replace h := Option.some.inj h
    subst h
    exact tk_RI  rfl rfl rfl
theorem ok_fC_touchesStraight (sc : tk_X) (t : Nat) (a1 : Nat) (a2 : Int32) (m : tk_m) (ht : tk_lay[t]? = some (.inl 1)) (ha1 : tk_lay[a1]? = some (.inl 6)) : tk_Ru sc 2 125 [.ref t, .ref a1, .int a2] (tk_full m) (some (.int (tk_b (fC_touchesStraight t a1 a2 m))), tk_full m) := by
  obtain ⟨out, h⟩ : ∃ out, fC_touchesStraight t a1 a2 m = out := ⟨_, rfl⟩
  rw [h]
  unfold fC_touchesStraight at h
  refine tk_Ru0 me125 (ls := [(0, .ref t), (1, .ref a1), (2, .int a2)]) rfl rfl ?_
  refine tk_Ps  2 (pc' := 2) (ls' := [(0, .ref t), (1, .ref a1), (2, .int a2)]) (st' := [.int a2, .ref a1]) rfl ?_
  refine tk_cV1  rfl rfl (r := a1) (as := [.int a2]) (rest := []) rfl ha1 rfl rfl (ok_fH_slope sc a1 a2 m ha1) ?_
  refine tk_Ps  3 (pc' := 8) (ls' := [(3, .long (Int32.toInt64 (fH_slope a1 a2 m))), (0, .ref t), (1, .ref a1), (2, .int a2)]) (st' := [.ref a1]) rfl ?_
  refine tk_HI  rfl rfl ha1 ?_
  refine tk_Ps  2 (pc' := 13) (ls' := [(3, .long (Int32.toInt64 (fH_slope a1 a2 m))), (0, .ref t), (1, .ref a1), (2, .int a2)]) (st' := [.ref t, .long (Int32.toInt64 (m.1 a1 6))]) rfl ?_
  refine tk_HR  rfl rfl ht (ro1_1 ht) ?_
  refine tk_Ps  1 (pc' := 17) (ls' := [(3, .long (Int32.toInt64 (fH_slope a1 a2 m))), (0, .ref t), (1, .ref a1), (2, .int a2)]) (st' := [.int (0 : Int32), .ref (t + 1), .long (Int32.toInt64 (m.1 a1 6))]) rfl ?_
  refine tk_HJa  rfl rfl (lo1_1 ht) (by decide) ?_
  refine tk_Ps  2 (pc' := 20) (ls' := [(3, .long (Int32.toInt64 (fH_slope a1 a2 m))), (0, .ref t), (1, .ref a1), (2, .int a2)]) (st' := [.ref a1, .long ((Int32.toInt64 (m.1 a1 6)) * (m.2.1 (t + 1) 0))]) rfl ?_
  refine tk_HI  rfl rfl ha1 ?_
  refine tk_Ps  2 (pc' := 25) (ls' := [(3, .long (Int32.toInt64 (fH_slope a1 a2 m))), (0, .ref t), (1, .ref a1), (2, .int a2)]) (st' := [.ref t, .long (Int32.toInt64 (m.1 a1 7)), .long ((Int32.toInt64 (m.1 a1 6)) * (m.2.1 (t + 1) 0))]) rfl ?_
  refine tk_HR  rfl rfl ht (ro1_1 ht) ?_
  refine tk_Ps  1 (pc' := 29) (ls' := [(3, .long (Int32.toInt64 (fH_slope a1 a2 m))), (0, .ref t), (1, .ref a1), (2, .int a2)]) (st' := [.int (1 : Int32), .ref (t + 1), .long (Int32.toInt64 (m.1 a1 7)), .long ((Int32.toInt64 (m.1 a1 6)) * (m.2.1 (t + 1) 0))]) rfl ?_
  refine tk_HJa  rfl rfl (lo1_1 ht) (by decide) ?_
  refine tk_Ps  4 (pc' := 34) (ls' := [(3, .long (Int32.toInt64 (fH_slope a1 a2 m))), (0, .ref t), (1, .ref a1), (2, .int a2)]) (st' := [.ref t, .long (Int32.toInt64 (fH_slope a1 a2 m)), .long (((Int32.toInt64 (m.1 a1 6)) * (m.2.1 (t + 1) 0)) + ((Int32.toInt64 (m.1 a1 7)) * (m.2.1 (t + 1) 1)))]) rfl ?_
  refine tk_HR  rfl rfl ht (ro1_1 ht) ?_
  refine tk_Ps  1 (pc' := 38) (ls' := [(3, .long (Int32.toInt64 (fH_slope a1 a2 m))), (0, .ref t), (1, .ref a1), (2, .int a2)]) (st' := [.int (2 : Int32), .ref (t + 1), .long (Int32.toInt64 (fH_slope a1 a2 m)), .long (((Int32.toInt64 (m.1 a1 6)) * (m.2.1 (t + 1) 0)) + ((Int32.toInt64 (m.1 a1 7)) * (m.2.1 (t + 1) 1)))]) rfl ?_
  refine tk_HJa  rfl rfl (lo1_1 ht) (by decide) ?_
  refine tk_Ps  3 (pc' := 42) (ls' := [(3, .long (Int32.toInt64 (fH_slope a1 a2 m))), (0, .ref t), (1, .ref a1), (2, .int a2)]) (st' := [.ref a1, .long ((((Int32.toInt64 (m.1 a1 6)) * (m.2.1 (t + 1) 0)) + ((Int32.toInt64 (m.1 a1 7)) * (m.2.1 (t + 1) 1))) + ((Int32.toInt64 (fH_slope a1 a2 m)) * (m.2.1 (t + 1) 2)))]) rfl ?_
  refine tk_HI  rfl rfl ha1 ?_
  refine tk_Ps  2 (pc' := 47) (ls' := [(3, .long (Int32.toInt64 (fH_slope a1 a2 m))), (0, .ref t), (1, .ref a1), (2, .int a2)]) (st' := [.ref t, .long (Int32.toInt64 (m.1 a1 5)), .long ((((Int32.toInt64 (m.1 a1 6)) * (m.2.1 (t + 1) 0)) + ((Int32.toInt64 (m.1 a1 7)) * (m.2.1 (t + 1) 1))) + ((Int32.toInt64 (fH_slope a1 a2 m)) * (m.2.1 (t + 1) 2)))]) rfl ?_
  refine tk_HR  rfl rfl ht (ro1_1 ht) ?_
  refine tk_Ps  1 (pc' := 52) (ls' := [(3, .long (Int32.toInt64 (fH_slope a1 a2 m))), (0, .ref t), (1, .ref a1), (2, .int a2)]) (st' := [.int (6 : Int32), .ref (t + 1), .long (Int32.toInt64 (m.1 a1 5)), .long ((((Int32.toInt64 (m.1 a1 6)) * (m.2.1 (t + 1) 0)) + ((Int32.toInt64 (m.1 a1 7)) * (m.2.1 (t + 1) 1))) + ((Int32.toInt64 (fH_slope a1 a2 m)) * (m.2.1 (t + 1) 2)))]) rfl ?_
  refine tk_HJa  rfl rfl (lo1_1 ht) (by decide) ?_
  refine tk_Ps  4 (pc' := 58) (ls' := [(5, .long (((((Int32.toInt64 (m.1 a1 6)) * (m.2.1 (t + 1) 0)) + ((Int32.toInt64 (m.1 a1 7)) * (m.2.1 (t + 1) 1))) + ((Int32.toInt64 (fH_slope a1 a2 m)) * (m.2.1 (t + 1) 2))) - ((Int32.toInt64 (m.1 a1 5)) * (m.2.1 (t + 1) 6)))), (3, .long (Int32.toInt64 (fH_slope a1 a2 m))), (0, .ref t), (1, .ref a1), (2, .int a2)]) (st' := [.ref a1]) rfl ?_
  refine tk_HI  rfl rfl ha1 ?_
  refine tk_Ps  2 (pc' := 63) (ls' := [(5, .long (((((Int32.toInt64 (m.1 a1 6)) * (m.2.1 (t + 1) 0)) + ((Int32.toInt64 (m.1 a1 7)) * (m.2.1 (t + 1) 1))) + ((Int32.toInt64 (fH_slope a1 a2 m)) * (m.2.1 (t + 1) 2))) - ((Int32.toInt64 (m.1 a1 5)) * (m.2.1 (t + 1) 6)))), (3, .long (Int32.toInt64 (fH_slope a1 a2 m))), (0, .ref t), (1, .ref a1), (2, .int a2)]) (st' := [.ref t, .long (Int32.toInt64 (m.1 a1 6))]) rfl ?_
  refine tk_HR  rfl rfl ht (ro1_1 ht) ?_
  refine tk_Ps  1 (pc' := 67) (ls' := [(5, .long (((((Int32.toInt64 (m.1 a1 6)) * (m.2.1 (t + 1) 0)) + ((Int32.toInt64 (m.1 a1 7)) * (m.2.1 (t + 1) 1))) + ((Int32.toInt64 (fH_slope a1 a2 m)) * (m.2.1 (t + 1) 2))) - ((Int32.toInt64 (m.1 a1 5)) * (m.2.1 (t + 1) 6)))), (3, .long (Int32.toInt64 (fH_slope a1 a2 m))), (0, .ref t), (1, .ref a1), (2, .int a2)]) (st' := [.int (3 : Int32), .ref (t + 1), .long (Int32.toInt64 (m.1 a1 6))]) rfl ?_
  refine tk_HJa  rfl rfl (lo1_1 ht) (by decide) ?_
  refine tk_Ps  2 (pc' := 70) (ls' := [(5, .long (((((Int32.toInt64 (m.1 a1 6)) * (m.2.1 (t + 1) 0)) + ((Int32.toInt64 (m.1 a1 7)) * (m.2.1 (t + 1) 1))) + ((Int32.toInt64 (fH_slope a1 a2 m)) * (m.2.1 (t + 1) 2))) - ((Int32.toInt64 (m.1 a1 5)) * (m.2.1 (t + 1) 6)))), (3, .long (Int32.toInt64 (fH_slope a1 a2 m))), (0, .ref t), (1, .ref a1), (2, .int a2)]) (st' := [.ref a1, .long ((Int32.toInt64 (m.1 a1 6)) * (m.2.1 (t + 1) 3))]) rfl ?_
  refine tk_HI  rfl rfl ha1 ?_
  refine tk_Ps  2 (pc' := 75) (ls' := [(5, .long (((((Int32.toInt64 (m.1 a1 6)) * (m.2.1 (t + 1) 0)) + ((Int32.toInt64 (m.1 a1 7)) * (m.2.1 (t + 1) 1))) + ((Int32.toInt64 (fH_slope a1 a2 m)) * (m.2.1 (t + 1) 2))) - ((Int32.toInt64 (m.1 a1 5)) * (m.2.1 (t + 1) 6)))), (3, .long (Int32.toInt64 (fH_slope a1 a2 m))), (0, .ref t), (1, .ref a1), (2, .int a2)]) (st' := [.ref t, .long (Int32.toInt64 (m.1 a1 7)), .long ((Int32.toInt64 (m.1 a1 6)) * (m.2.1 (t + 1) 3))]) rfl ?_
  refine tk_HR  rfl rfl ht (ro1_1 ht) ?_
  refine tk_Ps  1 (pc' := 79) (ls' := [(5, .long (((((Int32.toInt64 (m.1 a1 6)) * (m.2.1 (t + 1) 0)) + ((Int32.toInt64 (m.1 a1 7)) * (m.2.1 (t + 1) 1))) + ((Int32.toInt64 (fH_slope a1 a2 m)) * (m.2.1 (t + 1) 2))) - ((Int32.toInt64 (m.1 a1 5)) * (m.2.1 (t + 1) 6)))), (3, .long (Int32.toInt64 (fH_slope a1 a2 m))), (0, .ref t), (1, .ref a1), (2, .int a2)]) (st' := [.int (4 : Int32), .ref (t + 1), .long (Int32.toInt64 (m.1 a1 7)), .long ((Int32.toInt64 (m.1 a1 6)) * (m.2.1 (t + 1) 3))]) rfl ?_
  refine tk_HJa  rfl rfl (lo1_1 ht) (by decide) ?_
  refine tk_Ps  4 (pc' := 84) (ls' := [(5, .long (((((Int32.toInt64 (m.1 a1 6)) * (m.2.1 (t + 1) 0)) + ((Int32.toInt64 (m.1 a1 7)) * (m.2.1 (t + 1) 1))) + ((Int32.toInt64 (fH_slope a1 a2 m)) * (m.2.1 (t + 1) 2))) - ((Int32.toInt64 (m.1 a1 5)) * (m.2.1 (t + 1) 6)))), (3, .long (Int32.toInt64 (fH_slope a1 a2 m))), (0, .ref t), (1, .ref a1), (2, .int a2)]) (st' := [.ref t, .long (Int32.toInt64 (fH_slope a1 a2 m)), .long (((Int32.toInt64 (m.1 a1 6)) * (m.2.1 (t + 1) 3)) + ((Int32.toInt64 (m.1 a1 7)) * (m.2.1 (t + 1) 4)))]) rfl ?_
  refine tk_HR  rfl rfl ht (ro1_1 ht) ?_
  refine tk_Ps  1 (pc' := 88) (ls' := [(5, .long (((((Int32.toInt64 (m.1 a1 6)) * (m.2.1 (t + 1) 0)) + ((Int32.toInt64 (m.1 a1 7)) * (m.2.1 (t + 1) 1))) + ((Int32.toInt64 (fH_slope a1 a2 m)) * (m.2.1 (t + 1) 2))) - ((Int32.toInt64 (m.1 a1 5)) * (m.2.1 (t + 1) 6)))), (3, .long (Int32.toInt64 (fH_slope a1 a2 m))), (0, .ref t), (1, .ref a1), (2, .int a2)]) (st' := [.int (5 : Int32), .ref (t + 1), .long (Int32.toInt64 (fH_slope a1 a2 m)), .long (((Int32.toInt64 (m.1 a1 6)) * (m.2.1 (t + 1) 3)) + ((Int32.toInt64 (m.1 a1 7)) * (m.2.1 (t + 1) 4)))]) rfl ?_
  refine tk_HJa  rfl rfl (lo1_1 ht) (by decide) ?_
  refine tk_Ps  6 (pc' := 97) (ls' := [(7, .long ((((Int32.toInt64 (m.1 a1 6)) * (m.2.1 (t + 1) 3)) + ((Int32.toInt64 (m.1 a1 7)) * (m.2.1 (t + 1) 4))) + ((Int32.toInt64 (fH_slope a1 a2 m)) * (m.2.1 (t + 1) 5)))), (5, .long (((((Int32.toInt64 (m.1 a1 6)) * (m.2.1 (t + 1) 0)) + ((Int32.toInt64 (m.1 a1 7)) * (m.2.1 (t + 1) 1))) + ((Int32.toInt64 (fH_slope a1 a2 m)) * (m.2.1 (t + 1) 2))) - ((Int32.toInt64 (m.1 a1 5)) * (m.2.1 (t + 1) 6)))), (3, .long (Int32.toInt64 (fH_slope a1 a2 m))), (0, .ref t), (1, .ref a1), (2, .int a2)]) (st' := [.int (lg_cmp (((((Int32.toInt64 (m.1 a1 6)) * (m.2.1 (t + 1) 0)) + ((Int32.toInt64 (m.1 a1 7)) * (m.2.1 (t + 1) 1))) + ((Int32.toInt64 (fH_slope a1 a2 m)) * (m.2.1 (t + 1) 2))) - ((Int32.toInt64 (m.1 a1 5)) * (m.2.1 (t + 1) 6))) (0 : Int64))]) rfl ?_
  by_cases hc1 : (((((Int32.toInt64 (m.1 a1 6)) * (m.2.1 (t + 1) 0)) + ((Int32.toInt64 (m.1 a1 7)) * (m.2.1 (t + 1) 1))) + ((Int32.toInt64 (fH_slope a1 a2 m)) * (m.2.1 (t + 1) 2))) - ((Int32.toInt64 (m.1 a1 5)) * (m.2.1 (t + 1) 6))) = (0 : Int64)
  · replace h := tk_ifT hc1 h
    refine tk_bT  rfl rfl tk_eL_ne (c := (((((Int32.toInt64 (m.1 a1 6)) * (m.2.1 (t + 1) 0)) + ((Int32.toInt64 (m.1 a1 7)) * (m.2.1 (t + 1) 1))) + ((Int32.toInt64 (fH_slope a1 a2 m)) * (m.2.1 (t + 1) 2))) - ((Int32.toInt64 (m.1 a1 5)) * (m.2.1 (t + 1) 6))) = (0 : Int64)) hc1 (pc' := 100) (ls' := [(7, .long ((((Int32.toInt64 (m.1 a1 6)) * (m.2.1 (t + 1) 3)) + ((Int32.toInt64 (m.1 a1 7)) * (m.2.1 (t + 1) 4))) + ((Int32.toInt64 (fH_slope a1 a2 m)) * (m.2.1 (t + 1) 5)))), (5, .long (((((Int32.toInt64 (m.1 a1 6)) * (m.2.1 (t + 1) 0)) + ((Int32.toInt64 (m.1 a1 7)) * (m.2.1 (t + 1) 1))) + ((Int32.toInt64 (fH_slope a1 a2 m)) * (m.2.1 (t + 1) 2))) - ((Int32.toInt64 (m.1 a1 5)) * (m.2.1 (t + 1) 6)))), (3, .long (Int32.toInt64 (fH_slope a1 a2 m))), (0, .ref t), (1, .ref a1), (2, .int a2)]) (st' := []) ?_
    refine tk_Ps  3 (pc' := 104) (ls' := [(7, .long ((((Int32.toInt64 (m.1 a1 6)) * (m.2.1 (t + 1) 3)) + ((Int32.toInt64 (m.1 a1 7)) * (m.2.1 (t + 1) 4))) + ((Int32.toInt64 (fH_slope a1 a2 m)) * (m.2.1 (t + 1) 5)))), (5, .long (((((Int32.toInt64 (m.1 a1 6)) * (m.2.1 (t + 1) 0)) + ((Int32.toInt64 (m.1 a1 7)) * (m.2.1 (t + 1) 1))) + ((Int32.toInt64 (fH_slope a1 a2 m)) * (m.2.1 (t + 1) 2))) - ((Int32.toInt64 (m.1 a1 5)) * (m.2.1 (t + 1) 6)))), (3, .long (Int32.toInt64 (fH_slope a1 a2 m))), (0, .ref t), (1, .ref a1), (2, .int a2)]) (st' := [.int (lg_cmp ((((Int32.toInt64 (m.1 a1 6)) * (m.2.1 (t + 1) 3)) + ((Int32.toInt64 (m.1 a1 7)) * (m.2.1 (t + 1) 4))) + ((Int32.toInt64 (fH_slope a1 a2 m)) * (m.2.1 (t + 1) 5))) (0 : Int64))]) rfl ?_
    by_cases hc2 : ((((Int32.toInt64 (m.1 a1 6)) * (m.2.1 (t + 1) 3)) + ((Int32.toInt64 (m.1 a1 7)) * (m.2.1 (t + 1) 4))) + ((Int32.toInt64 (fH_slope a1 a2 m)) * (m.2.1 (t + 1) 5))) = (0 : Int64)
    · replace h := tk_ifT hc2 h
      refine tk_bT  rfl rfl tk_eL_ne (c := ((((Int32.toInt64 (m.1 a1 6)) * (m.2.1 (t + 1) 3)) + ((Int32.toInt64 (m.1 a1 7)) * (m.2.1 (t + 1) 4))) + ((Int32.toInt64 (fH_slope a1 a2 m)) * (m.2.1 (t + 1) 5))) = (0 : Int64)) hc2 (pc' := 107) (ls' := [(7, .long ((((Int32.toInt64 (m.1 a1 6)) * (m.2.1 (t + 1) 3)) + ((Int32.toInt64 (m.1 a1 7)) * (m.2.1 (t + 1) 4))) + ((Int32.toInt64 (fH_slope a1 a2 m)) * (m.2.1 (t + 1) 5)))), (5, .long (((((Int32.toInt64 (m.1 a1 6)) * (m.2.1 (t + 1) 0)) + ((Int32.toInt64 (m.1 a1 7)) * (m.2.1 (t + 1) 1))) + ((Int32.toInt64 (fH_slope a1 a2 m)) * (m.2.1 (t + 1) 2))) - ((Int32.toInt64 (m.1 a1 5)) * (m.2.1 (t + 1) 6)))), (3, .long (Int32.toInt64 (fH_slope a1 a2 m))), (0, .ref t), (1, .ref a1), (2, .int a2)]) (st' := []) ?_
      refine tk_Ps  2 (pc' := 112) (ls' := [(7, .long ((((Int32.toInt64 (m.1 a1 6)) * (m.2.1 (t + 1) 3)) + ((Int32.toInt64 (m.1 a1 7)) * (m.2.1 (t + 1) 4))) + ((Int32.toInt64 (fH_slope a1 a2 m)) * (m.2.1 (t + 1) 5)))), (5, .long (((((Int32.toInt64 (m.1 a1 6)) * (m.2.1 (t + 1) 0)) + ((Int32.toInt64 (m.1 a1 7)) * (m.2.1 (t + 1) 1))) + ((Int32.toInt64 (fH_slope a1 a2 m)) * (m.2.1 (t + 1) 2))) - ((Int32.toInt64 (m.1 a1 5)) * (m.2.1 (t + 1) 6)))), (3, .long (Int32.toInt64 (fH_slope a1 a2 m))), (0, .ref t), (1, .ref a1), (2, .int a2)]) (st' := [.int (1 : Int32)]) rfl ?_
      subst h
      exact tk_RB (b := true)  rfl rfl rfl
    · replace h := tk_ifF hc2 h
      refine tk_bF  rfl rfl tk_eL_ne (c := ((((Int32.toInt64 (m.1 a1 6)) * (m.2.1 (t + 1) 3)) + ((Int32.toInt64 (m.1 a1 7)) * (m.2.1 (t + 1) 4))) + ((Int32.toInt64 (fH_slope a1 a2 m)) * (m.2.1 (t + 1) 5))) = (0 : Int64)) hc2 (pc' := 111) (ls' := [(7, .long ((((Int32.toInt64 (m.1 a1 6)) * (m.2.1 (t + 1) 3)) + ((Int32.toInt64 (m.1 a1 7)) * (m.2.1 (t + 1) 4))) + ((Int32.toInt64 (fH_slope a1 a2 m)) * (m.2.1 (t + 1) 5)))), (5, .long (((((Int32.toInt64 (m.1 a1 6)) * (m.2.1 (t + 1) 0)) + ((Int32.toInt64 (m.1 a1 7)) * (m.2.1 (t + 1) 1))) + ((Int32.toInt64 (fH_slope a1 a2 m)) * (m.2.1 (t + 1) 2))) - ((Int32.toInt64 (m.1 a1 5)) * (m.2.1 (t + 1) 6)))), (3, .long (Int32.toInt64 (fH_slope a1 a2 m))), (0, .ref t), (1, .ref a1), (2, .int a2)]) (st' := []) ?_
      refine tk_Ps  1 (pc' := 112) (ls' := [(7, .long ((((Int32.toInt64 (m.1 a1 6)) * (m.2.1 (t + 1) 3)) + ((Int32.toInt64 (m.1 a1 7)) * (m.2.1 (t + 1) 4))) + ((Int32.toInt64 (fH_slope a1 a2 m)) * (m.2.1 (t + 1) 5)))), (5, .long (((((Int32.toInt64 (m.1 a1 6)) * (m.2.1 (t + 1) 0)) + ((Int32.toInt64 (m.1 a1 7)) * (m.2.1 (t + 1) 1))) + ((Int32.toInt64 (fH_slope a1 a2 m)) * (m.2.1 (t + 1) 2))) - ((Int32.toInt64 (m.1 a1 5)) * (m.2.1 (t + 1) 6)))), (3, .long (Int32.toInt64 (fH_slope a1 a2 m))), (0, .ref t), (1, .ref a1), (2, .int a2)]) (st' := [.int (0 : Int32)]) rfl ?_
      subst h
      exact tk_RB (b := false)  rfl rfl rfl
  · replace h := tk_ifF hc1 h
    refine tk_bF  rfl rfl tk_eL_ne (c := (((((Int32.toInt64 (m.1 a1 6)) * (m.2.1 (t + 1) 0)) + ((Int32.toInt64 (m.1 a1 7)) * (m.2.1 (t + 1) 1))) + ((Int32.toInt64 (fH_slope a1 a2 m)) * (m.2.1 (t + 1) 2))) - ((Int32.toInt64 (m.1 a1 5)) * (m.2.1 (t + 1) 6))) = (0 : Int64)) hc1 (pc' := 111) (ls' := [(7, .long ((((Int32.toInt64 (m.1 a1 6)) * (m.2.1 (t + 1) 3)) + ((Int32.toInt64 (m.1 a1 7)) * (m.2.1 (t + 1) 4))) + ((Int32.toInt64 (fH_slope a1 a2 m)) * (m.2.1 (t + 1) 5)))), (5, .long (((((Int32.toInt64 (m.1 a1 6)) * (m.2.1 (t + 1) 0)) + ((Int32.toInt64 (m.1 a1 7)) * (m.2.1 (t + 1) 1))) + ((Int32.toInt64 (fH_slope a1 a2 m)) * (m.2.1 (t + 1) 2))) - ((Int32.toInt64 (m.1 a1 5)) * (m.2.1 (t + 1) 6)))), (3, .long (Int32.toInt64 (fH_slope a1 a2 m))), (0, .ref t), (1, .ref a1), (2, .int a2)]) (st' := []) ?_
    refine tk_Ps  1 (pc' := 112) (ls' := [(7, .long ((((Int32.toInt64 (m.1 a1 6)) * (m.2.1 (t + 1) 3)) + ((Int32.toInt64 (m.1 a1 7)) * (m.2.1 (t + 1) 4))) + ((Int32.toInt64 (fH_slope a1 a2 m)) * (m.2.1 (t + 1) 5)))), (5, .long (((((Int32.toInt64 (m.1 a1 6)) * (m.2.1 (t + 1) 0)) + ((Int32.toInt64 (m.1 a1 7)) * (m.2.1 (t + 1) 1))) + ((Int32.toInt64 (fH_slope a1 a2 m)) * (m.2.1 (t + 1) 2))) - ((Int32.toInt64 (m.1 a1 5)) * (m.2.1 (t + 1) 6)))), (3, .long (Int32.toInt64 (fH_slope a1 a2 m))), (0, .ref t), (1, .ref a1), (2, .int a2)]) (st' := [.int (0 : Int32)]) rfl ?_
    subst h
    exact tk_RB (b := false)  rfl rfl rfl
theorem ok_fC_touchesRound (sc : tk_X) (t : Nat) (a1 : Nat) (a2 : Int64) (m : tk_m) (ht : tk_lay[t]? = some (.inl 1)) (ha1 : tk_lay[a1]? = some (.inl 6)) : tk_Ru sc 1 126 [.ref t, .ref a1, .long a2] (tk_full m) (some (.int (tk_b (fC_touchesRound t a1 a2 m))), tk_full m) := by
  obtain ⟨out, h⟩ : ∃ out, fC_touchesRound t a1 a2 m = out := ⟨_, rfl⟩
  rw [h]
  unfold fC_touchesRound at h
  refine tk_Ru0 me126 (ls := [(0, .ref t), (1, .ref a1), (2, .long a2)]) rfl rfl ?_
  refine tk_Ps  1 (pc' := 1) (ls' := [(0, .ref t), (1, .ref a1), (2, .long a2)]) (st' := [.ref t]) rfl ?_
  refine tk_HR  rfl rfl ht (ro1_1 ht) ?_
  refine tk_Ps  1 (pc' := 5) (ls' := [(0, .ref t), (1, .ref a1), (2, .long a2)]) (st' := [.int (0 : Int32), .ref (t + 1)]) rfl ?_
  refine tk_HJa  rfl rfl (lo1_1 ht) (by decide) ?_
  refine tk_Ps  1 (pc' := 7) (ls' := [(0, .ref t), (1, .ref a1), (2, .long a2)]) (st' := [.ref a1, .long (m.2.1 (t + 1) 0)]) rfl ?_
  refine tk_HI  rfl rfl ha1 ?_
  refine tk_Ps  2 (pc' := 12) (ls' := [(0, .ref t), (1, .ref a1), (2, .long a2)]) (st' := [.ref t, .long (Int32.toInt64 (m.1 a1 1)), .long (m.2.1 (t + 1) 0)]) rfl ?_
  refine tk_HR  rfl rfl ht (ro1_1 ht) ?_
  refine tk_Ps  1 (pc' := 17) (ls' := [(0, .ref t), (1, .ref a1), (2, .long a2)]) (st' := [.int (6 : Int32), .ref (t + 1), .long (Int32.toInt64 (m.1 a1 1)), .long (m.2.1 (t + 1) 0)]) rfl ?_
  refine tk_HJa  rfl rfl (lo1_1 ht) (by decide) ?_
  refine tk_Ps  4 (pc' := 23) (ls' := [(4, .long ((m.2.1 (t + 1) 0) - ((Int32.toInt64 (m.1 a1 1)) * (m.2.1 (t + 1) 6)))), (0, .ref t), (1, .ref a1), (2, .long a2)]) (st' := [.ref t]) rfl ?_
  refine tk_HR  rfl rfl ht (ro1_1 ht) ?_
  refine tk_Ps  1 (pc' := 27) (ls' := [(4, .long ((m.2.1 (t + 1) 0) - ((Int32.toInt64 (m.1 a1 1)) * (m.2.1 (t + 1) 6)))), (0, .ref t), (1, .ref a1), (2, .long a2)]) (st' := [.int (1 : Int32), .ref (t + 1)]) rfl ?_
  refine tk_HJa  rfl rfl (lo1_1 ht) (by decide) ?_
  refine tk_Ps  1 (pc' := 29) (ls' := [(4, .long ((m.2.1 (t + 1) 0) - ((Int32.toInt64 (m.1 a1 1)) * (m.2.1 (t + 1) 6)))), (0, .ref t), (1, .ref a1), (2, .long a2)]) (st' := [.ref a1, .long (m.2.1 (t + 1) 1)]) rfl ?_
  refine tk_HI  rfl rfl ha1 ?_
  refine tk_Ps  2 (pc' := 34) (ls' := [(4, .long ((m.2.1 (t + 1) 0) - ((Int32.toInt64 (m.1 a1 1)) * (m.2.1 (t + 1) 6)))), (0, .ref t), (1, .ref a1), (2, .long a2)]) (st' := [.ref t, .long (Int32.toInt64 (m.1 a1 2)), .long (m.2.1 (t + 1) 1)]) rfl ?_
  refine tk_HR  rfl rfl ht (ro1_1 ht) ?_
  refine tk_Ps  1 (pc' := 39) (ls' := [(4, .long ((m.2.1 (t + 1) 0) - ((Int32.toInt64 (m.1 a1 1)) * (m.2.1 (t + 1) 6)))), (0, .ref t), (1, .ref a1), (2, .long a2)]) (st' := [.int (6 : Int32), .ref (t + 1), .long (Int32.toInt64 (m.1 a1 2)), .long (m.2.1 (t + 1) 1)]) rfl ?_
  refine tk_HJa  rfl rfl (lo1_1 ht) (by decide) ?_
  refine tk_Ps  4 (pc' := 45) (ls' := [(6, .long ((m.2.1 (t + 1) 1) - ((Int32.toInt64 (m.1 a1 2)) * (m.2.1 (t + 1) 6)))), (4, .long ((m.2.1 (t + 1) 0) - ((Int32.toInt64 (m.1 a1 1)) * (m.2.1 (t + 1) 6)))), (0, .ref t), (1, .ref a1), (2, .long a2)]) (st' := [.ref t]) rfl ?_
  refine tk_HR  rfl rfl ht (ro1_1 ht) ?_
  refine tk_Ps  1 (pc' := 49) (ls' := [(6, .long ((m.2.1 (t + 1) 1) - ((Int32.toInt64 (m.1 a1 2)) * (m.2.1 (t + 1) 6)))), (4, .long ((m.2.1 (t + 1) 0) - ((Int32.toInt64 (m.1 a1 1)) * (m.2.1 (t + 1) 6)))), (0, .ref t), (1, .ref a1), (2, .long a2)]) (st' := [.int (2 : Int32), .ref (t + 1)]) rfl ?_
  refine tk_HJa  rfl rfl (lo1_1 ht) (by decide) ?_
  refine tk_Ps  2 (pc' := 52) (ls' := [(6, .long ((m.2.1 (t + 1) 1) - ((Int32.toInt64 (m.1 a1 2)) * (m.2.1 (t + 1) 6)))), (4, .long ((m.2.1 (t + 1) 0) - ((Int32.toInt64 (m.1 a1 1)) * (m.2.1 (t + 1) 6)))), (0, .ref t), (1, .ref a1), (2, .long a2)]) (st' := [.ref t, .long a2, .long (m.2.1 (t + 1) 2)]) rfl ?_
  refine tk_HR  rfl rfl ht (ro1_1 ht) ?_
  refine tk_Ps  1 (pc' := 57) (ls' := [(6, .long ((m.2.1 (t + 1) 1) - ((Int32.toInt64 (m.1 a1 2)) * (m.2.1 (t + 1) 6)))), (4, .long ((m.2.1 (t + 1) 0) - ((Int32.toInt64 (m.1 a1 1)) * (m.2.1 (t + 1) 6)))), (0, .ref t), (1, .ref a1), (2, .long a2)]) (st' := [.int (6 : Int32), .ref (t + 1), .long a2, .long (m.2.1 (t + 1) 2)]) rfl ?_
  refine tk_HJa  rfl rfl (lo1_1 ht) (by decide) ?_
  refine tk_Ps  4 (pc' := 63) (ls' := [(8, .long ((m.2.1 (t + 1) 2) + (a2 * (m.2.1 (t + 1) 6)))), (6, .long ((m.2.1 (t + 1) 1) - ((Int32.toInt64 (m.1 a1 2)) * (m.2.1 (t + 1) 6)))), (4, .long ((m.2.1 (t + 1) 0) - ((Int32.toInt64 (m.1 a1 1)) * (m.2.1 (t + 1) 6)))), (0, .ref t), (1, .ref a1), (2, .long a2)]) (st' := [.ref t]) rfl ?_
  refine tk_HR  rfl rfl ht (ro1_1 ht) ?_
  refine tk_Ps  1 (pc' := 67) (ls' := [(8, .long ((m.2.1 (t + 1) 2) + (a2 * (m.2.1 (t + 1) 6)))), (6, .long ((m.2.1 (t + 1) 1) - ((Int32.toInt64 (m.1 a1 2)) * (m.2.1 (t + 1) 6)))), (4, .long ((m.2.1 (t + 1) 0) - ((Int32.toInt64 (m.1 a1 1)) * (m.2.1 (t + 1) 6)))), (0, .ref t), (1, .ref a1), (2, .long a2)]) (st' := [.int (3 : Int32), .ref (t + 1)]) rfl ?_
  refine tk_HJa  rfl rfl (lo1_1 ht) (by decide) ?_
  refine tk_Ps  1 (pc' := 69) (ls' := [(8, .long ((m.2.1 (t + 1) 2) + (a2 * (m.2.1 (t + 1) 6)))), (6, .long ((m.2.1 (t + 1) 1) - ((Int32.toInt64 (m.1 a1 2)) * (m.2.1 (t + 1) 6)))), (4, .long ((m.2.1 (t + 1) 0) - ((Int32.toInt64 (m.1 a1 1)) * (m.2.1 (t + 1) 6)))), (0, .ref t), (1, .ref a1), (2, .long a2)]) (st' := [.ref t, .long (m.2.1 (t + 1) 3)]) rfl ?_
  refine tk_HR  rfl rfl ht (ro1_1 ht) ?_
  refine tk_Ps  1 (pc' := 73) (ls' := [(8, .long ((m.2.1 (t + 1) 2) + (a2 * (m.2.1 (t + 1) 6)))), (6, .long ((m.2.1 (t + 1) 1) - ((Int32.toInt64 (m.1 a1 2)) * (m.2.1 (t + 1) 6)))), (4, .long ((m.2.1 (t + 1) 0) - ((Int32.toInt64 (m.1 a1 1)) * (m.2.1 (t + 1) 6)))), (0, .ref t), (1, .ref a1), (2, .long a2)]) (st' := [.int (3 : Int32), .ref (t + 1), .long (m.2.1 (t + 1) 3)]) rfl ?_
  refine tk_HJa  rfl rfl (lo1_1 ht) (by decide) ?_
  refine tk_Ps  2 (pc' := 76) (ls' := [(8, .long ((m.2.1 (t + 1) 2) + (a2 * (m.2.1 (t + 1) 6)))), (6, .long ((m.2.1 (t + 1) 1) - ((Int32.toInt64 (m.1 a1 2)) * (m.2.1 (t + 1) 6)))), (4, .long ((m.2.1 (t + 1) 0) - ((Int32.toInt64 (m.1 a1 1)) * (m.2.1 (t + 1) 6)))), (0, .ref t), (1, .ref a1), (2, .long a2)]) (st' := [.ref t, .long ((m.2.1 (t + 1) 3) * (m.2.1 (t + 1) 3))]) rfl ?_
  refine tk_HR  rfl rfl ht (ro1_1 ht) ?_
  refine tk_Ps  1 (pc' := 80) (ls' := [(8, .long ((m.2.1 (t + 1) 2) + (a2 * (m.2.1 (t + 1) 6)))), (6, .long ((m.2.1 (t + 1) 1) - ((Int32.toInt64 (m.1 a1 2)) * (m.2.1 (t + 1) 6)))), (4, .long ((m.2.1 (t + 1) 0) - ((Int32.toInt64 (m.1 a1 1)) * (m.2.1 (t + 1) 6)))), (0, .ref t), (1, .ref a1), (2, .long a2)]) (st' := [.int (4 : Int32), .ref (t + 1), .long ((m.2.1 (t + 1) 3) * (m.2.1 (t + 1) 3))]) rfl ?_
  refine tk_HJa  rfl rfl (lo1_1 ht) (by decide) ?_
  refine tk_Ps  1 (pc' := 82) (ls' := [(8, .long ((m.2.1 (t + 1) 2) + (a2 * (m.2.1 (t + 1) 6)))), (6, .long ((m.2.1 (t + 1) 1) - ((Int32.toInt64 (m.1 a1 2)) * (m.2.1 (t + 1) 6)))), (4, .long ((m.2.1 (t + 1) 0) - ((Int32.toInt64 (m.1 a1 1)) * (m.2.1 (t + 1) 6)))), (0, .ref t), (1, .ref a1), (2, .long a2)]) (st' := [.ref t, .long (m.2.1 (t + 1) 4), .long ((m.2.1 (t + 1) 3) * (m.2.1 (t + 1) 3))]) rfl ?_
  refine tk_HR  rfl rfl ht (ro1_1 ht) ?_
  refine tk_Ps  1 (pc' := 86) (ls' := [(8, .long ((m.2.1 (t + 1) 2) + (a2 * (m.2.1 (t + 1) 6)))), (6, .long ((m.2.1 (t + 1) 1) - ((Int32.toInt64 (m.1 a1 2)) * (m.2.1 (t + 1) 6)))), (4, .long ((m.2.1 (t + 1) 0) - ((Int32.toInt64 (m.1 a1 1)) * (m.2.1 (t + 1) 6)))), (0, .ref t), (1, .ref a1), (2, .long a2)]) (st' := [.int (4 : Int32), .ref (t + 1), .long (m.2.1 (t + 1) 4), .long ((m.2.1 (t + 1) 3) * (m.2.1 (t + 1) 3))]) rfl ?_
  refine tk_HJa  rfl rfl (lo1_1 ht) (by decide) ?_
  refine tk_Ps  3 (pc' := 90) (ls' := [(8, .long ((m.2.1 (t + 1) 2) + (a2 * (m.2.1 (t + 1) 6)))), (6, .long ((m.2.1 (t + 1) 1) - ((Int32.toInt64 (m.1 a1 2)) * (m.2.1 (t + 1) 6)))), (4, .long ((m.2.1 (t + 1) 0) - ((Int32.toInt64 (m.1 a1 1)) * (m.2.1 (t + 1) 6)))), (0, .ref t), (1, .ref a1), (2, .long a2)]) (st' := [.ref t, .long (((m.2.1 (t + 1) 3) * (m.2.1 (t + 1) 3)) + ((m.2.1 (t + 1) 4) * (m.2.1 (t + 1) 4)))]) rfl ?_
  refine tk_HR  rfl rfl ht (ro1_1 ht) ?_
  refine tk_Ps  1 (pc' := 94) (ls' := [(8, .long ((m.2.1 (t + 1) 2) + (a2 * (m.2.1 (t + 1) 6)))), (6, .long ((m.2.1 (t + 1) 1) - ((Int32.toInt64 (m.1 a1 2)) * (m.2.1 (t + 1) 6)))), (4, .long ((m.2.1 (t + 1) 0) - ((Int32.toInt64 (m.1 a1 1)) * (m.2.1 (t + 1) 6)))), (0, .ref t), (1, .ref a1), (2, .long a2)]) (st' := [.int (5 : Int32), .ref (t + 1), .long (((m.2.1 (t + 1) 3) * (m.2.1 (t + 1) 3)) + ((m.2.1 (t + 1) 4) * (m.2.1 (t + 1) 4)))]) rfl ?_
  refine tk_HJa  rfl rfl (lo1_1 ht) (by decide) ?_
  refine tk_Ps  1 (pc' := 96) (ls' := [(8, .long ((m.2.1 (t + 1) 2) + (a2 * (m.2.1 (t + 1) 6)))), (6, .long ((m.2.1 (t + 1) 1) - ((Int32.toInt64 (m.1 a1 2)) * (m.2.1 (t + 1) 6)))), (4, .long ((m.2.1 (t + 1) 0) - ((Int32.toInt64 (m.1 a1 1)) * (m.2.1 (t + 1) 6)))), (0, .ref t), (1, .ref a1), (2, .long a2)]) (st' := [.ref t, .long (m.2.1 (t + 1) 5), .long (((m.2.1 (t + 1) 3) * (m.2.1 (t + 1) 3)) + ((m.2.1 (t + 1) 4) * (m.2.1 (t + 1) 4)))]) rfl ?_
  refine tk_HR  rfl rfl ht (ro1_1 ht) ?_
  refine tk_Ps  1 (pc' := 100) (ls' := [(8, .long ((m.2.1 (t + 1) 2) + (a2 * (m.2.1 (t + 1) 6)))), (6, .long ((m.2.1 (t + 1) 1) - ((Int32.toInt64 (m.1 a1 2)) * (m.2.1 (t + 1) 6)))), (4, .long ((m.2.1 (t + 1) 0) - ((Int32.toInt64 (m.1 a1 1)) * (m.2.1 (t + 1) 6)))), (0, .ref t), (1, .ref a1), (2, .long a2)]) (st' := [.int (5 : Int32), .ref (t + 1), .long (m.2.1 (t + 1) 5), .long (((m.2.1 (t + 1) 3) * (m.2.1 (t + 1) 3)) + ((m.2.1 (t + 1) 4) * (m.2.1 (t + 1) 4)))]) rfl ?_
  refine tk_HJa  rfl rfl (lo1_1 ht) (by decide) ?_
  refine tk_Ps  15 (pc' := 123) (ls' := [(10, .long ((((m.2.1 (t + 1) 3) * (m.2.1 (t + 1) 3)) + ((m.2.1 (t + 1) 4) * (m.2.1 (t + 1) 4))) - ((m.2.1 (t + 1) 5) * (m.2.1 (t + 1) 5)))), (8, .long ((m.2.1 (t + 1) 2) + (a2 * (m.2.1 (t + 1) 6)))), (6, .long ((m.2.1 (t + 1) 1) - ((Int32.toInt64 (m.1 a1 2)) * (m.2.1 (t + 1) 6)))), (4, .long ((m.2.1 (t + 1) 0) - ((Int32.toInt64 (m.1 a1 1)) * (m.2.1 (t + 1) 6)))), (0, .ref t), (1, .ref a1), (2, .long a2)]) (st' := [.ref t, .long (((((m.2.1 (t + 1) 0) - ((Int32.toInt64 (m.1 a1 1)) * (m.2.1 (t + 1) 6))) * ((m.2.1 (t + 1) 0) - ((Int32.toInt64 (m.1 a1 1)) * (m.2.1 (t + 1) 6)))) + (((m.2.1 (t + 1) 1) - ((Int32.toInt64 (m.1 a1 2)) * (m.2.1 (t + 1) 6))) * ((m.2.1 (t + 1) 1) - ((Int32.toInt64 (m.1 a1 2)) * (m.2.1 (t + 1) 6))))) - (((m.2.1 (t + 1) 2) + (a2 * (m.2.1 (t + 1) 6))) * ((m.2.1 (t + 1) 2) + (a2 * (m.2.1 (t + 1) 6)))))]) rfl ?_
  refine tk_HJ  rfl rfl ht ?_
  refine tk_Ps  6 (pc' := 135) (ls' := [(12, .long ((((((m.2.1 (t + 1) 0) - ((Int32.toInt64 (m.1 a1 1)) * (m.2.1 (t + 1) 6))) * ((m.2.1 (t + 1) 0) - ((Int32.toInt64 (m.1 a1 1)) * (m.2.1 (t + 1) 6)))) + (((m.2.1 (t + 1) 1) - ((Int32.toInt64 (m.1 a1 2)) * (m.2.1 (t + 1) 6))) * ((m.2.1 (t + 1) 1) - ((Int32.toInt64 (m.1 a1 2)) * (m.2.1 (t + 1) 6))))) - (((m.2.1 (t + 1) 2) + (a2 * (m.2.1 (t + 1) 6))) * ((m.2.1 (t + 1) 2) + (a2 * (m.2.1 (t + 1) 6))))) + ((m.2.1 t 2) * ((((m.2.1 (t + 1) 3) * (m.2.1 (t + 1) 3)) + ((m.2.1 (t + 1) 4) * (m.2.1 (t + 1) 4))) - ((m.2.1 (t + 1) 5) * (m.2.1 (t + 1) 5)))))), (10, .long ((((m.2.1 (t + 1) 3) * (m.2.1 (t + 1) 3)) + ((m.2.1 (t + 1) 4) * (m.2.1 (t + 1) 4))) - ((m.2.1 (t + 1) 5) * (m.2.1 (t + 1) 5)))), (8, .long ((m.2.1 (t + 1) 2) + (a2 * (m.2.1 (t + 1) 6)))), (6, .long ((m.2.1 (t + 1) 1) - ((Int32.toInt64 (m.1 a1 2)) * (m.2.1 (t + 1) 6)))), (4, .long ((m.2.1 (t + 1) 0) - ((Int32.toInt64 (m.1 a1 1)) * (m.2.1 (t + 1) 6)))), (0, .ref t), (1, .ref a1), (2, .long a2)]) (st' := [.ref t, .long ((m.2.1 (t + 1) 0) - ((Int32.toInt64 (m.1 a1 1)) * (m.2.1 (t + 1) 6)))]) rfl ?_
  refine tk_HR  rfl rfl ht (ro1_1 ht) ?_
  refine tk_Ps  1 (pc' := 139) (ls' := [(12, .long ((((((m.2.1 (t + 1) 0) - ((Int32.toInt64 (m.1 a1 1)) * (m.2.1 (t + 1) 6))) * ((m.2.1 (t + 1) 0) - ((Int32.toInt64 (m.1 a1 1)) * (m.2.1 (t + 1) 6)))) + (((m.2.1 (t + 1) 1) - ((Int32.toInt64 (m.1 a1 2)) * (m.2.1 (t + 1) 6))) * ((m.2.1 (t + 1) 1) - ((Int32.toInt64 (m.1 a1 2)) * (m.2.1 (t + 1) 6))))) - (((m.2.1 (t + 1) 2) + (a2 * (m.2.1 (t + 1) 6))) * ((m.2.1 (t + 1) 2) + (a2 * (m.2.1 (t + 1) 6))))) + ((m.2.1 t 2) * ((((m.2.1 (t + 1) 3) * (m.2.1 (t + 1) 3)) + ((m.2.1 (t + 1) 4) * (m.2.1 (t + 1) 4))) - ((m.2.1 (t + 1) 5) * (m.2.1 (t + 1) 5)))))), (10, .long ((((m.2.1 (t + 1) 3) * (m.2.1 (t + 1) 3)) + ((m.2.1 (t + 1) 4) * (m.2.1 (t + 1) 4))) - ((m.2.1 (t + 1) 5) * (m.2.1 (t + 1) 5)))), (8, .long ((m.2.1 (t + 1) 2) + (a2 * (m.2.1 (t + 1) 6)))), (6, .long ((m.2.1 (t + 1) 1) - ((Int32.toInt64 (m.1 a1 2)) * (m.2.1 (t + 1) 6)))), (4, .long ((m.2.1 (t + 1) 0) - ((Int32.toInt64 (m.1 a1 1)) * (m.2.1 (t + 1) 6)))), (0, .ref t), (1, .ref a1), (2, .long a2)]) (st' := [.int (3 : Int32), .ref (t + 1), .long ((m.2.1 (t + 1) 0) - ((Int32.toInt64 (m.1 a1 1)) * (m.2.1 (t + 1) 6)))]) rfl ?_
  refine tk_HJa  rfl rfl (lo1_1 ht) (by decide) ?_
  refine tk_Ps  3 (pc' := 144) (ls' := [(12, .long ((((((m.2.1 (t + 1) 0) - ((Int32.toInt64 (m.1 a1 1)) * (m.2.1 (t + 1) 6))) * ((m.2.1 (t + 1) 0) - ((Int32.toInt64 (m.1 a1 1)) * (m.2.1 (t + 1) 6)))) + (((m.2.1 (t + 1) 1) - ((Int32.toInt64 (m.1 a1 2)) * (m.2.1 (t + 1) 6))) * ((m.2.1 (t + 1) 1) - ((Int32.toInt64 (m.1 a1 2)) * (m.2.1 (t + 1) 6))))) - (((m.2.1 (t + 1) 2) + (a2 * (m.2.1 (t + 1) 6))) * ((m.2.1 (t + 1) 2) + (a2 * (m.2.1 (t + 1) 6))))) + ((m.2.1 t 2) * ((((m.2.1 (t + 1) 3) * (m.2.1 (t + 1) 3)) + ((m.2.1 (t + 1) 4) * (m.2.1 (t + 1) 4))) - ((m.2.1 (t + 1) 5) * (m.2.1 (t + 1) 5)))))), (10, .long ((((m.2.1 (t + 1) 3) * (m.2.1 (t + 1) 3)) + ((m.2.1 (t + 1) 4) * (m.2.1 (t + 1) 4))) - ((m.2.1 (t + 1) 5) * (m.2.1 (t + 1) 5)))), (8, .long ((m.2.1 (t + 1) 2) + (a2 * (m.2.1 (t + 1) 6)))), (6, .long ((m.2.1 (t + 1) 1) - ((Int32.toInt64 (m.1 a1 2)) * (m.2.1 (t + 1) 6)))), (4, .long ((m.2.1 (t + 1) 0) - ((Int32.toInt64 (m.1 a1 1)) * (m.2.1 (t + 1) 6)))), (0, .ref t), (1, .ref a1), (2, .long a2)]) (st' := [.ref t, .long ((m.2.1 (t + 1) 1) - ((Int32.toInt64 (m.1 a1 2)) * (m.2.1 (t + 1) 6))), .long (((m.2.1 (t + 1) 0) - ((Int32.toInt64 (m.1 a1 1)) * (m.2.1 (t + 1) 6))) * (m.2.1 (t + 1) 3))]) rfl ?_
  refine tk_HR  rfl rfl ht (ro1_1 ht) ?_
  refine tk_Ps  1 (pc' := 148) (ls' := [(12, .long ((((((m.2.1 (t + 1) 0) - ((Int32.toInt64 (m.1 a1 1)) * (m.2.1 (t + 1) 6))) * ((m.2.1 (t + 1) 0) - ((Int32.toInt64 (m.1 a1 1)) * (m.2.1 (t + 1) 6)))) + (((m.2.1 (t + 1) 1) - ((Int32.toInt64 (m.1 a1 2)) * (m.2.1 (t + 1) 6))) * ((m.2.1 (t + 1) 1) - ((Int32.toInt64 (m.1 a1 2)) * (m.2.1 (t + 1) 6))))) - (((m.2.1 (t + 1) 2) + (a2 * (m.2.1 (t + 1) 6))) * ((m.2.1 (t + 1) 2) + (a2 * (m.2.1 (t + 1) 6))))) + ((m.2.1 t 2) * ((((m.2.1 (t + 1) 3) * (m.2.1 (t + 1) 3)) + ((m.2.1 (t + 1) 4) * (m.2.1 (t + 1) 4))) - ((m.2.1 (t + 1) 5) * (m.2.1 (t + 1) 5)))))), (10, .long ((((m.2.1 (t + 1) 3) * (m.2.1 (t + 1) 3)) + ((m.2.1 (t + 1) 4) * (m.2.1 (t + 1) 4))) - ((m.2.1 (t + 1) 5) * (m.2.1 (t + 1) 5)))), (8, .long ((m.2.1 (t + 1) 2) + (a2 * (m.2.1 (t + 1) 6)))), (6, .long ((m.2.1 (t + 1) 1) - ((Int32.toInt64 (m.1 a1 2)) * (m.2.1 (t + 1) 6)))), (4, .long ((m.2.1 (t + 1) 0) - ((Int32.toInt64 (m.1 a1 1)) * (m.2.1 (t + 1) 6)))), (0, .ref t), (1, .ref a1), (2, .long a2)]) (st' := [.int (4 : Int32), .ref (t + 1), .long ((m.2.1 (t + 1) 1) - ((Int32.toInt64 (m.1 a1 2)) * (m.2.1 (t + 1) 6))), .long (((m.2.1 (t + 1) 0) - ((Int32.toInt64 (m.1 a1 1)) * (m.2.1 (t + 1) 6))) * (m.2.1 (t + 1) 3))]) rfl ?_
  refine tk_HJa  rfl rfl (lo1_1 ht) (by decide) ?_
  refine tk_Ps  4 (pc' := 154) (ls' := [(12, .long ((((((m.2.1 (t + 1) 0) - ((Int32.toInt64 (m.1 a1 1)) * (m.2.1 (t + 1) 6))) * ((m.2.1 (t + 1) 0) - ((Int32.toInt64 (m.1 a1 1)) * (m.2.1 (t + 1) 6)))) + (((m.2.1 (t + 1) 1) - ((Int32.toInt64 (m.1 a1 2)) * (m.2.1 (t + 1) 6))) * ((m.2.1 (t + 1) 1) - ((Int32.toInt64 (m.1 a1 2)) * (m.2.1 (t + 1) 6))))) - (((m.2.1 (t + 1) 2) + (a2 * (m.2.1 (t + 1) 6))) * ((m.2.1 (t + 1) 2) + (a2 * (m.2.1 (t + 1) 6))))) + ((m.2.1 t 2) * ((((m.2.1 (t + 1) 3) * (m.2.1 (t + 1) 3)) + ((m.2.1 (t + 1) 4) * (m.2.1 (t + 1) 4))) - ((m.2.1 (t + 1) 5) * (m.2.1 (t + 1) 5)))))), (10, .long ((((m.2.1 (t + 1) 3) * (m.2.1 (t + 1) 3)) + ((m.2.1 (t + 1) 4) * (m.2.1 (t + 1) 4))) - ((m.2.1 (t + 1) 5) * (m.2.1 (t + 1) 5)))), (8, .long ((m.2.1 (t + 1) 2) + (a2 * (m.2.1 (t + 1) 6)))), (6, .long ((m.2.1 (t + 1) 1) - ((Int32.toInt64 (m.1 a1 2)) * (m.2.1 (t + 1) 6)))), (4, .long ((m.2.1 (t + 1) 0) - ((Int32.toInt64 (m.1 a1 1)) * (m.2.1 (t + 1) 6)))), (0, .ref t), (1, .ref a1), (2, .long a2)]) (st' := [.ref t, .long ((m.2.1 (t + 1) 2) + (a2 * (m.2.1 (t + 1) 6))), .long ((((m.2.1 (t + 1) 0) - ((Int32.toInt64 (m.1 a1 1)) * (m.2.1 (t + 1) 6))) * (m.2.1 (t + 1) 3)) + (((m.2.1 (t + 1) 1) - ((Int32.toInt64 (m.1 a1 2)) * (m.2.1 (t + 1) 6))) * (m.2.1 (t + 1) 4)))]) rfl ?_
  refine tk_HR  rfl rfl ht (ro1_1 ht) ?_
  refine tk_Ps  1 (pc' := 158) (ls' := [(12, .long ((((((m.2.1 (t + 1) 0) - ((Int32.toInt64 (m.1 a1 1)) * (m.2.1 (t + 1) 6))) * ((m.2.1 (t + 1) 0) - ((Int32.toInt64 (m.1 a1 1)) * (m.2.1 (t + 1) 6)))) + (((m.2.1 (t + 1) 1) - ((Int32.toInt64 (m.1 a1 2)) * (m.2.1 (t + 1) 6))) * ((m.2.1 (t + 1) 1) - ((Int32.toInt64 (m.1 a1 2)) * (m.2.1 (t + 1) 6))))) - (((m.2.1 (t + 1) 2) + (a2 * (m.2.1 (t + 1) 6))) * ((m.2.1 (t + 1) 2) + (a2 * (m.2.1 (t + 1) 6))))) + ((m.2.1 t 2) * ((((m.2.1 (t + 1) 3) * (m.2.1 (t + 1) 3)) + ((m.2.1 (t + 1) 4) * (m.2.1 (t + 1) 4))) - ((m.2.1 (t + 1) 5) * (m.2.1 (t + 1) 5)))))), (10, .long ((((m.2.1 (t + 1) 3) * (m.2.1 (t + 1) 3)) + ((m.2.1 (t + 1) 4) * (m.2.1 (t + 1) 4))) - ((m.2.1 (t + 1) 5) * (m.2.1 (t + 1) 5)))), (8, .long ((m.2.1 (t + 1) 2) + (a2 * (m.2.1 (t + 1) 6)))), (6, .long ((m.2.1 (t + 1) 1) - ((Int32.toInt64 (m.1 a1 2)) * (m.2.1 (t + 1) 6)))), (4, .long ((m.2.1 (t + 1) 0) - ((Int32.toInt64 (m.1 a1 1)) * (m.2.1 (t + 1) 6)))), (0, .ref t), (1, .ref a1), (2, .long a2)]) (st' := [.int (5 : Int32), .ref (t + 1), .long ((m.2.1 (t + 1) 2) + (a2 * (m.2.1 (t + 1) 6))), .long ((((m.2.1 (t + 1) 0) - ((Int32.toInt64 (m.1 a1 1)) * (m.2.1 (t + 1) 6))) * (m.2.1 (t + 1) 3)) + (((m.2.1 (t + 1) 1) - ((Int32.toInt64 (m.1 a1 2)) * (m.2.1 (t + 1) 6))) * (m.2.1 (t + 1) 4)))]) rfl ?_
  refine tk_HJa  rfl rfl (lo1_1 ht) (by decide) ?_
  refine tk_Ps  6 (pc' := 167) (ls' := [(14, .long (((((m.2.1 (t + 1) 0) - ((Int32.toInt64 (m.1 a1 1)) * (m.2.1 (t + 1) 6))) * (m.2.1 (t + 1) 3)) + (((m.2.1 (t + 1) 1) - ((Int32.toInt64 (m.1 a1 2)) * (m.2.1 (t + 1) 6))) * (m.2.1 (t + 1) 4))) - (((m.2.1 (t + 1) 2) + (a2 * (m.2.1 (t + 1) 6))) * (m.2.1 (t + 1) 5)))), (12, .long ((((((m.2.1 (t + 1) 0) - ((Int32.toInt64 (m.1 a1 1)) * (m.2.1 (t + 1) 6))) * ((m.2.1 (t + 1) 0) - ((Int32.toInt64 (m.1 a1 1)) * (m.2.1 (t + 1) 6)))) + (((m.2.1 (t + 1) 1) - ((Int32.toInt64 (m.1 a1 2)) * (m.2.1 (t + 1) 6))) * ((m.2.1 (t + 1) 1) - ((Int32.toInt64 (m.1 a1 2)) * (m.2.1 (t + 1) 6))))) - (((m.2.1 (t + 1) 2) + (a2 * (m.2.1 (t + 1) 6))) * ((m.2.1 (t + 1) 2) + (a2 * (m.2.1 (t + 1) 6))))) + ((m.2.1 t 2) * ((((m.2.1 (t + 1) 3) * (m.2.1 (t + 1) 3)) + ((m.2.1 (t + 1) 4) * (m.2.1 (t + 1) 4))) - ((m.2.1 (t + 1) 5) * (m.2.1 (t + 1) 5)))))), (10, .long ((((m.2.1 (t + 1) 3) * (m.2.1 (t + 1) 3)) + ((m.2.1 (t + 1) 4) * (m.2.1 (t + 1) 4))) - ((m.2.1 (t + 1) 5) * (m.2.1 (t + 1) 5)))), (8, .long ((m.2.1 (t + 1) 2) + (a2 * (m.2.1 (t + 1) 6)))), (6, .long ((m.2.1 (t + 1) 1) - ((Int32.toInt64 (m.1 a1 2)) * (m.2.1 (t + 1) 6)))), (4, .long ((m.2.1 (t + 1) 0) - ((Int32.toInt64 (m.1 a1 1)) * (m.2.1 (t + 1) 6)))), (0, .ref t), (1, .ref a1), (2, .long a2)]) (st' := [.int (lg_cmp ((((((m.2.1 (t + 1) 0) - ((Int32.toInt64 (m.1 a1 1)) * (m.2.1 (t + 1) 6))) * ((m.2.1 (t + 1) 0) - ((Int32.toInt64 (m.1 a1 1)) * (m.2.1 (t + 1) 6)))) + (((m.2.1 (t + 1) 1) - ((Int32.toInt64 (m.1 a1 2)) * (m.2.1 (t + 1) 6))) * ((m.2.1 (t + 1) 1) - ((Int32.toInt64 (m.1 a1 2)) * (m.2.1 (t + 1) 6))))) - (((m.2.1 (t + 1) 2) + (a2 * (m.2.1 (t + 1) 6))) * ((m.2.1 (t + 1) 2) + (a2 * (m.2.1 (t + 1) 6))))) + ((m.2.1 t 2) * ((((m.2.1 (t + 1) 3) * (m.2.1 (t + 1) 3)) + ((m.2.1 (t + 1) 4) * (m.2.1 (t + 1) 4))) - ((m.2.1 (t + 1) 5) * (m.2.1 (t + 1) 5))))) (0 : Int64))]) rfl ?_
  by_cases hc1 : ((((((m.2.1 (t + 1) 0) - ((Int32.toInt64 (m.1 a1 1)) * (m.2.1 (t + 1) 6))) * ((m.2.1 (t + 1) 0) - ((Int32.toInt64 (m.1 a1 1)) * (m.2.1 (t + 1) 6)))) + (((m.2.1 (t + 1) 1) - ((Int32.toInt64 (m.1 a1 2)) * (m.2.1 (t + 1) 6))) * ((m.2.1 (t + 1) 1) - ((Int32.toInt64 (m.1 a1 2)) * (m.2.1 (t + 1) 6))))) - (((m.2.1 (t + 1) 2) + (a2 * (m.2.1 (t + 1) 6))) * ((m.2.1 (t + 1) 2) + (a2 * (m.2.1 (t + 1) 6))))) + ((m.2.1 t 2) * ((((m.2.1 (t + 1) 3) * (m.2.1 (t + 1) 3)) + ((m.2.1 (t + 1) 4) * (m.2.1 (t + 1) 4))) - ((m.2.1 (t + 1) 5) * (m.2.1 (t + 1) 5))))) = (0 : Int64)
  · replace h := tk_ifT hc1 h
    refine tk_bT  rfl rfl tk_eL_ne (c := ((((((m.2.1 (t + 1) 0) - ((Int32.toInt64 (m.1 a1 1)) * (m.2.1 (t + 1) 6))) * ((m.2.1 (t + 1) 0) - ((Int32.toInt64 (m.1 a1 1)) * (m.2.1 (t + 1) 6)))) + (((m.2.1 (t + 1) 1) - ((Int32.toInt64 (m.1 a1 2)) * (m.2.1 (t + 1) 6))) * ((m.2.1 (t + 1) 1) - ((Int32.toInt64 (m.1 a1 2)) * (m.2.1 (t + 1) 6))))) - (((m.2.1 (t + 1) 2) + (a2 * (m.2.1 (t + 1) 6))) * ((m.2.1 (t + 1) 2) + (a2 * (m.2.1 (t + 1) 6))))) + ((m.2.1 t 2) * ((((m.2.1 (t + 1) 3) * (m.2.1 (t + 1) 3)) + ((m.2.1 (t + 1) 4) * (m.2.1 (t + 1) 4))) - ((m.2.1 (t + 1) 5) * (m.2.1 (t + 1) 5))))) = (0 : Int64)) hc1 (pc' := 170) (ls' := [(14, .long (((((m.2.1 (t + 1) 0) - ((Int32.toInt64 (m.1 a1 1)) * (m.2.1 (t + 1) 6))) * (m.2.1 (t + 1) 3)) + (((m.2.1 (t + 1) 1) - ((Int32.toInt64 (m.1 a1 2)) * (m.2.1 (t + 1) 6))) * (m.2.1 (t + 1) 4))) - (((m.2.1 (t + 1) 2) + (a2 * (m.2.1 (t + 1) 6))) * (m.2.1 (t + 1) 5)))), (12, .long ((((((m.2.1 (t + 1) 0) - ((Int32.toInt64 (m.1 a1 1)) * (m.2.1 (t + 1) 6))) * ((m.2.1 (t + 1) 0) - ((Int32.toInt64 (m.1 a1 1)) * (m.2.1 (t + 1) 6)))) + (((m.2.1 (t + 1) 1) - ((Int32.toInt64 (m.1 a1 2)) * (m.2.1 (t + 1) 6))) * ((m.2.1 (t + 1) 1) - ((Int32.toInt64 (m.1 a1 2)) * (m.2.1 (t + 1) 6))))) - (((m.2.1 (t + 1) 2) + (a2 * (m.2.1 (t + 1) 6))) * ((m.2.1 (t + 1) 2) + (a2 * (m.2.1 (t + 1) 6))))) + ((m.2.1 t 2) * ((((m.2.1 (t + 1) 3) * (m.2.1 (t + 1) 3)) + ((m.2.1 (t + 1) 4) * (m.2.1 (t + 1) 4))) - ((m.2.1 (t + 1) 5) * (m.2.1 (t + 1) 5)))))), (10, .long ((((m.2.1 (t + 1) 3) * (m.2.1 (t + 1) 3)) + ((m.2.1 (t + 1) 4) * (m.2.1 (t + 1) 4))) - ((m.2.1 (t + 1) 5) * (m.2.1 (t + 1) 5)))), (8, .long ((m.2.1 (t + 1) 2) + (a2 * (m.2.1 (t + 1) 6)))), (6, .long ((m.2.1 (t + 1) 1) - ((Int32.toInt64 (m.1 a1 2)) * (m.2.1 (t + 1) 6)))), (4, .long ((m.2.1 (t + 1) 0) - ((Int32.toInt64 (m.1 a1 1)) * (m.2.1 (t + 1) 6)))), (0, .ref t), (1, .ref a1), (2, .long a2)]) (st' := []) ?_
    refine tk_Ps  3 (pc' := 174) (ls' := [(14, .long (((((m.2.1 (t + 1) 0) - ((Int32.toInt64 (m.1 a1 1)) * (m.2.1 (t + 1) 6))) * (m.2.1 (t + 1) 3)) + (((m.2.1 (t + 1) 1) - ((Int32.toInt64 (m.1 a1 2)) * (m.2.1 (t + 1) 6))) * (m.2.1 (t + 1) 4))) - (((m.2.1 (t + 1) 2) + (a2 * (m.2.1 (t + 1) 6))) * (m.2.1 (t + 1) 5)))), (12, .long ((((((m.2.1 (t + 1) 0) - ((Int32.toInt64 (m.1 a1 1)) * (m.2.1 (t + 1) 6))) * ((m.2.1 (t + 1) 0) - ((Int32.toInt64 (m.1 a1 1)) * (m.2.1 (t + 1) 6)))) + (((m.2.1 (t + 1) 1) - ((Int32.toInt64 (m.1 a1 2)) * (m.2.1 (t + 1) 6))) * ((m.2.1 (t + 1) 1) - ((Int32.toInt64 (m.1 a1 2)) * (m.2.1 (t + 1) 6))))) - (((m.2.1 (t + 1) 2) + (a2 * (m.2.1 (t + 1) 6))) * ((m.2.1 (t + 1) 2) + (a2 * (m.2.1 (t + 1) 6))))) + ((m.2.1 t 2) * ((((m.2.1 (t + 1) 3) * (m.2.1 (t + 1) 3)) + ((m.2.1 (t + 1) 4) * (m.2.1 (t + 1) 4))) - ((m.2.1 (t + 1) 5) * (m.2.1 (t + 1) 5)))))), (10, .long ((((m.2.1 (t + 1) 3) * (m.2.1 (t + 1) 3)) + ((m.2.1 (t + 1) 4) * (m.2.1 (t + 1) 4))) - ((m.2.1 (t + 1) 5) * (m.2.1 (t + 1) 5)))), (8, .long ((m.2.1 (t + 1) 2) + (a2 * (m.2.1 (t + 1) 6)))), (6, .long ((m.2.1 (t + 1) 1) - ((Int32.toInt64 (m.1 a1 2)) * (m.2.1 (t + 1) 6)))), (4, .long ((m.2.1 (t + 1) 0) - ((Int32.toInt64 (m.1 a1 1)) * (m.2.1 (t + 1) 6)))), (0, .ref t), (1, .ref a1), (2, .long a2)]) (st' := [.int (lg_cmp (((((m.2.1 (t + 1) 0) - ((Int32.toInt64 (m.1 a1 1)) * (m.2.1 (t + 1) 6))) * (m.2.1 (t + 1) 3)) + (((m.2.1 (t + 1) 1) - ((Int32.toInt64 (m.1 a1 2)) * (m.2.1 (t + 1) 6))) * (m.2.1 (t + 1) 4))) - (((m.2.1 (t + 1) 2) + (a2 * (m.2.1 (t + 1) 6))) * (m.2.1 (t + 1) 5))) (0 : Int64))]) rfl ?_
    by_cases hc2 : (((((m.2.1 (t + 1) 0) - ((Int32.toInt64 (m.1 a1 1)) * (m.2.1 (t + 1) 6))) * (m.2.1 (t + 1) 3)) + (((m.2.1 (t + 1) 1) - ((Int32.toInt64 (m.1 a1 2)) * (m.2.1 (t + 1) 6))) * (m.2.1 (t + 1) 4))) - (((m.2.1 (t + 1) 2) + (a2 * (m.2.1 (t + 1) 6))) * (m.2.1 (t + 1) 5))) = (0 : Int64)
    · replace h := tk_ifT hc2 h
      refine tk_bT  rfl rfl tk_eL_ne (c := (((((m.2.1 (t + 1) 0) - ((Int32.toInt64 (m.1 a1 1)) * (m.2.1 (t + 1) 6))) * (m.2.1 (t + 1) 3)) + (((m.2.1 (t + 1) 1) - ((Int32.toInt64 (m.1 a1 2)) * (m.2.1 (t + 1) 6))) * (m.2.1 (t + 1) 4))) - (((m.2.1 (t + 1) 2) + (a2 * (m.2.1 (t + 1) 6))) * (m.2.1 (t + 1) 5))) = (0 : Int64)) hc2 (pc' := 177) (ls' := [(14, .long (((((m.2.1 (t + 1) 0) - ((Int32.toInt64 (m.1 a1 1)) * (m.2.1 (t + 1) 6))) * (m.2.1 (t + 1) 3)) + (((m.2.1 (t + 1) 1) - ((Int32.toInt64 (m.1 a1 2)) * (m.2.1 (t + 1) 6))) * (m.2.1 (t + 1) 4))) - (((m.2.1 (t + 1) 2) + (a2 * (m.2.1 (t + 1) 6))) * (m.2.1 (t + 1) 5)))), (12, .long ((((((m.2.1 (t + 1) 0) - ((Int32.toInt64 (m.1 a1 1)) * (m.2.1 (t + 1) 6))) * ((m.2.1 (t + 1) 0) - ((Int32.toInt64 (m.1 a1 1)) * (m.2.1 (t + 1) 6)))) + (((m.2.1 (t + 1) 1) - ((Int32.toInt64 (m.1 a1 2)) * (m.2.1 (t + 1) 6))) * ((m.2.1 (t + 1) 1) - ((Int32.toInt64 (m.1 a1 2)) * (m.2.1 (t + 1) 6))))) - (((m.2.1 (t + 1) 2) + (a2 * (m.2.1 (t + 1) 6))) * ((m.2.1 (t + 1) 2) + (a2 * (m.2.1 (t + 1) 6))))) + ((m.2.1 t 2) * ((((m.2.1 (t + 1) 3) * (m.2.1 (t + 1) 3)) + ((m.2.1 (t + 1) 4) * (m.2.1 (t + 1) 4))) - ((m.2.1 (t + 1) 5) * (m.2.1 (t + 1) 5)))))), (10, .long ((((m.2.1 (t + 1) 3) * (m.2.1 (t + 1) 3)) + ((m.2.1 (t + 1) 4) * (m.2.1 (t + 1) 4))) - ((m.2.1 (t + 1) 5) * (m.2.1 (t + 1) 5)))), (8, .long ((m.2.1 (t + 1) 2) + (a2 * (m.2.1 (t + 1) 6)))), (6, .long ((m.2.1 (t + 1) 1) - ((Int32.toInt64 (m.1 a1 2)) * (m.2.1 (t + 1) 6)))), (4, .long ((m.2.1 (t + 1) 0) - ((Int32.toInt64 (m.1 a1 1)) * (m.2.1 (t + 1) 6)))), (0, .ref t), (1, .ref a1), (2, .long a2)]) (st' := []) ?_
      refine tk_Ps  2 (pc' := 182) (ls' := [(14, .long (((((m.2.1 (t + 1) 0) - ((Int32.toInt64 (m.1 a1 1)) * (m.2.1 (t + 1) 6))) * (m.2.1 (t + 1) 3)) + (((m.2.1 (t + 1) 1) - ((Int32.toInt64 (m.1 a1 2)) * (m.2.1 (t + 1) 6))) * (m.2.1 (t + 1) 4))) - (((m.2.1 (t + 1) 2) + (a2 * (m.2.1 (t + 1) 6))) * (m.2.1 (t + 1) 5)))), (12, .long ((((((m.2.1 (t + 1) 0) - ((Int32.toInt64 (m.1 a1 1)) * (m.2.1 (t + 1) 6))) * ((m.2.1 (t + 1) 0) - ((Int32.toInt64 (m.1 a1 1)) * (m.2.1 (t + 1) 6)))) + (((m.2.1 (t + 1) 1) - ((Int32.toInt64 (m.1 a1 2)) * (m.2.1 (t + 1) 6))) * ((m.2.1 (t + 1) 1) - ((Int32.toInt64 (m.1 a1 2)) * (m.2.1 (t + 1) 6))))) - (((m.2.1 (t + 1) 2) + (a2 * (m.2.1 (t + 1) 6))) * ((m.2.1 (t + 1) 2) + (a2 * (m.2.1 (t + 1) 6))))) + ((m.2.1 t 2) * ((((m.2.1 (t + 1) 3) * (m.2.1 (t + 1) 3)) + ((m.2.1 (t + 1) 4) * (m.2.1 (t + 1) 4))) - ((m.2.1 (t + 1) 5) * (m.2.1 (t + 1) 5)))))), (10, .long ((((m.2.1 (t + 1) 3) * (m.2.1 (t + 1) 3)) + ((m.2.1 (t + 1) 4) * (m.2.1 (t + 1) 4))) - ((m.2.1 (t + 1) 5) * (m.2.1 (t + 1) 5)))), (8, .long ((m.2.1 (t + 1) 2) + (a2 * (m.2.1 (t + 1) 6)))), (6, .long ((m.2.1 (t + 1) 1) - ((Int32.toInt64 (m.1 a1 2)) * (m.2.1 (t + 1) 6)))), (4, .long ((m.2.1 (t + 1) 0) - ((Int32.toInt64 (m.1 a1 1)) * (m.2.1 (t + 1) 6)))), (0, .ref t), (1, .ref a1), (2, .long a2)]) (st' := [.int (1 : Int32)]) rfl ?_
      subst h
      exact tk_RB (b := true)  rfl rfl rfl
    · replace h := tk_ifF hc2 h
      refine tk_bF  rfl rfl tk_eL_ne (c := (((((m.2.1 (t + 1) 0) - ((Int32.toInt64 (m.1 a1 1)) * (m.2.1 (t + 1) 6))) * (m.2.1 (t + 1) 3)) + (((m.2.1 (t + 1) 1) - ((Int32.toInt64 (m.1 a1 2)) * (m.2.1 (t + 1) 6))) * (m.2.1 (t + 1) 4))) - (((m.2.1 (t + 1) 2) + (a2 * (m.2.1 (t + 1) 6))) * (m.2.1 (t + 1) 5))) = (0 : Int64)) hc2 (pc' := 181) (ls' := [(14, .long (((((m.2.1 (t + 1) 0) - ((Int32.toInt64 (m.1 a1 1)) * (m.2.1 (t + 1) 6))) * (m.2.1 (t + 1) 3)) + (((m.2.1 (t + 1) 1) - ((Int32.toInt64 (m.1 a1 2)) * (m.2.1 (t + 1) 6))) * (m.2.1 (t + 1) 4))) - (((m.2.1 (t + 1) 2) + (a2 * (m.2.1 (t + 1) 6))) * (m.2.1 (t + 1) 5)))), (12, .long ((((((m.2.1 (t + 1) 0) - ((Int32.toInt64 (m.1 a1 1)) * (m.2.1 (t + 1) 6))) * ((m.2.1 (t + 1) 0) - ((Int32.toInt64 (m.1 a1 1)) * (m.2.1 (t + 1) 6)))) + (((m.2.1 (t + 1) 1) - ((Int32.toInt64 (m.1 a1 2)) * (m.2.1 (t + 1) 6))) * ((m.2.1 (t + 1) 1) - ((Int32.toInt64 (m.1 a1 2)) * (m.2.1 (t + 1) 6))))) - (((m.2.1 (t + 1) 2) + (a2 * (m.2.1 (t + 1) 6))) * ((m.2.1 (t + 1) 2) + (a2 * (m.2.1 (t + 1) 6))))) + ((m.2.1 t 2) * ((((m.2.1 (t + 1) 3) * (m.2.1 (t + 1) 3)) + ((m.2.1 (t + 1) 4) * (m.2.1 (t + 1) 4))) - ((m.2.1 (t + 1) 5) * (m.2.1 (t + 1) 5)))))), (10, .long ((((m.2.1 (t + 1) 3) * (m.2.1 (t + 1) 3)) + ((m.2.1 (t + 1) 4) * (m.2.1 (t + 1) 4))) - ((m.2.1 (t + 1) 5) * (m.2.1 (t + 1) 5)))), (8, .long ((m.2.1 (t + 1) 2) + (a2 * (m.2.1 (t + 1) 6)))), (6, .long ((m.2.1 (t + 1) 1) - ((Int32.toInt64 (m.1 a1 2)) * (m.2.1 (t + 1) 6)))), (4, .long ((m.2.1 (t + 1) 0) - ((Int32.toInt64 (m.1 a1 1)) * (m.2.1 (t + 1) 6)))), (0, .ref t), (1, .ref a1), (2, .long a2)]) (st' := []) ?_
      refine tk_Ps  1 (pc' := 182) (ls' := [(14, .long (((((m.2.1 (t + 1) 0) - ((Int32.toInt64 (m.1 a1 1)) * (m.2.1 (t + 1) 6))) * (m.2.1 (t + 1) 3)) + (((m.2.1 (t + 1) 1) - ((Int32.toInt64 (m.1 a1 2)) * (m.2.1 (t + 1) 6))) * (m.2.1 (t + 1) 4))) - (((m.2.1 (t + 1) 2) + (a2 * (m.2.1 (t + 1) 6))) * (m.2.1 (t + 1) 5)))), (12, .long ((((((m.2.1 (t + 1) 0) - ((Int32.toInt64 (m.1 a1 1)) * (m.2.1 (t + 1) 6))) * ((m.2.1 (t + 1) 0) - ((Int32.toInt64 (m.1 a1 1)) * (m.2.1 (t + 1) 6)))) + (((m.2.1 (t + 1) 1) - ((Int32.toInt64 (m.1 a1 2)) * (m.2.1 (t + 1) 6))) * ((m.2.1 (t + 1) 1) - ((Int32.toInt64 (m.1 a1 2)) * (m.2.1 (t + 1) 6))))) - (((m.2.1 (t + 1) 2) + (a2 * (m.2.1 (t + 1) 6))) * ((m.2.1 (t + 1) 2) + (a2 * (m.2.1 (t + 1) 6))))) + ((m.2.1 t 2) * ((((m.2.1 (t + 1) 3) * (m.2.1 (t + 1) 3)) + ((m.2.1 (t + 1) 4) * (m.2.1 (t + 1) 4))) - ((m.2.1 (t + 1) 5) * (m.2.1 (t + 1) 5)))))), (10, .long ((((m.2.1 (t + 1) 3) * (m.2.1 (t + 1) 3)) + ((m.2.1 (t + 1) 4) * (m.2.1 (t + 1) 4))) - ((m.2.1 (t + 1) 5) * (m.2.1 (t + 1) 5)))), (8, .long ((m.2.1 (t + 1) 2) + (a2 * (m.2.1 (t + 1) 6)))), (6, .long ((m.2.1 (t + 1) 1) - ((Int32.toInt64 (m.1 a1 2)) * (m.2.1 (t + 1) 6)))), (4, .long ((m.2.1 (t + 1) 0) - ((Int32.toInt64 (m.1 a1 1)) * (m.2.1 (t + 1) 6)))), (0, .ref t), (1, .ref a1), (2, .long a2)]) (st' := [.int (0 : Int32)]) rfl ?_
      subst h
      exact tk_RB (b := false)  rfl rfl rfl
  · replace h := tk_ifF hc1 h
    refine tk_bF  rfl rfl tk_eL_ne (c := ((((((m.2.1 (t + 1) 0) - ((Int32.toInt64 (m.1 a1 1)) * (m.2.1 (t + 1) 6))) * ((m.2.1 (t + 1) 0) - ((Int32.toInt64 (m.1 a1 1)) * (m.2.1 (t + 1) 6)))) + (((m.2.1 (t + 1) 1) - ((Int32.toInt64 (m.1 a1 2)) * (m.2.1 (t + 1) 6))) * ((m.2.1 (t + 1) 1) - ((Int32.toInt64 (m.1 a1 2)) * (m.2.1 (t + 1) 6))))) - (((m.2.1 (t + 1) 2) + (a2 * (m.2.1 (t + 1) 6))) * ((m.2.1 (t + 1) 2) + (a2 * (m.2.1 (t + 1) 6))))) + ((m.2.1 t 2) * ((((m.2.1 (t + 1) 3) * (m.2.1 (t + 1) 3)) + ((m.2.1 (t + 1) 4) * (m.2.1 (t + 1) 4))) - ((m.2.1 (t + 1) 5) * (m.2.1 (t + 1) 5))))) = (0 : Int64)) hc1 (pc' := 181) (ls' := [(14, .long (((((m.2.1 (t + 1) 0) - ((Int32.toInt64 (m.1 a1 1)) * (m.2.1 (t + 1) 6))) * (m.2.1 (t + 1) 3)) + (((m.2.1 (t + 1) 1) - ((Int32.toInt64 (m.1 a1 2)) * (m.2.1 (t + 1) 6))) * (m.2.1 (t + 1) 4))) - (((m.2.1 (t + 1) 2) + (a2 * (m.2.1 (t + 1) 6))) * (m.2.1 (t + 1) 5)))), (12, .long ((((((m.2.1 (t + 1) 0) - ((Int32.toInt64 (m.1 a1 1)) * (m.2.1 (t + 1) 6))) * ((m.2.1 (t + 1) 0) - ((Int32.toInt64 (m.1 a1 1)) * (m.2.1 (t + 1) 6)))) + (((m.2.1 (t + 1) 1) - ((Int32.toInt64 (m.1 a1 2)) * (m.2.1 (t + 1) 6))) * ((m.2.1 (t + 1) 1) - ((Int32.toInt64 (m.1 a1 2)) * (m.2.1 (t + 1) 6))))) - (((m.2.1 (t + 1) 2) + (a2 * (m.2.1 (t + 1) 6))) * ((m.2.1 (t + 1) 2) + (a2 * (m.2.1 (t + 1) 6))))) + ((m.2.1 t 2) * ((((m.2.1 (t + 1) 3) * (m.2.1 (t + 1) 3)) + ((m.2.1 (t + 1) 4) * (m.2.1 (t + 1) 4))) - ((m.2.1 (t + 1) 5) * (m.2.1 (t + 1) 5)))))), (10, .long ((((m.2.1 (t + 1) 3) * (m.2.1 (t + 1) 3)) + ((m.2.1 (t + 1) 4) * (m.2.1 (t + 1) 4))) - ((m.2.1 (t + 1) 5) * (m.2.1 (t + 1) 5)))), (8, .long ((m.2.1 (t + 1) 2) + (a2 * (m.2.1 (t + 1) 6)))), (6, .long ((m.2.1 (t + 1) 1) - ((Int32.toInt64 (m.1 a1 2)) * (m.2.1 (t + 1) 6)))), (4, .long ((m.2.1 (t + 1) 0) - ((Int32.toInt64 (m.1 a1 1)) * (m.2.1 (t + 1) 6)))), (0, .ref t), (1, .ref a1), (2, .long a2)]) (st' := []) ?_
    refine tk_Ps  1 (pc' := 182) (ls' := [(14, .long (((((m.2.1 (t + 1) 0) - ((Int32.toInt64 (m.1 a1 1)) * (m.2.1 (t + 1) 6))) * (m.2.1 (t + 1) 3)) + (((m.2.1 (t + 1) 1) - ((Int32.toInt64 (m.1 a1 2)) * (m.2.1 (t + 1) 6))) * (m.2.1 (t + 1) 4))) - (((m.2.1 (t + 1) 2) + (a2 * (m.2.1 (t + 1) 6))) * (m.2.1 (t + 1) 5)))), (12, .long ((((((m.2.1 (t + 1) 0) - ((Int32.toInt64 (m.1 a1 1)) * (m.2.1 (t + 1) 6))) * ((m.2.1 (t + 1) 0) - ((Int32.toInt64 (m.1 a1 1)) * (m.2.1 (t + 1) 6)))) + (((m.2.1 (t + 1) 1) - ((Int32.toInt64 (m.1 a1 2)) * (m.2.1 (t + 1) 6))) * ((m.2.1 (t + 1) 1) - ((Int32.toInt64 (m.1 a1 2)) * (m.2.1 (t + 1) 6))))) - (((m.2.1 (t + 1) 2) + (a2 * (m.2.1 (t + 1) 6))) * ((m.2.1 (t + 1) 2) + (a2 * (m.2.1 (t + 1) 6))))) + ((m.2.1 t 2) * ((((m.2.1 (t + 1) 3) * (m.2.1 (t + 1) 3)) + ((m.2.1 (t + 1) 4) * (m.2.1 (t + 1) 4))) - ((m.2.1 (t + 1) 5) * (m.2.1 (t + 1) 5)))))), (10, .long ((((m.2.1 (t + 1) 3) * (m.2.1 (t + 1) 3)) + ((m.2.1 (t + 1) 4) * (m.2.1 (t + 1) 4))) - ((m.2.1 (t + 1) 5) * (m.2.1 (t + 1) 5)))), (8, .long ((m.2.1 (t + 1) 2) + (a2 * (m.2.1 (t + 1) 6)))), (6, .long ((m.2.1 (t + 1) 1) - ((Int32.toInt64 (m.1 a1 2)) * (m.2.1 (t + 1) 6)))), (4, .long ((m.2.1 (t + 1) 0) - ((Int32.toInt64 (m.1 a1 1)) * (m.2.1 (t + 1) 6)))), (0, .ref t), (1, .ref a1), (2, .long a2)]) (st' := [.int (0 : Int32)]) rfl ?_
    subst h
    exact tk_RB (b := false)  rfl rfl rfl
theorem ok_fC_touchesWith (sc : tk_X) (t : Nat) (a1 : Nat) (a2 : Int32) (m : tk_m) (ht : tk_lay[t]? = some (.inl 1)) (ha1 : tk_lay[a1]? = some (.inl 6)) : tk_Ru sc 3 124 [.ref t, .ref a1, .int a2] (tk_full m) (some (.int (tk_b (fC_touchesWith t a1 a2 m))), tk_full m) := by
  obtain ⟨out, h⟩ : ∃ out, fC_touchesWith t a1 a2 m = out := ⟨_, rfl⟩
  rw [h]
  unfold fC_touchesWith at h
  refine tk_Ru0 me124 (ls := [(0, .ref t), (1, .ref a1), (2, .int a2)]) rfl rfl ?_
  refine tk_Ps  1 (pc' := 1) (ls' := [(0, .ref t), (1, .ref a1), (2, .int a2)]) (st' := [.ref a1]) rfl ?_
  refine tk_HB  rfl rfl ha1 ?_
  by_cases hc1 : (m.2.2.1 a1 0) = true
  · replace h := tk_ifT hc1 h
    refine tk_bT  rfl rfl tk_eB_eq (c := (m.2.2.1 a1 0) = true) hc1 (pc' := 7) (ls' := [(0, .ref t), (1, .ref a1), (2, .int a2)]) (st' := []) ?_
    refine tk_Ps  3 (pc' := 10) (ls' := [(0, .ref t), (1, .ref a1), (2, .int a2)]) (st' := [.int a2, .ref a1, .ref t]) rfl ?_
    refine tk_cV1  rfl rfl (r := t) (as := [.ref a1, .int a2]) (rest := []) rfl ht rfl rfl (ok_fC_touchesStraight sc t a1 a2 m ht ha1) ?_
    refine tk_Ps  1 (pc' := 27) (ls' := [(0, .ref t), (1, .ref a1), (2, .int a2)]) (st' := [.int (tk_b (fC_touchesStraight t a1 a2 m))]) rfl ?_
    subst h
    exact tk_RB (b := fC_touchesStraight t a1 a2 m)  rfl rfl rfl
  · replace h := tk_ifF hc1 h
    refine tk_bF  rfl rfl tk_eB_eq (c := (m.2.2.1 a1 0) = true) hc1 (pc' := 16) (ls' := [(0, .ref t), (1, .ref a1), (2, .int a2)]) (st' := []) ?_
    refine tk_Ps  4 (pc' := 20) (ls' := [(0, .ref t), (1, .ref a1), (2, .int a2)]) (st' := [.int a2, .ref a1, .ref a1, .ref t]) rfl ?_
    refine tk_cV1  rfl rfl (r := a1) (as := [.int a2]) (rest := [.ref a1, .ref t]) rfl ha1 rfl rfl (ok_fH_shift sc a1 a2 m ha1) ?_
    refine tk_Ps  1 (pc' := 24) (ls' := [(0, .ref t), (1, .ref a1), (2, .int a2)]) (st' := [.long (Int32.toInt64 (fH_shift a1 a2 m)), .ref a1, .ref t]) rfl ?_
    refine tk_cV1  rfl rfl (r := t) (as := [.ref a1, .long (Int32.toInt64 (fH_shift a1 a2 m))]) (rest := []) rfl ht rfl rfl (ok_fC_touchesRound sc t a1 (Int32.toInt64 (fH_shift a1 a2 m)) m ht ha1) ?_
    subst h
    exact tk_RB (b := fC_touchesRound t a1 (Int32.toInt64 (fH_shift a1 a2 m)) m)  rfl rfl rfl
theorem ok_fC_touch_24 (sc : tk_X) (v0 : Nat) (v1 : Nat) (s0 : Int32) (m : tk_m) (hv0 : tk_lay[v0]? = some (.inl 1)) (hv1 : tk_lay[v1]? = some (.inl 6)) (out : Int32) (h : fC_touch_24 v0 v1 s0 m = out) : tk_Ex sc 3 tk_r123 tk_k123 24 [(0, .ref v0), (1, .ref v1)] [.int s0] (tk_full m) (some (.int out), tk_full m) := by
  unfold fC_touch_24 at h
  refine tk_Ps  2 (pc' := 26) (ls' := [(2, .int s0), (0, .ref v0), (1, .ref v1)]) (st' := [.int s0]) rfl ?_
  by_cases hc1 : s0 = 0
  · replace h := tk_ifT hc1 h
    refine tk_bT  rfl rfl rfl (c := s0 = 0) hc1 (pc' := 42) (ls' := [(2, .int s0), (0, .ref v0), (1, .ref v1)]) (st' := []) ?_
    refine tk_Ps  1 (pc' := 43) (ls' := [(2, .int s0), (0, .ref v0), (1, .ref v1)]) (st' := [.int (0 : Int32)]) rfl ?_
    subst h
    exact tk_RI  rfl rfl rfl
  · replace h := tk_ifF hc1 h
    refine tk_bF  rfl rfl rfl (c := s0 = 0) hc1 (pc' := 29) (ls' := [(2, .int s0), (0, .ref v0), (1, .ref v1)]) (st' := []) ?_
    refine tk_Ps  3 (pc' := 32) (ls' := [(2, .int s0), (0, .ref v0), (1, .ref v1)]) (st' := [.int (1 : Int32), .ref v1, .ref v0]) rfl ?_
    refine tk_cV1  rfl rfl (r := v0) (as := [.ref v1, .int (1 : Int32)]) (rest := []) rfl hv0 rfl rfl (ok_fC_touchesWith sc v0 v1 (1 : Int32) m hv0 hv1) ?_
    by_cases hc2 : (fC_touchesWith v0 v1 (1 : Int32) m) = true
    · replace h := tk_ifT hc2 h
      refine tk_bT  rfl rfl tk_eB_eq (c := (fC_touchesWith v0 v1 (1 : Int32) m) = true) hc2 (pc' := 38) (ls' := [(2, .int s0), (0, .ref v0), (1, .ref v1)]) (st' := []) ?_
      refine tk_Ps  2 (pc' := 43) (ls' := [(2, .int s0), (0, .ref v0), (1, .ref v1)]) (st' := [.int (2 : Int32)]) rfl ?_
      subst h
      exact tk_RI  rfl rfl rfl
    · replace h := tk_ifF hc2 h
      refine tk_bF  rfl rfl tk_eB_eq (c := (fC_touchesWith v0 v1 (1 : Int32) m) = true) hc2 (pc' := 42) (ls' := [(2, .int s0), (0, .ref v0), (1, .ref v1)]) (st' := []) ?_
      refine tk_Ps  1 (pc' := 43) (ls' := [(2, .int s0), (0, .ref v0), (1, .ref v1)]) (st' := [.int (0 : Int32)]) rfl ?_
      subst h
      exact tk_RI  rfl rfl rfl
theorem ok_fC_touch (sc : tk_X) (t : Nat) (a1 : Nat) (m : tk_m) (ht : tk_lay[t]? = some (.inl 1)) (ha1 : tk_lay[a1]? = some (.inl 6)) : tk_Ru sc 4 123 [.ref t, .ref a1] (tk_full m) (some (.int (fC_touch t a1 m)), tk_full m) := by
  obtain ⟨out, h⟩ : ∃ out, fC_touch t a1 m = out := ⟨_, rfl⟩
  rw [h]
  unfold fC_touch at h
  refine tk_Ru0 me123 (ls := [(0, .ref t), (1, .ref a1)]) rfl rfl ?_
  refine tk_Ps  3 (pc' := 3) (ls' := [(0, .ref t), (1, .ref a1)]) (st' := [.int (0 : Int32), .ref a1, .ref t]) rfl ?_
  refine tk_cV1  rfl rfl (r := t) (as := [.ref a1, .int (0 : Int32)]) (rest := []) rfl ht rfl rfl (ok_fC_touchesWith sc t a1 (0 : Int32) m ht ha1) ?_
  by_cases hc1 : (fC_touchesWith t a1 (0 : Int32) m) = true
  · replace h := tk_ifT hc1 h
    refine tk_bT  rfl rfl tk_eB_eq (c := (fC_touchesWith t a1 (0 : Int32) m) = true) hc1 (pc' := 9) (ls' := [(0, .ref t), (1, .ref a1)]) (st' := []) ?_
    refine tk_Ps  1 (pc' := 10) (ls' := [(0, .ref t), (1, .ref a1)]) (st' := [.int (1 : Int32)]) rfl ?_
    subst h
    exact tk_RI  rfl rfl rfl
  · replace h := tk_ifF hc1 h
    refine tk_bF  rfl rfl tk_eB_eq (c := (fC_touchesWith t a1 (0 : Int32) m) = true) hc1 (pc' := 11) (ls' := [(0, .ref t), (1, .ref a1)]) (st' := []) ?_
    refine tk_Ps  1 (pc' := 12) (ls' := [(0, .ref t), (1, .ref a1)]) (st' := [.ref a1]) rfl ?_
    refine tk_cV1  rfl rfl (r := a1) (as := []) (rest := []) rfl ha1 rfl rfl (ok_fH_lowestKind sc a1 m ha1) ?_
    refine tk_Ps  1 (pc' := 16) (ls' := [(0, .ref t), (1, .ref a1)]) (st' := [.int (3 : Int32), .int (fH_lowestKind a1 m)]) rfl ?_
    by_cases hc2 : (fH_lowestKind a1 m) = (3 : Int32)
    · replace h := tk_ifT hc2 h
      refine tk_bT  rfl rfl rfl (c := (fH_lowestKind a1 m) = (3 : Int32)) hc2 (pc' := 23) (ls' := [(0, .ref t), (1, .ref a1)]) (st' := []) ?_
      refine tk_Ps  1 (pc' := 24) (ls' := [(0, .ref t), (1, .ref a1)]) (st' := [.int (0 : Int32)]) rfl ?_
      refine tk_Kp  (ls' := [(0, .ref t), (1, .ref a1)]) rfl rfl ?_
      exact ok_fC_touch_24 sc t a1 (0 : Int32) m ht ha1 _ h
    · replace h := tk_ifF hc2 h
      refine tk_bF  rfl rfl rfl (c := (fH_lowestKind a1 m) = (3 : Int32)) hc2 (pc' := 19) (ls' := [(0, .ref t), (1, .ref a1)]) (st' := []) ?_
      refine tk_Ps  2 (pc' := 24) (ls' := [(0, .ref t), (1, .ref a1)]) (st' := [.int (1 : Int32)]) rfl ?_
      refine tk_Kp  (ls' := [(0, .ref t), (1, .ref a1)]) rfl rfl ?_
      exact ok_fC_touch_24 sc t a1 (1 : Int32) m ht ha1 _ h
theorem ok_fX_touches (sc : tk_X) (a1 : Int32) (a2 : Int32) (m : tk_m) {out : Int32 × tk_m} (h : fX_touches a1 a2 m = some out) : tk_Ru sc 7 122 [.ref 0, .int a1, .int a2] (tk_full m) (some (.int out.1), tk_full out.2) := by
  unfold fX_touches at h
  refine tk_Ru0 me122 (ls := [(0, .ref 0), (1, .int a1), (2, .int a2)]) rfl rfl ?_
  refine tk_Ps  1 (pc' := 1) (ls' := [(0, .ref 0), (1, .int a1), (2, .int a2)]) (st' := [.ref 0]) rfl ?_
  refine tk_HR  rfl rfl ly0 rt0_0 ?_
  refine tk_Ps  1 (pc' := 5) (ls' := [(0, .ref 0), (1, .int a1), (2, .int a2)]) (st' := [.int a2, .ref 1]) rfl ?_
  refine tk_cV1  rfl rfl (r := 1) (as := [.int a2]) (rest := []) rfl ly1 rfl rfl (ok_fS_has sc 1 a2 m ly1) ?_
  by_cases hc1 : (fS_has 1 a2 m) = true
  · replace h := tk_ifT hc1 h
    refine tk_bT  rfl rfl tk_eB_ne (c := (fS_has 1 a2 m) = true) hc1 (pc' := 17) (ls' := [(0, .ref 0), (1, .int a1), (2, .int a2)]) (st' := []) ?_
    refine tk_Ps  2 (pc' := 19) (ls' := [(0, .ref 0), (1, .int a1), (2, .int a2)]) (st' := [.int a1, .ref 0]) rfl ?_
    obtain ⟨o2, ho2, h⟩ := tk_bnd h
    refine tk_cV1  rfl rfl (r := 0) (as := [.int a1]) (rest := []) rfl ly0 rfl rfl (ok_fX_missesAnswer sc a1 m ho2) ?_
    refine tk_Ps  2 (pc' := 24) (ls' := [(3, .int o2.1), (0, .ref 0), (1, .int a1), (2, .int a2)]) (st' := [.int o2.1]) rfl ?_
    by_cases hc3 : o2.1 < 0
    · replace h := tk_ifT hc3 h
      refine tk_bT  rfl rfl rfl (c := o2.1 < 0) hc3 (pc' := 33) (ls' := [(3, .int o2.1), (0, .ref 0), (1, .int a1), (2, .int a2)]) (st' := []) ?_
      refine tk_Ps  1 (pc' := 34) (ls' := [(3, .int o2.1), (0, .ref 0), (1, .int a1), (2, .int a2)]) (st' := [.ref 0]) rfl ?_
      refine tk_HR  rfl rfl ly0 rt0_7 ?_
      refine tk_HR  rfl rfl ly39 rt39_1 ?_
      refine tk_Ps  1 (pc' := 41) (ls' := [(3, .int o2.1), (0, .ref 0), (1, .int a1), (2, .int a2)]) (st' := [.int a1, .ref 61]) rfl ?_
      obtain ⟨hg4, h⟩ := tk_grd h
      refine tk_HQ  rfl rfl ly61 hg4 (la61 _ (hg4).2).1 ?_
      refine tk_Ps  1 (pc' := 43) (ls' := [(3, .int o2.1), (0, .ref 0), (1, .int a1), (2, .int a2)]) (st' := [.ref 0, .ref (71 + 8 * (tk_n a1))]) rfl ?_
      refine tk_HR  rfl rfl ly0 rt0_0 ?_
      refine tk_HR  rfl rfl ly1 rt1_0 ?_
      refine tk_Ps  1 (pc' := 50) (ls' := [(3, .int o2.1), (0, .ref 0), (1, .int a1), (2, .int a2)]) (st' := [.int a2, .ref 2, .ref (71 + 8 * (tk_n a1))]) rfl ?_
      obtain ⟨hg5, h⟩ := tk_grd h
      refine tk_HP  rfl rfl ly2 hg5 ?_
      refine tk_cV1  rfl rfl (r := (71 + 8 * (tk_n a1))) (as := [.ref (2 + 2 + (o2.2.2.2.2 2 (tk_n a2)).val)]) (rest := []) rfl ((la61 _ (hg4).2).2) rfl rfl (ok_fC_touch sc (71 + 8 * (tk_n a1)) (2 + 2 + (o2.2.2.2.2 2 (tk_n a2)).val) o2.2 ((la61 _ (hg4).2).2) (tk_sh ly2 _)) ?_
      replace h := Option.some.inj h
      subst h
      exact tk_RI  rfl rfl rfl
    · replace h := tk_ifF hc3 h
      refine tk_bF  rfl rfl rfl (c := o2.1 < 0) hc3 (pc' := 27) (ls' := [(3, .int o2.1), (0, .ref 0), (1, .int a1), (2, .int a2)]) (st' := []) ?_
      refine tk_Ps  2 (pc' := 29) (ls' := [(3, .int o2.1), (0, .ref 0), (1, .int a1), (2, .int a2)]) (st' := [.int o2.1, .ref 0]) rfl ?_
      obtain ⟨o6, ho6, h⟩ := tk_bnd h
      refine tk_cV1  rfl rfl (r := 0) (as := [.int o2.1]) (rest := []) rfl ly0 rfl rfl (ok_fX_finding sc o2.1 o2.2 ho6) ?_
      replace h := Option.some.inj h
      subst h
      exact tk_RI  rfl rfl rfl
  · replace h := tk_ifF hc1 h
    refine tk_bF  rfl rfl tk_eB_ne (c := (fS_has 1 a2 m) = true) hc1 (pc' := 11) (ls' := [(0, .ref 0), (1, .int a1), (2, .int a2)]) (st' := []) ?_
    refine tk_Ps  2 (pc' := 13) (ls' := [(0, .ref 0), (1, .int a1), (2, .int a2)]) (st' := [.int (0 : Int32), .ref 0]) rfl ?_
    obtain ⟨o7, ho7, h⟩ := tk_bnd h
    refine tk_cV1  rfl rfl (r := 0) (as := [.int (0 : Int32)]) (rest := []) rfl ly0 rfl rfl (ok_fX_finding sc (0 : Int32) m ho7) ?_
    replace h := Option.some.inj h
    subst h
    exact tk_RI  rfl rfl rfl
theorem ok_fX_isSheet (sc : tk_X) (a1 : Int32) (m : tk_m) : tk_Ru sc 2 128 [.int a1] (tk_full m) (some (.int (tk_b (fX_isSheet a1))), tk_full m) := by
  obtain ⟨out, h⟩ : ∃ out, fX_isSheet a1 = out := ⟨_, rfl⟩
  rw [h]
  unfold fX_isSheet at h
  refine tk_Ru0 me128 (ls := [(0, .int a1)]) rfl rfl ?_
  refine tk_Ps  3 (pc' := 3) (ls' := [(0, .int a1)]) (st' := [.int (3 : Int32), .int (0 : Int32), .int a1]) rfl ?_
  refine tk_cS1  rfl rfl (as := [.int a1, .int (0 : Int32), .int (3 : Int32)]) (rest := []) rfl rfl rfl (ok_fX_isWithin sc a1 (0 : Int32) (3 : Int32) m) ?_
  subst h
  exact tk_RB (b := fX_isWithin a1 (0 : Int32) (3 : Int32))  rfl rfl rfl
theorem ok_fT_isMissing (sc : tk_X) (t : Nat) (m : tk_m) (ht : tk_lay[t]? = some (.inl 7)) : tk_Ru sc 1 129 [.ref t] (tk_full m) (some (.int (tk_b (fT_isMissing t m))), tk_full m) := by
  obtain ⟨out, h⟩ : ∃ out, fT_isMissing t m = out := ⟨_, rfl⟩
  rw [h]
  unfold fT_isMissing at h
  refine tk_Ru0 me129 (ls := [(0, .ref t)]) rfl rfl ?_
  refine tk_Ps  1 (pc' := 1) (ls' := [(0, .ref t)]) (st' := [.ref t]) rfl ?_
  refine tk_HI  rfl rfl ht ?_
  refine tk_Ps  1 (pc' := 5) (ls' := [(0, .ref t)]) (st' := [.int (-1 : Int32), .int (m.1 t 0)]) rfl ?_
  by_cases hc1 : (m.1 t 0) = (-1 : Int32)
  · replace h := tk_ifT hc1 h
    refine tk_bT  rfl rfl rfl (c := (m.1 t 0) = (-1 : Int32)) hc1 (pc' := 8) (ls' := [(0, .ref t)]) (st' := []) ?_
    refine tk_Ps  2 (pc' := 13) (ls' := [(0, .ref t)]) (st' := [.int (1 : Int32)]) rfl ?_
    subst h
    exact tk_RB (b := true)  rfl rfl rfl
  · replace h := tk_ifF hc1 h
    refine tk_bF  rfl rfl rfl (c := (m.1 t 0) = (-1 : Int32)) hc1 (pc' := 12) (ls' := [(0, .ref t)]) (st' := []) ?_
    refine tk_Ps  1 (pc' := 13) (ls' := [(0, .ref t)]) (st' := [.int (0 : Int32)]) rfl ?_
    subst h
    exact tk_RB (b := false)  rfl rfl rfl
theorem ok_fT_narrow (sc : tk_X) (t : Nat) (a1 : Int64) (m : tk_m) (ht : tk_lay[t]? = some (.inl 7)) : tk_Ru sc 1 131 [.ref t, .long a1] (tk_full m) (some (.long (fT_narrow t a1 m)), tk_full m) := by
  obtain ⟨out, h⟩ : ∃ out, fT_narrow t a1 m = out := ⟨_, rfl⟩
  rw [h]
  unfold fT_narrow at h
  refine tk_Ru0 me131 (ls := [(0, .ref t), (1, .long a1)]) rfl rfl ?_
  refine tk_Ps  1 (pc' := 1) (ls' := [(0, .ref t), (1, .long a1)]) (st' := [.ref t]) rfl ?_
  refine tk_HI  rfl rfl ht ?_
  by_cases hc1 : (m.1 t 0) = 0
  · replace h := tk_ifT hc1 h
    refine tk_bT  rfl rfl rfl (c := (m.1 t 0) = 0) hc1 (pc' := 7) (ls' := [(0, .ref t), (1, .long a1)]) (st' := []) ?_
    refine tk_Ps  5 (pc' := 29) (ls' := [(0, .ref t), (1, .long a1)]) (st' := [.long (Int32.toInt64 (tk_i2b (Int64.toInt32 a1)))]) rfl ?_
    subst h
    exact tk_RJ  rfl rfl rfl
  · replace h := tk_ifF hc1 h
    refine tk_bF  rfl rfl rfl (c := (m.1 t 0) = 0) hc1 (pc' := 14) (ls' := [(0, .ref t), (1, .long a1)]) (st' := []) ?_
    refine tk_Ps  1 (pc' := 15) (ls' := [(0, .ref t), (1, .long a1)]) (st' := [.ref t]) rfl ?_
    refine tk_HI  rfl rfl ht ?_
    refine tk_Ps  1 (pc' := 19) (ls' := [(0, .ref t), (1, .long a1)]) (st' := [.int (1 : Int32), .int (m.1 t 0)]) rfl ?_
    by_cases hc2 : (m.1 t 0) = (1 : Int32)
    · replace h := tk_ifT hc2 h
      refine tk_bT  rfl rfl rfl (c := (m.1 t 0) = (1 : Int32)) hc2 (pc' := 22) (ls' := [(0, .ref t), (1, .long a1)]) (st' := []) ?_
      refine tk_Ps  4 (pc' := 29) (ls' := [(0, .ref t), (1, .long a1)]) (st' := [.long (Int32.toInt64 (Int64.toInt32 a1))]) rfl ?_
      subst h
      exact tk_RJ  rfl rfl rfl
    · replace h := tk_ifF hc2 h
      refine tk_bF  rfl rfl rfl (c := (m.1 t 0) = (1 : Int32)) hc2 (pc' := 28) (ls' := [(0, .ref t), (1, .long a1)]) (st' := []) ?_
      refine tk_Ps  1 (pc' := 29) (ls' := [(0, .ref t), (1, .long a1)]) (st' := [.long a1]) rfl ?_
      subst h
      exact tk_RJ  rfl rfl rfl
theorem ok_fT_set (sc : tk_X) (t : Nat) (a1 : Int32) (a2 : Int64) (m : tk_m) (ht : tk_lay[t]? = some (.inl 7)) {out : tk_m} (h : fT_set t a1 a2 m = some out) : tk_Ru sc 2 130 [.ref t, .int a1, .long a2] (tk_full m) (none, tk_full out) := by
  unfold fT_set at h
  refine tk_Ru0 me130 (ls := [(0, .ref t), (1, .int a1), (2, .long a2)]) rfl rfl ?_
  refine tk_Ps  1 (pc' := 1) (ls' := [(0, .ref t), (1, .int a1), (2, .long a2)]) (st' := [.ref t]) rfl ?_
  refine tk_HR  rfl rfl ht (ro7_2 ht) ?_
  refine tk_Ps  3 (pc' := 7) (ls' := [(0, .ref t), (1, .int a1), (2, .long a2)]) (st' := [.long a2, .ref t, .int a1, .ref (t + 1)]) rfl ?_
  refine tk_cV1  rfl rfl (r := t) (as := [.long a2]) (rest := [.int a1, .ref (t + 1)]) rfl ht rfl rfl (ok_fT_narrow sc t a2 m ht) ?_
  obtain ⟨hg1, h⟩ := tk_grd h
  refine tk_SJa  rfl rfl (lo7_2 ht) hg1 ?_
  replace h := Option.some.inj h
  subst h
  exact tk_RV  rfl rfl rfl

theorem ok_fK_rootOfBoth (sc : tk_X) (a1 : Nat) (a2 : Nat) (m : tk_m) (ha1 : tk_lay[a1]? = some (.inl 4)) (ha2 : tk_lay[a2]? = some (.inl 4)) : tk_Ru sc 1 151 [.ref a1, .ref a2] (tk_full m) (some (.long (fK_rootOfBoth a1 a2 m)), tk_full m) := by
  obtain ⟨out, h⟩ : ∃ out, fK_rootOfBoth a1 a2 m = out := ⟨_, rfl⟩
  rw [h]
  unfold fK_rootOfBoth at h
  refine tk_Ru0 me151 (ls := [(0, .ref a1), (1, .ref a2)]) rfl rfl ?_
  refine tk_Ps  1 (pc' := 1) (ls' := [(0, .ref a1), (1, .ref a2)]) (st' := [.ref a1]) rfl ?_
  refine tk_HJ  rfl rfl ha1 ?_
  refine tk_Ps  2 (pc' := 6) (ls' := [(0, .ref a1), (1, .ref a2)]) (st' := [.int (lg_cmp (m.2.1 a1 2) (0 : Int64))]) rfl ?_
  by_cases hc1 : (m.2.1 a1 2) = (0 : Int64)
  · replace h := tk_ifT hc1 h
    refine tk_bT  rfl rfl tk_eL_eq (c := (m.2.1 a1 2) = (0 : Int64)) hc1 (pc' := 16) (ls' := [(0, .ref a1), (1, .ref a2)]) (st' := []) ?_
    refine tk_Ps  1 (pc' := 17) (ls' := [(0, .ref a1), (1, .ref a2)]) (st' := [.ref a2]) rfl ?_
    refine tk_HJ  rfl rfl ha2 ?_
    subst h
    exact tk_RJ  rfl rfl rfl
  · replace h := tk_ifF hc1 h
    refine tk_bF  rfl rfl tk_eL_eq (c := (m.2.1 a1 2) = (0 : Int64)) hc1 (pc' := 9) (ls' := [(0, .ref a1), (1, .ref a2)]) (st' := []) ?_
    refine tk_Ps  1 (pc' := 10) (ls' := [(0, .ref a1), (1, .ref a2)]) (st' := [.ref a1]) rfl ?_
    refine tk_HJ  rfl rfl ha1 ?_
    refine tk_Ps  1 (pc' := 20) (ls' := [(0, .ref a1), (1, .ref a2)]) (st' := [.long (m.2.1 a1 2)]) rfl ?_
    subst h
    exact tk_RJ  rfl rfl rfl
theorem ok_fK_conclude (sc : tk_X) (a1 : Int64) (a2 : Int64) (a3 : Int64) (a4 : Int64) (m : tk_m) {out : Bool × tk_m} (h : fK_conclude a1 a2 a3 a4 m = some out) : tk_Ru sc 4 152 [.ref 34, .long a1, .long a2, .long a3, .long a4] (tk_full m) (some (.int (tk_b out.1)), tk_full out.2) := by
  unfold fK_conclude at h
  refine tk_Ru0 me152 (ls := [(0, .ref 34), (1, .long a1), (3, .long a2), (5, .long a3), (7, .long a4)]) rfl rfl ?_
  refine tk_Ps  1 (pc' := 1) (ls' := [(0, .ref 34), (1, .long a1), (3, .long a2), (5, .long a3), (7, .long a4)]) (st' := [.ref 34]) rfl ?_
  refine tk_HB  rfl rfl ly34 ?_
  by_cases hc1 : (m.2.2.1 34 0) = true
  · replace h := tk_ifT hc1 h
    refine tk_bT  rfl rfl tk_eB_ne (c := (m.2.2.1 34 0) = true) hc1 (pc' := 27) (ls' := [(0, .ref 34), (1, .long a1), (3, .long a2), (5, .long a3), (7, .long a4)]) (st' := []) ?_
    refine tk_Ps  1 (pc' := 28) (ls' := [(0, .ref 34), (1, .long a1), (3, .long a2), (5, .long a3), (7, .long a4)]) (st' := [.int (0 : Int32)]) rfl ?_
    replace h := Option.some.inj h
    subst h
    exact tk_RB (b := false)  rfl rfl rfl
  · replace h := tk_ifF hc1 h
    refine tk_bF  rfl rfl tk_eB_ne (c := (m.2.2.1 34 0) = true) hc1 (pc' := 7) (ls' := [(0, .ref 34), (1, .long a1), (3, .long a2), (5, .long a3), (7, .long a4)]) (st' := []) ?_
    refine tk_Ps  1 (pc' := 8) (ls' := [(0, .ref 34), (1, .long a1), (3, .long a2), (5, .long a3), (7, .long a4)]) (st' := [.ref 34]) rfl ?_
    refine tk_HR  rfl rfl ly34 rt34_1 ?_
    refine tk_Ps  4 (pc' := 17) (ls' := [(0, .ref 34), (1, .long a1), (3, .long a2), (5, .long a3), (7, .long a4)]) (st' := [.long a4, .long a3, .long a2, .long a1, .ref 35]) rfl ?_
    obtain ⟨o2, ho2, h⟩ := tk_bnd h
    refine tk_cV1  rfl rfl (r := 35) (as := [.long a1, .long a2, .long a3, .long a4]) (rest := []) rfl ly35 rfl rfl (ok_fN_hold sc 35 a1 a2 a3 a4 m ly35 ho2) ?_
    by_cases hc3 : o2.1 = true
    · replace h := tk_ifT hc3 h
      refine tk_bT  rfl rfl tk_eB_eq (c := o2.1 = true) hc3 (pc' := 23) (ls' := [(0, .ref 34), (1, .long a1), (3, .long a2), (5, .long a3), (7, .long a4)]) (st' := []) ?_
      refine tk_Ps  2 (pc' := 28) (ls' := [(0, .ref 34), (1, .long a1), (3, .long a2), (5, .long a3), (7, .long a4)]) (st' := [.int (1 : Int32)]) rfl ?_
      replace h := Option.some.inj h
      subst h
      exact tk_RB (b := true)  rfl rfl rfl
    · replace h := tk_ifF hc3 h
      refine tk_bF  rfl rfl tk_eB_eq (c := o2.1 = true) hc3 (pc' := 27) (ls' := [(0, .ref 34), (1, .long a1), (3, .long a2), (5, .long a3), (7, .long a4)]) (st' := []) ?_
      refine tk_Ps  1 (pc' := 28) (ls' := [(0, .ref 34), (1, .long a1), (3, .long a2), (5, .long a3), (7, .long a4)]) (st' := [.int (0 : Int32)]) rfl ?_
      replace h := Option.some.inj h
      subst h
      exact tk_RB (b := false)  rfl rfl rfl
theorem ok_fK_addUp (sc : tk_X) (a1 : Nat) (a2 : Nat) (m : tk_m) (ha1 : tk_lay[a1]? = some (.inl 4)) (ha2 : tk_lay[a2]? = some (.inl 4)) {out : Bool × tk_m} (h : fK_addUp a1 a2 m = some out) : tk_Ru sc 5 150 [.ref 34, .ref a1, .ref a2] (tk_full m) (some (.int (tk_b out.1)), tk_full out.2) := by
  unfold fK_addUp at h
  refine tk_Ru0 me150 (ls := [(0, .ref 34), (1, .ref a1), (2, .ref a2)]) rfl rfl ?_
  refine tk_Ps  3 (pc' := 3) (ls' := [(0, .ref 34), (1, .ref a1), (2, .ref a2)]) (st' := [.ref a1, .ref 34, .ref 34]) rfl ?_
  refine tk_cV1  rfl rfl (r := a1) (as := []) (rest := [.ref 34, .ref 34]) rfl ha1 rfl rfl (ok_fN_p sc a1 m ha1) ?_
  refine tk_Ps  1 (pc' := 7) (ls' := [(0, .ref 34), (1, .ref a1), (2, .ref a2)]) (st' := [.ref a2, .long (fN_p a1 m), .ref 34, .ref 34]) rfl ?_
  refine tk_cV1  rfl rfl (r := a2) (as := []) (rest := [.long (fN_p a1 m), .ref 34, .ref 34]) rfl ha2 rfl rfl (ok_fN_m sc a2 m ha2) ?_
  obtain ⟨o1, ho1, h⟩ := tk_bnd h
  refine tk_cV1  rfl rfl (r := 34) (as := [.long (fN_p a1 m), .long (fN_m a2 m)]) (rest := [.ref 34]) rfl ly34 rfl rfl (ok_fK_times sc (fN_p a1 m) (fN_m a2 m) m ho1) ?_
  refine tk_Ps  2 (pc' := 15) (ls' := [(0, .ref 34), (1, .ref a1), (2, .ref a2)]) (st' := [.ref a2, .ref 34, .long o1.1, .ref 34]) rfl ?_
  refine tk_cV1  rfl rfl (r := a2) (as := []) (rest := [.ref 34, .long o1.1, .ref 34]) rfl ha2 rfl rfl (ok_fN_p sc a2 o1.2 ha2) ?_
  refine tk_Ps  1 (pc' := 19) (ls' := [(0, .ref 34), (1, .ref a1), (2, .ref a2)]) (st' := [.ref a1, .long (fN_p a2 o1.2), .ref 34, .long o1.1, .ref 34]) rfl ?_
  refine tk_cV1  rfl rfl (r := a1) (as := []) (rest := [.long (fN_p a2 o1.2), .ref 34, .long o1.1, .ref 34]) rfl ha1 rfl rfl (ok_fN_m sc a1 o1.2 ha1) ?_
  obtain ⟨o2, ho2, h⟩ := tk_bnd h
  refine tk_cV1  rfl rfl (r := 34) (as := [.long (fN_p a2 o1.2), .long (fN_m a1 o1.2)]) (rest := [.long o1.1, .ref 34]) rfl ly34 rfl rfl (ok_fK_times sc (fN_p a2 o1.2) (fN_m a1 o1.2) o1.2 ho2) ?_
  obtain ⟨o3, ho3, h⟩ := tk_lete h
  refine tk_cV1  rfl rfl (r := 34) (as := [.long o1.1, .long o2.1]) (rest := []) rfl ly34 rfl rfl (ok_fK_plus sc o1.1 o2.1 o2.2 ho3) ?_
  refine tk_Ps  4 (pc' := 32) (ls' := [(3, .long o3.1), (0, .ref 34), (1, .ref a1), (2, .ref a2)]) (st' := [.ref a1, .ref 34, .ref 34]) rfl ?_
  refine tk_cV1  rfl rfl (r := a1) (as := []) (rest := [.ref 34, .ref 34]) rfl ha1 rfl rfl (ok_fN_q sc a1 o3.2 ha1) ?_
  refine tk_Ps  1 (pc' := 36) (ls' := [(3, .long o3.1), (0, .ref 34), (1, .ref a1), (2, .ref a2)]) (st' := [.ref a2, .long (fN_q a1 o3.2), .ref 34, .ref 34]) rfl ?_
  refine tk_cV1  rfl rfl (r := a2) (as := []) (rest := [.long (fN_q a1 o3.2), .ref 34, .ref 34]) rfl ha2 rfl rfl (ok_fN_m sc a2 o3.2 ha2) ?_
  obtain ⟨o4, ho4, h⟩ := tk_bnd h
  refine tk_cV1  rfl rfl (r := 34) (as := [.long (fN_q a1 o3.2), .long (fN_m a2 o3.2)]) (rest := [.ref 34]) rfl ly34 rfl rfl (ok_fK_times sc (fN_q a1 o3.2) (fN_m a2 o3.2) o3.2 ho4) ?_
  refine tk_Ps  2 (pc' := 44) (ls' := [(3, .long o3.1), (0, .ref 34), (1, .ref a1), (2, .ref a2)]) (st' := [.ref a2, .ref 34, .long o4.1, .ref 34]) rfl ?_
  refine tk_cV1  rfl rfl (r := a2) (as := []) (rest := [.ref 34, .long o4.1, .ref 34]) rfl ha2 rfl rfl (ok_fN_q sc a2 o4.2 ha2) ?_
  refine tk_Ps  1 (pc' := 48) (ls' := [(3, .long o3.1), (0, .ref 34), (1, .ref a1), (2, .ref a2)]) (st' := [.ref a1, .long (fN_q a2 o4.2), .ref 34, .long o4.1, .ref 34]) rfl ?_
  refine tk_cV1  rfl rfl (r := a1) (as := []) (rest := [.long (fN_q a2 o4.2), .ref 34, .long o4.1, .ref 34]) rfl ha1 rfl rfl (ok_fN_m sc a1 o4.2 ha1) ?_
  obtain ⟨o5, ho5, h⟩ := tk_bnd h
  refine tk_cV1  rfl rfl (r := 34) (as := [.long (fN_q a2 o4.2), .long (fN_m a1 o4.2)]) (rest := [.long o4.1, .ref 34]) rfl ly34 rfl rfl (ok_fK_times sc (fN_q a2 o4.2) (fN_m a1 o4.2) o4.2 ho5) ?_
  obtain ⟨o6, ho6, h⟩ := tk_lete h
  refine tk_cV1  rfl rfl (r := 34) (as := [.long o4.1, .long o5.1]) (rest := []) rfl ly34 rfl rfl (ok_fK_plus sc o4.1 o5.1 o5.2 ho6) ?_
  refine tk_Ps  6 (pc' := 65) (ls' := [(5, .long o6.1), (3, .long o3.1), (0, .ref 34), (1, .ref a1), (2, .ref a2)]) (st' := [.ref a2, .ref a1, .long o6.1, .long o3.1, .ref 34]) rfl ?_
  refine tk_cS1  rfl rfl (as := [.ref a1, .ref a2]) (rest := [.long o6.1, .long o3.1, .ref 34]) rfl rfl rfl (ok_fK_rootOfBoth sc a1 a2 o6.2 ha1 ha2) ?_
  refine tk_Ps  2 (pc' := 70) (ls' := [(5, .long o6.1), (3, .long o3.1), (0, .ref 34), (1, .ref a1), (2, .ref a2)]) (st' := [.ref a1, .ref 34, .long (fK_rootOfBoth a1 a2 o6.2), .long o6.1, .long o3.1, .ref 34]) rfl ?_
  refine tk_cV1  rfl rfl (r := a1) (as := []) (rest := [.ref 34, .long (fK_rootOfBoth a1 a2 o6.2), .long o6.1, .long o3.1, .ref 34]) rfl ha1 rfl rfl (ok_fN_m sc a1 o6.2 ha1) ?_
  refine tk_Ps  1 (pc' := 74) (ls' := [(5, .long o6.1), (3, .long o3.1), (0, .ref 34), (1, .ref a1), (2, .ref a2)]) (st' := [.ref a2, .long (fN_m a1 o6.2), .ref 34, .long (fK_rootOfBoth a1 a2 o6.2), .long o6.1, .long o3.1, .ref 34]) rfl ?_
  refine tk_cV1  rfl rfl (r := a2) (as := []) (rest := [.long (fN_m a1 o6.2), .ref 34, .long (fK_rootOfBoth a1 a2 o6.2), .long o6.1, .long o3.1, .ref 34]) rfl ha2 rfl rfl (ok_fN_m sc a2 o6.2 ha2) ?_
  obtain ⟨o7, ho7, h⟩ := tk_bnd h
  refine tk_cV1  rfl rfl (r := 34) (as := [.long (fN_m a1 o6.2), .long (fN_m a2 o6.2)]) (rest := [.long (fK_rootOfBoth a1 a2 o6.2), .long o6.1, .long o3.1, .ref 34]) rfl ly34 rfl rfl (ok_fK_times sc (fN_m a1 o6.2) (fN_m a2 o6.2) o6.2 ho7) ?_
  obtain ⟨o8, ho8, h⟩ := tk_bnd h
  refine tk_cV1  rfl rfl (r := 34) (as := [.long o3.1, .long o6.1, .long (fK_rootOfBoth a1 a2 o6.2), .long o7.1]) (rest := []) rfl ly34 rfl rfl (ok_fK_conclude sc o3.1 o6.1 (fK_rootOfBoth a1 a2 o6.2) o7.1 o7.2 ho8) ?_
  replace h := Option.some.inj h
  subst h
  exact tk_RB (b := o8.1)  rfl rfl rfl
theorem ok_fK_takeOff (sc : tk_X) (a1 : Nat) (a2 : Nat) (m : tk_m) (ha1 : tk_lay[a1]? = some (.inl 4)) (ha2 : tk_lay[a2]? = some (.inl 4)) {out : Bool × tk_m} (h : fK_takeOff a1 a2 m = some out) : tk_Ru sc 5 153 [.ref 34, .ref a1, .ref a2] (tk_full m) (some (.int (tk_b out.1)), tk_full out.2) := by
  unfold fK_takeOff at h
  refine tk_Ru0 me153 (ls := [(0, .ref 34), (1, .ref a1), (2, .ref a2)]) rfl rfl ?_
  refine tk_Ps  3 (pc' := 3) (ls' := [(0, .ref 34), (1, .ref a1), (2, .ref a2)]) (st' := [.ref a1, .ref 34, .ref 34]) rfl ?_
  refine tk_cV1  rfl rfl (r := a1) (as := []) (rest := [.ref 34, .ref 34]) rfl ha1 rfl rfl (ok_fN_p sc a1 m ha1) ?_
  refine tk_Ps  1 (pc' := 7) (ls' := [(0, .ref 34), (1, .ref a1), (2, .ref a2)]) (st' := [.ref a2, .long (fN_p a1 m), .ref 34, .ref 34]) rfl ?_
  refine tk_cV1  rfl rfl (r := a2) (as := []) (rest := [.long (fN_p a1 m), .ref 34, .ref 34]) rfl ha2 rfl rfl (ok_fN_m sc a2 m ha2) ?_
  obtain ⟨o1, ho1, h⟩ := tk_bnd h
  refine tk_cV1  rfl rfl (r := 34) (as := [.long (fN_p a1 m), .long (fN_m a2 m)]) (rest := [.ref 34]) rfl ly34 rfl rfl (ok_fK_times sc (fN_p a1 m) (fN_m a2 m) m ho1) ?_
  refine tk_Ps  2 (pc' := 15) (ls' := [(0, .ref 34), (1, .ref a1), (2, .ref a2)]) (st' := [.ref a2, .ref 34, .long o1.1, .ref 34]) rfl ?_
  refine tk_cV1  rfl rfl (r := a2) (as := []) (rest := [.ref 34, .long o1.1, .ref 34]) rfl ha2 rfl rfl (ok_fN_p sc a2 o1.2 ha2) ?_
  refine tk_Ps  1 (pc' := 19) (ls' := [(0, .ref 34), (1, .ref a1), (2, .ref a2)]) (st' := [.ref a1, .long (fN_p a2 o1.2), .ref 34, .long o1.1, .ref 34]) rfl ?_
  refine tk_cV1  rfl rfl (r := a1) (as := []) (rest := [.long (fN_p a2 o1.2), .ref 34, .long o1.1, .ref 34]) rfl ha1 rfl rfl (ok_fN_m sc a1 o1.2 ha1) ?_
  obtain ⟨o2, ho2, h⟩ := tk_bnd h
  refine tk_cV1  rfl rfl (r := 34) (as := [.long (fN_p a2 o1.2), .long (fN_m a1 o1.2)]) (rest := [.long o1.1, .ref 34]) rfl ly34 rfl rfl (ok_fK_times sc (fN_p a2 o1.2) (fN_m a1 o1.2) o1.2 ho2) ?_
  obtain ⟨o3, ho3, h⟩ := tk_lete h
  refine tk_cV1  rfl rfl (r := 34) (as := [.long o1.1, .long o2.1]) (rest := []) rfl ly34 rfl rfl (ok_fK_minus sc o1.1 o2.1 o2.2 ho3) ?_
  refine tk_Ps  4 (pc' := 32) (ls' := [(3, .long o3.1), (0, .ref 34), (1, .ref a1), (2, .ref a2)]) (st' := [.ref a1, .ref 34, .ref 34]) rfl ?_
  refine tk_cV1  rfl rfl (r := a1) (as := []) (rest := [.ref 34, .ref 34]) rfl ha1 rfl rfl (ok_fN_q sc a1 o3.2 ha1) ?_
  refine tk_Ps  1 (pc' := 36) (ls' := [(3, .long o3.1), (0, .ref 34), (1, .ref a1), (2, .ref a2)]) (st' := [.ref a2, .long (fN_q a1 o3.2), .ref 34, .ref 34]) rfl ?_
  refine tk_cV1  rfl rfl (r := a2) (as := []) (rest := [.long (fN_q a1 o3.2), .ref 34, .ref 34]) rfl ha2 rfl rfl (ok_fN_m sc a2 o3.2 ha2) ?_
  obtain ⟨o4, ho4, h⟩ := tk_bnd h
  refine tk_cV1  rfl rfl (r := 34) (as := [.long (fN_q a1 o3.2), .long (fN_m a2 o3.2)]) (rest := [.ref 34]) rfl ly34 rfl rfl (ok_fK_times sc (fN_q a1 o3.2) (fN_m a2 o3.2) o3.2 ho4) ?_
  refine tk_Ps  2 (pc' := 44) (ls' := [(3, .long o3.1), (0, .ref 34), (1, .ref a1), (2, .ref a2)]) (st' := [.ref a2, .ref 34, .long o4.1, .ref 34]) rfl ?_
  refine tk_cV1  rfl rfl (r := a2) (as := []) (rest := [.ref 34, .long o4.1, .ref 34]) rfl ha2 rfl rfl (ok_fN_q sc a2 o4.2 ha2) ?_
  refine tk_Ps  1 (pc' := 48) (ls' := [(3, .long o3.1), (0, .ref 34), (1, .ref a1), (2, .ref a2)]) (st' := [.ref a1, .long (fN_q a2 o4.2), .ref 34, .long o4.1, .ref 34]) rfl ?_
  refine tk_cV1  rfl rfl (r := a1) (as := []) (rest := [.long (fN_q a2 o4.2), .ref 34, .long o4.1, .ref 34]) rfl ha1 rfl rfl (ok_fN_m sc a1 o4.2 ha1) ?_
  obtain ⟨o5, ho5, h⟩ := tk_bnd h
  refine tk_cV1  rfl rfl (r := 34) (as := [.long (fN_q a2 o4.2), .long (fN_m a1 o4.2)]) (rest := [.long o4.1, .ref 34]) rfl ly34 rfl rfl (ok_fK_times sc (fN_q a2 o4.2) (fN_m a1 o4.2) o4.2 ho5) ?_
  obtain ⟨o6, ho6, h⟩ := tk_lete h
  refine tk_cV1  rfl rfl (r := 34) (as := [.long o4.1, .long o5.1]) (rest := []) rfl ly34 rfl rfl (ok_fK_minus sc o4.1 o5.1 o5.2 ho6) ?_
  refine tk_Ps  6 (pc' := 65) (ls' := [(5, .long o6.1), (3, .long o3.1), (0, .ref 34), (1, .ref a1), (2, .ref a2)]) (st' := [.ref a2, .ref a1, .long o6.1, .long o3.1, .ref 34]) rfl ?_
  refine tk_cS1  rfl rfl (as := [.ref a1, .ref a2]) (rest := [.long o6.1, .long o3.1, .ref 34]) rfl rfl rfl (ok_fK_rootOfBoth sc a1 a2 o6.2 ha1 ha2) ?_
  refine tk_Ps  2 (pc' := 70) (ls' := [(5, .long o6.1), (3, .long o3.1), (0, .ref 34), (1, .ref a1), (2, .ref a2)]) (st' := [.ref a1, .ref 34, .long (fK_rootOfBoth a1 a2 o6.2), .long o6.1, .long o3.1, .ref 34]) rfl ?_
  refine tk_cV1  rfl rfl (r := a1) (as := []) (rest := [.ref 34, .long (fK_rootOfBoth a1 a2 o6.2), .long o6.1, .long o3.1, .ref 34]) rfl ha1 rfl rfl (ok_fN_m sc a1 o6.2 ha1) ?_
  refine tk_Ps  1 (pc' := 74) (ls' := [(5, .long o6.1), (3, .long o3.1), (0, .ref 34), (1, .ref a1), (2, .ref a2)]) (st' := [.ref a2, .long (fN_m a1 o6.2), .ref 34, .long (fK_rootOfBoth a1 a2 o6.2), .long o6.1, .long o3.1, .ref 34]) rfl ?_
  refine tk_cV1  rfl rfl (r := a2) (as := []) (rest := [.long (fN_m a1 o6.2), .ref 34, .long (fK_rootOfBoth a1 a2 o6.2), .long o6.1, .long o3.1, .ref 34]) rfl ha2 rfl rfl (ok_fN_m sc a2 o6.2 ha2) ?_
  obtain ⟨o7, ho7, h⟩ := tk_bnd h
  refine tk_cV1  rfl rfl (r := 34) (as := [.long (fN_m a1 o6.2), .long (fN_m a2 o6.2)]) (rest := [.long (fK_rootOfBoth a1 a2 o6.2), .long o6.1, .long o3.1, .ref 34]) rfl ly34 rfl rfl (ok_fK_times sc (fN_m a1 o6.2) (fN_m a2 o6.2) o6.2 ho7) ?_
  obtain ⟨o8, ho8, h⟩ := tk_bnd h
  refine tk_cV1  rfl rfl (r := 34) (as := [.long o3.1, .long o6.1, .long (fK_rootOfBoth a1 a2 o6.2), .long o7.1]) (rest := []) rfl ly34 rfl rfl (ok_fK_conclude sc o3.1 o6.1 (fK_rootOfBoth a1 a2 o6.2) o7.1 o7.2 ho8) ?_
  replace h := Option.some.inj h
  subst h
  exact tk_RB (b := o8.1)  rfl rfl rfl
theorem ok_fK_multiply (sc : tk_X) (a1 : Nat) (a2 : Nat) (m : tk_m) (ha1 : tk_lay[a1]? = some (.inl 4)) (ha2 : tk_lay[a2]? = some (.inl 4)) {out : Bool × tk_m} (h : fK_multiply a1 a2 m = some out) : tk_Ru sc 5 154 [.ref 34, .ref a1, .ref a2] (tk_full m) (some (.int (tk_b out.1)), tk_full out.2) := by
  unfold fK_multiply at h
  refine tk_Ru0 me154 (ls := [(0, .ref 34), (1, .ref a1), (2, .ref a2)]) rfl rfl ?_
  refine tk_Ps  2 (pc' := 2) (ls' := [(0, .ref 34), (1, .ref a1), (2, .ref a2)]) (st' := [.ref a2, .ref a1]) rfl ?_
  refine tk_cS1  rfl rfl (as := [.ref a1, .ref a2]) (rest := []) rfl rfl rfl (ok_fK_rootOfBoth sc a1 a2 m ha1 ha2) ?_
  refine tk_Ps  4 (pc' := 9) (ls' := [(3, .long (fK_rootOfBoth a1 a2 m)), (0, .ref 34), (1, .ref a1), (2, .ref a2)]) (st' := [.ref a1, .ref 34, .ref 34]) rfl ?_
  refine tk_cV1  rfl rfl (r := a1) (as := []) (rest := [.ref 34, .ref 34]) rfl ha1 rfl rfl (ok_fN_p sc a1 m ha1) ?_
  refine tk_Ps  1 (pc' := 13) (ls' := [(3, .long (fK_rootOfBoth a1 a2 m)), (0, .ref 34), (1, .ref a1), (2, .ref a2)]) (st' := [.ref a2, .long (fN_p a1 m), .ref 34, .ref 34]) rfl ?_
  refine tk_cV1  rfl rfl (r := a2) (as := []) (rest := [.long (fN_p a1 m), .ref 34, .ref 34]) rfl ha2 rfl rfl (ok_fN_p sc a2 m ha2) ?_
  obtain ⟨o1, ho1, h⟩ := tk_bnd h
  refine tk_cV1  rfl rfl (r := 34) (as := [.long (fN_p a1 m), .long (fN_p a2 m)]) (rest := [.ref 34]) rfl ly34 rfl rfl (ok_fK_times sc (fN_p a1 m) (fN_p a2 m) m ho1) ?_
  refine tk_Ps  3 (pc' := 22) (ls' := [(3, .long (fK_rootOfBoth a1 a2 m)), (0, .ref 34), (1, .ref a1), (2, .ref a2)]) (st' := [.ref a1, .ref 34, .ref 34, .long o1.1, .ref 34]) rfl ?_
  refine tk_cV1  rfl rfl (r := a1) (as := []) (rest := [.ref 34, .ref 34, .long o1.1, .ref 34]) rfl ha1 rfl rfl (ok_fN_q sc a1 o1.2 ha1) ?_
  refine tk_Ps  1 (pc' := 26) (ls' := [(3, .long (fK_rootOfBoth a1 a2 m)), (0, .ref 34), (1, .ref a1), (2, .ref a2)]) (st' := [.ref a2, .long (fN_q a1 o1.2), .ref 34, .ref 34, .long o1.1, .ref 34]) rfl ?_
  refine tk_cV1  rfl rfl (r := a2) (as := []) (rest := [.long (fN_q a1 o1.2), .ref 34, .ref 34, .long o1.1, .ref 34]) rfl ha2 rfl rfl (ok_fN_q sc a2 o1.2 ha2) ?_
  obtain ⟨o2, ho2, h⟩ := tk_bnd h
  refine tk_cV1  rfl rfl (r := 34) (as := [.long (fN_q a1 o1.2), .long (fN_q a2 o1.2)]) (rest := [.ref 34, .long o1.1, .ref 34]) rfl ly34 rfl rfl (ok_fK_times sc (fN_q a1 o1.2) (fN_q a2 o1.2) o1.2 ho2) ?_
  refine tk_Ps  1 (pc' := 33) (ls' := [(3, .long (fK_rootOfBoth a1 a2 m)), (0, .ref 34), (1, .ref a1), (2, .ref a2)]) (st' := [.long (fK_rootOfBoth a1 a2 m), .long o2.1, .ref 34, .long o1.1, .ref 34]) rfl ?_
  obtain ⟨o3, ho3, h⟩ := tk_bnd h
  refine tk_cV1  rfl rfl (r := 34) (as := [.long o2.1, .long (fK_rootOfBoth a1 a2 m)]) (rest := [.long o1.1, .ref 34]) rfl ly34 rfl rfl (ok_fK_times sc o2.1 (fK_rootOfBoth a1 a2 m) o2.2 ho3) ?_
  obtain ⟨o4, ho4, h⟩ := tk_lete h
  refine tk_cV1  rfl rfl (r := 34) (as := [.long o1.1, .long o3.1]) (rest := []) rfl ly34 rfl rfl (ok_fK_plus sc o1.1 o3.1 o3.2 ho4) ?_
  refine tk_Ps  4 (pc' := 44) (ls' := [(5, .long o4.1), (3, .long (fK_rootOfBoth a1 a2 m)), (0, .ref 34), (1, .ref a1), (2, .ref a2)]) (st' := [.ref a1, .ref 34, .ref 34]) rfl ?_
  refine tk_cV1  rfl rfl (r := a1) (as := []) (rest := [.ref 34, .ref 34]) rfl ha1 rfl rfl (ok_fN_p sc a1 o4.2 ha1) ?_
  refine tk_Ps  1 (pc' := 48) (ls' := [(5, .long o4.1), (3, .long (fK_rootOfBoth a1 a2 m)), (0, .ref 34), (1, .ref a1), (2, .ref a2)]) (st' := [.ref a2, .long (fN_p a1 o4.2), .ref 34, .ref 34]) rfl ?_
  refine tk_cV1  rfl rfl (r := a2) (as := []) (rest := [.long (fN_p a1 o4.2), .ref 34, .ref 34]) rfl ha2 rfl rfl (ok_fN_q sc a2 o4.2 ha2) ?_
  obtain ⟨o5, ho5, h⟩ := tk_bnd h
  refine tk_cV1  rfl rfl (r := 34) (as := [.long (fN_p a1 o4.2), .long (fN_q a2 o4.2)]) (rest := [.ref 34]) rfl ly34 rfl rfl (ok_fK_times sc (fN_p a1 o4.2) (fN_q a2 o4.2) o4.2 ho5) ?_
  refine tk_Ps  2 (pc' := 56) (ls' := [(5, .long o4.1), (3, .long (fK_rootOfBoth a1 a2 m)), (0, .ref 34), (1, .ref a1), (2, .ref a2)]) (st' := [.ref a1, .ref 34, .long o5.1, .ref 34]) rfl ?_
  refine tk_cV1  rfl rfl (r := a1) (as := []) (rest := [.ref 34, .long o5.1, .ref 34]) rfl ha1 rfl rfl (ok_fN_q sc a1 o5.2 ha1) ?_
  refine tk_Ps  1 (pc' := 60) (ls' := [(5, .long o4.1), (3, .long (fK_rootOfBoth a1 a2 m)), (0, .ref 34), (1, .ref a1), (2, .ref a2)]) (st' := [.ref a2, .long (fN_q a1 o5.2), .ref 34, .long o5.1, .ref 34]) rfl ?_
  refine tk_cV1  rfl rfl (r := a2) (as := []) (rest := [.long (fN_q a1 o5.2), .ref 34, .long o5.1, .ref 34]) rfl ha2 rfl rfl (ok_fN_p sc a2 o5.2 ha2) ?_
  obtain ⟨o6, ho6, h⟩ := tk_bnd h
  refine tk_cV1  rfl rfl (r := 34) (as := [.long (fN_q a1 o5.2), .long (fN_p a2 o5.2)]) (rest := [.long o5.1, .ref 34]) rfl ly34 rfl rfl (ok_fK_times sc (fN_q a1 o5.2) (fN_p a2 o5.2) o5.2 ho6) ?_
  obtain ⟨o7, ho7, h⟩ := tk_lete h
  refine tk_cV1  rfl rfl (r := 34) (as := [.long o5.1, .long o6.1]) (rest := []) rfl ly34 rfl rfl (ok_fK_plus sc o5.1 o6.1 o6.2 ho7) ?_
  refine tk_Ps  7 (pc' := 79) (ls' := [(7, .long o7.1), (5, .long o4.1), (3, .long (fK_rootOfBoth a1 a2 m)), (0, .ref 34), (1, .ref a1), (2, .ref a2)]) (st' := [.ref a1, .ref 34, .long (fK_rootOfBoth a1 a2 m), .long o7.1, .long o4.1, .ref 34]) rfl ?_
  refine tk_cV1  rfl rfl (r := a1) (as := []) (rest := [.ref 34, .long (fK_rootOfBoth a1 a2 m), .long o7.1, .long o4.1, .ref 34]) rfl ha1 rfl rfl (ok_fN_m sc a1 o7.2 ha1) ?_
  refine tk_Ps  1 (pc' := 83) (ls' := [(7, .long o7.1), (5, .long o4.1), (3, .long (fK_rootOfBoth a1 a2 m)), (0, .ref 34), (1, .ref a1), (2, .ref a2)]) (st' := [.ref a2, .long (fN_m a1 o7.2), .ref 34, .long (fK_rootOfBoth a1 a2 m), .long o7.1, .long o4.1, .ref 34]) rfl ?_
  refine tk_cV1  rfl rfl (r := a2) (as := []) (rest := [.long (fN_m a1 o7.2), .ref 34, .long (fK_rootOfBoth a1 a2 m), .long o7.1, .long o4.1, .ref 34]) rfl ha2 rfl rfl (ok_fN_m sc a2 o7.2 ha2) ?_
  obtain ⟨o8, ho8, h⟩ := tk_bnd h
  refine tk_cV1  rfl rfl (r := 34) (as := [.long (fN_m a1 o7.2), .long (fN_m a2 o7.2)]) (rest := [.long (fK_rootOfBoth a1 a2 m), .long o7.1, .long o4.1, .ref 34]) rfl ly34 rfl rfl (ok_fK_times sc (fN_m a1 o7.2) (fN_m a2 o7.2) o7.2 ho8) ?_
  obtain ⟨o9, ho9, h⟩ := tk_bnd h
  refine tk_cV1  rfl rfl (r := 34) (as := [.long o4.1, .long o7.1, .long (fK_rootOfBoth a1 a2 m), .long o8.1]) (rest := []) rfl ly34 rfl rfl (ok_fK_conclude sc o4.1 o7.1 (fK_rootOfBoth a1 a2 m) o8.1 o8.2 ho9) ?_
  replace h := Option.some.inj h
  subst h
  exact tk_RB (b := o9.1)  rfl rfl rfl
theorem ok_fK_divide (sc : tk_X) (a1 : Nat) (a2 : Nat) (m : tk_m) (ha1 : tk_lay[a1]? = some (.inl 4)) (ha2 : tk_lay[a2]? = some (.inl 4)) {out : Bool × tk_m} (h : fK_divide a1 a2 m = some out) : tk_Ru sc 5 155 [.ref 34, .ref a1, .ref a2] (tk_full m) (some (.int (tk_b out.1)), tk_full out.2) := by
  unfold fK_divide at h
  refine tk_Ru0 me155 (ls := [(0, .ref 34), (1, .ref a1), (2, .ref a2)]) rfl rfl ?_
  refine tk_Ps  2 (pc' := 2) (ls' := [(0, .ref 34), (1, .ref a1), (2, .ref a2)]) (st' := [.ref a2, .ref a1]) rfl ?_
  refine tk_cS1  rfl rfl (as := [.ref a1, .ref a2]) (rest := []) rfl rfl rfl (ok_fK_rootOfBoth sc a1 a2 m ha1 ha2) ?_
  refine tk_Ps  5 (pc' := 10) (ls' := [(3, .long (fK_rootOfBoth a1 a2 m)), (0, .ref 34), (1, .ref a1), (2, .ref a2)]) (st' := [.ref a1, .ref 34, .ref 34, .ref 34]) rfl ?_
  refine tk_cV1  rfl rfl (r := a1) (as := []) (rest := [.ref 34, .ref 34, .ref 34]) rfl ha1 rfl rfl (ok_fN_p sc a1 m ha1) ?_
  refine tk_Ps  1 (pc' := 14) (ls' := [(3, .long (fK_rootOfBoth a1 a2 m)), (0, .ref 34), (1, .ref a1), (2, .ref a2)]) (st' := [.ref a2, .long (fN_p a1 m), .ref 34, .ref 34, .ref 34]) rfl ?_
  refine tk_cV1  rfl rfl (r := a2) (as := []) (rest := [.long (fN_p a1 m), .ref 34, .ref 34, .ref 34]) rfl ha2 rfl rfl (ok_fN_p sc a2 m ha2) ?_
  obtain ⟨o1, ho1, h⟩ := tk_bnd h
  refine tk_cV1  rfl rfl (r := 34) (as := [.long (fN_p a1 m), .long (fN_p a2 m)]) (rest := [.ref 34, .ref 34]) rfl ly34 rfl rfl (ok_fK_times sc (fN_p a1 m) (fN_p a2 m) m ho1) ?_
  refine tk_Ps  3 (pc' := 23) (ls' := [(3, .long (fK_rootOfBoth a1 a2 m)), (0, .ref 34), (1, .ref a1), (2, .ref a2)]) (st' := [.ref a1, .ref 34, .ref 34, .long o1.1, .ref 34, .ref 34]) rfl ?_
  refine tk_cV1  rfl rfl (r := a1) (as := []) (rest := [.ref 34, .ref 34, .long o1.1, .ref 34, .ref 34]) rfl ha1 rfl rfl (ok_fN_q sc a1 o1.2 ha1) ?_
  refine tk_Ps  1 (pc' := 27) (ls' := [(3, .long (fK_rootOfBoth a1 a2 m)), (0, .ref 34), (1, .ref a1), (2, .ref a2)]) (st' := [.ref a2, .long (fN_q a1 o1.2), .ref 34, .ref 34, .long o1.1, .ref 34, .ref 34]) rfl ?_
  refine tk_cV1  rfl rfl (r := a2) (as := []) (rest := [.long (fN_q a1 o1.2), .ref 34, .ref 34, .long o1.1, .ref 34, .ref 34]) rfl ha2 rfl rfl (ok_fN_q sc a2 o1.2 ha2) ?_
  obtain ⟨o2, ho2, h⟩ := tk_bnd h
  refine tk_cV1  rfl rfl (r := 34) (as := [.long (fN_q a1 o1.2), .long (fN_q a2 o1.2)]) (rest := [.ref 34, .long o1.1, .ref 34, .ref 34]) rfl ly34 rfl rfl (ok_fK_times sc (fN_q a1 o1.2) (fN_q a2 o1.2) o1.2 ho2) ?_
  refine tk_Ps  1 (pc' := 34) (ls' := [(3, .long (fK_rootOfBoth a1 a2 m)), (0, .ref 34), (1, .ref a1), (2, .ref a2)]) (st' := [.long (fK_rootOfBoth a1 a2 m), .long o2.1, .ref 34, .long o1.1, .ref 34, .ref 34]) rfl ?_
  obtain ⟨o3, ho3, h⟩ := tk_bnd h
  refine tk_cV1  rfl rfl (r := 34) (as := [.long o2.1, .long (fK_rootOfBoth a1 a2 m)]) (rest := [.long o1.1, .ref 34, .ref 34]) rfl ly34 rfl rfl (ok_fK_times sc o2.1 (fK_rootOfBoth a1 a2 m) o2.2 ho3) ?_
  obtain ⟨o4, ho4, h⟩ := tk_lete h
  refine tk_cV1  rfl rfl (r := 34) (as := [.long o1.1, .long o3.1]) (rest := [.ref 34]) rfl ly34 rfl rfl (ok_fK_minus sc o1.1 o3.1 o3.2 ho4) ?_
  refine tk_Ps  1 (pc' := 41) (ls' := [(3, .long (fK_rootOfBoth a1 a2 m)), (0, .ref 34), (1, .ref a1), (2, .ref a2)]) (st' := [.ref a2, .long o4.1, .ref 34]) rfl ?_
  refine tk_cV1  rfl rfl (r := a2) (as := []) (rest := [.long o4.1, .ref 34]) rfl ha2 rfl rfl (ok_fN_m sc a2 o4.2 ha2) ?_
  obtain ⟨o5, ho5, h⟩ := tk_bnd h
  refine tk_cV1  rfl rfl (r := 34) (as := [.long o4.1, .long (fN_m a2 o4.2)]) (rest := []) rfl ly34 rfl rfl (ok_fK_times sc o4.1 (fN_m a2 o4.2) o4.2 ho5) ?_
  refine tk_Ps  5 (pc' := 53) (ls' := [(5, .long o5.1), (3, .long (fK_rootOfBoth a1 a2 m)), (0, .ref 34), (1, .ref a1), (2, .ref a2)]) (st' := [.ref a1, .ref 34, .ref 34, .ref 34]) rfl ?_
  refine tk_cV1  rfl rfl (r := a1) (as := []) (rest := [.ref 34, .ref 34, .ref 34]) rfl ha1 rfl rfl (ok_fN_q sc a1 o5.2 ha1) ?_
  refine tk_Ps  1 (pc' := 57) (ls' := [(5, .long o5.1), (3, .long (fK_rootOfBoth a1 a2 m)), (0, .ref 34), (1, .ref a1), (2, .ref a2)]) (st' := [.ref a2, .long (fN_q a1 o5.2), .ref 34, .ref 34, .ref 34]) rfl ?_
  refine tk_cV1  rfl rfl (r := a2) (as := []) (rest := [.long (fN_q a1 o5.2), .ref 34, .ref 34, .ref 34]) rfl ha2 rfl rfl (ok_fN_p sc a2 o5.2 ha2) ?_
  obtain ⟨o6, ho6, h⟩ := tk_bnd h
  refine tk_cV1  rfl rfl (r := 34) (as := [.long (fN_q a1 o5.2), .long (fN_p a2 o5.2)]) (rest := [.ref 34, .ref 34]) rfl ly34 rfl rfl (ok_fK_times sc (fN_q a1 o5.2) (fN_p a2 o5.2) o5.2 ho6) ?_
  refine tk_Ps  2 (pc' := 65) (ls' := [(5, .long o5.1), (3, .long (fK_rootOfBoth a1 a2 m)), (0, .ref 34), (1, .ref a1), (2, .ref a2)]) (st' := [.ref a1, .ref 34, .long o6.1, .ref 34, .ref 34]) rfl ?_
  refine tk_cV1  rfl rfl (r := a1) (as := []) (rest := [.ref 34, .long o6.1, .ref 34, .ref 34]) rfl ha1 rfl rfl (ok_fN_p sc a1 o6.2 ha1) ?_
  refine tk_Ps  1 (pc' := 69) (ls' := [(5, .long o5.1), (3, .long (fK_rootOfBoth a1 a2 m)), (0, .ref 34), (1, .ref a1), (2, .ref a2)]) (st' := [.ref a2, .long (fN_p a1 o6.2), .ref 34, .long o6.1, .ref 34, .ref 34]) rfl ?_
  refine tk_cV1  rfl rfl (r := a2) (as := []) (rest := [.long (fN_p a1 o6.2), .ref 34, .long o6.1, .ref 34, .ref 34]) rfl ha2 rfl rfl (ok_fN_q sc a2 o6.2 ha2) ?_
  obtain ⟨o7, ho7, h⟩ := tk_bnd h
  refine tk_cV1  rfl rfl (r := 34) (as := [.long (fN_p a1 o6.2), .long (fN_q a2 o6.2)]) (rest := [.long o6.1, .ref 34, .ref 34]) rfl ly34 rfl rfl (ok_fK_times sc (fN_p a1 o6.2) (fN_q a2 o6.2) o6.2 ho7) ?_
  obtain ⟨o8, ho8, h⟩ := tk_lete h
  refine tk_cV1  rfl rfl (r := 34) (as := [.long o6.1, .long o7.1]) (rest := [.ref 34]) rfl ly34 rfl rfl (ok_fK_minus sc o6.1 o7.1 o7.2 ho8) ?_
  refine tk_Ps  1 (pc' := 79) (ls' := [(5, .long o5.1), (3, .long (fK_rootOfBoth a1 a2 m)), (0, .ref 34), (1, .ref a1), (2, .ref a2)]) (st' := [.ref a2, .long o8.1, .ref 34]) rfl ?_
  refine tk_cV1  rfl rfl (r := a2) (as := []) (rest := [.long o8.1, .ref 34]) rfl ha2 rfl rfl (ok_fN_m sc a2 o8.2 ha2) ?_
  obtain ⟨o9, ho9, h⟩ := tk_bnd h
  refine tk_cV1  rfl rfl (r := 34) (as := [.long o8.1, .long (fN_m a2 o8.2)]) (rest := []) rfl ly34 rfl rfl (ok_fK_times sc o8.1 (fN_m a2 o8.2) o8.2 ho9) ?_
  refine tk_Ps  4 (pc' := 90) (ls' := [(7, .long o9.1), (5, .long o5.1), (3, .long (fK_rootOfBoth a1 a2 m)), (0, .ref 34), (1, .ref a1), (2, .ref a2)]) (st' := [.ref a2, .ref 34, .ref 34]) rfl ?_
  refine tk_cV1  rfl rfl (r := a2) (as := []) (rest := [.ref 34, .ref 34]) rfl ha2 rfl rfl (ok_fN_p sc a2 o9.2 ha2) ?_
  refine tk_Ps  1 (pc' := 94) (ls' := [(7, .long o9.1), (5, .long o5.1), (3, .long (fK_rootOfBoth a1 a2 m)), (0, .ref 34), (1, .ref a1), (2, .ref a2)]) (st' := [.ref a2, .long (fN_p a2 o9.2), .ref 34, .ref 34]) rfl ?_
  refine tk_cV1  rfl rfl (r := a2) (as := []) (rest := [.long (fN_p a2 o9.2), .ref 34, .ref 34]) rfl ha2 rfl rfl (ok_fN_p sc a2 o9.2 ha2) ?_
  obtain ⟨o10, ho10, h⟩ := tk_bnd h
  refine tk_cV1  rfl rfl (r := 34) (as := [.long (fN_p a2 o9.2), .long (fN_p a2 o9.2)]) (rest := [.ref 34]) rfl ly34 rfl rfl (ok_fK_times sc (fN_p a2 o9.2) (fN_p a2 o9.2) o9.2 ho10) ?_
  refine tk_Ps  3 (pc' := 103) (ls' := [(7, .long o9.1), (5, .long o5.1), (3, .long (fK_rootOfBoth a1 a2 m)), (0, .ref 34), (1, .ref a1), (2, .ref a2)]) (st' := [.ref a2, .ref 34, .ref 34, .long o10.1, .ref 34]) rfl ?_
  refine tk_cV1  rfl rfl (r := a2) (as := []) (rest := [.ref 34, .ref 34, .long o10.1, .ref 34]) rfl ha2 rfl rfl (ok_fN_q sc a2 o10.2 ha2) ?_
  refine tk_Ps  1 (pc' := 107) (ls' := [(7, .long o9.1), (5, .long o5.1), (3, .long (fK_rootOfBoth a1 a2 m)), (0, .ref 34), (1, .ref a1), (2, .ref a2)]) (st' := [.ref a2, .long (fN_q a2 o10.2), .ref 34, .ref 34, .long o10.1, .ref 34]) rfl ?_
  refine tk_cV1  rfl rfl (r := a2) (as := []) (rest := [.long (fN_q a2 o10.2), .ref 34, .ref 34, .long o10.1, .ref 34]) rfl ha2 rfl rfl (ok_fN_q sc a2 o10.2 ha2) ?_
  obtain ⟨o11, ho11, h⟩ := tk_bnd h
  refine tk_cV1  rfl rfl (r := 34) (as := [.long (fN_q a2 o10.2), .long (fN_q a2 o10.2)]) (rest := [.ref 34, .long o10.1, .ref 34]) rfl ly34 rfl rfl (ok_fK_times sc (fN_q a2 o10.2) (fN_q a2 o10.2) o10.2 ho11) ?_
  refine tk_Ps  1 (pc' := 114) (ls' := [(7, .long o9.1), (5, .long o5.1), (3, .long (fK_rootOfBoth a1 a2 m)), (0, .ref 34), (1, .ref a1), (2, .ref a2)]) (st' := [.long (fK_rootOfBoth a1 a2 m), .long o11.1, .ref 34, .long o10.1, .ref 34]) rfl ?_
  obtain ⟨o12, ho12, h⟩ := tk_bnd h
  refine tk_cV1  rfl rfl (r := 34) (as := [.long o11.1, .long (fK_rootOfBoth a1 a2 m)]) (rest := [.long o10.1, .ref 34]) rfl ly34 rfl rfl (ok_fK_times sc o11.1 (fK_rootOfBoth a1 a2 m) o11.2 ho12) ?_
  obtain ⟨o13, ho13, h⟩ := tk_lete h
  refine tk_cV1  rfl rfl (r := 34) (as := [.long o10.1, .long o12.1]) (rest := []) rfl ly34 rfl rfl (ok_fK_minus sc o10.1 o12.1 o12.2 ho13) ?_
  refine tk_Ps  7 (pc' := 130) (ls' := [(9, .long o13.1), (7, .long o9.1), (5, .long o5.1), (3, .long (fK_rootOfBoth a1 a2 m)), (0, .ref 34), (1, .ref a1), (2, .ref a2)]) (st' := [.ref a1, .ref 34, .long (fK_rootOfBoth a1 a2 m), .long o9.1, .long o5.1, .ref 34]) rfl ?_
  refine tk_cV1  rfl rfl (r := a1) (as := []) (rest := [.ref 34, .long (fK_rootOfBoth a1 a2 m), .long o9.1, .long o5.1, .ref 34]) rfl ha1 rfl rfl (ok_fN_m sc a1 o13.2 ha1) ?_
  refine tk_Ps  1 (pc' := 135) (ls' := [(9, .long o13.1), (7, .long o9.1), (5, .long o5.1), (3, .long (fK_rootOfBoth a1 a2 m)), (0, .ref 34), (1, .ref a1), (2, .ref a2)]) (st' := [.long o13.1, .long (fN_m a1 o13.2), .ref 34, .long (fK_rootOfBoth a1 a2 m), .long o9.1, .long o5.1, .ref 34]) rfl ?_
  obtain ⟨o14, ho14, h⟩ := tk_bnd h
  refine tk_cV1  rfl rfl (r := 34) (as := [.long (fN_m a1 o13.2), .long o13.1]) (rest := [.long (fK_rootOfBoth a1 a2 m), .long o9.1, .long o5.1, .ref 34]) rfl ly34 rfl rfl (ok_fK_times sc (fN_m a1 o13.2) o13.1 o13.2 ho14) ?_
  obtain ⟨o15, ho15, h⟩ := tk_bnd h
  refine tk_cV1  rfl rfl (r := 34) (as := [.long o5.1, .long o9.1, .long (fK_rootOfBoth a1 a2 m), .long o14.1]) (rest := []) rfl ly34 rfl rfl (ok_fK_conclude sc o5.1 o9.1 (fK_rootOfBoth a1 a2 m) o14.1 o14.2 ho15) ?_
  replace h := Option.some.inj h
  subst h
  exact tk_RB (b := o15.1)  rfl rfl rfl
theorem ok_fK_workOut (sc : tk_X) (a1 : Nat) (a2 : Nat) (a3 : Int32) (m : tk_m) (ha1 : tk_lay[a1]? = some (.inl 4)) (ha2 : tk_lay[a2]? = some (.inl 4)) {out : Bool × tk_m} (h : fK_workOut a1 a2 a3 m = some out) : tk_Ru sc 6 149 [.ref 34, .ref a1, .ref a2, .int a3] (tk_full m) (some (.int (tk_b out.1)), tk_full out.2) := by
  unfold fK_workOut at h
  refine tk_Ru0 me149 (ls := [(0, .ref 34), (1, .ref a1), (2, .ref a2), (3, .int a3)]) rfl rfl ?_
  refine tk_Ps  2 (pc' := 2) (ls' := [(0, .ref 34), (1, .ref a1), (2, .ref a2), (3, .int a3)]) (st' := [.int (0 : Int32), .ref 34]) rfl ?_
  refine tk_SB (b := false)  rfl rfl ly34 ?_
  refine tk_Ps  1 (pc' := 6) (ls' := [(0, .ref 34), (1, .ref a1), (2, .ref a2), (3, .int a3)]) (st' := [.int a3]) rfl ?_
  by_cases hs1 : a3 = 0
  · replace h := tk_ifT hs1 h
    refine tk_sw  rfl rfl hs1 rfl (pc' := 32) (ls' := [(0, .ref 34), (1, .ref a1), (2, .ref a2), (3, .int a3)]) (st' := []) ?_
    refine tk_Ps  3 (pc' := 35) (ls' := [(0, .ref 34), (1, .ref a1), (2, .ref a2), (3, .int a3)]) (st' := [.ref a2, .ref a1, .ref 34]) rfl ?_
    obtain ⟨o2, ho2, h⟩ := tk_bnd h
    refine tk_cV1  rfl rfl (r := 34) (as := [.ref a1, .ref a2]) (rest := []) rfl ly34 rfl rfl (ok_fK_addUp sc a1 a2 (m.1, m.2.1, tk_u2 m.2.2.1 34 0 false, m.2.2.2) ha1 ha2 ho2) ?_
    replace h := Option.some.inj h
    subst h
    exact tk_RB (b := o2.1)  rfl rfl rfl
  replace h := tk_ifF hs1 h
  by_cases hs3 : a3 = 1
  · replace h := tk_ifT hs3 h
    refine tk_sw  rfl rfl hs3 rfl (pc' := 39) (ls' := [(0, .ref 34), (1, .ref a1), (2, .ref a2), (3, .int a3)]) (st' := []) ?_
    refine tk_Ps  3 (pc' := 42) (ls' := [(0, .ref 34), (1, .ref a1), (2, .ref a2), (3, .int a3)]) (st' := [.ref a2, .ref a1, .ref 34]) rfl ?_
    obtain ⟨o4, ho4, h⟩ := tk_bnd h
    refine tk_cV1  rfl rfl (r := 34) (as := [.ref a1, .ref a2]) (rest := []) rfl ly34 rfl rfl (ok_fK_takeOff sc a1 a2 (m.1, m.2.1, tk_u2 m.2.2.1 34 0 false, m.2.2.2) ha1 ha2 ho4) ?_
    replace h := Option.some.inj h
    subst h
    exact tk_RB (b := o4.1)  rfl rfl rfl
  replace h := tk_ifF hs3 h
  by_cases hs5 : a3 = 2
  · replace h := tk_ifT hs5 h
    refine tk_sw  rfl rfl hs5 rfl (pc' := 46) (ls' := [(0, .ref 34), (1, .ref a1), (2, .ref a2), (3, .int a3)]) (st' := []) ?_
    refine tk_Ps  3 (pc' := 49) (ls' := [(0, .ref 34), (1, .ref a1), (2, .ref a2), (3, .int a3)]) (st' := [.ref a2, .ref a1, .ref 34]) rfl ?_
    obtain ⟨o6, ho6, h⟩ := tk_bnd h
    refine tk_cV1  rfl rfl (r := 34) (as := [.ref a1, .ref a2]) (rest := []) rfl ly34 rfl rfl (ok_fK_multiply sc a1 a2 (m.1, m.2.1, tk_u2 m.2.2.1 34 0 false, m.2.2.2) ha1 ha2 ho6) ?_
    replace h := Option.some.inj h
    subst h
    exact tk_RB (b := o6.1)  rfl rfl rfl
  replace h := tk_ifF hs5 h
  refine tk_swD  rfl rfl (tk_swo_0_2 hs1 hs3 hs5) rfl rfl (pc' := 53) (ls' := [(0, .ref 34), (1, .ref a1), (2, .ref a2), (3, .int a3)]) (st' := []) ?_
  refine tk_Ps  3 (pc' := 56) (ls' := [(0, .ref 34), (1, .ref a1), (2, .ref a2), (3, .int a3)]) (st' := [.ref a2, .ref a1, .ref 34]) rfl ?_
  obtain ⟨o7, ho7, h⟩ := tk_bnd h
  refine tk_cV1  rfl rfl (r := 34) (as := [.ref a1, .ref a2]) (rest := []) rfl ly34 rfl rfl (ok_fK_divide sc a1 a2 (m.1, m.2.1, tk_u2 m.2.2.1 34 0 false, m.2.2.2) ha1 ha2 ho7) ?_
  replace h := Option.some.inj h
  subst h
  exact tk_RB (b := o7.1)  rfl rfl rfl
theorem ok_fX_work_145 (sc : tk_X) (v1 : Int32) (v4 : Int32) (v5 : Nat) (v6 : Nat) (m : tk_m) (hv5 : tk_lay[v5]? = some (.inl 4)) (hv6 : tk_lay[v6]? = some (.inl 4)) (out : Int32 × tk_m) (h : fX_work_145 v1 v4 v5 v6 m = some out) : tk_Ex sc 6 tk_r147 tk_k147 145 [(0, .ref 0), (1, .int v1), (4, .int v4), (5, .ref v5), (6, .ref v6)] [] (tk_full m) (some (.int out.1), tk_full out.2) := by
  unfold fX_work_145 at h
  refine tk_Ps  1 (pc' := 146) (ls' := [(0, .ref 0), (1, .int v1), (4, .int v4), (5, .ref v5), (6, .ref v6)]) (st' := [.ref 0]) rfl ?_
  refine tk_HR  rfl rfl ly0 rt0_6 ?_
  refine tk_Ps  3 (pc' := 155) (ls' := [(0, .ref 0), (1, .int v1), (4, .int v4), (5, .ref v5), (6, .ref v6)]) (st' := [.int v4, .ref v6, .ref v5, .ref 34]) rfl ?_
  obtain ⟨o1, ho1, h⟩ := tk_bnd h
  refine tk_cV1  rfl rfl (r := 34) (as := [.ref v5, .ref v6, .int v4]) (rest := []) rfl ly34 rfl rfl (ok_fK_workOut sc v5 v6 v4 m hv5 hv6 ho1) ?_
  by_cases hc2 : o1.1 = true
  · replace h := tk_ifT hc2 h
    refine tk_bT  rfl rfl tk_eB_ne (c := o1.1 = true) hc2 (pc' := 168) (ls' := [(0, .ref 0), (1, .int v1), (4, .int v4), (5, .ref v5), (6, .ref v6)]) (st' := []) ?_
    refine tk_Ps  1 (pc' := 169) (ls' := [(0, .ref 0), (1, .int v1), (4, .int v4), (5, .ref v5), (6, .ref v6)]) (st' := [.ref 0]) rfl ?_
    refine tk_HR  rfl rfl ly0 rt0_3 ?_
    refine tk_Ps  1 (pc' := 173) (ls' := [(0, .ref 0), (1, .int v1), (4, .int v4), (5, .ref v5), (6, .ref v6)]) (st' := [.int v1, .ref 11]) rfl ?_
    obtain ⟨hg3, h⟩ := tk_grd h
    refine tk_HQ  rfl rfl ly11 hg3 (la11 _ (hg3).2).1 ?_
    refine tk_Ps  1 (pc' := 175) (ls' := [(0, .ref 0), (1, .int v1), (4, .int v4), (5, .ref v5), (6, .ref v6)]) (st' := [.ref 0, .ref (275 + 2 * (tk_n v1))]) rfl ?_
    refine tk_HR  rfl rfl ly0 rt0_6 ?_
    refine tk_HR  rfl rfl ly34 rt34_1 ?_
    obtain ⟨o4, ho4, h⟩ := tk_lete h
    refine tk_cV0  rfl rfl (r := (275 + 2 * (tk_n v1))) (as := [.ref 35]) (rest := []) rfl ((la11 _ (hg3).2).2) rfl rfl (ok_fN_become sc (275 + 2 * (tk_n v1)) 35 o1.2 ((la11 _ (hg3).2).2) ly35 ho4) ?_
    refine tk_Ps  1 (pc' := 185) (ls' := [(0, .ref 0), (1, .int v1), (4, .int v4), (5, .ref v5), (6, .ref v6)]) (st' := [.int (1 : Int32)]) rfl ?_
    replace h := Option.some.inj h
    subst h
    exact tk_RI  rfl rfl rfl
  · replace h := tk_ifF hc2 h
    refine tk_bF  rfl rfl tk_eB_ne (c := o1.1 = true) hc2 (pc' := 161) (ls' := [(0, .ref 0), (1, .int v1), (4, .int v4), (5, .ref v5), (6, .ref v6)]) (st' := []) ?_
    refine tk_Ps  2 (pc' := 164) (ls' := [(0, .ref 0), (1, .int v1), (4, .int v4), (5, .ref v5), (6, .ref v6)]) (st' := [.int (7 : Int32), .ref 0]) rfl ?_
    obtain ⟨o5, ho5, h⟩ := tk_bnd h
    refine tk_cV1  rfl rfl (r := 0) (as := [.int (7 : Int32)]) (rest := []) rfl ly0 rfl rfl (ok_fX_finding sc (7 : Int32) o1.2 ho5) ?_
    replace h := Option.some.inj h
    subst h
    exact tk_RI  rfl rfl rfl
theorem ok_fX_work_113 (sc : tk_X) (v1 : Int32) (v4 : Int32) (v5 : Nat) (v6 : Nat) (m : tk_m) (hv5 : tk_lay[v5]? = some (.inl 4)) (hv6 : tk_lay[v6]? = some (.inl 4)) (out : Int32 × tk_m) (h : fX_work_113 v1 v4 v5 v6 m = some out) : tk_Ex sc 6 tk_r147 tk_k147 113 [(0, .ref 0), (1, .int v1), (4, .int v4), (5, .ref v5), (6, .ref v6)] [] (tk_full m) (some (.int out.1), tk_full out.2) := by
  unfold fX_work_113 at h
  refine tk_Ps  2 (pc' := 116) (ls' := [(0, .ref 0), (1, .int v1), (4, .int v4), (5, .ref v5), (6, .ref v6)]) (st' := [.int (3 : Int32), .int v4]) rfl ?_
  by_cases hc1 : v4 = (3 : Int32)
  · replace h := tk_ifT hc1 h
    refine tk_bT  rfl rfl rfl (c := v4 = (3 : Int32)) hc1 (pc' := 119) (ls' := [(0, .ref 0), (1, .int v1), (4, .int v4), (5, .ref v5), (6, .ref v6)]) (st' := []) ?_
    refine tk_Ps  1 (pc' := 121) (ls' := [(0, .ref 0), (1, .int v1), (4, .int v4), (5, .ref v5), (6, .ref v6)]) (st' := [.ref v6]) rfl ?_
    refine tk_cV1  rfl rfl (r := v6) (as := []) (rest := []) rfl hv6 rfl rfl (ok_fN_p sc v6 m hv6) ?_
    refine tk_Ps  2 (pc' := 126) (ls' := [(0, .ref 0), (1, .int v1), (4, .int v4), (5, .ref v5), (6, .ref v6)]) (st' := [.int (lg_cmp (fN_p v6 m) (0 : Int64))]) rfl ?_
    by_cases hc2 : (fN_p v6 m) = (0 : Int64)
    · replace h := tk_ifT hc2 h
      refine tk_bT  rfl rfl tk_eL_ne (c := (fN_p v6 m) = (0 : Int64)) hc2 (pc' := 129) (ls' := [(0, .ref 0), (1, .int v1), (4, .int v4), (5, .ref v5), (6, .ref v6)]) (st' := []) ?_
      refine tk_Ps  1 (pc' := 131) (ls' := [(0, .ref 0), (1, .int v1), (4, .int v4), (5, .ref v5), (6, .ref v6)]) (st' := [.ref v6]) rfl ?_
      refine tk_cV1  rfl rfl (r := v6) (as := []) (rest := []) rfl hv6 rfl rfl (ok_fN_q sc v6 m hv6) ?_
      refine tk_Ps  2 (pc' := 136) (ls' := [(0, .ref 0), (1, .int v1), (4, .int v4), (5, .ref v5), (6, .ref v6)]) (st' := [.int (lg_cmp (fN_q v6 m) (0 : Int64))]) rfl ?_
      by_cases hc3 : (fN_q v6 m) = (0 : Int64)
      · replace h := tk_ifT hc3 h
        refine tk_bT  rfl rfl tk_eL_ne (c := (fN_q v6 m) = (0 : Int64)) hc3 (pc' := 139) (ls' := [(0, .ref 0), (1, .int v1), (4, .int v4), (5, .ref v5), (6, .ref v6)]) (st' := []) ?_
        refine tk_Ps  2 (pc' := 141) (ls' := [(0, .ref 0), (1, .int v1), (4, .int v4), (5, .ref v5), (6, .ref v6)]) (st' := [.int (4 : Int32), .ref 0]) rfl ?_
        obtain ⟨o4, ho4, h⟩ := tk_bnd h
        refine tk_cV1  rfl rfl (r := 0) (as := [.int (4 : Int32)]) (rest := []) rfl ly0 rfl rfl (ok_fX_finding sc (4 : Int32) m ho4) ?_
        replace h := Option.some.inj h
        subst h
        exact tk_RI  rfl rfl rfl
      · replace h := tk_ifF hc3 h
        refine tk_bF  rfl rfl tk_eL_ne (c := (fN_q v6 m) = (0 : Int64)) hc3 (pc' := 145) (ls' := [(0, .ref 0), (1, .int v1), (4, .int v4), (5, .ref v5), (6, .ref v6)]) (st' := []) ?_
        refine tk_Kp  (ls' := [(0, .ref 0), (1, .int v1), (4, .int v4), (5, .ref v5), (6, .ref v6)]) rfl rfl ?_
        exact ok_fX_work_145 sc v1 v4 v5 v6 m hv5 hv6 _ h
    · replace h := tk_ifF hc2 h
      refine tk_bF  rfl rfl tk_eL_ne (c := (fN_p v6 m) = (0 : Int64)) hc2 (pc' := 145) (ls' := [(0, .ref 0), (1, .int v1), (4, .int v4), (5, .ref v5), (6, .ref v6)]) (st' := []) ?_
      refine tk_Kp  (ls' := [(0, .ref 0), (1, .int v1), (4, .int v4), (5, .ref v5), (6, .ref v6)]) rfl rfl ?_
      exact ok_fX_work_145 sc v1 v4 v5 v6 m hv5 hv6 _ h
  · replace h := tk_ifF hc1 h
    refine tk_bF  rfl rfl rfl (c := v4 = (3 : Int32)) hc1 (pc' := 145) (ls' := [(0, .ref 0), (1, .int v1), (4, .int v4), (5, .ref v5), (6, .ref v6)]) (st' := []) ?_
    refine tk_Kp  (ls' := [(0, .ref 0), (1, .int v1), (4, .int v4), (5, .ref v5), (6, .ref v6)]) rfl rfl ?_
    exact ok_fX_work_145 sc v1 v4 v5 v6 m hv5 hv6 _ h
theorem ok_fX_work (sc : tk_X) (a1 : Int32) (a2 : Int32) (a3 : Int32) (a4 : Int32) (m : tk_m) {out : Int32 × tk_m} (h : fX_work a1 a2 a3 a4 m = some out) : tk_Ru sc 7 147 [.ref 0, .int a1, .int a2, .int a3, .int a4] (tk_full m) (some (.int out.1), tk_full out.2) := by
  unfold fX_work at h
  refine tk_Ru0 me147 (ls := [(0, .ref 0), (1, .int a1), (2, .int a2), (3, .int a3), (4, .int a4)]) rfl rfl ?_
  refine tk_Ps  1 (pc' := 1) (ls' := [(0, .ref 0), (1, .int a1), (2, .int a2), (3, .int a3), (4, .int a4)]) (st' := [.int a1]) rfl ?_
  refine tk_cS1  rfl rfl (as := [.int a1]) (rest := []) rfl rfl rfl (ok_fX_isSpot sc a1 m) ?_
  by_cases hc1 : (fX_isSpot a1) = true
  · replace h := tk_ifT hc1 h
    refine tk_bT  rfl rfl tk_eB_eq (c := (fX_isSpot a1) = true) hc1 (pc' := 7) (ls' := [(0, .ref 0), (1, .int a1), (2, .int a2), (3, .int a3), (4, .int a4)]) (st' := []) ?_
    refine tk_Ps  1 (pc' := 8) (ls' := [(0, .ref 0), (1, .int a1), (2, .int a2), (3, .int a3), (4, .int a4)]) (st' := [.int a2]) rfl ?_
    refine tk_cS1  rfl rfl (as := [.int a2]) (rest := []) rfl rfl rfl (ok_fX_isSpot sc a2 m) ?_
    by_cases hc2 : (fX_isSpot a2) = true
    · replace h := tk_ifT hc2 h
      refine tk_bT  rfl rfl tk_eB_eq (c := (fX_isSpot a2) = true) hc2 (pc' := 14) (ls' := [(0, .ref 0), (1, .int a1), (2, .int a2), (3, .int a3), (4, .int a4)]) (st' := []) ?_
      refine tk_Ps  1 (pc' := 15) (ls' := [(0, .ref 0), (1, .int a1), (2, .int a2), (3, .int a3), (4, .int a4)]) (st' := [.int a3]) rfl ?_
      refine tk_cS1  rfl rfl (as := [.int a3]) (rest := []) rfl rfl rfl (ok_fX_isSpot sc a3 m) ?_
      by_cases hc3 : (fX_isSpot a3) = true
      · replace h := tk_ifT hc3 h
        refine tk_bT  rfl rfl tk_eB_eq (c := (fX_isSpot a3) = true) hc3 (pc' := 21) (ls' := [(0, .ref 0), (1, .int a1), (2, .int a2), (3, .int a3), (4, .int a4)]) (st' := []) ?_
        refine tk_Ps  3 (pc' := 25) (ls' := [(0, .ref 0), (1, .int a1), (2, .int a2), (3, .int a3), (4, .int a4)]) (st' := [.int (3 : Int32), .int (0 : Int32), .int a4]) rfl ?_
        refine tk_cS1  rfl rfl (as := [.int a4, .int (0 : Int32), .int (3 : Int32)]) (rest := []) rfl rfl rfl (ok_fX_isWithin sc a4 (0 : Int32) (3 : Int32) m) ?_
        by_cases hc4 : (fX_isWithin a4 (0 : Int32) (3 : Int32)) = true
        · replace h := tk_ifT hc4 h
          refine tk_bT  rfl rfl tk_eB_ne (c := (fX_isWithin a4 (0 : Int32) (3 : Int32)) = true) hc4 (pc' := 37) (ls' := [(0, .ref 0), (1, .int a1), (2, .int a2), (3, .int a3), (4, .int a4)]) (st' := []) ?_
          refine tk_Ps  1 (pc' := 38) (ls' := [(0, .ref 0), (1, .int a1), (2, .int a2), (3, .int a3), (4, .int a4)]) (st' := [.ref 0]) rfl ?_
          refine tk_HR  rfl rfl ly0 rt0_3 ?_
          refine tk_Ps  1 (pc' := 42) (ls' := [(0, .ref 0), (1, .int a1), (2, .int a2), (3, .int a3), (4, .int a4)]) (st' := [.int a2, .ref 11]) rfl ?_
          obtain ⟨hg5, h⟩ := tk_grd h
          refine tk_HQ  rfl rfl ly11 hg5 (la11 _ (hg5).2).1 ?_
          refine tk_Ps  2 (pc' := 46) (ls' := [(5, .ref (275 + 2 * (tk_n a2))), (0, .ref 0), (1, .int a1), (2, .int a2), (3, .int a3), (4, .int a4)]) (st' := [.ref 0]) rfl ?_
          refine tk_HR  rfl rfl ly0 rt0_3 ?_
          refine tk_Ps  1 (pc' := 50) (ls' := [(5, .ref (275 + 2 * (tk_n a2))), (0, .ref 0), (1, .int a1), (2, .int a2), (3, .int a3), (4, .int a4)]) (st' := [.int a3, .ref 11]) rfl ?_
          obtain ⟨hg6, h⟩ := tk_grd h
          refine tk_HQ  rfl rfl ly11 hg6 (la11 _ (hg6).2).1 ?_
          refine tk_Ps  2 (pc' := 55) (ls' := [(6, .ref (275 + 2 * (tk_n a3))), (5, .ref (275 + 2 * (tk_n a2))), (0, .ref 0), (1, .int a1), (2, .int a2), (3, .int a3), (4, .int a4)]) (st' := [.ref (275 + 2 * (tk_n a2))]) rfl ?_
          refine tk_HB  rfl rfl ((la11 _ (hg5).2).2) ?_
          by_cases hc7 : (m.2.2.1 (275 + 2 * (tk_n a2)) 0) = true
          · replace h := tk_ifT hc7 h
            refine tk_bT  rfl rfl tk_eB_eq (c := (m.2.2.1 (275 + 2 * (tk_n a2)) 0) = true) hc7 (pc' := 61) (ls' := [(6, .ref (275 + 2 * (tk_n a3))), (5, .ref (275 + 2 * (tk_n a2))), (0, .ref 0), (1, .int a1), (2, .int a2), (3, .int a3), (4, .int a4)]) (st' := []) ?_
            refine tk_Ps  1 (pc' := 63) (ls' := [(6, .ref (275 + 2 * (tk_n a3))), (5, .ref (275 + 2 * (tk_n a2))), (0, .ref 0), (1, .int a1), (2, .int a2), (3, .int a3), (4, .int a4)]) (st' := [.ref (275 + 2 * (tk_n a3))]) rfl ?_
            refine tk_HB  rfl rfl ((la11 _ (hg6).2).2) ?_
            by_cases hc8 : (m.2.2.1 (275 + 2 * (tk_n a3)) 0) = true
            · replace h := tk_ifT hc8 h
              refine tk_bT  rfl rfl tk_eB_ne (c := (m.2.2.1 (275 + 2 * (tk_n a3)) 0) = true) hc8 (pc' := 75) (ls' := [(6, .ref (275 + 2 * (tk_n a3))), (5, .ref (275 + 2 * (tk_n a2))), (0, .ref 0), (1, .int a1), (2, .int a2), (3, .int a3), (4, .int a4)]) (st' := []) ?_
              refine tk_Ps  2 (pc' := 78) (ls' := [(6, .ref (275 + 2 * (tk_n a3))), (5, .ref (275 + 2 * (tk_n a2))), (0, .ref 0), (1, .int a1), (2, .int a2), (3, .int a3), (4, .int a4)]) (st' := [.int (1 : Int32), .ref (275 + 2 * (tk_n a2))]) rfl ?_
              refine tk_cV1  rfl rfl (r := (275 + 2 * (tk_n a2))) (as := [.int (1 : Int32)]) (rest := []) rfl ((la11 _ (hg5).2).2) rfl rfl (ok_fN_isOf sc (275 + 2 * (tk_n a2)) (1 : Int32) m ((la11 _ (hg5).2).2)) ?_
              by_cases hc9 : (fN_isOf (275 + 2 * (tk_n a2)) (1 : Int32) m) = true
              · replace h := tk_ifT hc9 h
                refine tk_bT  rfl rfl tk_eB_eq (c := (fN_isOf (275 + 2 * (tk_n a2)) (1 : Int32) m) = true) hc9 (pc' := 84) (ls' := [(6, .ref (275 + 2 * (tk_n a3))), (5, .ref (275 + 2 * (tk_n a2))), (0, .ref 0), (1, .int a1), (2, .int a2), (3, .int a3), (4, .int a4)]) (st' := []) ?_
                refine tk_Ps  2 (pc' := 87) (ls' := [(6, .ref (275 + 2 * (tk_n a3))), (5, .ref (275 + 2 * (tk_n a2))), (0, .ref 0), (1, .int a1), (2, .int a2), (3, .int a3), (4, .int a4)]) (st' := [.int (1 : Int32), .ref (275 + 2 * (tk_n a3))]) rfl ?_
                refine tk_cV1  rfl rfl (r := (275 + 2 * (tk_n a3))) (as := [.int (1 : Int32)]) (rest := []) rfl ((la11 _ (hg6).2).2) rfl rfl (ok_fN_isOf sc (275 + 2 * (tk_n a3)) (1 : Int32) m ((la11 _ (hg6).2).2)) ?_
                by_cases hc10 : (fN_isOf (275 + 2 * (tk_n a3)) (1 : Int32) m) = true
                · replace h := tk_ifT hc10 h
                  refine tk_bT  rfl rfl tk_eB_eq (c := (fN_isOf (275 + 2 * (tk_n a3)) (1 : Int32) m) = true) hc10 (pc' := 93) (ls' := [(6, .ref (275 + 2 * (tk_n a3))), (5, .ref (275 + 2 * (tk_n a2))), (0, .ref 0), (1, .int a1), (2, .int a2), (3, .int a3), (4, .int a4)]) (st' := []) ?_
                  refine tk_Ps  1 (pc' := 95) (ls' := [(6, .ref (275 + 2 * (tk_n a3))), (5, .ref (275 + 2 * (tk_n a2))), (0, .ref 0), (1, .int a1), (2, .int a2), (3, .int a3), (4, .int a4)]) (st' := [.ref (275 + 2 * (tk_n a2))]) rfl ?_
                  refine tk_HJ  rfl rfl ((la11 _ (hg5).2).2) ?_
                  refine tk_Ps  1 (pc' := 100) (ls' := [(6, .ref (275 + 2 * (tk_n a3))), (5, .ref (275 + 2 * (tk_n a2))), (0, .ref 0), (1, .int a1), (2, .int a2), (3, .int a3), (4, .int a4)]) (st' := [.ref (275 + 2 * (tk_n a3)), .long (m.2.1 (275 + 2 * (tk_n a2)) 2)]) rfl ?_
                  refine tk_HJ  rfl rfl ((la11 _ (hg6).2).2) ?_
                  refine tk_Ps  1 (pc' := 104) (ls' := [(6, .ref (275 + 2 * (tk_n a3))), (5, .ref (275 + 2 * (tk_n a2))), (0, .ref 0), (1, .int a1), (2, .int a2), (3, .int a3), (4, .int a4)]) (st' := [.int (lg_cmp (m.2.1 (275 + 2 * (tk_n a2)) 2) (m.2.1 (275 + 2 * (tk_n a3)) 2))]) rfl ?_
                  by_cases hc11 : (m.2.1 (275 + 2 * (tk_n a2)) 2) = (m.2.1 (275 + 2 * (tk_n a3)) 2)
                  · replace h := tk_ifT hc11 h
                    refine tk_bT  rfl rfl tk_eL_eq (c := (m.2.1 (275 + 2 * (tk_n a2)) 2) = (m.2.1 (275 + 2 * (tk_n a3)) 2)) hc11 (pc' := 113) (ls' := [(6, .ref (275 + 2 * (tk_n a3))), (5, .ref (275 + 2 * (tk_n a2))), (0, .ref 0), (1, .int a1), (2, .int a2), (3, .int a3), (4, .int a4)]) (st' := []) ?_
                    refine tk_Kp  (ls' := [(0, .ref 0), (1, .int a1), (4, .int a4), (5, .ref (275 + 2 * (tk_n a2))), (6, .ref (275 + 2 * (tk_n a3)))]) rfl rfl ?_
                    exact ok_fX_work_113 sc a1 a4 (275 + 2 * (tk_n a2)) (275 + 2 * (tk_n a3)) m ((la11 _ (hg5).2).2) ((la11 _ (hg6).2).2) _ h
                  · replace h := tk_ifF hc11 h
                    refine tk_bF  rfl rfl tk_eL_eq (c := (m.2.1 (275 + 2 * (tk_n a2)) 2) = (m.2.1 (275 + 2 * (tk_n a3)) 2)) hc11 (pc' := 107) (ls' := [(6, .ref (275 + 2 * (tk_n a3))), (5, .ref (275 + 2 * (tk_n a2))), (0, .ref 0), (1, .int a1), (2, .int a2), (3, .int a3), (4, .int a4)]) (st' := []) ?_
                    refine tk_Ps  2 (pc' := 109) (ls' := [(6, .ref (275 + 2 * (tk_n a3))), (5, .ref (275 + 2 * (tk_n a2))), (0, .ref 0), (1, .int a1), (2, .int a2), (3, .int a3), (4, .int a4)]) (st' := [.int (2 : Int32), .ref 0]) rfl ?_
                    obtain ⟨o12, ho12, h⟩ := tk_bnd h
                    refine tk_cV1  rfl rfl (r := 0) (as := [.int (2 : Int32)]) (rest := []) rfl ly0 rfl rfl (ok_fX_finding sc (2 : Int32) m ho12) ?_
                    replace h := Option.some.inj h
                    subst h
                    exact tk_RI  rfl rfl rfl
                · replace h := tk_ifF hc10 h
                  refine tk_bF  rfl rfl tk_eB_eq (c := (fN_isOf (275 + 2 * (tk_n a3)) (1 : Int32) m) = true) hc10 (pc' := 113) (ls' := [(6, .ref (275 + 2 * (tk_n a3))), (5, .ref (275 + 2 * (tk_n a2))), (0, .ref 0), (1, .int a1), (2, .int a2), (3, .int a3), (4, .int a4)]) (st' := []) ?_
                  refine tk_Kp  (ls' := [(0, .ref 0), (1, .int a1), (4, .int a4), (5, .ref (275 + 2 * (tk_n a2))), (6, .ref (275 + 2 * (tk_n a3)))]) rfl rfl ?_
                  exact ok_fX_work_113 sc a1 a4 (275 + 2 * (tk_n a2)) (275 + 2 * (tk_n a3)) m ((la11 _ (hg5).2).2) ((la11 _ (hg6).2).2) _ h
              · replace h := tk_ifF hc9 h
                refine tk_bF  rfl rfl tk_eB_eq (c := (fN_isOf (275 + 2 * (tk_n a2)) (1 : Int32) m) = true) hc9 (pc' := 113) (ls' := [(6, .ref (275 + 2 * (tk_n a3))), (5, .ref (275 + 2 * (tk_n a2))), (0, .ref 0), (1, .int a1), (2, .int a2), (3, .int a3), (4, .int a4)]) (st' := []) ?_
                refine tk_Kp  (ls' := [(0, .ref 0), (1, .int a1), (4, .int a4), (5, .ref (275 + 2 * (tk_n a2))), (6, .ref (275 + 2 * (tk_n a3)))]) rfl rfl ?_
                exact ok_fX_work_113 sc a1 a4 (275 + 2 * (tk_n a2)) (275 + 2 * (tk_n a3)) m ((la11 _ (hg5).2).2) ((la11 _ (hg6).2).2) _ h
            · replace h := tk_ifF hc8 h
              refine tk_bF  rfl rfl tk_eB_ne (c := (m.2.2.1 (275 + 2 * (tk_n a3)) 0) = true) hc8 (pc' := 69) (ls' := [(6, .ref (275 + 2 * (tk_n a3))), (5, .ref (275 + 2 * (tk_n a2))), (0, .ref 0), (1, .int a1), (2, .int a2), (3, .int a3), (4, .int a4)]) (st' := []) ?_
              refine tk_Ps  2 (pc' := 71) (ls' := [(6, .ref (275 + 2 * (tk_n a3))), (5, .ref (275 + 2 * (tk_n a2))), (0, .ref 0), (1, .int a1), (2, .int a2), (3, .int a3), (4, .int a4)]) (st' := [.int (5 : Int32), .ref 0]) rfl ?_
              obtain ⟨o13, ho13, h⟩ := tk_bnd h
              refine tk_cV1  rfl rfl (r := 0) (as := [.int (5 : Int32)]) (rest := []) rfl ly0 rfl rfl (ok_fX_finding sc (5 : Int32) m ho13) ?_
              replace h := Option.some.inj h
              subst h
              exact tk_RI  rfl rfl rfl
          · replace h := tk_ifF hc7 h
            refine tk_bF  rfl rfl tk_eB_eq (c := (m.2.2.1 (275 + 2 * (tk_n a2)) 0) = true) hc7 (pc' := 69) (ls' := [(6, .ref (275 + 2 * (tk_n a3))), (5, .ref (275 + 2 * (tk_n a2))), (0, .ref 0), (1, .int a1), (2, .int a2), (3, .int a3), (4, .int a4)]) (st' := []) ?_
            refine tk_Ps  2 (pc' := 71) (ls' := [(6, .ref (275 + 2 * (tk_n a3))), (5, .ref (275 + 2 * (tk_n a2))), (0, .ref 0), (1, .int a1), (2, .int a2), (3, .int a3), (4, .int a4)]) (st' := [.int (5 : Int32), .ref 0]) rfl ?_
            obtain ⟨o14, ho14, h⟩ := tk_bnd h
            refine tk_cV1  rfl rfl (r := 0) (as := [.int (5 : Int32)]) (rest := []) rfl ly0 rfl rfl (ok_fX_finding sc (5 : Int32) m ho14) ?_
            replace h := Option.some.inj h
            subst h
            exact tk_RI  rfl rfl rfl
        · replace h := tk_ifF hc4 h
          refine tk_bF  rfl rfl tk_eB_ne (c := (fX_isWithin a4 (0 : Int32) (3 : Int32)) = true) hc4 (pc' := 31) (ls' := [(0, .ref 0), (1, .int a1), (2, .int a2), (3, .int a3), (4, .int a4)]) (st' := []) ?_
          refine tk_Ps  2 (pc' := 33) (ls' := [(0, .ref 0), (1, .int a1), (2, .int a2), (3, .int a3), (4, .int a4)]) (st' := [.int (0 : Int32), .ref 0]) rfl ?_
          obtain ⟨o15, ho15, h⟩ := tk_bnd h
          refine tk_cV1  rfl rfl (r := 0) (as := [.int (0 : Int32)]) (rest := []) rfl ly0 rfl rfl (ok_fX_finding sc (0 : Int32) m ho15) ?_
          replace h := Option.some.inj h
          subst h
          exact tk_RI  rfl rfl rfl
      · replace h := tk_ifF hc3 h
        refine tk_bF  rfl rfl tk_eB_eq (c := (fX_isSpot a3) = true) hc3 (pc' := 31) (ls' := [(0, .ref 0), (1, .int a1), (2, .int a2), (3, .int a3), (4, .int a4)]) (st' := []) ?_
        refine tk_Ps  2 (pc' := 33) (ls' := [(0, .ref 0), (1, .int a1), (2, .int a2), (3, .int a3), (4, .int a4)]) (st' := [.int (0 : Int32), .ref 0]) rfl ?_
        obtain ⟨o16, ho16, h⟩ := tk_bnd h
        refine tk_cV1  rfl rfl (r := 0) (as := [.int (0 : Int32)]) (rest := []) rfl ly0 rfl rfl (ok_fX_finding sc (0 : Int32) m ho16) ?_
        replace h := Option.some.inj h
        subst h
        exact tk_RI  rfl rfl rfl
    · replace h := tk_ifF hc2 h
      refine tk_bF  rfl rfl tk_eB_eq (c := (fX_isSpot a2) = true) hc2 (pc' := 31) (ls' := [(0, .ref 0), (1, .int a1), (2, .int a2), (3, .int a3), (4, .int a4)]) (st' := []) ?_
      refine tk_Ps  2 (pc' := 33) (ls' := [(0, .ref 0), (1, .int a1), (2, .int a2), (3, .int a3), (4, .int a4)]) (st' := [.int (0 : Int32), .ref 0]) rfl ?_
      obtain ⟨o17, ho17, h⟩ := tk_bnd h
      refine tk_cV1  rfl rfl (r := 0) (as := [.int (0 : Int32)]) (rest := []) rfl ly0 rfl rfl (ok_fX_finding sc (0 : Int32) m ho17) ?_
      replace h := Option.some.inj h
      subst h
      exact tk_RI  rfl rfl rfl
  · replace h := tk_ifF hc1 h
    refine tk_bF  rfl rfl tk_eB_eq (c := (fX_isSpot a1) = true) hc1 (pc' := 31) (ls' := [(0, .ref 0), (1, .int a1), (2, .int a2), (3, .int a3), (4, .int a4)]) (st' := []) ?_
    refine tk_Ps  2 (pc' := 33) (ls' := [(0, .ref 0), (1, .int a1), (2, .int a2), (3, .int a3), (4, .int a4)]) (st' := [.int (0 : Int32), .ref 0]) rfl ?_
    obtain ⟨o18, ho18, h⟩ := tk_bnd h
    refine tk_cV1  rfl rfl (r := 0) (as := [.int (0 : Int32)]) (rest := []) rfl ly0 rfl rfl (ok_fX_finding sc (0 : Int32) m ho18) ?_
    replace h := Option.some.inj h
    subst h
    exact tk_RI  rfl rfl rfl
theorem ok_fX_compare (sc : tk_X) (a1 : Int32) (a2 : Int32) (m : tk_m) {out : Int32 × tk_m} (h : fX_compare a1 a2 m = some out) : tk_Ru sc 6 156 [.ref 0, .int a1, .int a2] (tk_full m) (some (.int out.1), tk_full out.2) := by
  unfold fX_compare at h
  refine tk_Ru0 me156 (ls := [(0, .ref 0), (1, .int a1), (2, .int a2)]) rfl rfl ?_
  refine tk_Ps  1 (pc' := 1) (ls' := [(0, .ref 0), (1, .int a1), (2, .int a2)]) (st' := [.int a1]) rfl ?_
  refine tk_cS1  rfl rfl (as := [.int a1]) (rest := []) rfl rfl rfl (ok_fX_isSpot sc a1 m) ?_
  by_cases hc1 : (fX_isSpot a1) = true
  · replace h := tk_ifT hc1 h
    refine tk_bT  rfl rfl tk_eB_eq (c := (fX_isSpot a1) = true) hc1 (pc' := 7) (ls' := [(0, .ref 0), (1, .int a1), (2, .int a2)]) (st' := []) ?_
    refine tk_Ps  1 (pc' := 8) (ls' := [(0, .ref 0), (1, .int a1), (2, .int a2)]) (st' := [.int a2]) rfl ?_
    refine tk_cS1  rfl rfl (as := [.int a2]) (rest := []) rfl rfl rfl (ok_fX_isSpot sc a2 m) ?_
    by_cases hc2 : (fX_isSpot a2) = true
    · replace h := tk_ifT hc2 h
      refine tk_bT  rfl rfl tk_eB_ne (c := (fX_isSpot a2) = true) hc2 (pc' := 20) (ls' := [(0, .ref 0), (1, .int a1), (2, .int a2)]) (st' := []) ?_
      refine tk_Ps  1 (pc' := 21) (ls' := [(0, .ref 0), (1, .int a1), (2, .int a2)]) (st' := [.ref 0]) rfl ?_
      refine tk_HR  rfl rfl ly0 rt0_3 ?_
      refine tk_Ps  1 (pc' := 25) (ls' := [(0, .ref 0), (1, .int a1), (2, .int a2)]) (st' := [.int a1, .ref 11]) rfl ?_
      obtain ⟨hg3, h⟩ := tk_grd h
      refine tk_HQ  rfl rfl ly11 hg3 (la11 _ (hg3).2).1 ?_
      refine tk_HB  rfl rfl ((la11 _ (hg3).2).2) ?_
      by_cases hc4 : (m.2.2.1 (275 + 2 * (tk_n a1)) 0) = true
      · replace h := tk_ifT hc4 h
        refine tk_bT  rfl rfl tk_eB_eq (c := (m.2.2.1 (275 + 2 * (tk_n a1)) 0) = true) hc4 (pc' := 32) (ls' := [(0, .ref 0), (1, .int a1), (2, .int a2)]) (st' := []) ?_
        refine tk_Ps  1 (pc' := 33) (ls' := [(0, .ref 0), (1, .int a1), (2, .int a2)]) (st' := [.ref 0]) rfl ?_
        refine tk_HR  rfl rfl ly0 rt0_3 ?_
        refine tk_Ps  1 (pc' := 37) (ls' := [(0, .ref 0), (1, .int a1), (2, .int a2)]) (st' := [.int a2, .ref 11]) rfl ?_
        obtain ⟨hg5, h⟩ := tk_grd h
        refine tk_HQ  rfl rfl ly11 hg5 (la11 _ (hg5).2).1 ?_
        refine tk_HB  rfl rfl ((la11 _ (hg5).2).2) ?_
        by_cases hc6 : (m.2.2.1 (275 + 2 * (tk_n a2)) 0) = true
        · replace h := tk_ifT hc6 h
          refine tk_bT  rfl rfl tk_eB_ne (c := (m.2.2.1 (275 + 2 * (tk_n a2)) 0) = true) hc6 (pc' := 50) (ls' := [(0, .ref 0), (1, .int a1), (2, .int a2)]) (st' := []) ?_
          refine tk_Ps  1 (pc' := 51) (ls' := [(0, .ref 0), (1, .int a1), (2, .int a2)]) (st' := [.ref 0]) rfl ?_
          refine tk_HR  rfl rfl ly0 rt0_5 ?_
          refine tk_Ps  1 (pc' := 55) (ls' := [(0, .ref 0), (1, .int a1), (2, .int a2)]) (st' := [.ref 0, .ref 13]) rfl ?_
          refine tk_HR  rfl rfl ly0 rt0_3 ?_
          refine tk_Ps  1 (pc' := 59) (ls' := [(0, .ref 0), (1, .int a1), (2, .int a2)]) (st' := [.int a1, .ref 11, .ref 13]) rfl ?_
          refine tk_HQ  rfl rfl ly11 hg3 (la11 _ (hg3).2).1 ?_
          refine tk_Ps  1 (pc' := 61) (ls' := [(0, .ref 0), (1, .int a1), (2, .int a2)]) (st' := [.ref 0, .ref (275 + 2 * (tk_n a1)), .ref 13]) rfl ?_
          refine tk_HR  rfl rfl ly0 rt0_3 ?_
          refine tk_Ps  1 (pc' := 65) (ls' := [(0, .ref 0), (1, .int a1), (2, .int a2)]) (st' := [.int a2, .ref 11, .ref (275 + 2 * (tk_n a1)), .ref 13]) rfl ?_
          refine tk_HQ  rfl rfl ly11 hg5 (la11 _ (hg5).2).1 ?_
          obtain ⟨o7, ho7, h⟩ := tk_bnd h
          refine tk_cV1  rfl rfl (r := 13) (as := [.ref (275 + 2 * (tk_n a1)), .ref (275 + 2 * (tk_n a2))]) (rest := []) rfl ly13 rfl rfl (ok_fJ_order sc (275 + 2 * (tk_n a1)) (275 + 2 * (tk_n a2)) m ((la11 _ (hg3).2).2) ((la11 _ (hg5).2).2) ho7) ?_
          replace h := Option.some.inj h
          subst h
          exact tk_RI  rfl rfl rfl
        · replace h := tk_ifF hc6 h
          refine tk_bF  rfl rfl tk_eB_ne (c := (m.2.2.1 (275 + 2 * (tk_n a2)) 0) = true) hc6 (pc' := 44) (ls' := [(0, .ref 0), (1, .int a1), (2, .int a2)]) (st' := []) ?_
          refine tk_Ps  2 (pc' := 46) (ls' := [(0, .ref 0), (1, .int a1), (2, .int a2)]) (st' := [.int (5 : Int32), .ref 0]) rfl ?_
          obtain ⟨o8, ho8, h⟩ := tk_bnd h
          refine tk_cV1  rfl rfl (r := 0) (as := [.int (5 : Int32)]) (rest := []) rfl ly0 rfl rfl (ok_fX_finding sc (5 : Int32) m ho8) ?_
          replace h := Option.some.inj h
          subst h
          exact tk_RI  rfl rfl rfl
      · replace h := tk_ifF hc4 h
        refine tk_bF  rfl rfl tk_eB_eq (c := (m.2.2.1 (275 + 2 * (tk_n a1)) 0) = true) hc4 (pc' := 44) (ls' := [(0, .ref 0), (1, .int a1), (2, .int a2)]) (st' := []) ?_
        refine tk_Ps  2 (pc' := 46) (ls' := [(0, .ref 0), (1, .int a1), (2, .int a2)]) (st' := [.int (5 : Int32), .ref 0]) rfl ?_
        obtain ⟨o9, ho9, h⟩ := tk_bnd h
        refine tk_cV1  rfl rfl (r := 0) (as := [.int (5 : Int32)]) (rest := []) rfl ly0 rfl rfl (ok_fX_finding sc (5 : Int32) m ho9) ?_
        replace h := Option.some.inj h
        subst h
        exact tk_RI  rfl rfl rfl
    · replace h := tk_ifF hc2 h
      refine tk_bF  rfl rfl tk_eB_ne (c := (fX_isSpot a2) = true) hc2 (pc' := 14) (ls' := [(0, .ref 0), (1, .int a1), (2, .int a2)]) (st' := []) ?_
      refine tk_Ps  2 (pc' := 16) (ls' := [(0, .ref 0), (1, .int a1), (2, .int a2)]) (st' := [.int (0 : Int32), .ref 0]) rfl ?_
      obtain ⟨o10, ho10, h⟩ := tk_bnd h
      refine tk_cV1  rfl rfl (r := 0) (as := [.int (0 : Int32)]) (rest := []) rfl ly0 rfl rfl (ok_fX_finding sc (0 : Int32) m ho10) ?_
      replace h := Option.some.inj h
      subst h
      exact tk_RI  rfl rfl rfl
  · replace h := tk_ifF hc1 h
    refine tk_bF  rfl rfl tk_eB_eq (c := (fX_isSpot a1) = true) hc1 (pc' := 14) (ls' := [(0, .ref 0), (1, .int a1), (2, .int a2)]) (st' := []) ?_
    refine tk_Ps  2 (pc' := 16) (ls' := [(0, .ref 0), (1, .int a1), (2, .int a2)]) (st' := [.int (0 : Int32), .ref 0]) rfl ?_
    obtain ⟨o11, ho11, h⟩ := tk_bnd h
    refine tk_cV1  rfl rfl (r := 0) (as := [.int (0 : Int32)]) (rest := []) rfl ly0 rfl rfl (ok_fX_finding sc (0 : Int32) m ho11) ?_
    replace h := Option.some.inj h
    subst h
    exact tk_RI  rfl rfl rfl
theorem ok_fX_number (sc : tk_X) (a1 : Int32) (a2 : Int32) (m : tk_m) {out : Int64 × tk_m} (h : fX_number a1 a2 m = some out) : tk_Ru sc 4 157 [.ref 0, .int a1, .int a2] (tk_full m) (some (.long out.1), tk_full out.2) := by
  unfold fX_number at h
  refine tk_Ru0 me157 (ls := [(0, .ref 0), (1, .int a1), (2, .int a2)]) rfl rfl ?_
  refine tk_Ps  1 (pc' := 1) (ls' := [(0, .ref 0), (1, .int a1), (2, .int a2)]) (st' := [.int a1]) rfl ?_
  refine tk_cS1  rfl rfl (as := [.int a1]) (rest := []) rfl rfl rfl (ok_fX_isSpot sc a1 m) ?_
  by_cases hc1 : (fX_isSpot a1) = true
  · replace h := tk_ifT hc1 h
    refine tk_bT  rfl rfl tk_eB_eq (c := (fX_isSpot a1) = true) hc1 (pc' := 7) (ls' := [(0, .ref 0), (1, .int a1), (2, .int a2)]) (st' := []) ?_
    refine tk_Ps  3 (pc' := 10) (ls' := [(0, .ref 0), (1, .int a1), (2, .int a2)]) (st' := [.int (3 : Int32), .int (0 : Int32), .int a2]) rfl ?_
    refine tk_cS1  rfl rfl (as := [.int a2, .int (0 : Int32), .int (3 : Int32)]) (rest := []) rfl rfl rfl (ok_fX_isWithin sc a2 (0 : Int32) (3 : Int32) m) ?_
    by_cases hc2 : (fX_isWithin a2 (0 : Int32) (3 : Int32)) = true
    · replace h := tk_ifT hc2 h
      refine tk_bT  rfl rfl tk_eB_ne (c := (fX_isWithin a2 (0 : Int32) (3 : Int32)) = true) hc2 (pc' := 22) (ls' := [(0, .ref 0), (1, .int a1), (2, .int a2)]) (st' := []) ?_
      refine tk_Ps  1 (pc' := 23) (ls' := [(0, .ref 0), (1, .int a1), (2, .int a2)]) (st' := [.ref 0]) rfl ?_
      refine tk_HR  rfl rfl ly0 rt0_3 ?_
      refine tk_Ps  1 (pc' := 27) (ls' := [(0, .ref 0), (1, .int a1), (2, .int a2)]) (st' := [.int a1, .ref 11]) rfl ?_
      obtain ⟨hg3, h⟩ := tk_grd h
      refine tk_HQ  rfl rfl ly11 hg3 (la11 _ (hg3).2).1 ?_
      refine tk_HB  rfl rfl ((la11 _ (hg3).2).2) ?_
      by_cases hc4 : (m.2.2.1 (275 + 2 * (tk_n a1)) 0) = true
      · replace h := tk_ifT hc4 h
        refine tk_bT  rfl rfl tk_eB_ne (c := (m.2.2.1 (275 + 2 * (tk_n a1)) 0) = true) hc4 (pc' := 40) (ls' := [(0, .ref 0), (1, .int a1), (2, .int a2)]) (st' := []) ?_
        refine tk_Ps  1 (pc' := 41) (ls' := [(0, .ref 0), (1, .int a1), (2, .int a2)]) (st' := [.ref 0]) rfl ?_
        refine tk_HR  rfl rfl ly0 rt0_3 ?_
        refine tk_Ps  1 (pc' := 45) (ls' := [(0, .ref 0), (1, .int a1), (2, .int a2)]) (st' := [.int a1, .ref 11]) rfl ?_
        refine tk_HQ  rfl rfl ly11 hg3 (la11 _ (hg3).2).1 ?_
        refine tk_Ps  1 (pc' := 47) (ls' := [(0, .ref 0), (1, .int a1), (2, .int a2)]) (st' := [.int a2, .ref (275 + 2 * (tk_n a1))]) rfl ?_
        refine tk_cV1  rfl rfl (r := (275 + 2 * (tk_n a1))) (as := [.int a2]) (rest := []) rfl ((la11 _ (hg3).2).2) rfl rfl (ok_fN_part sc (275 + 2 * (tk_n a1)) a2 m ((la11 _ (hg3).2).2)) ?_
        replace h := Option.some.inj h
        subst h
        exact tk_RJ  rfl rfl rfl
      · replace h := tk_ifF hc4 h
        refine tk_bF  rfl rfl tk_eB_ne (c := (m.2.2.1 (275 + 2 * (tk_n a1)) 0) = true) hc4 (pc' := 34) (ls' := [(0, .ref 0), (1, .int a1), (2, .int a2)]) (st' := []) ?_
        refine tk_Ps  2 (pc' := 36) (ls' := [(0, .ref 0), (1, .int a1), (2, .int a2)]) (st' := [.int (5 : Int32), .ref 0]) rfl ?_
        obtain ⟨o5, ho5, h⟩ := tk_bnd h
        refine tk_cV1  rfl rfl (r := 0) (as := [.int (5 : Int32)]) (rest := []) rfl ly0 rfl rfl (ok_fX_longFinding sc (5 : Int32) m ho5) ?_
        replace h := Option.some.inj h
        subst h
        exact tk_RJ  rfl rfl rfl
    · replace h := tk_ifF hc2 h
      refine tk_bF  rfl rfl tk_eB_ne (c := (fX_isWithin a2 (0 : Int32) (3 : Int32)) = true) hc2 (pc' := 16) (ls' := [(0, .ref 0), (1, .int a1), (2, .int a2)]) (st' := []) ?_
      refine tk_Ps  2 (pc' := 18) (ls' := [(0, .ref 0), (1, .int a1), (2, .int a2)]) (st' := [.int (0 : Int32), .ref 0]) rfl ?_
      obtain ⟨o6, ho6, h⟩ := tk_bnd h
      refine tk_cV1  rfl rfl (r := 0) (as := [.int (0 : Int32)]) (rest := []) rfl ly0 rfl rfl (ok_fX_longFinding sc (0 : Int32) m ho6) ?_
      replace h := Option.some.inj h
      subst h
      exact tk_RJ  rfl rfl rfl
  · replace h := tk_ifF hc1 h
    refine tk_bF  rfl rfl tk_eB_eq (c := (fX_isSpot a1) = true) hc1 (pc' := 16) (ls' := [(0, .ref 0), (1, .int a1), (2, .int a2)]) (st' := []) ?_
    refine tk_Ps  2 (pc' := 18) (ls' := [(0, .ref 0), (1, .int a1), (2, .int a2)]) (st' := [.int (0 : Int32), .ref 0]) rfl ?_
    obtain ⟨o7, ho7, h⟩ := tk_bnd h
    refine tk_cV1  rfl rfl (r := 0) (as := [.int (0 : Int32)]) (rest := []) rfl ly0 rfl rfl (ok_fX_longFinding sc (0 : Int32) m ho7) ?_
    replace h := Option.some.inj h
    subst h
    exact tk_RJ  rfl rfl rfl
theorem ok_fJ_sign (sc : tk_X) (a1 : Nat) (m : tk_m) (ha1 : tk_lay[a1]? = some (.inl 4)) {out : Int32 × tk_m} (h : fJ_sign a1 m = some out) : tk_Ru sc 6 159 [.ref 13, .ref a1] (tk_full m) (some (.int out.1), tk_full out.2) := by
  unfold fJ_sign at h
  refine tk_Ru0 me159 (ls := [(0, .ref 13), (1, .ref a1)]) rfl rfl ?_
  refine tk_Ps  3 (pc' := 3) (ls' := [(0, .ref 13), (1, .ref a1)]) (st' := [.ref 13, .ref a1, .ref 13]) rfl ?_
  refine tk_HR  rfl rfl ly13 rt13_0 ?_
  obtain ⟨o1, ho1, h⟩ := tk_bnd h
  refine tk_cV1  rfl rfl (r := 13) (as := [.ref a1, .ref 14]) (rest := []) rfl ly13 rfl rfl (ok_fJ_order sc a1 14 m ha1 ly14 ho1) ?_
  replace h := Option.some.inj h
  subst h
  exact tk_RI  rfl rfl rfl
theorem ok_fX_taken_97 (sc : tk_X) (s0 : Int64) (m : tk_m) (out : Int32 × tk_m) (h : fX_taken_97 s0 m = some out) : tk_Ex sc 6 tk_r158 tk_k158 97 [(0, .ref 0)] [.long s0] (tk_full m) (some (.int out.1), tk_full out.2) := by
  unfold fX_taken_97 at h
  refine tk_Ps  6 (pc' := 106) (ls' := [(4, .long s0), (0, .ref 0)]) (st' := [.int (lg_cmp s0 (Int32.toInt64 (Int64.toInt32 s0)))]) rfl ?_
  by_cases hc1 : s0 = (Int32.toInt64 (Int64.toInt32 s0))
  · replace h := tk_ifT hc1 h
    refine tk_bT  rfl rfl tk_eL_ne (c := s0 = (Int32.toInt64 (Int64.toInt32 s0))) hc1 (pc' := 109) (ls' := [(4, .long s0), (0, .ref 0)]) (st' := []) ?_
    refine tk_Ps  3 (pc' := 121) (ls' := [(4, .long s0), (0, .ref 0)]) (st' := [.int (Int64.toInt32 s0)]) rfl ?_
    replace h := Option.some.inj h
    subst h
    exact tk_RI  rfl rfl rfl
  · replace h := tk_ifF hc1 h
    refine tk_bF  rfl rfl tk_eL_ne (c := s0 = (Int32.toInt64 (Int64.toInt32 s0))) hc1 (pc' := 115) (ls' := [(4, .long s0), (0, .ref 0)]) (st' := []) ?_
    refine tk_Ps  2 (pc' := 118) (ls' := [(4, .long s0), (0, .ref 0)]) (st' := [.int (7 : Int32), .ref 0]) rfl ?_
    obtain ⟨o2, ho2, h⟩ := tk_bnd h
    refine tk_cV1  rfl rfl (r := 0) (as := [.int (7 : Int32)]) (rest := []) rfl ly0 rfl rfl (ok_fX_finding sc (7 : Int32) m ho2) ?_
    replace h := Option.some.inj h
    subst h
    exact tk_RI  rfl rfl rfl
theorem ok_fX_taken (sc : tk_X) (a1 : Int32) (a2 : Int32) (m : tk_m) {out : Int32 × tk_m} (h : fX_taken a1 a2 m = some out) : tk_Ru sc 7 158 [.ref 0, .int a1, .int a2] (tk_full m) (some (.int out.1), tk_full out.2) := by
  unfold fX_taken at h
  refine tk_Ru0 me158 (ls := [(0, .ref 0), (1, .int a1), (2, .int a2)]) rfl rfl ?_
  refine tk_Ps  1 (pc' := 1) (ls' := [(0, .ref 0), (1, .int a1), (2, .int a2)]) (st' := [.int a1]) rfl ?_
  refine tk_cS1  rfl rfl (as := [.int a1]) (rest := []) rfl rfl rfl (ok_fX_isSpot sc a1 m) ?_
  by_cases hc1 : (fX_isSpot a1) = true
  · replace h := tk_ifT hc1 h
    refine tk_bT  rfl rfl tk_eB_eq (c := (fX_isSpot a1) = true) hc1 (pc' := 7) (ls' := [(0, .ref 0), (1, .int a1), (2, .int a2)]) (st' := []) ?_
    refine tk_Ps  3 (pc' := 10) (ls' := [(0, .ref 0), (1, .int a1), (2, .int a2)]) (st' := [.int (3 : Int32), .int (0 : Int32), .int a2]) rfl ?_
    refine tk_cS1  rfl rfl (as := [.int a2, .int (0 : Int32), .int (3 : Int32)]) (rest := []) rfl rfl rfl (ok_fX_isWithin sc a2 (0 : Int32) (3 : Int32) m) ?_
    by_cases hc2 : (fX_isWithin a2 (0 : Int32) (3 : Int32)) = true
    · replace h := tk_ifT hc2 h
      refine tk_bT  rfl rfl tk_eB_ne (c := (fX_isWithin a2 (0 : Int32) (3 : Int32)) = true) hc2 (pc' := 22) (ls' := [(0, .ref 0), (1, .int a1), (2, .int a2)]) (st' := []) ?_
      refine tk_Ps  1 (pc' := 23) (ls' := [(0, .ref 0), (1, .int a1), (2, .int a2)]) (st' := [.ref 0]) rfl ?_
      refine tk_HR  rfl rfl ly0 rt0_3 ?_
      refine tk_Ps  1 (pc' := 27) (ls' := [(0, .ref 0), (1, .int a1), (2, .int a2)]) (st' := [.int a1, .ref 11]) rfl ?_
      obtain ⟨hg3, h⟩ := tk_grd h
      refine tk_HQ  rfl rfl ly11 hg3 (la11 _ (hg3).2).1 ?_
      refine tk_Ps  2 (pc' := 30) (ls' := [(3, .ref (275 + 2 * (tk_n a1))), (0, .ref 0), (1, .int a1), (2, .int a2)]) (st' := [.ref (275 + 2 * (tk_n a1))]) rfl ?_
      refine tk_HB  rfl rfl ((la11 _ (hg3).2).2) ?_
      by_cases hc4 : (m.2.2.1 (275 + 2 * (tk_n a1)) 0) = true
      · replace h := tk_ifT hc4 h
        refine tk_bT  rfl rfl tk_eB_ne (c := (m.2.2.1 (275 + 2 * (tk_n a1)) 0) = true) hc4 (pc' := 42) (ls' := [(3, .ref (275 + 2 * (tk_n a1))), (0, .ref 0), (1, .int a1), (2, .int a2)]) (st' := []) ?_
        refine tk_Ps  2 (pc' := 44) (ls' := [(3, .ref (275 + 2 * (tk_n a1))), (0, .ref 0), (1, .int a1), (2, .int a2)]) (st' := [.int a2, .ref (275 + 2 * (tk_n a1))]) rfl ?_
        refine tk_cV1  rfl rfl (r := (275 + 2 * (tk_n a1))) (as := [.int a2]) (rest := []) rfl ((la11 _ (hg3).2).2) rfl rfl (ok_fN_isOf sc (275 + 2 * (tk_n a1)) a2 m ((la11 _ (hg3).2).2)) ?_
        by_cases hc5 : (fN_isOf (275 + 2 * (tk_n a1)) a2 m) = true
        · replace h := tk_ifT hc5 h
          refine tk_bT  rfl rfl tk_eB_ne (c := (fN_isOf (275 + 2 * (tk_n a1)) a2 m) = true) hc5 (pc' := 56) (ls' := [(3, .ref (275 + 2 * (tk_n a1))), (0, .ref 0), (1, .int a1), (2, .int a2)]) (st' := []) ?_
          refine tk_Ps  1 (pc' := 57) (ls' := [(3, .ref (275 + 2 * (tk_n a1))), (0, .ref 0), (1, .int a1), (2, .int a2)]) (st' := [.int a2]) rfl ?_
          by_cases hc6 : a2 = 0
          · replace h := tk_ifT hc6 h
            refine tk_bT  rfl rfl rfl (c := a2 = 0) hc6 (pc' := 60) (ls' := [(3, .ref (275 + 2 * (tk_n a1))), (0, .ref 0), (1, .int a1), (2, .int a2)]) (st' := []) ?_
            refine tk_Ps  1 (pc' := 61) (ls' := [(3, .ref (275 + 2 * (tk_n a1))), (0, .ref 0), (1, .int a1), (2, .int a2)]) (st' := [.ref 0]) rfl ?_
            refine tk_HR  rfl rfl ly0 rt0_5 ?_
            refine tk_Ps  1 (pc' := 65) (ls' := [(3, .ref (275 + 2 * (tk_n a1))), (0, .ref 0), (1, .int a1), (2, .int a2)]) (st' := [.ref (275 + 2 * (tk_n a1)), .ref 13]) rfl ?_
            obtain ⟨o7, ho7, h⟩ := tk_bnd h
            refine tk_cV1  rfl rfl (r := 13) (as := [.ref (275 + 2 * (tk_n a1))]) (rest := []) rfl ly13 rfl rfl (ok_fJ_sign sc (275 + 2 * (tk_n a1)) m ((la11 _ (hg3).2).2) ho7) ?_
            replace h := Option.some.inj h
            subst h
            exact tk_RI  rfl rfl rfl
          · replace h := tk_ifF hc6 h
            refine tk_bF  rfl rfl rfl (c := a2 = 0) hc6 (pc' := 69) (ls' := [(3, .ref (275 + 2 * (tk_n a1))), (0, .ref 0), (1, .int a1), (2, .int a2)]) (st' := []) ?_
            refine tk_Ps  2 (pc' := 71) (ls' := [(3, .ref (275 + 2 * (tk_n a1))), (0, .ref 0), (1, .int a1), (2, .int a2)]) (st' := [.int (1 : Int32), .int a2]) rfl ?_
            by_cases hc8 : a2 = (1 : Int32)
            · replace h := tk_ifT hc8 h
              refine tk_bT  rfl rfl rfl (c := a2 = (1 : Int32)) hc8 (pc' := 74) (ls' := [(3, .ref (275 + 2 * (tk_n a1))), (0, .ref 0), (1, .int a1), (2, .int a2)]) (st' := []) ?_
              refine tk_Ps  1 (pc' := 75) (ls' := [(3, .ref (275 + 2 * (tk_n a1))), (0, .ref 0), (1, .int a1), (2, .int a2)]) (st' := [.ref (275 + 2 * (tk_n a1))]) rfl ?_
              refine tk_HJ  rfl rfl ((la11 _ (hg3).2).2) ?_
              refine tk_Ps  1 (pc' := 97) (ls' := [(3, .ref (275 + 2 * (tk_n a1))), (0, .ref 0), (1, .int a1), (2, .int a2)]) (st' := [.long (m.2.1 (275 + 2 * (tk_n a1)) 2)]) rfl ?_
              refine tk_Kp  (ls' := [(0, .ref 0)]) rfl rfl ?_
              exact ok_fX_taken_97 sc (m.2.1 (275 + 2 * (tk_n a1)) 2) m _ h
            · replace h := tk_ifF hc8 h
              refine tk_bF  rfl rfl rfl (c := a2 = (1 : Int32)) hc8 (pc' := 81) (ls' := [(3, .ref (275 + 2 * (tk_n a1))), (0, .ref 0), (1, .int a1), (2, .int a2)]) (st' := []) ?_
              refine tk_Ps  2 (pc' := 83) (ls' := [(3, .ref (275 + 2 * (tk_n a1))), (0, .ref 0), (1, .int a1), (2, .int a2)]) (st' := [.int (2 : Int32), .int a2]) rfl ?_
              by_cases hc9 : a2 = (2 : Int32)
              · replace h := tk_ifT hc9 h
                refine tk_bT  rfl rfl rfl (c := a2 = (2 : Int32)) hc9 (pc' := 86) (ls' := [(3, .ref (275 + 2 * (tk_n a1))), (0, .ref 0), (1, .int a1), (2, .int a2)]) (st' := []) ?_
                refine tk_Ps  1 (pc' := 87) (ls' := [(3, .ref (275 + 2 * (tk_n a1))), (0, .ref 0), (1, .int a1), (2, .int a2)]) (st' := [.ref (275 + 2 * (tk_n a1))]) rfl ?_
                refine tk_cV1  rfl rfl (r := (275 + 2 * (tk_n a1))) (as := []) (rest := []) rfl ((la11 _ (hg3).2).2) rfl rfl (ok_fN_m sc (275 + 2 * (tk_n a1)) m ((la11 _ (hg3).2).2)) ?_
                refine tk_Ps  1 (pc' := 97) (ls' := [(3, .ref (275 + 2 * (tk_n a1))), (0, .ref 0), (1, .int a1), (2, .int a2)]) (st' := [.long (fN_m (275 + 2 * (tk_n a1)) m)]) rfl ?_
                refine tk_Kp  (ls' := [(0, .ref 0)]) rfl rfl ?_
                exact ok_fX_taken_97 sc (fN_m (275 + 2 * (tk_n a1)) m) m _ h
              · replace h := tk_ifF hc9 h
                refine tk_bF  rfl rfl rfl (c := a2 = (2 : Int32)) hc9 (pc' := 93) (ls' := [(3, .ref (275 + 2 * (tk_n a1))), (0, .ref 0), (1, .int a1), (2, .int a2)]) (st' := []) ?_
                refine tk_Ps  1 (pc' := 94) (ls' := [(3, .ref (275 + 2 * (tk_n a1))), (0, .ref 0), (1, .int a1), (2, .int a2)]) (st' := [.ref (275 + 2 * (tk_n a1))]) rfl ?_
                refine tk_cV1  rfl rfl (r := (275 + 2 * (tk_n a1))) (as := []) (rest := []) rfl ((la11 _ (hg3).2).2) rfl rfl (ok_fN_p sc (275 + 2 * (tk_n a1)) m ((la11 _ (hg3).2).2)) ?_
                refine tk_Kp  (ls' := [(0, .ref 0)]) rfl rfl ?_
                exact ok_fX_taken_97 sc (fN_p (275 + 2 * (tk_n a1)) m) m _ h
        · replace h := tk_ifF hc5 h
          refine tk_bF  rfl rfl tk_eB_ne (c := (fN_isOf (275 + 2 * (tk_n a1)) a2 m) = true) hc5 (pc' := 50) (ls' := [(3, .ref (275 + 2 * (tk_n a1))), (0, .ref 0), (1, .int a1), (2, .int a2)]) (st' := []) ?_
          refine tk_Ps  2 (pc' := 52) (ls' := [(3, .ref (275 + 2 * (tk_n a1))), (0, .ref 0), (1, .int a1), (2, .int a2)]) (st' := [.int (2 : Int32), .ref 0]) rfl ?_
          obtain ⟨o10, ho10, h⟩ := tk_bnd h
          refine tk_cV1  rfl rfl (r := 0) (as := [.int (2 : Int32)]) (rest := []) rfl ly0 rfl rfl (ok_fX_finding sc (2 : Int32) m ho10) ?_
          replace h := Option.some.inj h
          subst h
          exact tk_RI  rfl rfl rfl
      · replace h := tk_ifF hc4 h
        refine tk_bF  rfl rfl tk_eB_ne (c := (m.2.2.1 (275 + 2 * (tk_n a1)) 0) = true) hc4 (pc' := 36) (ls' := [(3, .ref (275 + 2 * (tk_n a1))), (0, .ref 0), (1, .int a1), (2, .int a2)]) (st' := []) ?_
        refine tk_Ps  2 (pc' := 38) (ls' := [(3, .ref (275 + 2 * (tk_n a1))), (0, .ref 0), (1, .int a1), (2, .int a2)]) (st' := [.int (5 : Int32), .ref 0]) rfl ?_
        obtain ⟨o11, ho11, h⟩ := tk_bnd h
        refine tk_cV1  rfl rfl (r := 0) (as := [.int (5 : Int32)]) (rest := []) rfl ly0 rfl rfl (ok_fX_finding sc (5 : Int32) m ho11) ?_
        replace h := Option.some.inj h
        subst h
        exact tk_RI  rfl rfl rfl
    · replace h := tk_ifF hc2 h
      refine tk_bF  rfl rfl tk_eB_ne (c := (fX_isWithin a2 (0 : Int32) (3 : Int32)) = true) hc2 (pc' := 16) (ls' := [(0, .ref 0), (1, .int a1), (2, .int a2)]) (st' := []) ?_
      refine tk_Ps  2 (pc' := 18) (ls' := [(0, .ref 0), (1, .int a1), (2, .int a2)]) (st' := [.int (0 : Int32), .ref 0]) rfl ?_
      obtain ⟨o12, ho12, h⟩ := tk_bnd h
      refine tk_cV1  rfl rfl (r := 0) (as := [.int (0 : Int32)]) (rest := []) rfl ly0 rfl rfl (ok_fX_finding sc (0 : Int32) m ho12) ?_
      replace h := Option.some.inj h
      subst h
      exact tk_RI  rfl rfl rfl
  · replace h := tk_ifF hc1 h
    refine tk_bF  rfl rfl tk_eB_eq (c := (fX_isSpot a1) = true) hc1 (pc' := 16) (ls' := [(0, .ref 0), (1, .int a1), (2, .int a2)]) (st' := []) ?_
    refine tk_Ps  2 (pc' := 18) (ls' := [(0, .ref 0), (1, .int a1), (2, .int a2)]) (st' := [.int (0 : Int32), .ref 0]) rfl ?_
    obtain ⟨o13, ho13, h⟩ := tk_bnd h
    refine tk_cV1  rfl rfl (r := 0) (as := [.int (0 : Int32)]) (rest := []) rfl ly0 rfl rfl (ok_fX_finding sc (0 : Int32) m ho13) ?_
    replace h := Option.some.inj h
    subst h
    exact tk_RI  rfl rfl rfl
theorem ok_fX_clear (sc : tk_X) (a1 : Int32) (m : tk_m) {out : Int32 × tk_m} (h : fX_clear a1 m = some out) : tk_Ru sc 3 160 [.ref 0, .int a1] (tk_full m) (some (.int out.1), tk_full out.2) := by
  unfold fX_clear at h
  refine tk_Ru0 me160 (ls := [(0, .ref 0), (1, .int a1)]) rfl rfl ?_
  refine tk_Ps  1 (pc' := 1) (ls' := [(0, .ref 0), (1, .int a1)]) (st' := [.int a1]) rfl ?_
  refine tk_cS1  rfl rfl (as := [.int a1]) (rest := []) rfl rfl rfl (ok_fX_isSpot sc a1 m) ?_
  by_cases hc1 : (fX_isSpot a1) = true
  · replace h := tk_ifT hc1 h
    refine tk_bT  rfl rfl tk_eB_ne (c := (fX_isSpot a1) = true) hc1 (pc' := 13) (ls' := [(0, .ref 0), (1, .int a1)]) (st' := []) ?_
    refine tk_Ps  1 (pc' := 14) (ls' := [(0, .ref 0), (1, .int a1)]) (st' := [.ref 0]) rfl ?_
    refine tk_HR  rfl rfl ly0 rt0_3 ?_
    refine tk_Ps  1 (pc' := 18) (ls' := [(0, .ref 0), (1, .int a1)]) (st' := [.int a1, .ref 11]) rfl ?_
    obtain ⟨hg2, h⟩ := tk_grd h
    refine tk_HQ  rfl rfl ly11 hg2 (la11 _ (hg2).2).1 ?_
    refine tk_HB  rfl rfl ((la11 _ (hg2).2).2) ?_
    by_cases hc3 : (m.2.2.1 (275 + 2 * (tk_n a1)) 0) = true
    · replace h := tk_ifT hc3 h
      refine tk_bT  rfl rfl tk_eB_eq (c := (m.2.2.1 (275 + 2 * (tk_n a1)) 0) = true) hc3 (pc' := 25) (ls' := [(0, .ref 0), (1, .int a1)]) (st' := []) ?_
      refine tk_Ps  4 (pc' := 32) (ls' := [(2, .int (1 : Int32)), (0, .ref 0), (1, .int a1)]) (st' := [.ref 0]) rfl ?_
      refine tk_HR  rfl rfl ly0 rt0_3 ?_
      refine tk_Ps  1 (pc' := 36) (ls' := [(2, .int (1 : Int32)), (0, .ref 0), (1, .int a1)]) (st' := [.int a1, .ref 11]) rfl ?_
      refine tk_HQ  rfl rfl ly11 hg2 (la11 _ (hg2).2).1 ?_
      refine tk_Ps  1 (pc' := 38) (ls' := [(2, .int (1 : Int32)), (0, .ref 0), (1, .int a1)]) (st' := [.int (0 : Int32), .ref (275 + 2 * (tk_n a1))]) rfl ?_
      refine tk_SB (b := false)  rfl rfl ((la11 _ (hg2).2).2) ?_
      refine tk_Ps  1 (pc' := 42) (ls' := [(2, .int (1 : Int32)), (0, .ref 0), (1, .int a1)]) (st' := [.int (1 : Int32)]) rfl ?_
      replace h := Option.some.inj h
      subst h
      exact tk_RI  rfl rfl rfl
    · replace h := tk_ifF hc3 h
      refine tk_bF  rfl rfl tk_eB_eq (c := (m.2.2.1 (275 + 2 * (tk_n a1)) 0) = true) hc3 (pc' := 29) (ls' := [(0, .ref 0), (1, .int a1)]) (st' := []) ?_
      refine tk_Ps  3 (pc' := 32) (ls' := [(2, .int (0 : Int32)), (0, .ref 0), (1, .int a1)]) (st' := [.ref 0]) rfl ?_
      refine tk_HR  rfl rfl ly0 rt0_3 ?_
      refine tk_Ps  1 (pc' := 36) (ls' := [(2, .int (0 : Int32)), (0, .ref 0), (1, .int a1)]) (st' := [.int a1, .ref 11]) rfl ?_
      refine tk_HQ  rfl rfl ly11 hg2 (la11 _ (hg2).2).1 ?_
      refine tk_Ps  1 (pc' := 38) (ls' := [(2, .int (0 : Int32)), (0, .ref 0), (1, .int a1)]) (st' := [.int (0 : Int32), .ref (275 + 2 * (tk_n a1))]) rfl ?_
      refine tk_SB (b := false)  rfl rfl ((la11 _ (hg2).2).2) ?_
      refine tk_Ps  1 (pc' := 42) (ls' := [(2, .int (0 : Int32)), (0, .ref 0), (1, .int a1)]) (st' := [.int (0 : Int32)]) rfl ?_
      replace h := Option.some.inj h
      subst h
      exact tk_RI  rfl rfl rfl
  · replace h := tk_ifF hc1 h
    refine tk_bF  rfl rfl tk_eB_ne (c := (fX_isSpot a1) = true) hc1 (pc' := 7) (ls' := [(0, .ref 0), (1, .int a1)]) (st' := []) ?_
    refine tk_Ps  2 (pc' := 9) (ls' := [(0, .ref 0), (1, .int a1)]) (st' := [.int (0 : Int32), .ref 0]) rfl ?_
    obtain ⟨o4, ho4, h⟩ := tk_bnd h
    refine tk_cV1  rfl rfl (r := 0) (as := [.int (0 : Int32)]) (rest := []) rfl ly0 rfl rfl (ok_fX_finding sc (0 : Int32) m ho4) ?_
    replace h := Option.some.inj h
    subst h
    exact tk_RI  rfl rfl rfl
theorem ok_fT_become_12 (sc : tk_X) : ∀ (n : Nat) (v0 : Nat) (v3 : Int32) (m : tk_m) (hv0 : tk_lay[v0]? = some (.inl 7)) (out : tk_m), fT_become_12 n v0 v3 m = some out → tk_Ex sc 0 tk_r162 tk_k162 12 [(0, .ref v0), (3, .int v3)] [] (tk_full m) (none, tk_full out) := by
  intro n
  induction n with
  | zero =>
    intro v0 v3 m hv0 out h
    cases h
  | succ n ih =>
    intro v0 v3 m hv0 out h
    unfold fT_become_12 at h
    refine tk_Ps  2 (pc' := 15) (ls' := [(0, .ref v0), (3, .int v3)]) (st' := [.int (40 : Int32), .int v3]) rfl ?_
    by_cases hc1 : (40 : Int32) ≤ v3
    · replace h := tk_ifT hc1 h
      refine tk_bT  rfl rfl rfl (c := (40 : Int32) ≤ v3) hc1 (pc' := 31) (ls' := [(0, .ref v0), (3, .int v3)]) (st' := []) ?_
      replace h := Option.some.inj h
      subst h
      exact tk_RV  rfl rfl rfl
    · replace h := tk_ifF hc1 h
      refine tk_bF  rfl rfl rfl (c := (40 : Int32) ≤ v3) hc1 (pc' := 18) (ls' := [(0, .ref v0), (3, .int v3)]) (st' := []) ?_
      refine tk_Ps  1 (pc' := 19) (ls' := [(0, .ref v0), (3, .int v3)]) (st' := [.ref v0]) rfl ?_
      refine tk_HR  rfl rfl hv0 (ro7_2 hv0) ?_
      refine tk_Ps  2 (pc' := 24) (ls' := [(0, .ref v0), (3, .int v3)]) (st' := [.long (0 : Int64), .int v3, .ref (v0 + 1)]) rfl ?_
      obtain ⟨hg2, h⟩ := tk_grd h
      refine tk_SJa  rfl rfl (lo7_2 hv0) hg2 ?_
      refine tk_Ps  2 (pc' := 12) (ls' := [(3, .int (v3 + (1 : Int32))), (0, .ref v0)]) (st' := []) rfl ?_
      refine tk_Kp  (ls' := [(0, .ref v0), (3, .int (v3 + (1 : Int32)))]) rfl rfl ?_
      exact ih v0 (v3 + (1 : Int32)) (m.1, tk_u2 m.2.1 (v0 + 1) (tk_n v3) (0 : Int64), m.2.2.1, m.2.2.2) hv0 _ h
theorem ok_fT_become (sc : tk_X) (t : Nat) (a1 : Int32) (a2 : Int32) (m : tk_m) (ht : tk_lay[t]? = some (.inl 7)) {out : tk_m} (h : fT_become t a1 a2 m = some out) : tk_Ru sc 1 162 [.ref t, .int a1, .int a2] (tk_full m) (none, tk_full out) := by
  unfold fT_become at h
  refine tk_Ru0 me162 (ls := [(0, .ref t), (1, .int a1), (2, .int a2)]) rfl rfl ?_
  refine tk_Ps  2 (pc' := 2) (ls' := [(0, .ref t), (1, .int a1), (2, .int a2)]) (st' := [.int a1, .ref t]) rfl ?_
  refine tk_SI  rfl rfl ht ?_
  refine tk_Ps  2 (pc' := 7) (ls' := [(0, .ref t), (1, .int a1), (2, .int a2)]) (st' := [.int a2, .ref t]) rfl ?_
  refine tk_SI  rfl rfl ht ?_
  refine tk_Ps  2 (pc' := 12) (ls' := [(3, .int (0 : Int32)), (0, .ref t), (1, .int a1), (2, .int a2)]) (st' := []) rfl ?_
  refine tk_Kp  (ls' := [(0, .ref t), (3, .int (0 : Int32))]) rfl rfl ?_
  exact ok_fT_become_12 sc tk_F t (0 : Int32) (tk_u2 (tk_u2 m.1 t 0 a1) t 1 a2, m.2.1, m.2.2.1, m.2.2.2) ht _ h
theorem ok_fX_sheet (sc : tk_X) (a1 : Int32) (a2 : Int32) (a3 : Int32) (m : tk_m) {out : Int32 × tk_m} (h : fX_sheet a1 a2 a3 m = some out) : tk_Ru sc 3 161 [.ref 0, .int a1, .int a2, .int a3] (tk_full m) (some (.int out.1), tk_full out.2) := by
  unfold fX_sheet at h
  refine tk_Ru0 me161 (ls := [(0, .ref 0), (1, .int a1), (2, .int a2), (3, .int a3)]) rfl rfl ?_
  refine tk_Ps  1 (pc' := 1) (ls' := [(0, .ref 0), (1, .int a1), (2, .int a2), (3, .int a3)]) (st' := [.int a1]) rfl ?_
  refine tk_cS1  rfl rfl (as := [.int a1]) (rest := []) rfl rfl rfl (ok_fX_isSheet sc a1 m) ?_
  by_cases hc1 : (fX_isSheet a1) = true
  · replace h := tk_ifT hc1 h
    refine tk_bT  rfl rfl tk_eB_eq (c := (fX_isSheet a1) = true) hc1 (pc' := 7) (ls' := [(0, .ref 0), (1, .int a1), (2, .int a2), (3, .int a3)]) (st' := []) ?_
    refine tk_Ps  3 (pc' := 10) (ls' := [(0, .ref 0), (1, .int a1), (2, .int a2), (3, .int a3)]) (st' := [.int (2 : Int32), .int (-1 : Int32), .int a2]) rfl ?_
    refine tk_cS1  rfl rfl (as := [.int a2, .int (-1 : Int32), .int (2 : Int32)]) (rest := []) rfl rfl rfl (ok_fX_isWithin sc a2 (-1 : Int32) (2 : Int32) m) ?_
    by_cases hc2 : (fX_isWithin a2 (-1 : Int32) (2 : Int32)) = true
    · replace h := tk_ifT hc2 h
      refine tk_bT  rfl rfl tk_eB_ne (c := (fX_isWithin a2 (-1 : Int32) (2 : Int32)) = true) hc2 (pc' := 22) (ls' := [(0, .ref 0), (1, .int a1), (2, .int a2), (3, .int a3)]) (st' := []) ?_
      refine tk_Ps  2 (pc' := 24) (ls' := [(0, .ref 0), (1, .int a1), (2, .int a2), (3, .int a3)]) (st' := [.int (-1 : Int32), .int a2]) rfl ?_
      by_cases hc3 : a2 = (-1 : Int32)
      · replace h := tk_ifT hc3 h
        refine tk_bT  rfl rfl rfl (c := a2 = (-1 : Int32)) hc3 (pc' := 27) (ls' := [(0, .ref 0), (1, .int a1), (2, .int a2), (3, .int a3)]) (st' := []) ?_
        refine tk_Ps  1 (pc' := 28) (ls' := [(0, .ref 0), (1, .int a1), (2, .int a2), (3, .int a3)]) (st' := [.ref 0]) rfl ?_
        refine tk_HR  rfl rfl ly0 rt0_4 ?_
        refine tk_Ps  1 (pc' := 32) (ls' := [(0, .ref 0), (1, .int a1), (2, .int a2), (3, .int a3)]) (st' := [.int a1, .ref 12]) rfl ?_
        obtain ⟨hg4, h⟩ := tk_grd h
        refine tk_HQ  rfl rfl ly12 hg4 (la12 _ (hg4).2).1 ?_
        refine tk_Ps  2 (pc' := 35) (ls' := [(0, .ref 0), (1, .int a1), (2, .int a2), (3, .int a3)]) (st' := [.int (0 : Int32), .int (-1 : Int32), .ref (287 + 2 * (tk_n a1))]) rfl ?_
        obtain ⟨o5, ho5, h⟩ := tk_bnd h
        refine tk_cV0  rfl rfl (r := (287 + 2 * (tk_n a1))) (as := [.int (-1 : Int32), .int (0 : Int32)]) (rest := []) rfl ((la12 _ (hg4).2).2) rfl rfl (ok_fT_become sc (287 + 2 * (tk_n a1)) (-1 : Int32) (0 : Int32) m ((la12 _ (hg4).2).2) ho5) ?_
        refine tk_Ps  1 (pc' := 39) (ls' := [(0, .ref 0), (1, .int a1), (2, .int a2), (3, .int a3)]) (st' := [.int (0 : Int32)]) rfl ?_
        replace h := Option.some.inj h
        subst h
        exact tk_RI  rfl rfl rfl
      · replace h := tk_ifF hc3 h
        refine tk_bF  rfl rfl rfl (c := a2 = (-1 : Int32)) hc3 (pc' := 40) (ls' := [(0, .ref 0), (1, .int a1), (2, .int a2), (3, .int a3)]) (st' := []) ?_
        refine tk_Ps  1 (pc' := 41) (ls' := [(0, .ref 0), (1, .int a1), (2, .int a2), (3, .int a3)]) (st' := [.int a3]) rfl ?_
        by_cases hc6 : 0 ≤ a3
        · replace h := tk_ifT hc6 h
          refine tk_bT  rfl rfl rfl (c := 0 ≤ a3) hc6 (pc' := 51) (ls' := [(0, .ref 0), (1, .int a1), (2, .int a2), (3, .int a3)]) (st' := []) ?_
          refine tk_Ps  2 (pc' := 54) (ls' := [(0, .ref 0), (1, .int a1), (2, .int a2), (3, .int a3)]) (st' := [.int (40 : Int32), .int a3]) rfl ?_
          by_cases hc7 : a3 ≤ (40 : Int32)
          · replace h := tk_ifT hc7 h
            refine tk_bT  rfl rfl rfl (c := a3 ≤ (40 : Int32)) hc7 (pc' := 63) (ls' := [(0, .ref 0), (1, .int a1), (2, .int a2), (3, .int a3)]) (st' := []) ?_
            refine tk_Ps  1 (pc' := 64) (ls' := [(0, .ref 0), (1, .int a1), (2, .int a2), (3, .int a3)]) (st' := [.ref 0]) rfl ?_
            refine tk_HR  rfl rfl ly0 rt0_4 ?_
            refine tk_Ps  1 (pc' := 68) (ls' := [(0, .ref 0), (1, .int a1), (2, .int a2), (3, .int a3)]) (st' := [.int a1, .ref 12]) rfl ?_
            obtain ⟨hg8, h⟩ := tk_grd h
            refine tk_HQ  rfl rfl ly12 hg8 (la12 _ (hg8).2).1 ?_
            refine tk_Ps  2 (pc' := 71) (ls' := [(0, .ref 0), (1, .int a1), (2, .int a2), (3, .int a3)]) (st' := [.int a3, .int a2, .ref (287 + 2 * (tk_n a1))]) rfl ?_
            obtain ⟨o9, ho9, h⟩ := tk_bnd h
            refine tk_cV0  rfl rfl (r := (287 + 2 * (tk_n a1))) (as := [.int a2, .int a3]) (rest := []) rfl ((la12 _ (hg8).2).2) rfl rfl (ok_fT_become sc (287 + 2 * (tk_n a1)) a2 a3 m ((la12 _ (hg8).2).2) ho9) ?_
            refine tk_Ps  1 (pc' := 75) (ls' := [(0, .ref 0), (1, .int a1), (2, .int a2), (3, .int a3)]) (st' := [.int a3]) rfl ?_
            replace h := Option.some.inj h
            subst h
            exact tk_RI  rfl rfl rfl
          · replace h := tk_ifF hc7 h
            refine tk_bF  rfl rfl rfl (c := a3 ≤ (40 : Int32)) hc7 (pc' := 57) (ls' := [(0, .ref 0), (1, .int a1), (2, .int a2), (3, .int a3)]) (st' := []) ?_
            refine tk_Ps  2 (pc' := 59) (ls' := [(0, .ref 0), (1, .int a1), (2, .int a2), (3, .int a3)]) (st' := [.int (0 : Int32), .ref 0]) rfl ?_
            obtain ⟨o10, ho10, h⟩ := tk_bnd h
            refine tk_cV1  rfl rfl (r := 0) (as := [.int (0 : Int32)]) (rest := []) rfl ly0 rfl rfl (ok_fX_finding sc (0 : Int32) m ho10) ?_
            replace h := Option.some.inj h
            subst h
            exact tk_RI  rfl rfl rfl
        · replace h := tk_ifF hc6 h
          refine tk_bF  rfl rfl rfl (c := 0 ≤ a3) hc6 (pc' := 44) (ls' := [(0, .ref 0), (1, .int a1), (2, .int a2), (3, .int a3)]) (st' := []) ?_
          refine tk_Ps  2 (pc' := 47) (ls' := [(0, .ref 0), (1, .int a1), (2, .int a2), (3, .int a3)]) (st' := [.int (6 : Int32), .ref 0]) rfl ?_
          obtain ⟨o11, ho11, h⟩ := tk_bnd h
          refine tk_cV1  rfl rfl (r := 0) (as := [.int (6 : Int32)]) (rest := []) rfl ly0 rfl rfl (ok_fX_finding sc (6 : Int32) m ho11) ?_
          replace h := Option.some.inj h
          subst h
          exact tk_RI  rfl rfl rfl
    · replace h := tk_ifF hc2 h
      refine tk_bF  rfl rfl tk_eB_ne (c := (fX_isWithin a2 (-1 : Int32) (2 : Int32)) = true) hc2 (pc' := 16) (ls' := [(0, .ref 0), (1, .int a1), (2, .int a2), (3, .int a3)]) (st' := []) ?_
      refine tk_Ps  2 (pc' := 18) (ls' := [(0, .ref 0), (1, .int a1), (2, .int a2), (3, .int a3)]) (st' := [.int (0 : Int32), .ref 0]) rfl ?_
      obtain ⟨o12, ho12, h⟩ := tk_bnd h
      refine tk_cV1  rfl rfl (r := 0) (as := [.int (0 : Int32)]) (rest := []) rfl ly0 rfl rfl (ok_fX_finding sc (0 : Int32) m ho12) ?_
      replace h := Option.some.inj h
      subst h
      exact tk_RI  rfl rfl rfl
  · replace h := tk_ifF hc1 h
    refine tk_bF  rfl rfl tk_eB_eq (c := (fX_isSheet a1) = true) hc1 (pc' := 16) (ls' := [(0, .ref 0), (1, .int a1), (2, .int a2), (3, .int a3)]) (st' := []) ?_
    refine tk_Ps  2 (pc' := 18) (ls' := [(0, .ref 0), (1, .int a1), (2, .int a2), (3, .int a3)]) (st' := [.int (0 : Int32), .ref 0]) rfl ?_
    obtain ⟨o13, ho13, h⟩ := tk_bnd h
    refine tk_cV1  rfl rfl (r := 0) (as := [.int (0 : Int32)]) (rest := []) rfl ly0 rfl rfl (ok_fX_finding sc (0 : Int32) m ho13) ?_
    replace h := Option.some.inj h
    subst h
    exact tk_RI  rfl rfl rfl
theorem ok_fX_missesItem (sc : tk_X) (a1 : Int32) (a2 : Int32) (m : tk_m) {out : Int32} (h : fX_missesItem a1 a2 m = some out) : tk_Ru sc 3 164 [.ref 0, .int a1, .int a2] (tk_full m) (some (.int out), tk_full m) := by
  unfold fX_missesItem at h
  refine tk_Ru0 me164 (ls := [(0, .ref 0), (1, .int a1), (2, .int a2)]) rfl rfl ?_
  refine tk_Ps  1 (pc' := 1) (ls' := [(0, .ref 0), (1, .int a1), (2, .int a2)]) (st' := [.int a1]) rfl ?_
  refine tk_cS1  rfl rfl (as := [.int a1]) (rest := []) rfl rfl rfl (ok_fX_isSheet sc a1 m) ?_
  by_cases hc1 : (fX_isSheet a1) = true
  · replace h := tk_ifT hc1 h
    refine tk_bT  rfl rfl tk_eB_ne (c := (fX_isSheet a1) = true) hc1 (pc' := 9) (ls' := [(0, .ref 0), (1, .int a1), (2, .int a2)]) (st' := []) ?_
    refine tk_Ps  1 (pc' := 10) (ls' := [(0, .ref 0), (1, .int a1), (2, .int a2)]) (st' := [.ref 0]) rfl ?_
    refine tk_HR  rfl rfl ly0 rt0_4 ?_
    refine tk_Ps  1 (pc' := 14) (ls' := [(0, .ref 0), (1, .int a1), (2, .int a2)]) (st' := [.int a1, .ref 12]) rfl ?_
    obtain ⟨hg2, h⟩ := tk_grd h
    refine tk_HQ  rfl rfl ly12 hg2 (la12 _ (hg2).2).1 ?_
    refine tk_cV1  rfl rfl (r := (287 + 2 * (tk_n a1))) (as := []) (rest := []) rfl ((la12 _ (hg2).2).2) rfl rfl (ok_fT_isMissing sc (287 + 2 * (tk_n a1)) m ((la12 _ (hg2).2).2)) ?_
    by_cases hc3 : (fT_isMissing (287 + 2 * (tk_n a1)) m) = true
    · replace h := tk_ifT hc3 h
      refine tk_bT  rfl rfl tk_eB_eq (c := (fT_isMissing (287 + 2 * (tk_n a1)) m) = true) hc3 (pc' := 21) (ls' := [(0, .ref 0), (1, .int a1), (2, .int a2)]) (st' := []) ?_
      refine tk_Ps  1 (pc' := 22) (ls' := [(0, .ref 0), (1, .int a1), (2, .int a2)]) (st' := [.int (5 : Int32)]) rfl ?_
      replace h := Option.some.inj h
      subst h
      exact tk_RI  rfl rfl rfl
    · replace h := tk_ifF hc3 h
      refine tk_bF  rfl rfl tk_eB_eq (c := (fT_isMissing (287 + 2 * (tk_n a1)) m) = true) hc3 (pc' := 23) (ls' := [(0, .ref 0), (1, .int a1), (2, .int a2)]) (st' := []) ?_
      refine tk_Ps  1 (pc' := 24) (ls' := [(0, .ref 0), (1, .int a1), (2, .int a2)]) (st' := [.int a2]) rfl ?_
      by_cases hc4 : a2 < 0
      · replace h := tk_ifT hc4 h
        refine tk_bT  rfl rfl rfl (c := a2 < 0) hc4 (pc' := 44) (ls' := [(0, .ref 0), (1, .int a1), (2, .int a2)]) (st' := []) ?_
        refine tk_Ps  1 (pc' := 45) (ls' := [(0, .ref 0), (1, .int a1), (2, .int a2)]) (st' := [.int (0 : Int32)]) rfl ?_
        replace h := Option.some.inj h
        subst h
        exact tk_RI  rfl rfl rfl
      · replace h := tk_ifF hc4 h
        refine tk_bF  rfl rfl rfl (c := a2 < 0) hc4 (pc' := 27) (ls' := [(0, .ref 0), (1, .int a1), (2, .int a2)]) (st' := []) ?_
        refine tk_Ps  2 (pc' := 29) (ls' := [(0, .ref 0), (1, .int a1), (2, .int a2)]) (st' := [.ref 0, .int a2]) rfl ?_
        refine tk_HR  rfl rfl ly0 rt0_4 ?_
        refine tk_Ps  1 (pc' := 33) (ls' := [(0, .ref 0), (1, .int a1), (2, .int a2)]) (st' := [.int a1, .ref 12, .int a2]) rfl ?_
        refine tk_HQ  rfl rfl ly12 hg2 (la12 _ (hg2).2).1 ?_
        refine tk_HI  rfl rfl ((la12 _ (hg2).2).2) ?_
        by_cases hc5 : (m.1 (287 + 2 * (tk_n a1)) 1) ≤ a2
        · replace h := tk_ifT hc5 h
          refine tk_bT  rfl rfl rfl (c := (m.1 (287 + 2 * (tk_n a1)) 1) ≤ a2) hc5 (pc' := 44) (ls' := [(0, .ref 0), (1, .int a1), (2, .int a2)]) (st' := []) ?_
          refine tk_Ps  1 (pc' := 45) (ls' := [(0, .ref 0), (1, .int a1), (2, .int a2)]) (st' := [.int (0 : Int32)]) rfl ?_
          replace h := Option.some.inj h
          subst h
          exact tk_RI  rfl rfl rfl
        · replace h := tk_ifF hc5 h
          refine tk_bF  rfl rfl rfl (c := (m.1 (287 + 2 * (tk_n a1)) 1) ≤ a2) hc5 (pc' := 40) (ls' := [(0, .ref 0), (1, .int a1), (2, .int a2)]) (st' := []) ?_
          refine tk_Ps  2 (pc' := 45) (ls' := [(0, .ref 0), (1, .int a1), (2, .int a2)]) (st' := [.int (-1 : Int32)]) rfl ?_
          replace h := Option.some.inj h
          subst h
          exact tk_RI  rfl rfl rfl
  · replace h := tk_ifF hc1 h
    refine tk_bF  rfl rfl tk_eB_ne (c := (fX_isSheet a1) = true) hc1 (pc' := 7) (ls' := [(0, .ref 0), (1, .int a1), (2, .int a2)]) (st' := []) ?_
    refine tk_Ps  1 (pc' := 8) (ls' := [(0, .ref 0), (1, .int a1), (2, .int a2)]) (st' := [.int (0 : Int32)]) rfl ?_
    replace h := Option.some.inj h
    subst h
    exact tk_RI  rfl rfl rfl
theorem ok_fX_write (sc : tk_X) (a1 : Int32) (a2 : Int32) (a3 : Int64) (m : tk_m) {out : Int32 × tk_m} (h : fX_write a1 a2 a3 m = some out) : tk_Ru sc 4 163 [.ref 0, .int a1, .int a2, .long a3] (tk_full m) (some (.int out.1), tk_full out.2) := by
  unfold fX_write at h
  refine tk_Ru0 me163 (ls := [(0, .ref 0), (1, .int a1), (2, .int a2), (3, .long a3)]) rfl rfl ?_
  refine tk_Ps  3 (pc' := 3) (ls' := [(0, .ref 0), (1, .int a1), (2, .int a2), (3, .long a3)]) (st' := [.int a2, .int a1, .ref 0]) rfl ?_
  obtain ⟨o1, ho1, h⟩ := tk_bnd h
  refine tk_cV1  rfl rfl (r := 0) (as := [.int a1, .int a2]) (rest := []) rfl ly0 rfl rfl (ok_fX_missesItem sc a1 a2 m ho1) ?_
  refine tk_Ps  2 (pc' := 10) (ls' := [(5, .int o1), (0, .ref 0), (1, .int a1), (2, .int a2), (3, .long a3)]) (st' := [.int o1]) rfl ?_
  by_cases hc2 : o1 < 0
  · replace h := tk_ifT hc2 h
    refine tk_bT  rfl rfl rfl (c := o1 < 0) hc2 (pc' := 20) (ls' := [(5, .int o1), (0, .ref 0), (1, .int a1), (2, .int a2), (3, .long a3)]) (st' := []) ?_
    refine tk_Ps  1 (pc' := 21) (ls' := [(5, .int o1), (0, .ref 0), (1, .int a1), (2, .int a2), (3, .long a3)]) (st' := [.ref 0]) rfl ?_
    refine tk_HR  rfl rfl ly0 rt0_4 ?_
    refine tk_Ps  1 (pc' := 25) (ls' := [(5, .int o1), (0, .ref 0), (1, .int a1), (2, .int a2), (3, .long a3)]) (st' := [.int a1, .ref 12]) rfl ?_
    obtain ⟨hg3, h⟩ := tk_grd h
    refine tk_HQ  rfl rfl ly12 hg3 (la12 _ (hg3).2).1 ?_
    refine tk_Ps  2 (pc' := 28) (ls' := [(5, .int o1), (0, .ref 0), (1, .int a1), (2, .int a2), (3, .long a3)]) (st' := [.long a3, .int a2, .ref (287 + 2 * (tk_n a1))]) rfl ?_
    obtain ⟨o4, ho4, h⟩ := tk_bnd h
    refine tk_cV0  rfl rfl (r := (287 + 2 * (tk_n a1))) (as := [.int a2, .long a3]) (rest := []) rfl ((la12 _ (hg3).2).2) rfl rfl (ok_fT_set sc (287 + 2 * (tk_n a1)) a2 a3 m ((la12 _ (hg3).2).2) ho4) ?_
    refine tk_Ps  1 (pc' := 32) (ls' := [(5, .int o1), (0, .ref 0), (1, .int a1), (2, .int a2), (3, .long a3)]) (st' := [.int (1 : Int32)]) rfl ?_
    replace h := Option.some.inj h
    subst h
    exact tk_RI  rfl rfl rfl
  · replace h := tk_ifF hc2 h
    refine tk_bF  rfl rfl rfl (c := o1 < 0) hc2 (pc' := 13) (ls' := [(5, .int o1), (0, .ref 0), (1, .int a1), (2, .int a2), (3, .long a3)]) (st' := []) ?_
    refine tk_Ps  2 (pc' := 16) (ls' := [(5, .int o1), (0, .ref 0), (1, .int a1), (2, .int a2), (3, .long a3)]) (st' := [.int o1, .ref 0]) rfl ?_
    obtain ⟨o5, ho5, h⟩ := tk_bnd h
    refine tk_cV1  rfl rfl (r := 0) (as := [.int o1]) (rest := []) rfl ly0 rfl rfl (ok_fX_finding sc o1 m ho5) ?_
    replace h := Option.some.inj h
    subst h
    exact tk_RI  rfl rfl rfl
theorem ok_fX_item (sc : tk_X) (a1 : Int32) (a2 : Int32) (m : tk_m) {out : Int64 × tk_m} (h : fX_item a1 a2 m = some out) : tk_Ru sc 4 165 [.ref 0, .int a1, .int a2] (tk_full m) (some (.long out.1), tk_full out.2) := by
  unfold fX_item at h
  refine tk_Ru0 me165 (ls := [(0, .ref 0), (1, .int a1), (2, .int a2)]) rfl rfl ?_
  refine tk_Ps  3 (pc' := 3) (ls' := [(0, .ref 0), (1, .int a1), (2, .int a2)]) (st' := [.int a2, .int a1, .ref 0]) rfl ?_
  obtain ⟨o1, ho1, h⟩ := tk_bnd h
  refine tk_cV1  rfl rfl (r := 0) (as := [.int a1, .int a2]) (rest := []) rfl ly0 rfl rfl (ok_fX_missesItem sc a1 a2 m ho1) ?_
  refine tk_Ps  2 (pc' := 8) (ls' := [(3, .int o1), (0, .ref 0), (1, .int a1), (2, .int a2)]) (st' := [.int o1]) rfl ?_
  by_cases hc2 : o1 < 0
  · replace h := tk_ifT hc2 h
    refine tk_bT  rfl rfl rfl (c := o1 < 0) hc2 (pc' := 17) (ls' := [(3, .int o1), (0, .ref 0), (1, .int a1), (2, .int a2)]) (st' := []) ?_
    refine tk_Ps  1 (pc' := 18) (ls' := [(3, .int o1), (0, .ref 0), (1, .int a1), (2, .int a2)]) (st' := [.ref 0]) rfl ?_
    refine tk_HR  rfl rfl ly0 rt0_4 ?_
    refine tk_Ps  1 (pc' := 22) (ls' := [(3, .int o1), (0, .ref 0), (1, .int a1), (2, .int a2)]) (st' := [.int a1, .ref 12]) rfl ?_
    obtain ⟨hg3, h⟩ := tk_grd h
    refine tk_HQ  rfl rfl ly12 hg3 (la12 _ (hg3).2).1 ?_
    refine tk_HR  rfl rfl ((la12 _ (hg3).2).2) (ro7_2 ((la12 _ (hg3).2).2)) ?_
    refine tk_Ps  1 (pc' := 27) (ls' := [(3, .int o1), (0, .ref 0), (1, .int a1), (2, .int a2)]) (st' := [.int a2, .ref ((287 + 2 * (tk_n a1)) + 1)]) rfl ?_
    obtain ⟨hg4, h⟩ := tk_grd h
    refine tk_HJa  rfl rfl (lo7_2 ((la12 _ (hg3).2).2)) hg4 ?_
    replace h := Option.some.inj h
    subst h
    exact tk_RJ  rfl rfl rfl
  · replace h := tk_ifF hc2 h
    refine tk_bF  rfl rfl rfl (c := o1 < 0) hc2 (pc' := 11) (ls' := [(3, .int o1), (0, .ref 0), (1, .int a1), (2, .int a2)]) (st' := []) ?_
    refine tk_Ps  2 (pc' := 13) (ls' := [(3, .int o1), (0, .ref 0), (1, .int a1), (2, .int a2)]) (st' := [.int o1, .ref 0]) rfl ?_
    obtain ⟨o5, ho5, h⟩ := tk_bnd h
    refine tk_cV1  rfl rfl (r := 0) (as := [.int o1]) (rest := []) rfl ly0 rfl rfl (ok_fX_longFinding sc o1 m ho5) ?_
    replace h := Option.some.inj h
    subst h
    exact tk_RJ  rfl rfl rfl
theorem ok_fT_hasRow (sc : tk_X) (t : Nat) (a1 : Int32) (a2 : Int32) (m : tk_m) (ht : tk_lay[t]? = some (.inl 7)) : tk_Ru sc 1 167 [.ref t, .int a1, .int a2] (tk_full m) (some (.int (tk_b (fT_hasRow t a1 a2 m))), tk_full m) := by
  obtain ⟨out, h⟩ : ∃ out, fT_hasRow t a1 a2 m = out := ⟨_, rfl⟩
  rw [h]
  unfold fT_hasRow at h
  refine tk_Ru0 me167 (ls := [(0, .ref t), (1, .int a1), (2, .int a2)]) rfl rfl ?_
  refine tk_Ps  1 (pc' := 1) (ls' := [(0, .ref t), (1, .int a1), (2, .int a2)]) (st' := [.int a1]) rfl ?_
  by_cases hc1 : a1 < 0
  · replace h := tk_ifT hc1 h
    refine tk_bT  rfl rfl rfl (c := a1 < 0) hc1 (pc' := 30) (ls' := [(0, .ref t), (1, .int a1), (2, .int a2)]) (st' := []) ?_
    refine tk_Ps  1 (pc' := 31) (ls' := [(0, .ref t), (1, .int a1), (2, .int a2)]) (st' := [.int (0 : Int32)]) rfl ?_
    subst h
    exact tk_RB (b := false)  rfl rfl rfl
  · replace h := tk_ifF hc1 h
    refine tk_bF  rfl rfl rfl (c := a1 < 0) hc1 (pc' := 4) (ls' := [(0, .ref t), (1, .int a1), (2, .int a2)]) (st' := []) ?_
    refine tk_Ps  1 (pc' := 5) (ls' := [(0, .ref t), (1, .int a1), (2, .int a2)]) (st' := [.int a2]) rfl ?_
    by_cases hc2 : a2 < 0
    · replace h := tk_ifT hc2 h
      refine tk_bT  rfl rfl rfl (c := a2 < 0) hc2 (pc' := 30) (ls' := [(0, .ref t), (1, .int a1), (2, .int a2)]) (st' := []) ?_
      refine tk_Ps  1 (pc' := 31) (ls' := [(0, .ref t), (1, .int a1), (2, .int a2)]) (st' := [.int (0 : Int32)]) rfl ?_
      subst h
      exact tk_RB (b := false)  rfl rfl rfl
    · replace h := tk_ifF hc2 h
      refine tk_bF  rfl rfl rfl (c := a2 < 0) hc2 (pc' := 8) (ls' := [(0, .ref t), (1, .int a1), (2, .int a2)]) (st' := []) ?_
      refine tk_Ps  2 (pc' := 10) (ls' := [(0, .ref t), (1, .int a1), (2, .int a2)]) (st' := [.ref t, .int a1]) rfl ?_
      refine tk_HI  rfl rfl ht ?_
      by_cases hc3 : (m.1 t 1) < a1
      · replace h := tk_ifT hc3 h
        refine tk_bT  rfl rfl rfl (c := (m.1 t 1) < a1) hc3 (pc' := 30) (ls' := [(0, .ref t), (1, .int a1), (2, .int a2)]) (st' := []) ?_
        refine tk_Ps  1 (pc' := 31) (ls' := [(0, .ref t), (1, .int a1), (2, .int a2)]) (st' := [.int (0 : Int32)]) rfl ?_
        subst h
        exact tk_RB (b := false)  rfl rfl rfl
      · replace h := tk_ifF hc3 h
        refine tk_bF  rfl rfl rfl (c := (m.1 t 1) < a1) hc3 (pc' := 16) (ls' := [(0, .ref t), (1, .int a1), (2, .int a2)]) (st' := []) ?_
        refine tk_Ps  2 (pc' := 18) (ls' := [(0, .ref t), (1, .int a1), (2, .int a2)]) (st' := [.ref t, .int a2]) rfl ?_
        refine tk_HI  rfl rfl ht ?_
        refine tk_Ps  2 (pc' := 23) (ls' := [(0, .ref t), (1, .int a1), (2, .int a2)]) (st' := [.int ((m.1 t 1) - a1), .int a2]) rfl ?_
        by_cases hc4 : ((m.1 t 1) - a1) < a2
        · replace h := tk_ifT hc4 h
          refine tk_bT  rfl rfl rfl (c := ((m.1 t 1) - a1) < a2) hc4 (pc' := 30) (ls' := [(0, .ref t), (1, .int a1), (2, .int a2)]) (st' := []) ?_
          refine tk_Ps  1 (pc' := 31) (ls' := [(0, .ref t), (1, .int a1), (2, .int a2)]) (st' := [.int (0 : Int32)]) rfl ?_
          subst h
          exact tk_RB (b := false)  rfl rfl rfl
        · replace h := tk_ifF hc4 h
          refine tk_bF  rfl rfl rfl (c := ((m.1 t 1) - a1) < a2) hc4 (pc' := 26) (ls' := [(0, .ref t), (1, .int a1), (2, .int a2)]) (st' := []) ?_
          refine tk_Ps  2 (pc' := 31) (ls' := [(0, .ref t), (1, .int a1), (2, .int a2)]) (st' := [.int (1 : Int32)]) rfl ?_
          subst h
          exact tk_RB (b := true)  rfl rfl rfl
theorem ok_fX_copy (sc : tk_X) (a1 : Int32) (a2 : Int32) (a3 : Int32) (a4 : Int32) (a5 : Int32) (m : tk_m) {out : Int32 × tk_m} (h : fX_copy a1 a2 a3 a4 a5 m = some out) : tk_Ru sc 3 166 [.ref 0, .int a1, .int a2, .int a3, .int a4, .int a5] (tk_full m) (some (.int out.1), tk_full out.2) := by
  unfold fX_copy at h
  refine tk_Ru0 me166 (ls := [(0, .ref 0), (1, .int a1), (2, .int a2), (3, .int a3), (4, .int a4), (5, .int a5)]) rfl rfl ?_
  refine tk_Ps  1 (pc' := 1) (ls' := [(0, .ref 0), (1, .int a1), (2, .int a2), (3, .int a3), (4, .int a4), (5, .int a5)]) (st' := [.int a1]) rfl ?_
  refine tk_cS1  rfl rfl (as := [.int a1]) (rest := []) rfl rfl rfl (ok_fX_isSheet sc a1 m) ?_
  by_cases hc1 : (fX_isSheet a1) = true
  · replace h := tk_ifT hc1 h
    refine tk_bT  rfl rfl tk_eB_eq (c := (fX_isSheet a1) = true) hc1 (pc' := 7) (ls' := [(0, .ref 0), (1, .int a1), (2, .int a2), (3, .int a3), (4, .int a4), (5, .int a5)]) (st' := []) ?_
    refine tk_Ps  1 (pc' := 8) (ls' := [(0, .ref 0), (1, .int a1), (2, .int a2), (3, .int a3), (4, .int a4), (5, .int a5)]) (st' := [.int a3]) rfl ?_
    refine tk_cS1  rfl rfl (as := [.int a3]) (rest := []) rfl rfl rfl (ok_fX_isSheet sc a3 m) ?_
    by_cases hc2 : (fX_isSheet a3) = true
    · replace h := tk_ifT hc2 h
      refine tk_bT  rfl rfl tk_eB_ne (c := (fX_isSheet a3) = true) hc2 (pc' := 20) (ls' := [(0, .ref 0), (1, .int a1), (2, .int a2), (3, .int a3), (4, .int a4), (5, .int a5)]) (st' := []) ?_
      refine tk_Ps  1 (pc' := 21) (ls' := [(0, .ref 0), (1, .int a1), (2, .int a2), (3, .int a3), (4, .int a4), (5, .int a5)]) (st' := [.ref 0]) rfl ?_
      refine tk_HR  rfl rfl ly0 rt0_4 ?_
      refine tk_Ps  1 (pc' := 25) (ls' := [(0, .ref 0), (1, .int a1), (2, .int a2), (3, .int a3), (4, .int a4), (5, .int a5)]) (st' := [.int a1, .ref 12]) rfl ?_
      obtain ⟨hg3, h⟩ := tk_grd h
      refine tk_HQ  rfl rfl ly12 hg3 (la12 _ (hg3).2).1 ?_
      refine tk_Ps  2 (pc' := 29) (ls' := [(6, .ref (287 + 2 * (tk_n a1))), (0, .ref 0), (1, .int a1), (2, .int a2), (3, .int a3), (4, .int a4), (5, .int a5)]) (st' := [.ref 0]) rfl ?_
      refine tk_HR  rfl rfl ly0 rt0_4 ?_
      refine tk_Ps  1 (pc' := 33) (ls' := [(6, .ref (287 + 2 * (tk_n a1))), (0, .ref 0), (1, .int a1), (2, .int a2), (3, .int a3), (4, .int a4), (5, .int a5)]) (st' := [.int a3, .ref 12]) rfl ?_
      obtain ⟨hg4, h⟩ := tk_grd h
      refine tk_HQ  rfl rfl ly12 hg4 (la12 _ (hg4).2).1 ?_
      refine tk_Ps  2 (pc' := 38) (ls' := [(7, .ref (287 + 2 * (tk_n a3))), (6, .ref (287 + 2 * (tk_n a1))), (0, .ref 0), (1, .int a1), (2, .int a2), (3, .int a3), (4, .int a4), (5, .int a5)]) (st' := [.ref (287 + 2 * (tk_n a1))]) rfl ?_
      refine tk_cV1  rfl rfl (r := (287 + 2 * (tk_n a1))) (as := []) (rest := []) rfl ((la12 _ (hg3).2).2) rfl rfl (ok_fT_isMissing sc (287 + 2 * (tk_n a1)) m ((la12 _ (hg3).2).2)) ?_
      by_cases hc5 : (fT_isMissing (287 + 2 * (tk_n a1)) m) = true
      · replace h := tk_ifT hc5 h
        refine tk_bT  rfl rfl tk_eB_ne (c := (fT_isMissing (287 + 2 * (tk_n a1)) m) = true) hc5 (pc' := 52) (ls' := [(7, .ref (287 + 2 * (tk_n a3))), (6, .ref (287 + 2 * (tk_n a1))), (0, .ref 0), (1, .int a1), (2, .int a2), (3, .int a3), (4, .int a4), (5, .int a5)]) (st' := []) ?_
        refine tk_Ps  2 (pc' := 54) (ls' := [(7, .ref (287 + 2 * (tk_n a3))), (6, .ref (287 + 2 * (tk_n a1))), (0, .ref 0), (1, .int a1), (2, .int a2), (3, .int a3), (4, .int a4), (5, .int a5)]) (st' := [.int (5 : Int32), .ref 0]) rfl ?_
        obtain ⟨o6, ho6, h⟩ := tk_bnd h
        refine tk_cV1  rfl rfl (r := 0) (as := [.int (5 : Int32)]) (rest := []) rfl ly0 rfl rfl (ok_fX_finding sc (5 : Int32) m ho6) ?_
        replace h := Option.some.inj h
        subst h
        exact tk_RI  rfl rfl rfl
      · replace h := tk_ifF hc5 h
        refine tk_bF  rfl rfl tk_eB_ne (c := (fT_isMissing (287 + 2 * (tk_n a1)) m) = true) hc5 (pc' := 44) (ls' := [(7, .ref (287 + 2 * (tk_n a3))), (6, .ref (287 + 2 * (tk_n a1))), (0, .ref 0), (1, .int a1), (2, .int a2), (3, .int a3), (4, .int a4), (5, .int a5)]) (st' := []) ?_
        refine tk_Ps  1 (pc' := 46) (ls' := [(7, .ref (287 + 2 * (tk_n a3))), (6, .ref (287 + 2 * (tk_n a1))), (0, .ref 0), (1, .int a1), (2, .int a2), (3, .int a3), (4, .int a4), (5, .int a5)]) (st' := [.ref (287 + 2 * (tk_n a3))]) rfl ?_
        refine tk_cV1  rfl rfl (r := (287 + 2 * (tk_n a3))) (as := []) (rest := []) rfl ((la12 _ (hg4).2).2) rfl rfl (ok_fT_isMissing sc (287 + 2 * (tk_n a3)) m ((la12 _ (hg4).2).2)) ?_
        by_cases hc7 : (fT_isMissing (287 + 2 * (tk_n a3)) m) = true
        · replace h := tk_ifT hc7 h
          refine tk_bT  rfl rfl tk_eB_eq (c := (fT_isMissing (287 + 2 * (tk_n a3)) m) = true) hc7 (pc' := 52) (ls' := [(7, .ref (287 + 2 * (tk_n a3))), (6, .ref (287 + 2 * (tk_n a1))), (0, .ref 0), (1, .int a1), (2, .int a2), (3, .int a3), (4, .int a4), (5, .int a5)]) (st' := []) ?_
          refine tk_Ps  2 (pc' := 54) (ls' := [(7, .ref (287 + 2 * (tk_n a3))), (6, .ref (287 + 2 * (tk_n a1))), (0, .ref 0), (1, .int a1), (2, .int a2), (3, .int a3), (4, .int a4), (5, .int a5)]) (st' := [.int (5 : Int32), .ref 0]) rfl ?_
          obtain ⟨o8, ho8, h⟩ := tk_bnd h
          refine tk_cV1  rfl rfl (r := 0) (as := [.int (5 : Int32)]) (rest := []) rfl ly0 rfl rfl (ok_fX_finding sc (5 : Int32) m ho8) ?_
          replace h := Option.some.inj h
          subst h
          exact tk_RI  rfl rfl rfl
        · replace h := tk_ifF hc7 h
          refine tk_bF  rfl rfl tk_eB_eq (c := (fT_isMissing (287 + 2 * (tk_n a3)) m) = true) hc7 (pc' := 58) (ls' := [(7, .ref (287 + 2 * (tk_n a3))), (6, .ref (287 + 2 * (tk_n a1))), (0, .ref 0), (1, .int a1), (2, .int a2), (3, .int a3), (4, .int a4), (5, .int a5)]) (st' := []) ?_
          refine tk_Ps  1 (pc' := 60) (ls' := [(7, .ref (287 + 2 * (tk_n a3))), (6, .ref (287 + 2 * (tk_n a1))), (0, .ref 0), (1, .int a1), (2, .int a2), (3, .int a3), (4, .int a4), (5, .int a5)]) (st' := [.ref (287 + 2 * (tk_n a1))]) rfl ?_
          refine tk_HI  rfl rfl ((la12 _ (hg3).2).2) ?_
          refine tk_Ps  1 (pc' := 65) (ls' := [(7, .ref (287 + 2 * (tk_n a3))), (6, .ref (287 + 2 * (tk_n a1))), (0, .ref 0), (1, .int a1), (2, .int a2), (3, .int a3), (4, .int a4), (5, .int a5)]) (st' := [.ref (287 + 2 * (tk_n a3)), .int (m.1 (287 + 2 * (tk_n a1)) 0)]) rfl ?_
          refine tk_HI  rfl rfl ((la12 _ (hg4).2).2) ?_
          by_cases hc9 : (m.1 (287 + 2 * (tk_n a1)) 0) = (m.1 (287 + 2 * (tk_n a3)) 0)
          · replace h := tk_ifT hc9 h
            refine tk_bT  rfl rfl rfl (c := (m.1 (287 + 2 * (tk_n a1)) 0) = (m.1 (287 + 2 * (tk_n a3)) 0)) hc9 (pc' := 77) (ls' := [(7, .ref (287 + 2 * (tk_n a3))), (6, .ref (287 + 2 * (tk_n a1))), (0, .ref 0), (1, .int a1), (2, .int a2), (3, .int a3), (4, .int a4), (5, .int a5)]) (st' := []) ?_
            refine tk_Ps  3 (pc' := 82) (ls' := [(7, .ref (287 + 2 * (tk_n a3))), (6, .ref (287 + 2 * (tk_n a1))), (0, .ref 0), (1, .int a1), (2, .int a2), (3, .int a3), (4, .int a4), (5, .int a5)]) (st' := [.int a5, .int a2, .ref (287 + 2 * (tk_n a1))]) rfl ?_
            refine tk_cV1  rfl rfl (r := (287 + 2 * (tk_n a1))) (as := [.int a2, .int a5]) (rest := []) rfl ((la12 _ (hg3).2).2) rfl rfl (ok_fT_hasRow sc (287 + 2 * (tk_n a1)) a2 a5 m ((la12 _ (hg3).2).2)) ?_
            by_cases hc10 : (fT_hasRow (287 + 2 * (tk_n a1)) a2 a5 m) = true
            · replace h := tk_ifT hc10 h
              refine tk_bT  rfl rfl tk_eB_eq (c := (fT_hasRow (287 + 2 * (tk_n a1)) a2 a5 m) = true) hc10 (pc' := 88) (ls' := [(7, .ref (287 + 2 * (tk_n a3))), (6, .ref (287 + 2 * (tk_n a1))), (0, .ref 0), (1, .int a1), (2, .int a2), (3, .int a3), (4, .int a4), (5, .int a5)]) (st' := []) ?_
              refine tk_Ps  3 (pc' := 94) (ls' := [(7, .ref (287 + 2 * (tk_n a3))), (6, .ref (287 + 2 * (tk_n a1))), (0, .ref 0), (1, .int a1), (2, .int a2), (3, .int a3), (4, .int a4), (5, .int a5)]) (st' := [.int a5, .int a4, .ref (287 + 2 * (tk_n a3))]) rfl ?_
              refine tk_cV1  rfl rfl (r := (287 + 2 * (tk_n a3))) (as := [.int a4, .int a5]) (rest := []) rfl ((la12 _ (hg4).2).2) rfl rfl (ok_fT_hasRow sc (287 + 2 * (tk_n a3)) a4 a5 m ((la12 _ (hg4).2).2)) ?_
              by_cases hc11 : (fT_hasRow (287 + 2 * (tk_n a3)) a4 a5 m) = true
              · replace h := tk_ifT hc11 h
                refine tk_bT  rfl rfl tk_eB_ne (c := (fT_hasRow (287 + 2 * (tk_n a3)) a4 a5 m) = true) hc11 (pc' := 106) (ls' := [(7, .ref (287 + 2 * (tk_n a3))), (6, .ref (287 + 2 * (tk_n a1))), (0, .ref 0), (1, .int a1), (2, .int a2), (3, .int a3), (4, .int a4), (5, .int a5)]) (st' := []) ?_
                refine tk_Ps  1 (pc' := 108) (ls' := [(7, .ref (287 + 2 * (tk_n a3))), (6, .ref (287 + 2 * (tk_n a1))), (0, .ref 0), (1, .int a1), (2, .int a2), (3, .int a3), (4, .int a4), (5, .int a5)]) (st' := [.ref (287 + 2 * (tk_n a1))]) rfl ?_
                refine tk_HR  rfl rfl ((la12 _ (hg3).2).2) (ro7_2 ((la12 _ (hg3).2).2)) ?_
                refine tk_Ps  2 (pc' := 114) (ls' := [(7, .ref (287 + 2 * (tk_n a3))), (6, .ref (287 + 2 * (tk_n a1))), (0, .ref 0), (1, .int a1), (2, .int a2), (3, .int a3), (4, .int a4), (5, .int a5)]) (st' := [.ref (287 + 2 * (tk_n a3)), .int a2, .ref ((287 + 2 * (tk_n a1)) + 1)]) rfl ?_
                refine tk_HR  rfl rfl ((la12 _ (hg4).2).2) (ro7_2 ((la12 _ (hg4).2).2)) ?_
                refine tk_Ps  2 (pc' := 121) (ls' := [(7, .ref (287 + 2 * (tk_n a3))), (6, .ref (287 + 2 * (tk_n a1))), (0, .ref 0), (1, .int a1), (2, .int a2), (3, .int a3), (4, .int a4), (5, .int a5)]) (st' := [.int a5, .int a4, .ref ((287 + 2 * (tk_n a3)) + 1), .int a2, .ref ((287 + 2 * (tk_n a1)) + 1)]) rfl ?_
                obtain ⟨hg12, h⟩ := tk_grd h
                refine tk_Hcp  rfl rfl (lo7_2 ((la12 _ (hg3).2).2)) (lo7_2 ((la12 _ (hg4).2).2)) hg12 ?_
                refine tk_Ps  1 (pc' := 126) (ls' := [(7, .ref (287 + 2 * (tk_n a3))), (6, .ref (287 + 2 * (tk_n a1))), (0, .ref 0), (1, .int a1), (2, .int a2), (3, .int a3), (4, .int a4), (5, .int a5)]) (st' := [.int a5]) rfl ?_
                replace h := Option.some.inj h
                subst h
                exact tk_RI  rfl rfl rfl
              · replace h := tk_ifF hc11 h
                refine tk_bF  rfl rfl tk_eB_ne (c := (fT_hasRow (287 + 2 * (tk_n a3)) a4 a5 m) = true) hc11 (pc' := 100) (ls' := [(7, .ref (287 + 2 * (tk_n a3))), (6, .ref (287 + 2 * (tk_n a1))), (0, .ref 0), (1, .int a1), (2, .int a2), (3, .int a3), (4, .int a4), (5, .int a5)]) (st' := []) ?_
                refine tk_Ps  2 (pc' := 102) (ls' := [(7, .ref (287 + 2 * (tk_n a3))), (6, .ref (287 + 2 * (tk_n a1))), (0, .ref 0), (1, .int a1), (2, .int a2), (3, .int a3), (4, .int a4), (5, .int a5)]) (st' := [.int (0 : Int32), .ref 0]) rfl ?_
                obtain ⟨o13, ho13, h⟩ := tk_bnd h
                refine tk_cV1  rfl rfl (r := 0) (as := [.int (0 : Int32)]) (rest := []) rfl ly0 rfl rfl (ok_fX_finding sc (0 : Int32) m ho13) ?_
                replace h := Option.some.inj h
                subst h
                exact tk_RI  rfl rfl rfl
            · replace h := tk_ifF hc10 h
              refine tk_bF  rfl rfl tk_eB_eq (c := (fT_hasRow (287 + 2 * (tk_n a1)) a2 a5 m) = true) hc10 (pc' := 100) (ls' := [(7, .ref (287 + 2 * (tk_n a3))), (6, .ref (287 + 2 * (tk_n a1))), (0, .ref 0), (1, .int a1), (2, .int a2), (3, .int a3), (4, .int a4), (5, .int a5)]) (st' := []) ?_
              refine tk_Ps  2 (pc' := 102) (ls' := [(7, .ref (287 + 2 * (tk_n a3))), (6, .ref (287 + 2 * (tk_n a1))), (0, .ref 0), (1, .int a1), (2, .int a2), (3, .int a3), (4, .int a4), (5, .int a5)]) (st' := [.int (0 : Int32), .ref 0]) rfl ?_
              obtain ⟨o14, ho14, h⟩ := tk_bnd h
              refine tk_cV1  rfl rfl (r := 0) (as := [.int (0 : Int32)]) (rest := []) rfl ly0 rfl rfl (ok_fX_finding sc (0 : Int32) m ho14) ?_
              replace h := Option.some.inj h
              subst h
              exact tk_RI  rfl rfl rfl
          · replace h := tk_ifF hc9 h
            refine tk_bF  rfl rfl rfl (c := (m.1 (287 + 2 * (tk_n a1)) 0) = (m.1 (287 + 2 * (tk_n a3)) 0)) hc9 (pc' := 71) (ls' := [(7, .ref (287 + 2 * (tk_n a3))), (6, .ref (287 + 2 * (tk_n a1))), (0, .ref 0), (1, .int a1), (2, .int a2), (3, .int a3), (4, .int a4), (5, .int a5)]) (st' := []) ?_
            refine tk_Ps  2 (pc' := 73) (ls' := [(7, .ref (287 + 2 * (tk_n a3))), (6, .ref (287 + 2 * (tk_n a1))), (0, .ref 0), (1, .int a1), (2, .int a2), (3, .int a3), (4, .int a4), (5, .int a5)]) (st' := [.int (2 : Int32), .ref 0]) rfl ?_
            obtain ⟨o15, ho15, h⟩ := tk_bnd h
            refine tk_cV1  rfl rfl (r := 0) (as := [.int (2 : Int32)]) (rest := []) rfl ly0 rfl rfl (ok_fX_finding sc (2 : Int32) m ho15) ?_
            replace h := Option.some.inj h
            subst h
            exact tk_RI  rfl rfl rfl
    · replace h := tk_ifF hc2 h
      refine tk_bF  rfl rfl tk_eB_ne (c := (fX_isSheet a3) = true) hc2 (pc' := 14) (ls' := [(0, .ref 0), (1, .int a1), (2, .int a2), (3, .int a3), (4, .int a4), (5, .int a5)]) (st' := []) ?_
      refine tk_Ps  2 (pc' := 16) (ls' := [(0, .ref 0), (1, .int a1), (2, .int a2), (3, .int a3), (4, .int a4), (5, .int a5)]) (st' := [.int (0 : Int32), .ref 0]) rfl ?_
      obtain ⟨o16, ho16, h⟩ := tk_bnd h
      refine tk_cV1  rfl rfl (r := 0) (as := [.int (0 : Int32)]) (rest := []) rfl ly0 rfl rfl (ok_fX_finding sc (0 : Int32) m ho16) ?_
      replace h := Option.some.inj h
      subst h
      exact tk_RI  rfl rfl rfl
  · replace h := tk_ifF hc1 h
    refine tk_bF  rfl rfl tk_eB_eq (c := (fX_isSheet a1) = true) hc1 (pc' := 14) (ls' := [(0, .ref 0), (1, .int a1), (2, .int a2), (3, .int a3), (4, .int a4), (5, .int a5)]) (st' := []) ?_
    refine tk_Ps  2 (pc' := 16) (ls' := [(0, .ref 0), (1, .int a1), (2, .int a2), (3, .int a3), (4, .int a4), (5, .int a5)]) (st' := [.int (0 : Int32), .ref 0]) rfl ?_
    obtain ⟨o17, ho17, h⟩ := tk_bnd h
    refine tk_cV1  rfl rfl (r := 0) (as := [.int (0 : Int32)]) (rest := []) rfl ly0 rfl rfl (ok_fX_finding sc (0 : Int32) m ho17) ?_
    replace h := Option.some.inj h
    subst h
    exact tk_RI  rfl rfl rfl

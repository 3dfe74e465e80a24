theorem ok_fH_become (sc : tk_X) (t : Nat) (a1 : Nat) (m : tk_m) (ht : tk_lay[t]? = some (.inl 6)) (ha1 : tk_lay[a1]? = some (.inl 6)) {out : tk_m} (h : fH_become t a1 m = some out) : tk_Ru sc 3 170 [.ref t, .ref a1] (tk_full m) (none, tk_full out) := by
  unfold fH_become at h
  refine tk_Ru0 me170 (ls := [(0, .ref t), (1, .ref a1)]) rfl rfl ?_
  refine tk_Ps  2 (pc' := 2) (ls' := [(0, .ref t), (1, .ref a1)]) (st' := [.ref a1, .ref t]) rfl ?_
  refine tk_HB  rfl rfl ha1 ?_
  refine tk_SB (b := m.2.2.1 a1 0)  rfl rfl ht ?_
  refine tk_Ps  2 (pc' := 10) (ls' := [(0, .ref t), (1, .ref a1)]) (st' := [.ref a1, .ref t]) rfl ?_
  refine tk_HI  rfl rfl ha1 ?_
  refine tk_SI  rfl rfl ht ?_
  refine tk_Ps  2 (pc' := 18) (ls' := [(0, .ref t), (1, .ref a1)]) (st' := [.ref a1, .ref t]) rfl ?_
  refine tk_HI  rfl rfl ha1 ?_
  refine tk_SI  rfl rfl ht ?_
  refine tk_Ps  2 (pc' := 26) (ls' := [(0, .ref t), (1, .ref a1)]) (st' := [.ref a1, .ref t]) rfl ?_
  refine tk_HI  rfl rfl ha1 ?_
  refine tk_SI  rfl rfl ht ?_
  refine tk_Ps  2 (pc' := 34) (ls' := [(0, .ref t), (1, .ref a1)]) (st' := [.ref a1, .ref t]) rfl ?_
  refine tk_HI  rfl rfl ha1 ?_
  obtain ⟨o1, ho1, h⟩ := tk_bnd h
  refine tk_cV0  rfl rfl (r := t) (as := [.int (tk_u2 (tk_u2 (tk_u2 m.1 t 1 (m.1 a1 1)) t 2 (tk_u2 m.1 t 1 (m.1 a1 1) a1 2)) t 3 (tk_u2 (tk_u2 m.1 t 1 (m.1 a1 1)) t 2 (tk_u2 m.1 t 1 (m.1 a1 1) a1 2) a1 3) a1 4)]) (rest := []) rfl ht rfl rfl (ok_fH_setSlant sc t (tk_u2 (tk_u2 (tk_u2 m.1 t 1 (m.1 a1 1)) t 2 (tk_u2 m.1 t 1 (m.1 a1 1) a1 2)) t 3 (tk_u2 (tk_u2 m.1 t 1 (m.1 a1 1)) t 2 (tk_u2 m.1 t 1 (m.1 a1 1) a1 2) a1 3) a1 4) (tk_u2 (tk_u2 (tk_u2 m.1 t 1 (m.1 a1 1)) t 2 (tk_u2 m.1 t 1 (m.1 a1 1) a1 2)) t 3 (tk_u2 (tk_u2 m.1 t 1 (m.1 a1 1)) t 2 (tk_u2 m.1 t 1 (m.1 a1 1) a1 2) a1 3), m.2.1, tk_u2 m.2.2.1 t 0 (m.2.2.1 a1 0), m.2.2.2) ht ho1) ?_
  refine tk_Ps  2 (pc' := 42) (ls' := [(0, .ref t), (1, .ref a1)]) (st' := [.ref a1, .ref t]) rfl ?_
  refine tk_HI  rfl rfl ha1 ?_
  refine tk_SI  rfl rfl ht ?_
  replace h := Option.some.inj h
  subst h
  exact tk_RV  rfl rfl rfl
theorem ok_fS_become_29 (sc : tk_X) (v0 : Nat) (v1 : Nat) (m : tk_m) (hv0 : tk_lay[v0]? = some (.inl 5)) (hv1 : tk_lay[v1]? = some (.inl 5)) (out : tk_m) (h : fS_become_29 v0 v1 m = some out) : tk_Ex sc 3 tk_r169 tk_k169 29 [(0, .ref v0), (1, .ref v1)] [] (tk_full m) (none, tk_full out) := by
  unfold fS_become_29 at h
  refine tk_Ps  2 (pc' := 31) (ls' := [(0, .ref v0), (1, .ref v1)]) (st' := [.ref v1, .ref v0]) rfl ?_
  refine tk_HI  rfl rfl hv1 ?_
  refine tk_SI  rfl rfl hv0 ?_
  refine tk_Ps  2 (pc' := 39) (ls' := [(0, .ref v0), (1, .ref v1)]) (st' := [.ref v1, .ref v0]) rfl ?_
  refine tk_HR  rfl rfl hv1 (ro5_2 hv1) ?_
  refine tk_Ps  1 (pc' := 43) (ls' := [(0, .ref v0), (1, .ref v1)]) (st' := [.int (0 : Int32), .ref (v1 + 2), .ref v0]) rfl ?_
  refine tk_HIa  rfl rfl (lo5_2 hv1) (by decide) ?_
  refine tk_Ps  1 (pc' := 45) (ls' := [(0, .ref v0), (1, .ref v1)]) (st' := [.ref v1, .int (tk_u2 m.1 v0 1 (m.1 v1 1) (v1 + 2) 0), .ref v0]) rfl ?_
  refine tk_HR  rfl rfl hv1 (ro5_2 hv1) ?_
  refine tk_Ps  1 (pc' := 49) (ls' := [(0, .ref v0), (1, .ref v1)]) (st' := [.int (1 : Int32), .ref (v1 + 2), .int (tk_u2 m.1 v0 1 (m.1 v1 1) (v1 + 2) 0), .ref v0]) rfl ?_
  refine tk_HIa  rfl rfl (lo5_2 hv1) (by decide) ?_
  refine tk_Ps  1 (pc' := 51) (ls' := [(0, .ref v0), (1, .ref v1)]) (st' := [.ref v1, .int (tk_u2 m.1 v0 1 (m.1 v1 1) (v1 + 2) 1), .int (tk_u2 m.1 v0 1 (m.1 v1 1) (v1 + 2) 0), .ref v0]) rfl ?_
  refine tk_HR  rfl rfl hv1 (ro5_2 hv1) ?_
  refine tk_Ps  1 (pc' := 55) (ls' := [(0, .ref v0), (1, .ref v1)]) (st' := [.int (2 : Int32), .ref (v1 + 2), .int (tk_u2 m.1 v0 1 (m.1 v1 1) (v1 + 2) 1), .int (tk_u2 m.1 v0 1 (m.1 v1 1) (v1 + 2) 0), .ref v0]) rfl ?_
  refine tk_HIa  rfl rfl (lo5_2 hv1) (by decide) ?_
  obtain ⟨o1, ho1, h⟩ := tk_lete h
  refine tk_cV0  rfl rfl (r := v0) (as := [.int (tk_u2 m.1 v0 1 (m.1 v1 1) (v1 + 2) 0), .int (tk_u2 m.1 v0 1 (m.1 v1 1) (v1 + 2) 1), .int (tk_u2 m.1 v0 1 (m.1 v1 1) (v1 + 2) 2)]) (rest := []) rfl hv0 rfl rfl (ok_fS_choose sc v0 (tk_u2 m.1 v0 1 (m.1 v1 1) (v1 + 2) 0) (tk_u2 m.1 v0 1 (m.1 v1 1) (v1 + 2) 1) (tk_u2 m.1 v0 1 (m.1 v1 1) (v1 + 2) 2) (tk_u2 m.1 v0 1 (m.1 v1 1), m.2.1, m.2.2.1, m.2.2.2) hv0 ho1) ?_
  refine tk_Ps  2 (pc' := 61) (ls' := [(0, .ref v0), (1, .ref v1)]) (st' := [.ref v1, .ref v0]) rfl ?_
  refine tk_HI  rfl rfl hv1 ?_
  refine tk_SI  rfl rfl hv0 ?_
  replace h := Option.some.inj h
  subst h
  exact tk_RV  rfl rfl rfl
theorem ok_fS_become_2 (sc : tk_X) : ∀ (n : Nat) (v0 : Nat) (v1 : Nat) (v2 : Int32) (m : tk_m) (hv0 : tk_lay[v0]? = some (.inl 5)) (hv1 : tk_lay[v1]? = some (.inl 5)) (out : tk_m), fS_become_2 n v0 v1 v2 m = some out → tk_Ex sc 3 tk_r169 tk_k169 2 [(0, .ref v0), (1, .ref v1), (2, .int v2)] [] (tk_full m) (none, tk_full out) := by
  intro n
  induction n with
  | zero =>
    intro v0 v1 v2 m hv0 hv1 out h
    cases h
  | succ n ih =>
    intro v0 v1 v2 m hv0 hv1 out h
    unfold fS_become_2 at h
    refine tk_Ps  2 (pc' := 5) (ls' := [(0, .ref v0), (1, .ref v1), (2, .int v2)]) (st' := [.int (6 : Int32), .int v2]) rfl ?_
    by_cases hc1 : (6 : Int32) ≤ v2
    · replace h := tk_ifT hc1 h
      refine tk_bT  rfl rfl rfl (c := (6 : Int32) ≤ v2) hc1 (pc' := 29) (ls' := [(0, .ref v0), (1, .ref v1), (2, .int v2)]) (st' := []) ?_
      refine tk_Kp  (ls' := [(0, .ref v0), (1, .ref v1)]) rfl rfl ?_
      exact ok_fS_become_29 sc v0 v1 m hv0 hv1 _ h
    · replace h := tk_ifF hc1 h
      refine tk_bF  rfl rfl rfl (c := (6 : Int32) ≤ v2) hc1 (pc' := 8) (ls' := [(0, .ref v0), (1, .ref v1), (2, .int v2)]) (st' := []) ?_
      refine tk_Ps  1 (pc' := 9) (ls' := [(0, .ref v0), (1, .ref v1), (2, .int v2)]) (st' := [.ref v0]) rfl ?_
      refine tk_HR  rfl rfl hv0 (ro5_0 hv0) ?_
      refine tk_Ps  1 (pc' := 13) (ls' := [(0, .ref v0), (1, .ref v1), (2, .int v2)]) (st' := [.int v2, .ref (v0 + 1)]) rfl ?_
      obtain ⟨hg2, h⟩ := tk_grd h
      refine tk_HP  rfl rfl (lo5_0 hv0) hg2 ?_
      refine tk_Ps  1 (pc' := 15) (ls' := [(0, .ref v0), (1, .ref v1), (2, .int v2)]) (st' := [.ref v1, .ref ((v0 + 1) + 2 + (m.2.2.2 (v0 + 1) (tk_n v2)).val)]) rfl ?_
      refine tk_HR  rfl rfl hv1 (ro5_0 hv1) ?_
      refine tk_Ps  1 (pc' := 19) (ls' := [(0, .ref v0), (1, .ref v1), (2, .int v2)]) (st' := [.int v2, .ref (v1 + 1), .ref ((v0 + 1) + 2 + (m.2.2.2 (v0 + 1) (tk_n v2)).val)]) rfl ?_
      refine tk_HP  rfl rfl (lo5_0 hv1) hg2 ?_
      obtain ⟨o3, ho3, h⟩ := tk_bnd h
      refine tk_cV0  rfl rfl (r := ((v0 + 1) + 2 + (m.2.2.2 (v0 + 1) (tk_n v2)).val)) (as := [.ref ((v1 + 1) + 2 + (m.2.2.2 (v1 + 1) (tk_n v2)).val)]) (rest := []) rfl (tk_sh (lo5_0 hv0) _) rfl rfl (ok_fH_become sc ((v0 + 1) + 2 + (m.2.2.2 (v0 + 1) (tk_n v2)).val) ((v1 + 1) + 2 + (m.2.2.2 (v1 + 1) (tk_n v2)).val) m (tk_sh (lo5_0 hv0) _) (tk_sh (lo5_0 hv1) _) ho3) ?_
      refine tk_Ps  2 (pc' := 2) (ls' := [(2, .int (v2 + (1 : Int32))), (0, .ref v0), (1, .ref v1)]) (st' := []) rfl ?_
      refine tk_Kp  (ls' := [(0, .ref v0), (1, .ref v1), (2, .int (v2 + (1 : Int32)))]) rfl rfl ?_
      exact ih v0 v1 (v2 + (1 : Int32)) o3 hv0 hv1 _ h
theorem ok_fS_become (sc : tk_X) (t : Nat) (a1 : Nat) (m : tk_m) (ht : tk_lay[t]? = some (.inl 5)) (ha1 : tk_lay[a1]? = some (.inl 5)) {out : tk_m} (h : fS_become t a1 m = some out) : tk_Ru sc 4 169 [.ref t, .ref a1] (tk_full m) (none, tk_full out) := by
  unfold fS_become at h
  refine tk_Ru0 me169 (ls := [(0, .ref t), (1, .ref a1)]) rfl rfl ?_
  refine tk_Ps  2 (pc' := 2) (ls' := [(2, .int (0 : Int32)), (0, .ref t), (1, .ref a1)]) (st' := []) rfl ?_
  refine tk_Kp  (ls' := [(0, .ref t), (1, .ref a1), (2, .int (0 : Int32))]) rfl rfl ?_
  exact ok_fS_become_2 sc tk_F t a1 (0 : Int32) m ht ha1 _ h
theorem ok_fX_image (sc : tk_X) (m : tk_m) {out : Int32 × tk_m} (h : fX_image m = some out) : tk_Ru sc 5 168 [.ref 0] (tk_full m) (some (.int out.1), tk_full out.2) := by
  unfold fX_image at h
  refine tk_Ru0 me168 (ls := [(0, .ref 0)]) rfl rfl ?_
  refine tk_Ps  1 (pc' := 1) (ls' := [(0, .ref 0)]) (st' := [.ref 0]) rfl ?_
  refine tk_HI  rfl rfl ly0 ?_
  refine tk_Ps  1 (pc' := 6) (ls' := [(0, .ref 0)]) (st' := [.int (8 : Int32), .int (m.1 0 2)]) rfl ?_
  by_cases hc1 : (m.1 0 2) < (8 : Int32)
  · replace h := tk_ifT hc1 h
    refine tk_bT  rfl rfl rfl (c := (m.1 0 2) < (8 : Int32)) hc1 (pc' := 15) (ls' := [(0, .ref 0)]) (st' := []) ?_
    refine tk_Ps  1 (pc' := 16) (ls' := [(0, .ref 0)]) (st' := [.ref 0]) rfl ?_
    refine tk_HR  rfl rfl ly0 rt0_1 ?_
    refine tk_Ps  1 (pc' := 20) (ls' := [(0, .ref 0)]) (st' := [.ref 0, .ref 10]) rfl ?_
    refine tk_HI  rfl rfl ly0 ?_
    obtain ⟨hg2, h⟩ := tk_grd h
    refine tk_HQ  rfl rfl ly10 hg2 (la10 _ (hg2).2).1 ?_
    refine tk_Ps  1 (pc' := 25) (ls' := [(0, .ref 0)]) (st' := [.ref 0, .ref (203 + 9 * (tk_n (m.1 0 2)))]) rfl ?_
    refine tk_HR  rfl rfl ly0 rt0_0 ?_
    obtain ⟨o3, ho3, h⟩ := tk_bnd h
    refine tk_cV0  rfl rfl (r := (203 + 9 * (tk_n (m.1 0 2)))) (as := [.ref 1]) (rest := []) rfl ((la10 _ (hg2).2).2) rfl rfl (ok_fS_become sc (203 + 9 * (tk_n (m.1 0 2))) 1 m ((la10 _ (hg2).2).2) ly1 ho3) ?_
    refine tk_Ps  2 (pc' := 33) (ls' := [(0, .ref 0)]) (st' := [.ref 0, .ref 0]) rfl ?_
    refine tk_HI  rfl rfl ly0 ?_
    refine tk_Ps  2 (pc' := 38) (ls' := [(0, .ref 0)]) (st' := [.int ((o3.1 0 2) + (1 : Int32)), .ref 0]) rfl ?_
    refine tk_SI  rfl rfl ly0 ?_
    refine tk_Ps  1 (pc' := 42) (ls' := [(0, .ref 0)]) (st' := [.ref 0]) rfl ?_
    refine tk_HI  rfl rfl ly0 ?_
    replace h := Option.some.inj h
    subst h
    exact tk_RI  rfl rfl rfl
  · replace h := tk_ifF hc1 h
    refine tk_bF  rfl rfl rfl (c := (m.1 0 2) < (8 : Int32)) hc1 (pc' := 9) (ls' := [(0, .ref 0)]) (st' := []) ?_
    refine tk_Ps  2 (pc' := 11) (ls' := [(0, .ref 0)]) (st' := [.int (1 : Int32), .ref 0]) rfl ?_
    obtain ⟨o4, ho4, h⟩ := tk_bnd h
    refine tk_cV1  rfl rfl (r := 0) (as := [.int (1 : Int32)]) (rest := []) rfl ly0 rfl rfl (ok_fX_finding sc (1 : Int32) m ho4) ?_
    replace h := Option.some.inj h
    subst h
    exact tk_RI  rfl rfl rfl
theorem ok_fX_back (sc : tk_X) (m : tk_m) {out : Int32 × tk_m} (h : fX_back m = some out) : tk_Ru sc 5 171 [.ref 0] (tk_full m) (some (.int out.1), tk_full out.2) := by
  unfold fX_back at h
  refine tk_Ru0 me171 (ls := [(0, .ref 0)]) rfl rfl ?_
  refine tk_Ps  1 (pc' := 1) (ls' := [(0, .ref 0)]) (st' := [.ref 0]) rfl ?_
  refine tk_HI  rfl rfl ly0 ?_
  by_cases hc1 : 0 < (m.1 0 2)
  · replace h := tk_ifT hc1 h
    refine tk_bT  rfl rfl rfl (c := 0 < (m.1 0 2)) hc1 (pc' := 13) (ls' := [(0, .ref 0)]) (st' := []) ?_
    refine tk_Ps  2 (pc' := 15) (ls' := [(0, .ref 0)]) (st' := [.ref 0, .ref 0]) rfl ?_
    refine tk_HI  rfl rfl ly0 ?_
    refine tk_Ps  2 (pc' := 20) (ls' := [(0, .ref 0)]) (st' := [.int ((m.1 0 2) - (1 : Int32)), .ref 0]) rfl ?_
    refine tk_SI  rfl rfl ly0 ?_
    refine tk_Ps  1 (pc' := 24) (ls' := [(0, .ref 0)]) (st' := [.ref 0]) rfl ?_
    refine tk_HR  rfl rfl ly0 rt0_0 ?_
    refine tk_Ps  1 (pc' := 28) (ls' := [(0, .ref 0)]) (st' := [.ref 0, .ref 1]) rfl ?_
    refine tk_HR  rfl rfl ly0 rt0_1 ?_
    refine tk_Ps  1 (pc' := 32) (ls' := [(0, .ref 0)]) (st' := [.ref 0, .ref 10, .ref 1]) rfl ?_
    refine tk_HI  rfl rfl ly0 ?_
    obtain ⟨hg2, h⟩ := tk_grd h
    refine tk_HQ  rfl rfl ly10 hg2 (la10 _ (hg2).2).1 ?_
    obtain ⟨o3, ho3, h⟩ := tk_bnd h
    refine tk_cV0  rfl rfl (r := 1) (as := [.ref (203 + 9 * (tk_n (tk_u2 m.1 0 2 ((m.1 0 2) - (1 : Int32)) 0 2)))]) (rest := []) rfl ly1 rfl rfl (ok_fS_become sc 1 (203 + 9 * (tk_n (tk_u2 m.1 0 2 ((m.1 0 2) - (1 : Int32)) 0 2))) (tk_u2 m.1 0 2 ((m.1 0 2) - (1 : Int32)), m.2.1, m.2.2.1, m.2.2.2) ly1 ((la10 _ (hg2).2).2) ho3) ?_
    refine tk_Ps  1 (pc' := 40) (ls' := [(0, .ref 0)]) (st' := [.ref 0]) rfl ?_
    refine tk_HR  rfl rfl ly0 rt0_0 ?_
    refine tk_HI  rfl rfl ly1 ?_
    replace h := Option.some.inj h
    subst h
    exact tk_RI  rfl rfl rfl
  · replace h := tk_ifF hc1 h
    refine tk_bF  rfl rfl rfl (c := 0 < (m.1 0 2)) hc1 (pc' := 7) (ls' := [(0, .ref 0)]) (st' := []) ?_
    refine tk_Ps  2 (pc' := 9) (ls' := [(0, .ref 0)]) (st' := [.int (3 : Int32), .ref 0]) rfl ?_
    obtain ⟨o4, ho4, h⟩ := tk_bnd h
    refine tk_cV1  rfl rfl (r := 0) (as := [.int (3 : Int32)]) (rest := []) rfl ly0 rfl rfl (ok_fX_finding sc (3 : Int32) m ho4) ?_
    replace h := Option.some.inj h
    subst h
    exact tk_RI  rfl rfl rfl
theorem ok_fX_seed (sc : tk_X) (a1 : Int32) (m : tk_m) {out : Int32 × tk_m} (h : fX_seed a1 m = out) : tk_Ru sc 1 172 [.ref 0, .int a1] (tk_full m) (some (.int out.1), tk_full out.2) := by
  unfold fX_seed at h
  refine tk_Ru0 me172 (ls := [(0, .ref 0), (1, .int a1)]) rfl rfl ?_
  refine tk_Ps  1 (pc' := 1) (ls' := [(0, .ref 0), (1, .int a1)]) (st' := [.ref 0]) rfl ?_
  refine tk_HR  rfl rfl ly0 rt0_0 ?_
  refine tk_HI  rfl rfl ly1 ?_
  refine tk_Ps  2 (pc' := 9) (ls' := [(2, .int (m.1 1 3)), (0, .ref 0), (1, .int a1)]) (st' := [.ref 0]) rfl ?_
  refine tk_HR  rfl rfl ly0 rt0_0 ?_
  refine tk_Ps  1 (pc' := 13) (ls' := [(2, .int (m.1 1 3)), (0, .ref 0), (1, .int a1)]) (st' := [.int a1, .ref 1]) rfl ?_
  refine tk_SI  rfl rfl ly1 ?_
  refine tk_Ps  1 (pc' := 17) (ls' := [(2, .int (m.1 1 3)), (0, .ref 0), (1, .int a1)]) (st' := [.int (m.1 1 3)]) rfl ?_
  subst h
  exact tk_RI  rfl rfl rfl
theorem ok_fS_howMany_4 (sc : tk_X) : ∀ (n : Nat) (v0 : Nat) (v1 : Int32) (v2 : Int32) (v3 : Int32) (m : tk_m) (hv0 : tk_lay[v0]? = some (.inl 5)) (out : Int32), fS_howMany_4 n v0 v1 v2 v3 m = some out → tk_Ex sc 2 tk_r174 tk_k174 4 [(0, .ref v0), (1, .int v1), (2, .int v2), (3, .int v3)] [] (tk_full m) (some (.int out), tk_full m) := by
  intro n
  induction n with
  | zero =>
    intro v0 v1 v2 v3 m hv0 out h
    cases h
  | succ n ih =>
    intro v0 v1 v2 v3 m hv0 out h
    unfold fS_howMany_4 at h
    refine tk_Ps  2 (pc' := 6) (ls' := [(0, .ref v0), (1, .int v1), (2, .int v2), (3, .int v3)]) (st' := [.ref v0, .int v3]) rfl ?_
    refine tk_HI  rfl rfl hv0 ?_
    by_cases hc1 : (m.1 v0 1) ≤ v3
    · replace h := tk_ifT hc1 h
      refine tk_bT  rfl rfl rfl (c := (m.1 v0 1) ≤ v3) hc1 (pc' := 34) (ls' := [(0, .ref v0), (1, .int v1), (2, .int v2), (3, .int v3)]) (st' := []) ?_
      refine tk_Ps  1 (pc' := 35) (ls' := [(0, .ref v0), (1, .int v1), (2, .int v2), (3, .int v3)]) (st' := [.int v2]) rfl ?_
      replace h := Option.some.inj h
      subst h
      exact tk_RI  rfl rfl rfl
    · replace h := tk_ifF hc1 h
      refine tk_bF  rfl rfl rfl (c := (m.1 v0 1) ≤ v3) hc1 (pc' := 12) (ls' := [(0, .ref v0), (1, .int v1), (2, .int v2), (3, .int v3)]) (st' := []) ?_
      refine tk_Ps  1 (pc' := 13) (ls' := [(0, .ref v0), (1, .int v1), (2, .int v2), (3, .int v3)]) (st' := [.ref v0]) rfl ?_
      refine tk_HR  rfl rfl hv0 (ro5_0 hv0) ?_
      refine tk_Ps  1 (pc' := 17) (ls' := [(0, .ref v0), (1, .int v1), (2, .int v2), (3, .int v3)]) (st' := [.int v3, .ref (v0 + 1)]) rfl ?_
      obtain ⟨hg2, h⟩ := tk_grd h
      refine tk_HP  rfl rfl (lo5_0 hv0) hg2 ?_
      refine tk_Ps  1 (pc' := 19) (ls' := [(0, .ref v0), (1, .int v1), (2, .int v2), (3, .int v3)]) (st' := [.int v1, .ref ((v0 + 1) + 2 + (m.2.2.2 (v0 + 1) (tk_n v3)).val)]) rfl ?_
      refine tk_cV1  rfl rfl (r := ((v0 + 1) + 2 + (m.2.2.2 (v0 + 1) (tk_n v3)).val)) (as := [.int v1]) (rest := []) rfl (tk_sh (lo5_0 hv0) _) rfl rfl (ok_fH_isOf sc ((v0 + 1) + 2 + (m.2.2.2 (v0 + 1) (tk_n v3)).val) v1 m (tk_sh (lo5_0 hv0) _)) ?_
      by_cases hc3 : (fH_isOf ((v0 + 1) + 2 + (m.2.2.2 (v0 + 1) (tk_n v3)).val) v1 m) = true
      · replace h := tk_ifT hc3 h
        refine tk_bT  rfl rfl tk_eB_eq (c := (fH_isOf ((v0 + 1) + 2 + (m.2.2.2 (v0 + 1) (tk_n v3)).val) v1 m) = true) hc3 (pc' := 25) (ls' := [(0, .ref v0), (1, .int v1), (2, .int v2), (3, .int v3)]) (st' := []) ?_
        refine tk_Ps  3 (pc' := 4) (ls' := [(3, .int (v3 + (1 : Int32))), (2, .int (v2 + (1 : Int32))), (0, .ref v0), (1, .int v1)]) (st' := []) rfl ?_
        refine tk_Kp  (ls' := [(0, .ref v0), (1, .int v1), (2, .int (v2 + (1 : Int32))), (3, .int (v3 + (1 : Int32)))]) rfl rfl ?_
        exact ih v0 v1 (v2 + (1 : Int32)) (v3 + (1 : Int32)) m hv0 _ h
      · replace h := tk_ifF hc3 h
        refine tk_bF  rfl rfl tk_eB_eq (c := (fH_isOf ((v0 + 1) + 2 + (m.2.2.2 (v0 + 1) (tk_n v3)).val) v1 m) = true) hc3 (pc' := 28) (ls' := [(0, .ref v0), (1, .int v1), (2, .int v2), (3, .int v3)]) (st' := []) ?_
        refine tk_Ps  2 (pc' := 4) (ls' := [(3, .int (v3 + (1 : Int32))), (0, .ref v0), (1, .int v1), (2, .int v2)]) (st' := []) rfl ?_
        refine tk_Kp  (ls' := [(0, .ref v0), (1, .int v1), (2, .int v2), (3, .int (v3 + (1 : Int32)))]) rfl rfl ?_
        exact ih v0 v1 v2 (v3 + (1 : Int32)) m hv0 _ h
theorem ok_fS_howMany (sc : tk_X) (t : Nat) (a1 : Int32) (m : tk_m) (ht : tk_lay[t]? = some (.inl 5)) {out : Int32} (h : fS_howMany t a1 m = some out) : tk_Ru sc 3 174 [.ref t, .int a1] (tk_full m) (some (.int out), tk_full m) := by
  unfold fS_howMany at h
  refine tk_Ru0 me174 (ls := [(0, .ref t), (1, .int a1)]) rfl rfl ?_
  refine tk_Ps  4 (pc' := 4) (ls' := [(3, .int (0 : Int32)), (2, .int (0 : Int32)), (0, .ref t), (1, .int a1)]) (st' := []) rfl ?_
  refine tk_Kp  (ls' := [(0, .ref t), (1, .int a1), (2, .int (0 : Int32)), (3, .int (0 : Int32))]) rfl rfl ?_
  exact ok_fS_howMany_4 sc tk_F t a1 (0 : Int32) (0 : Int32) m ht _ h
theorem ok_fX_spotsHeld_4 (sc : tk_X) : ∀ (n : Nat) (v1 : Int32) (v2 : Int32) (m : tk_m) (out : Int32), fX_spotsHeld_4 n v1 v2 m = some out → tk_Ex sc 0 tk_r175 tk_k175 4 [(0, .ref 0), (1, .int v1), (2, .int v2)] [] (tk_full m) (some (.int out), tk_full m) := by
  intro n
  induction n with
  | zero =>
    intro v1 v2 m out h
    cases h
  | succ n ih =>
    intro v1 v2 m out h
    unfold fX_spotsHeld_4 at h
    refine tk_Ps  2 (pc' := 7) (ls' := [(0, .ref 0), (1, .int v1), (2, .int v2)]) (st' := [.int (6 : Int32), .int v2]) rfl ?_
    by_cases hc1 : (6 : Int32) ≤ v2
    · replace h := tk_ifT hc1 h
      refine tk_bT  rfl rfl rfl (c := (6 : Int32) ≤ v2) hc1 (pc' := 31) (ls' := [(0, .ref 0), (1, .int v1), (2, .int v2)]) (st' := []) ?_
      refine tk_Ps  1 (pc' := 32) (ls' := [(0, .ref 0), (1, .int v1), (2, .int v2)]) (st' := [.int v1]) rfl ?_
      replace h := Option.some.inj h
      subst h
      exact tk_RI  rfl rfl rfl
    · replace h := tk_ifF hc1 h
      refine tk_bF  rfl rfl rfl (c := (6 : Int32) ≤ v2) hc1 (pc' := 10) (ls' := [(0, .ref 0), (1, .int v1), (2, .int v2)]) (st' := []) ?_
      refine tk_Ps  1 (pc' := 11) (ls' := [(0, .ref 0), (1, .int v1), (2, .int v2)]) (st' := [.ref 0]) rfl ?_
      refine tk_HR  rfl rfl ly0 rt0_3 ?_
      refine tk_Ps  1 (pc' := 15) (ls' := [(0, .ref 0), (1, .int v1), (2, .int v2)]) (st' := [.int v2, .ref 11]) rfl ?_
      obtain ⟨hg2, h⟩ := tk_grd h
      refine tk_HQ  rfl rfl ly11 hg2 (la11 _ (hg2).2).1 ?_
      refine tk_HB  rfl rfl ((la11 _ (hg2).2).2) ?_
      by_cases hc3 : (m.2.2.1 (275 + 2 * (tk_n v2)) 0) = true
      · replace h := tk_ifT hc3 h
        refine tk_bT  rfl rfl tk_eB_eq (c := (m.2.2.1 (275 + 2 * (tk_n v2)) 0) = true) hc3 (pc' := 22) (ls' := [(0, .ref 0), (1, .int v1), (2, .int v2)]) (st' := []) ?_
        refine tk_Ps  3 (pc' := 4) (ls' := [(2, .int (v2 + (1 : Int32))), (1, .int (v1 + (1 : Int32))), (0, .ref 0)]) (st' := []) rfl ?_
        refine tk_Kp  (ls' := [(0, .ref 0), (1, .int (v1 + (1 : Int32))), (2, .int (v2 + (1 : Int32)))]) rfl rfl ?_
        exact ih (v1 + (1 : Int32)) (v2 + (1 : Int32)) m _ h
      · replace h := tk_ifF hc3 h
        refine tk_bF  rfl rfl tk_eB_eq (c := (m.2.2.1 (275 + 2 * (tk_n v2)) 0) = true) hc3 (pc' := 25) (ls' := [(0, .ref 0), (1, .int v1), (2, .int v2)]) (st' := []) ?_
        refine tk_Ps  2 (pc' := 4) (ls' := [(2, .int (v2 + (1 : Int32))), (0, .ref 0), (1, .int v1)]) (st' := []) rfl ?_
        refine tk_Kp  (ls' := [(0, .ref 0), (1, .int v1), (2, .int (v2 + (1 : Int32)))]) rfl rfl ?_
        exact ih v1 (v2 + (1 : Int32)) m _ h
theorem ok_fX_spotsHeld (sc : tk_X) (m : tk_m) {out : Int32} (h : fX_spotsHeld m = some out) : tk_Ru sc 1 175 [.ref 0] (tk_full m) (some (.int out), tk_full m) := by
  unfold fX_spotsHeld at h
  refine tk_Ru0 me175 (ls := [(0, .ref 0)]) rfl rfl ?_
  refine tk_Ps  4 (pc' := 4) (ls' := [(2, .int (0 : Int32)), (1, .int (0 : Int32)), (0, .ref 0)]) (st' := []) rfl ?_
  refine tk_Kp  (ls' := [(0, .ref 0), (1, .int (0 : Int32)), (2, .int (0 : Int32))]) rfl rfl ?_
  exact ok_fX_spotsHeld_4 sc tk_F (0 : Int32) (0 : Int32) m _ h
theorem ok_fX_count (sc : tk_X) (a1 : Int32) (m : tk_m) {out : Int32 × tk_m} (h : fX_count a1 m = some out) : tk_Ru sc 4 173 [.ref 0, .int a1] (tk_full m) (some (.int out.1), tk_full out.2) := by
  unfold fX_count at h
  refine tk_Ru0 me173 (ls := [(0, .ref 0), (1, .int a1)]) rfl rfl ?_
  refine tk_Ps  1 (pc' := 1) (ls' := [(0, .ref 0), (1, .int a1)]) (st' := [.int a1]) rfl ?_
  by_cases hs1 : a1 = 0
  · replace h := tk_ifT hs1 h
    refine tk_sw  rfl rfl hs1 rfl (pc' := 40) (ls' := [(0, .ref 0), (1, .int a1)]) (st' := []) ?_
    refine tk_Ps  1 (pc' := 41) (ls' := [(0, .ref 0), (1, .int a1)]) (st' := [.ref 0]) rfl ?_
    refine tk_HR  rfl rfl ly0 rt0_0 ?_
    refine tk_HI  rfl rfl ly1 ?_
    replace h := Option.some.inj h
    subst h
    exact tk_RI  rfl rfl rfl
  replace h := tk_ifF hs1 h
  by_cases hs2 : a1 = 1
  · replace h := tk_ifT hs2 h
    refine tk_sw  rfl rfl hs2 rfl (pc' := 48) (ls' := [(0, .ref 0), (1, .int a1)]) (st' := []) ?_
    refine tk_Ps  1 (pc' := 49) (ls' := [(0, .ref 0), (1, .int a1)]) (st' := [.ref 0]) rfl ?_
    refine tk_HR  rfl rfl ly0 rt0_0 ?_
    refine tk_Ps  1 (pc' := 53) (ls' := [(0, .ref 0), (1, .int a1)]) (st' := [.int (1 : Int32), .ref 1]) rfl ?_
    obtain ⟨o3, ho3, h⟩ := tk_bnd h
    refine tk_cV1  rfl rfl (r := 1) (as := [.int (1 : Int32)]) (rest := []) rfl ly1 rfl rfl (ok_fS_howMany sc 1 (1 : Int32) m ly1 ho3) ?_
    replace h := Option.some.inj h
    subst h
    exact tk_RI  rfl rfl rfl
  replace h := tk_ifF hs2 h
  by_cases hs4 : a1 = 2
  · replace h := tk_ifT hs4 h
    refine tk_sw  rfl rfl hs4 rfl (pc' := 57) (ls' := [(0, .ref 0), (1, .int a1)]) (st' := []) ?_
    refine tk_Ps  1 (pc' := 58) (ls' := [(0, .ref 0), (1, .int a1)]) (st' := [.ref 0]) rfl ?_
    refine tk_HR  rfl rfl ly0 rt0_0 ?_
    refine tk_Ps  1 (pc' := 62) (ls' := [(0, .ref 0), (1, .int a1)]) (st' := [.int (3 : Int32), .ref 1]) rfl ?_
    obtain ⟨o5, ho5, h⟩ := tk_bnd h
    refine tk_cV1  rfl rfl (r := 1) (as := [.int (3 : Int32)]) (rest := []) rfl ly1 rfl rfl (ok_fS_howMany sc 1 (3 : Int32) m ly1 ho5) ?_
    replace h := Option.some.inj h
    subst h
    exact tk_RI  rfl rfl rfl
  replace h := tk_ifF hs4 h
  by_cases hs6 : a1 = 3
  · replace h := tk_ifT hs6 h
    refine tk_sw  rfl rfl hs6 rfl (pc' := 66) (ls' := [(0, .ref 0), (1, .int a1)]) (st' := []) ?_
    refine tk_Ps  1 (pc' := 67) (ls' := [(0, .ref 0), (1, .int a1)]) (st' := [.ref 0]) rfl ?_
    refine tk_HI  rfl rfl ly0 ?_
    replace h := Option.some.inj h
    subst h
    exact tk_RI  rfl rfl rfl
  replace h := tk_ifF hs6 h
  by_cases hs7 : a1 = 4
  · replace h := tk_ifT hs7 h
    refine tk_sw  rfl rfl hs7 rfl (pc' := 71) (ls' := [(0, .ref 0), (1, .int a1)]) (st' := []) ?_
    refine tk_Ps  1 (pc' := 72) (ls' := [(0, .ref 0), (1, .int a1)]) (st' := [.ref 0]) rfl ?_
    refine tk_HR  rfl rfl ly0 rt0_0 ?_
    refine tk_HI  rfl rfl ly1 ?_
    replace h := Option.some.inj h
    subst h
    exact tk_RI  rfl rfl rfl
  replace h := tk_ifF hs7 h
  by_cases hs8 : a1 = 5
  · replace h := tk_ifT hs8 h
    refine tk_sw  rfl rfl hs8 rfl (pc' := 79) (ls' := [(0, .ref 0), (1, .int a1)]) (st' := []) ?_
    refine tk_Ps  1 (pc' := 80) (ls' := [(0, .ref 0), (1, .int a1)]) (st' := [.ref 0]) rfl ?_
    obtain ⟨o9, ho9, h⟩ := tk_bnd h
    refine tk_cV1  rfl rfl (r := 0) (as := []) (rest := []) rfl ly0 rfl rfl (ok_fX_spotsHeld sc m ho9) ?_
    replace h := Option.some.inj h
    subst h
    exact tk_RI  rfl rfl rfl
  replace h := tk_ifF hs8 h
  refine tk_swD  rfl rfl (tk_swo_0_5 hs1 hs2 hs4 hs6 hs7 hs8) rfl rfl (pc' := 84) (ls' := [(0, .ref 0), (1, .int a1)]) (st' := []) ?_
  refine tk_Ps  2 (pc' := 86) (ls' := [(0, .ref 0), (1, .int a1)]) (st' := [.int (0 : Int32), .ref 0]) rfl ?_
  obtain ⟨o10, ho10, h⟩ := tk_bnd h
  refine tk_cV1  rfl rfl (r := 0) (as := [.int (0 : Int32)]) (rest := []) rfl ly0 rfl rfl (ok_fX_finding sc (0 : Int32) m ho10) ?_
  replace h := Option.some.inj h
  subst h
  exact tk_RI  rfl rfl rfl
theorem ok_fX_status_31 (sc : tk_X) : ∀ (n : Nat) (v2 : Int32) (v3 : Int32) (m : tk_m) (out : Int32 × tk_m), fX_status_31 n v2 v3 m = some out → tk_Ex sc 2 tk_r176 tk_k176 31 [(0, .ref 0), (2, .int v2), (3, .int v3)] [] (tk_full m) (some (.int out.1), tk_full out.2) := by
  intro n
  induction n with
  | zero =>
    intro v2 v3 m out h
    cases h
  | succ n ih =>
    intro v2 v3 m out h
    unfold fX_status_31 at h
    refine tk_Ps  2 (pc' := 34) (ls' := [(0, .ref 0), (2, .int v2), (3, .int v3)]) (st' := [.int (8 : Int32), .int v3]) rfl ?_
    by_cases hc1 : (8 : Int32) ≤ v3
    · replace h := tk_ifT hc1 h
      refine tk_bT  rfl rfl rfl (c := (8 : Int32) ≤ v3) hc1 (pc' := 52) (ls' := [(0, .ref 0), (2, .int v2), (3, .int v3)]) (st' := []) ?_
      refine tk_Ps  1 (pc' := 53) (ls' := [(0, .ref 0), (2, .int v2), (3, .int v3)]) (st' := [.int v2]) rfl ?_
      replace h := Option.some.inj h
      subst h
      exact tk_RI  rfl rfl rfl
    · replace h := tk_ifF hc1 h
      refine tk_bF  rfl rfl rfl (c := (8 : Int32) ≤ v3) hc1 (pc' := 37) (ls' := [(0, .ref 0), (2, .int v2), (3, .int v3)]) (st' := []) ?_
      refine tk_Ps  2 (pc' := 39) (ls' := [(0, .ref 0), (2, .int v2), (3, .int v3)]) (st' := [.ref 0, .int v2]) rfl ?_
      refine tk_HR  rfl rfl ly0 rt0_8 ?_
      refine tk_Ps  1 (pc' := 43) (ls' := [(0, .ref 0), (2, .int v2), (3, .int v3)]) (st' := [.int v3, .ref 202, .int v2]) rfl ?_
      obtain ⟨hg2, h⟩ := tk_grd h
      refine tk_HIa  rfl rfl ly202 hg2 ?_
      refine tk_Ps  4 (pc' := 31) (ls' := [(3, .int (v3 + (1 : Int32))), (2, .int (v2 + (m.1 202 (tk_n v3)))), (0, .ref 0)]) (st' := []) rfl ?_
      refine tk_Kp  (ls' := [(0, .ref 0), (2, .int (v2 + (m.1 202 (tk_n v3)))), (3, .int (v3 + (1 : Int32)))]) rfl rfl ?_
      exact ih (v2 + (m.1 202 (tk_n v3))) (v3 + (1 : Int32)) m _ h
theorem ok_fX_status (sc : tk_X) (a1 : Int32) (m : tk_m) {out : Int32 × tk_m} (h : fX_status a1 m = some out) : tk_Ru sc 3 176 [.ref 0, .int a1] (tk_full m) (some (.int out.1), tk_full out.2) := by
  unfold fX_status at h
  refine tk_Ru0 me176 (ls := [(0, .ref 0), (1, .int a1)]) rfl rfl ?_
  refine tk_Ps  3 (pc' := 4) (ls' := [(0, .ref 0), (1, .int a1)]) (st' := [.int (7 : Int32), .int (-1 : Int32), .int a1]) rfl ?_
  refine tk_cS1  rfl rfl (as := [.int a1, .int (-1 : Int32), .int (7 : Int32)]) (rest := []) rfl rfl rfl (ok_fX_isWithin sc a1 (-1 : Int32) (7 : Int32) m) ?_
  by_cases hc1 : (fX_isWithin a1 (-1 : Int32) (7 : Int32)) = true
  · replace h := tk_ifT hc1 h
    refine tk_bT  rfl rfl tk_eB_ne (c := (fX_isWithin a1 (-1 : Int32) (7 : Int32)) = true) hc1 (pc' := 16) (ls' := [(0, .ref 0), (1, .int a1)]) (st' := []) ?_
    refine tk_Ps  1 (pc' := 17) (ls' := [(0, .ref 0), (1, .int a1)]) (st' := [.int a1]) rfl ?_
    by_cases hc2 : a1 < 0
    · replace h := tk_ifT hc2 h
      refine tk_bT  rfl rfl rfl (c := a1 < 0) hc2 (pc' := 27) (ls' := [(0, .ref 0), (1, .int a1)]) (st' := []) ?_
      refine tk_Ps  4 (pc' := 31) (ls' := [(3, .int (0 : Int32)), (2, .int (0 : Int32)), (0, .ref 0), (1, .int a1)]) (st' := []) rfl ?_
      refine tk_Kp  (ls' := [(0, .ref 0), (2, .int (0 : Int32)), (3, .int (0 : Int32))]) rfl rfl ?_
      exact ok_fX_status_31 sc tk_F (0 : Int32) (0 : Int32) m _ h
    · replace h := tk_ifF hc2 h
      refine tk_bF  rfl rfl rfl (c := a1 < 0) hc2 (pc' := 20) (ls' := [(0, .ref 0), (1, .int a1)]) (st' := []) ?_
      refine tk_Ps  1 (pc' := 21) (ls' := [(0, .ref 0), (1, .int a1)]) (st' := [.ref 0]) rfl ?_
      refine tk_HR  rfl rfl ly0 rt0_8 ?_
      refine tk_Ps  1 (pc' := 25) (ls' := [(0, .ref 0), (1, .int a1)]) (st' := [.int a1, .ref 202]) rfl ?_
      obtain ⟨hg3, h⟩ := tk_grd h
      refine tk_HIa  rfl rfl ly202 hg3 ?_
      replace h := Option.some.inj h
      subst h
      exact tk_RI  rfl rfl rfl
  · replace h := tk_ifF hc1 h
    refine tk_bF  rfl rfl tk_eB_ne (c := (fX_isWithin a1 (-1 : Int32) (7 : Int32)) = true) hc1 (pc' := 10) (ls' := [(0, .ref 0), (1, .int a1)]) (st' := []) ?_
    refine tk_Ps  2 (pc' := 12) (ls' := [(0, .ref 0), (1, .int a1)]) (st' := [.int (0 : Int32), .ref 0]) rfl ?_
    obtain ⟨o4, ho4, h⟩ := tk_bnd h
    refine tk_cV1  rfl rfl (r := 0) (as := [.int (0 : Int32)]) (rest := []) rfl ly0 rfl rfl (ok_fX_finding sc (0 : Int32) m ho4) ?_
    replace h := Option.some.inj h
    subst h
    exact tk_RI  rfl rfl rfl
theorem ok_fM_in (sc : tk_X) (a1 : Int64) (a2 : Int64) (a3 : Int64) (m : tk_m) : tk_Ru sc 1 179 [.long a1, .long a2, .long a3] (tk_full m) (some (.int (tk_b (fM_in a1 a2 a3))), tk_full m) := by
  obtain ⟨out, h⟩ : ∃ out, fM_in a1 a2 a3 = out := ⟨_, rfl⟩
  rw [h]
  unfold fM_in at h
  refine tk_Ru0 me179 (ls := [(0, .long a1), (2, .long a2), (4, .long a3)]) rfl rfl ?_
  refine tk_Ps  3 (pc' := 3) (ls' := [(0, .long a1), (2, .long a2), (4, .long a3)]) (st' := [.int (lg_cmp a1 a2)]) rfl ?_
  by_cases hc1 : a1 < a2
  · replace h := tk_ifT hc1 h
    refine tk_bT  rfl rfl tk_eL_lt (c := a1 < a2) hc1 (pc' := 17) (ls' := [(0, .long a1), (2, .long a2), (4, .long a3)]) (st' := []) ?_
    refine tk_Ps  1 (pc' := 18) (ls' := [(0, .long a1), (2, .long a2), (4, .long a3)]) (st' := [.int (0 : Int32)]) rfl ?_
    subst h
    exact tk_RB (b := false)  rfl rfl rfl
  · replace h := tk_ifF hc1 h
    refine tk_bF  rfl rfl tk_eL_lt (c := a1 < a2) hc1 (pc' := 6) (ls' := [(0, .long a1), (2, .long a2), (4, .long a3)]) (st' := []) ?_
    refine tk_Ps  3 (pc' := 10) (ls' := [(0, .long a1), (2, .long a2), (4, .long a3)]) (st' := [.int (lg_cmp a1 a3)]) rfl ?_
    by_cases hc2 : a3 < a1
    · replace h := tk_ifT hc2 h
      refine tk_bT  rfl rfl tk_eL_gt (c := a3 < a1) hc2 (pc' := 17) (ls' := [(0, .long a1), (2, .long a2), (4, .long a3)]) (st' := []) ?_
      refine tk_Ps  1 (pc' := 18) (ls' := [(0, .long a1), (2, .long a2), (4, .long a3)]) (st' := [.int (0 : Int32)]) rfl ?_
      subst h
      exact tk_RB (b := false)  rfl rfl rfl
    · replace h := tk_ifF hc2 h
      refine tk_bF  rfl rfl tk_eL_gt (c := a3 < a1) hc2 (pc' := 13) (ls' := [(0, .long a1), (2, .long a2), (4, .long a3)]) (st' := []) ?_
      refine tk_Ps  2 (pc' := 18) (ls' := [(0, .long a1), (2, .long a2), (4, .long a3)]) (st' := [.int (1 : Int32)]) rfl ?_
      subst h
      exact tk_RB (b := true)  rfl rfl rfl
theorem ok_fM_finds (sc : tk_X) (a1 : Int32) (m : tk_m) {out : Int32 × tk_m} (h : fM_finds a1 m = some out) : tk_Ru sc 1 181 [.ref 295, .int a1] (tk_full m) (some (.int out.1), tk_full out.2) := by
  unfold fM_finds at h
  refine tk_Ru0 me181 (ls := [(0, .ref 295), (1, .int a1)]) rfl rfl ?_
  refine tk_Ps  1 (pc' := 1) (ls' := [(0, .ref 295), (1, .int a1)]) (st' := [.ref 295]) rfl ?_
  refine tk_HR  rfl rfl ly295 rt295_3 ?_
  refine tk_Ps  2 (pc' := 6) (ls' := [(0, .ref 295), (1, .int a1)]) (st' := [.int a1, .ref 306, .int a1, .ref 306]) rfl ?_
  obtain ⟨hg1, h⟩ := tk_grd h
  refine tk_HIa  rfl rfl ly306 hg1 ?_
  refine tk_Ps  2 (pc' := 9) (ls' := [(0, .ref 295), (1, .int a1)]) (st' := [.int ((m.1 306 (tk_n a1)) + (1 : Int32)), .int a1, .ref 306]) rfl ?_
  refine tk_SIa  rfl rfl ly306 hg1 ?_
  refine tk_Ps  3 (pc' := 14) (ls' := [(0, .ref 295), (1, .int a1)]) (st' := [.int ((-1000001 : Int32) - a1)]) rfl ?_
  replace h := Option.some.inj h
  subst h
  exact tk_RI  rfl rfl rfl
theorem ok_fM_comes (sc : tk_X) (a1 : Int32) (a2 : Int32) (a3 : Int32) (a4 : Int32) (m : tk_m) {out : Int32 × tk_m} (h : fM_comes a1 a2 a3 a4 m = some out) : tk_Ru sc 2 180 [.ref 295, .int a1, .int a2, .int a3, .int a4] (tk_full m) (some (.int out.1), tk_full out.2) := by
  unfold fM_comes at h
  refine tk_Ru0 me180 (ls := [(0, .ref 295), (1, .int a1), (2, .int a2), (3, .int a3), (4, .int a4)]) rfl rfl ?_
  refine tk_Ps  1 (pc' := 1) (ls' := [(0, .ref 295), (1, .int a1), (2, .int a2), (3, .int a3), (4, .int a4)]) (st' := [.ref 295]) rfl ?_
  refine tk_HR  rfl rfl ly295 rt295_0 ?_
  refine tk_Ps  1 (pc' := 5) (ls' := [(0, .ref 295), (1, .int a1), (2, .int a2), (3, .int a3), (4, .int a4)]) (st' := [.int (0 : Int32), .ref 296]) rfl ?_
  refine tk_HIa  rfl rfl ly296 (by decide) ?_
  refine tk_Ps  1 (pc' := 8) (ls' := [(0, .ref 295), (1, .int a1), (2, .int a2), (3, .int a3), (4, .int a4)]) (st' := [.int (6 : Int32), .int (m.1 296 0)]) rfl ?_
  by_cases hc1 : (m.1 296 0) = (6 : Int32)
  · replace h := tk_ifT hc1 h
    refine tk_bT  rfl rfl rfl (c := (m.1 296 0) = (6 : Int32)) hc1 (pc' := 11) (ls' := [(0, .ref 295), (1, .int a1), (2, .int a2), (3, .int a3), (4, .int a4)]) (st' := []) ?_
    refine tk_Ps  2 (pc' := 13) (ls' := [(0, .ref 295), (1, .int a1), (2, .int a2), (3, .int a3), (4, .int a4)]) (st' := [.int (1 : Int32), .ref 295]) rfl ?_
    obtain ⟨o2, ho2, h⟩ := tk_bnd h
    refine tk_cV1  rfl rfl (r := 295) (as := [.int (1 : Int32)]) (rest := []) rfl ly295 rfl rfl (ok_fM_finds sc (1 : Int32) m ho2) ?_
    replace h := Option.some.inj h
    subst h
    exact tk_RI  rfl rfl rfl
  · replace h := tk_ifF hc1 h
    refine tk_bF  rfl rfl rfl (c := (m.1 296 0) = (6 : Int32)) hc1 (pc' := 17) (ls' := [(0, .ref 295), (1, .int a1), (2, .int a2), (3, .int a3), (4, .int a4)]) (st' := []) ?_
    refine tk_Ps  3 (pc' := 20) (ls' := [(0, .ref 295), (1, .int a1), (2, .int a2), (3, .int a3), (4, .int a4)]) (st' := [.ref 295, .int (4 : Int32), .int (5 : Int32)]) rfl ?_
    refine tk_HR  rfl rfl ly295 rt295_0 ?_
    refine tk_Ps  1 (pc' := 24) (ls' := [(0, .ref 295), (1, .int a1), (2, .int a2), (3, .int a3), (4, .int a4)]) (st' := [.int (0 : Int32), .ref 296, .int (4 : Int32), .int (5 : Int32)]) rfl ?_
    refine tk_HIa  rfl rfl ly296 (by decide) ?_
    refine tk_Ps  4 (pc' := 30) (ls' := [(5, .int ((5 : Int32) + ((4 : Int32) * (m.1 296 0)))), (0, .ref 295), (1, .int a1), (2, .int a2), (3, .int a3), (4, .int a4)]) (st' := [.ref 295]) rfl ?_
    refine tk_HR  rfl rfl ly295 rt295_0 ?_
    refine tk_Ps  2 (pc' := 36) (ls' := [(5, .int ((5 : Int32) + ((4 : Int32) * (m.1 296 0)))), (0, .ref 295), (1, .int a1), (2, .int a2), (3, .int a3), (4, .int a4)]) (st' := [.int a1, .int ((5 : Int32) + ((4 : Int32) * (m.1 296 0))), .ref 296]) rfl ?_
    obtain ⟨hg3, h⟩ := tk_grd h
    refine tk_SIa  rfl rfl ly296 hg3 ?_
    refine tk_Ps  1 (pc' := 38) (ls' := [(5, .int ((5 : Int32) + ((4 : Int32) * (m.1 296 0)))), (0, .ref 295), (1, .int a1), (2, .int a2), (3, .int a3), (4, .int a4)]) (st' := [.ref 295]) rfl ?_
    refine tk_HR  rfl rfl ly295 rt295_0 ?_
    refine tk_Ps  4 (pc' := 46) (ls' := [(5, .int ((5 : Int32) + ((4 : Int32) * (m.1 296 0)))), (0, .ref 295), (1, .int a1), (2, .int a2), (3, .int a3), (4, .int a4)]) (st' := [.int a2, .int (((5 : Int32) + ((4 : Int32) * (m.1 296 0))) + (1 : Int32)), .ref 296]) rfl ?_
    obtain ⟨hg4, h⟩ := tk_grd h
    refine tk_SIa  rfl rfl ly296 hg4 ?_
    refine tk_Ps  1 (pc' := 48) (ls' := [(5, .int ((5 : Int32) + ((4 : Int32) * (m.1 296 0)))), (0, .ref 295), (1, .int a1), (2, .int a2), (3, .int a3), (4, .int a4)]) (st' := [.ref 295]) rfl ?_
    refine tk_HR  rfl rfl ly295 rt295_0 ?_
    refine tk_Ps  4 (pc' := 56) (ls' := [(5, .int ((5 : Int32) + ((4 : Int32) * (m.1 296 0)))), (0, .ref 295), (1, .int a1), (2, .int a2), (3, .int a3), (4, .int a4)]) (st' := [.int a3, .int (((5 : Int32) + ((4 : Int32) * (m.1 296 0))) + (2 : Int32)), .ref 296]) rfl ?_
    obtain ⟨hg5, h⟩ := tk_grd h
    refine tk_SIa  rfl rfl ly296 hg5 ?_
    refine tk_Ps  1 (pc' := 58) (ls' := [(5, .int ((5 : Int32) + ((4 : Int32) * (m.1 296 0)))), (0, .ref 295), (1, .int a1), (2, .int a2), (3, .int a3), (4, .int a4)]) (st' := [.ref 295]) rfl ?_
    refine tk_HR  rfl rfl ly295 rt295_0 ?_
    refine tk_Ps  4 (pc' := 67) (ls' := [(5, .int ((5 : Int32) + ((4 : Int32) * (m.1 296 0)))), (0, .ref 295), (1, .int a1), (2, .int a2), (3, .int a3), (4, .int a4)]) (st' := [.int a4, .int (((5 : Int32) + ((4 : Int32) * (m.1 296 0))) + (3 : Int32)), .ref 296]) rfl ?_
    obtain ⟨hg6, h⟩ := tk_grd h
    refine tk_SIa  rfl rfl ly296 hg6 ?_
    refine tk_Ps  1 (pc' := 69) (ls' := [(5, .int ((5 : Int32) + ((4 : Int32) * (m.1 296 0)))), (0, .ref 295), (1, .int a1), (2, .int a2), (3, .int a3), (4, .int a4)]) (st' := [.ref 295]) rfl ?_
    refine tk_HR  rfl rfl ly295 rt295_0 ?_
    refine tk_Ps  2 (pc' := 74) (ls' := [(5, .int ((5 : Int32) + ((4 : Int32) * (m.1 296 0)))), (0, .ref 295), (1, .int a1), (2, .int a2), (3, .int a3), (4, .int a4)]) (st' := [.int (0 : Int32), .ref 296, .int (0 : Int32), .ref 296]) rfl ?_
    refine tk_HIa  rfl rfl ly296 (by decide) ?_
    refine tk_Ps  2 (pc' := 77) (ls' := [(5, .int ((5 : Int32) + ((4 : Int32) * (m.1 296 0)))), (0, .ref 295), (1, .int a1), (2, .int a2), (3, .int a3), (4, .int a4)]) (st' := [.int ((tk_u2 (tk_u2 (tk_u2 (tk_u2 m.1 296 (tk_n ((5 : Int32) + ((4 : Int32) * (m.1 296 0)))) a1) 296 (tk_n (((5 : Int32) + ((4 : Int32) * (m.1 296 0))) + (1 : Int32))) a2) 296 (tk_n (((5 : Int32) + ((4 : Int32) * (m.1 296 0))) + (2 : Int32))) a3) 296 (tk_n (((5 : Int32) + ((4 : Int32) * (m.1 296 0))) + (3 : Int32))) a4 296 0) + (1 : Int32)), .int (0 : Int32), .ref 296]) rfl ?_
    refine tk_SIa  rfl rfl ly296 (by decide) ?_
    refine tk_Ps  1 (pc' := 79) (ls' := [(5, .int ((5 : Int32) + ((4 : Int32) * (m.1 296 0)))), (0, .ref 295), (1, .int a1), (2, .int a2), (3, .int a3), (4, .int a4)]) (st' := [.ref 295]) rfl ?_
    refine tk_HR  rfl rfl ly295 rt295_0 ?_
    refine tk_Ps  1 (pc' := 83) (ls' := [(5, .int ((5 : Int32) + ((4 : Int32) * (m.1 296 0)))), (0, .ref 295), (1, .int a1), (2, .int a2), (3, .int a3), (4, .int a4)]) (st' := [.int (0 : Int32), .ref 296]) rfl ?_
    refine tk_HIa  rfl rfl ly296 (by decide) ?_
    refine tk_Ps  2 (pc' := 86) (ls' := [(5, .int ((5 : Int32) + ((4 : Int32) * (m.1 296 0)))), (0, .ref 295), (1, .int a1), (2, .int a2), (3, .int a3), (4, .int a4)]) (st' := [.int ((tk_u2 (tk_u2 (tk_u2 (tk_u2 (tk_u2 m.1 296 (tk_n ((5 : Int32) + ((4 : Int32) * (m.1 296 0)))) a1) 296 (tk_n (((5 : Int32) + ((4 : Int32) * (m.1 296 0))) + (1 : Int32))) a2) 296 (tk_n (((5 : Int32) + ((4 : Int32) * (m.1 296 0))) + (2 : Int32))) a3) 296 (tk_n (((5 : Int32) + ((4 : Int32) * (m.1 296 0))) + (3 : Int32))) a4) 296 0 ((tk_u2 (tk_u2 (tk_u2 (tk_u2 m.1 296 (tk_n ((5 : Int32) + ((4 : Int32) * (m.1 296 0)))) a1) 296 (tk_n (((5 : Int32) + ((4 : Int32) * (m.1 296 0))) + (1 : Int32))) a2) 296 (tk_n (((5 : Int32) + ((4 : Int32) * (m.1 296 0))) + (2 : Int32))) a3) 296 (tk_n (((5 : Int32) + ((4 : Int32) * (m.1 296 0))) + (3 : Int32))) a4 296 0) + (1 : Int32)) 296 0) - (1 : Int32))]) rfl ?_
    replace h := Option.some.inj h
    subst h
    exact tk_RI  rfl rfl rfl
theorem ok_fM_round (sc : tk_X) (a1 : Int32) (a2 : Int32) (a3 : Int32) (m : tk_m) {out : Int32 × tk_m} (h : fM_round a1 a2 a3 m = some out) : tk_Ru sc 3 178 [.ref 295, .int a1, .int a2, .int a3] (tk_full m) (some (.int out.1), tk_full out.2) := by
  unfold fM_round at h
  refine tk_Ru0 me178 (ls := [(0, .ref 295), (1, .int a1), (2, .int a2), (3, .int a3)]) rfl rfl ?_
  refine tk_Ps  4 (pc' := 8) (ls' := [(0, .ref 295), (1, .int a1), (2, .int a2), (3, .int a3)]) (st' := [.long (5 : Int64), .long (-5 : Int64), .long (Int32.toInt64 a1)]) rfl ?_
  refine tk_cS1  rfl rfl (as := [.long (Int32.toInt64 a1), .long (-5 : Int64), .long (5 : Int64)]) (rest := []) rfl rfl rfl (ok_fM_in sc (Int32.toInt64 a1) (-5 : Int64) (5 : Int64) m) ?_
  by_cases hc1 : (fM_in (Int32.toInt64 a1) (-5 : Int64) (5 : Int64)) = true
  · replace h := tk_ifT hc1 h
    refine tk_bT  rfl rfl tk_eB_eq (c := (fM_in (Int32.toInt64 a1) (-5 : Int64) (5 : Int64)) = true) hc1 (pc' := 14) (ls' := [(0, .ref 295), (1, .int a1), (2, .int a2), (3, .int a3)]) (st' := []) ?_
    refine tk_Ps  4 (pc' := 22) (ls' := [(0, .ref 295), (1, .int a1), (2, .int a2), (3, .int a3)]) (st' := [.long (5 : Int64), .long (-5 : Int64), .long (Int32.toInt64 a2)]) rfl ?_
    refine tk_cS1  rfl rfl (as := [.long (Int32.toInt64 a2), .long (-5 : Int64), .long (5 : Int64)]) (rest := []) rfl rfl rfl (ok_fM_in sc (Int32.toInt64 a2) (-5 : Int64) (5 : Int64) m) ?_
    by_cases hc2 : (fM_in (Int32.toInt64 a2) (-5 : Int64) (5 : Int64)) = true
    · replace h := tk_ifT hc2 h
      refine tk_bT  rfl rfl tk_eB_eq (c := (fM_in (Int32.toInt64 a2) (-5 : Int64) (5 : Int64)) = true) hc2 (pc' := 28) (ls' := [(0, .ref 295), (1, .int a1), (2, .int a2), (3, .int a3)]) (st' := []) ?_
      refine tk_Ps  4 (pc' := 34) (ls' := [(0, .ref 295), (1, .int a1), (2, .int a2), (3, .int a3)]) (st' := [.long (5 : Int64), .long (0 : Int64), .long (Int32.toInt64 a3)]) rfl ?_
      refine tk_cS1  rfl rfl (as := [.long (Int32.toInt64 a3), .long (0 : Int64), .long (5 : Int64)]) (rest := []) rfl rfl rfl (ok_fM_in sc (Int32.toInt64 a3) (0 : Int64) (5 : Int64) m) ?_
      by_cases hc3 : (fM_in (Int32.toInt64 a3) (0 : Int64) (5 : Int64)) = true
      · replace h := tk_ifT hc3 h
        refine tk_bT  rfl rfl tk_eB_eq (c := (fM_in (Int32.toInt64 a3) (0 : Int64) (5 : Int64)) = true) hc3 (pc' := 40) (ls' := [(0, .ref 295), (1, .int a1), (2, .int a2), (3, .int a3)]) (st' := []) ?_
        refine tk_Ps  5 (pc' := 45) (ls' := [(0, .ref 295), (1, .int a1), (2, .int a2), (3, .int a3)]) (st' := [.int a3, .int a2, .int a1, .int (0 : Int32), .ref 295]) rfl ?_
        obtain ⟨o4, ho4, h⟩ := tk_bnd h
        refine tk_cV1  rfl rfl (r := 295) (as := [.int (0 : Int32), .int a1, .int a2, .int a3]) (rest := []) rfl ly295 rfl rfl (ok_fM_comes sc (0 : Int32) a1 a2 a3 m ho4) ?_
        refine tk_Ps  1 (pc' := 56) (ls' := [(0, .ref 295), (1, .int a1), (2, .int a2), (3, .int a3)]) (st' := [.int o4.1]) rfl ?_
        replace h := Option.some.inj h
        subst h
        exact tk_RI  rfl rfl rfl
      · replace h := tk_ifF hc3 h
        refine tk_bF  rfl rfl tk_eB_eq (c := (fM_in (Int32.toInt64 a3) (0 : Int64) (5 : Int64)) = true) hc3 (pc' := 51) (ls' := [(0, .ref 295), (1, .int a1), (2, .int a2), (3, .int a3)]) (st' := []) ?_
        refine tk_Ps  2 (pc' := 53) (ls' := [(0, .ref 295), (1, .int a1), (2, .int a2), (3, .int a3)]) (st' := [.int (0 : Int32), .ref 295]) rfl ?_
        obtain ⟨o5, ho5, h⟩ := tk_bnd h
        refine tk_cV1  rfl rfl (r := 295) (as := [.int (0 : Int32)]) (rest := []) rfl ly295 rfl rfl (ok_fM_finds sc (0 : Int32) m ho5) ?_
        replace h := Option.some.inj h
        subst h
        exact tk_RI  rfl rfl rfl
    · replace h := tk_ifF hc2 h
      refine tk_bF  rfl rfl tk_eB_eq (c := (fM_in (Int32.toInt64 a2) (-5 : Int64) (5 : Int64)) = true) hc2 (pc' := 51) (ls' := [(0, .ref 295), (1, .int a1), (2, .int a2), (3, .int a3)]) (st' := []) ?_
      refine tk_Ps  2 (pc' := 53) (ls' := [(0, .ref 295), (1, .int a1), (2, .int a2), (3, .int a3)]) (st' := [.int (0 : Int32), .ref 295]) rfl ?_
      obtain ⟨o6, ho6, h⟩ := tk_bnd h
      refine tk_cV1  rfl rfl (r := 295) (as := [.int (0 : Int32)]) (rest := []) rfl ly295 rfl rfl (ok_fM_finds sc (0 : Int32) m ho6) ?_
      replace h := Option.some.inj h
      subst h
      exact tk_RI  rfl rfl rfl
  · replace h := tk_ifF hc1 h
    refine tk_bF  rfl rfl tk_eB_eq (c := (fM_in (Int32.toInt64 a1) (-5 : Int64) (5 : Int64)) = true) hc1 (pc' := 51) (ls' := [(0, .ref 295), (1, .int a1), (2, .int a2), (3, .int a3)]) (st' := []) ?_
    refine tk_Ps  2 (pc' := 53) (ls' := [(0, .ref 295), (1, .int a1), (2, .int a2), (3, .int a3)]) (st' := [.int (0 : Int32), .ref 295]) rfl ?_
    obtain ⟨o7, ho7, h⟩ := tk_bnd h
    refine tk_cV1  rfl rfl (r := 295) (as := [.int (0 : Int32)]) (rest := []) rfl ly295 rfl rfl (ok_fM_finds sc (0 : Int32) m ho7) ?_
    replace h := Option.some.inj h
    subst h
    exact tk_RI  rfl rfl rfl
theorem ok_fM_straight (sc : tk_X) (a1 : Int32) (a2 : Int32) (m : tk_m) {out : Int32 × tk_m} (h : fM_straight a1 a2 m = some out) : tk_Ru sc 3 182 [.ref 295, .int a1, .int a2] (tk_full m) (some (.int out.1), tk_full out.2) := by
  unfold fM_straight at h
  refine tk_Ru0 me182 (ls := [(0, .ref 295), (1, .int a1), (2, .int a2)]) rfl rfl ?_
  refine tk_Ps  4 (pc' := 6) (ls' := [(0, .ref 295), (1, .int a1), (2, .int a2)]) (st' := [.long (5 : Int64), .long (0 : Int64), .long (Int32.toInt64 a1)]) rfl ?_
  refine tk_cS1  rfl rfl (as := [.long (Int32.toInt64 a1), .long (0 : Int64), .long (5 : Int64)]) (rest := []) rfl rfl rfl (ok_fM_in sc (Int32.toInt64 a1) (0 : Int64) (5 : Int64) m) ?_
  by_cases hc1 : (fM_in (Int32.toInt64 a1) (0 : Int64) (5 : Int64)) = true
  · replace h := tk_ifT hc1 h
    refine tk_bT  rfl rfl tk_eB_eq (c := (fM_in (Int32.toInt64 a1) (0 : Int64) (5 : Int64)) = true) hc1 (pc' := 12) (ls' := [(0, .ref 295), (1, .int a1), (2, .int a2)]) (st' := []) ?_
    refine tk_Ps  4 (pc' := 20) (ls' := [(0, .ref 295), (1, .int a1), (2, .int a2)]) (st' := [.long (30 : Int64), .long (-30 : Int64), .long (Int32.toInt64 a2)]) rfl ?_
    refine tk_cS1  rfl rfl (as := [.long (Int32.toInt64 a2), .long (-30 : Int64), .long (30 : Int64)]) (rest := []) rfl rfl rfl (ok_fM_in sc (Int32.toInt64 a2) (-30 : Int64) (30 : Int64) m) ?_
    by_cases hc2 : (fM_in (Int32.toInt64 a2) (-30 : Int64) (30 : Int64)) = true
    · replace h := tk_ifT hc2 h
      refine tk_bT  rfl rfl tk_eB_eq (c := (fM_in (Int32.toInt64 a2) (-30 : Int64) (30 : Int64)) = true) hc2 (pc' := 26) (ls' := [(0, .ref 295), (1, .int a1), (2, .int a2)]) (st' := []) ?_
      refine tk_Ps  5 (pc' := 31) (ls' := [(0, .ref 295), (1, .int a1), (2, .int a2)]) (st' := [.int (0 : Int32), .int a2, .int a1, .int (1 : Int32), .ref 295]) rfl ?_
      obtain ⟨o3, ho3, h⟩ := tk_bnd h
      refine tk_cV1  rfl rfl (r := 295) (as := [.int (1 : Int32), .int a1, .int a2, .int (0 : Int32)]) (rest := []) rfl ly295 rfl rfl (ok_fM_comes sc (1 : Int32) a1 a2 (0 : Int32) m ho3) ?_
      refine tk_Ps  1 (pc' := 42) (ls' := [(0, .ref 295), (1, .int a1), (2, .int a2)]) (st' := [.int o3.1]) rfl ?_
      replace h := Option.some.inj h
      subst h
      exact tk_RI  rfl rfl rfl
    · replace h := tk_ifF hc2 h
      refine tk_bF  rfl rfl tk_eB_eq (c := (fM_in (Int32.toInt64 a2) (-30 : Int64) (30 : Int64)) = true) hc2 (pc' := 37) (ls' := [(0, .ref 295), (1, .int a1), (2, .int a2)]) (st' := []) ?_
      refine tk_Ps  2 (pc' := 39) (ls' := [(0, .ref 295), (1, .int a1), (2, .int a2)]) (st' := [.int (0 : Int32), .ref 295]) rfl ?_
      obtain ⟨o4, ho4, h⟩ := tk_bnd h
      refine tk_cV1  rfl rfl (r := 295) (as := [.int (0 : Int32)]) (rest := []) rfl ly295 rfl rfl (ok_fM_finds sc (0 : Int32) m ho4) ?_
      replace h := Option.some.inj h
      subst h
      exact tk_RI  rfl rfl rfl
  · replace h := tk_ifF hc1 h
    refine tk_bF  rfl rfl tk_eB_eq (c := (fM_in (Int32.toInt64 a1) (0 : Int64) (5 : Int64)) = true) hc1 (pc' := 37) (ls' := [(0, .ref 295), (1, .int a1), (2, .int a2)]) (st' := []) ?_
    refine tk_Ps  2 (pc' := 39) (ls' := [(0, .ref 295), (1, .int a1), (2, .int a2)]) (st' := [.int (0 : Int32), .ref 295]) rfl ?_
    obtain ⟨o5, ho5, h⟩ := tk_bnd h
    refine tk_cV1  rfl rfl (r := 295) (as := [.int (0 : Int32)]) (rest := []) rfl ly295 rfl rfl (ok_fM_finds sc (0 : Int32) m ho5) ?_
    replace h := Option.some.inj h
    subst h
    exact tk_RI  rfl rfl rfl
theorem ok_fM_isShape (sc : tk_X) (a1 : Int32) (m : tk_m) : tk_Ru sc 2 184 [.ref 295, .int a1] (tk_full m) (some (.int (tk_b (fM_isShape a1 m))), tk_full m) := by
  obtain ⟨out, h⟩ : ∃ out, fM_isShape a1 m = out := ⟨_, rfl⟩
  rw [h]
  unfold fM_isShape at h
  refine tk_Ru0 me184 (ls := [(0, .ref 295), (1, .int a1)]) rfl rfl ?_
  refine tk_Ps  4 (pc' := 4) (ls' := [(0, .ref 295), (1, .int a1)]) (st' := [.ref 295, .long (0 : Int64), .long (Int32.toInt64 a1)]) rfl ?_
  refine tk_HR  rfl rfl ly295 rt295_0 ?_
  refine tk_Ps  1 (pc' := 8) (ls' := [(0, .ref 295), (1, .int a1)]) (st' := [.int (0 : Int32), .ref 296, .long (0 : Int64), .long (Int32.toInt64 a1)]) rfl ?_
  refine tk_HIa  rfl rfl ly296 (by decide) ?_
  refine tk_Ps  3 (pc' := 12) (ls' := [(0, .ref 295), (1, .int a1)]) (st' := [.long (Int32.toInt64 ((m.1 296 0) - (1 : Int32))), .long (0 : Int64), .long (Int32.toInt64 a1)]) rfl ?_
  refine tk_cS1  rfl rfl (as := [.long (Int32.toInt64 a1), .long (0 : Int64), .long (Int32.toInt64 ((m.1 296 0) - (1 : Int32)))]) (rest := []) rfl rfl rfl (ok_fM_in sc (Int32.toInt64 a1) (0 : Int64) (Int32.toInt64 ((m.1 296 0) - (1 : Int32))) m) ?_
  subst h
  exact tk_RB (b := fM_in (Int32.toInt64 a1) (0 : Int64) (Int32.toInt64 ((m.1 296 0) - (1 : Int32))))  rfl rfl rfl
theorem ok_fM_of0 (sc : tk_X) (a1 : Int32) (a2 : Int32) (m : tk_m) {out : Int32} (h : fM_of0 a1 a2 m = some out) : tk_Ru sc 1 187 [.ref 295, .int a1, .int a2] (tk_full m) (some (.int out), tk_full m) := by
  unfold fM_of0 at h
  refine tk_Ru0 me187 (ls := [(0, .ref 295), (1, .int a1), (2, .int a2)]) rfl rfl ?_
  refine tk_Ps  1 (pc' := 1) (ls' := [(0, .ref 295), (1, .int a1), (2, .int a2)]) (st' := [.ref 295]) rfl ?_
  refine tk_HR  rfl rfl ly295 rt295_0 ?_
  refine tk_Ps  7 (pc' := 11) (ls' := [(0, .ref 295), (1, .int a1), (2, .int a2)]) (st' := [.int (((5 : Int32) + ((4 : Int32) * a1)) + a2), .ref 296]) rfl ?_
  obtain ⟨hg1, h⟩ := tk_grd h
  refine tk_HIa  rfl rfl ly296 hg1 ?_
  replace h := Option.some.inj h
  subst h
  exact tk_RI  rfl rfl rfl
theorem ok_fM_isRound (sc : tk_X) (a1 : Int32) (m : tk_m) {out : Bool} (h : fM_isRound a1 m = some out) : tk_Ru sc 2 186 [.ref 295, .int a1] (tk_full m) (some (.int (tk_b out)), tk_full m) := by
  unfold fM_isRound at h
  refine tk_Ru0 me186 (ls := [(0, .ref 295), (1, .int a1)]) rfl rfl ?_
  refine tk_Ps  3 (pc' := 3) (ls' := [(0, .ref 295), (1, .int a1)]) (st' := [.int (0 : Int32), .int a1, .ref 295]) rfl ?_
  obtain ⟨o1, ho1, h⟩ := tk_bnd h
  refine tk_cV1  rfl rfl (r := 295) (as := [.int a1, .int (0 : Int32)]) (rest := []) rfl ly295 rfl rfl (ok_fM_of0 sc a1 (0 : Int32) m ho1) ?_
  by_cases hc2 : o1 = 0
  · replace h := tk_ifT hc2 h
    refine tk_bT  rfl rfl rfl (c := o1 = 0) hc2 (pc' := 9) (ls' := [(0, .ref 295), (1, .int a1)]) (st' := []) ?_
    refine tk_Ps  2 (pc' := 14) (ls' := [(0, .ref 295), (1, .int a1)]) (st' := [.int (1 : Int32)]) rfl ?_
    replace h := Option.some.inj h
    subst h
    exact tk_RB (b := true)  rfl rfl rfl
  · replace h := tk_ifF hc2 h
    refine tk_bF  rfl rfl rfl (c := o1 = 0) hc2 (pc' := 13) (ls' := [(0, .ref 295), (1, .int a1)]) (st' := []) ?_
    refine tk_Ps  1 (pc' := 14) (ls' := [(0, .ref 295), (1, .int a1)]) (st' := [.int (0 : Int32)]) rfl ?_
    replace h := Option.some.inj h
    subst h
    exact tk_RB (b := false)  rfl rfl rfl
theorem ok_fM_kindOf (sc : tk_X) (a1 : Int32) (m : tk_m) {out : Int32} (h : fM_kindOf a1 m = some out) : tk_Ru sc 3 185 [.ref 295, .int a1] (tk_full m) (some (.int out), tk_full m) := by
  unfold fM_kindOf at h
  refine tk_Ru0 me185 (ls := [(0, .ref 295), (1, .int a1)]) rfl rfl ?_
  refine tk_Ps  2 (pc' := 2) (ls' := [(0, .ref 295), (1, .int a1)]) (st' := [.int a1, .ref 295]) rfl ?_
  obtain ⟨o1, ho1, h⟩ := tk_bnd h
  refine tk_cV1  rfl rfl (r := 295) (as := [.int a1]) (rest := []) rfl ly295 rfl rfl (ok_fM_isRound sc a1 m ho1) ?_
  by_cases hc2 : o1 = true
  · replace h := tk_ifT hc2 h
    refine tk_bT  rfl rfl tk_eB_eq (c := o1 = true) hc2 (pc' := 8) (ls' := [(0, .ref 295), (1, .int a1)]) (st' := []) ?_
    refine tk_Ps  3 (pc' := 11) (ls' := [(0, .ref 295), (1, .int a1)]) (st' := [.int (3 : Int32), .int a1, .ref 295]) rfl ?_
    obtain ⟨o3, ho3, h⟩ := tk_bnd h
    refine tk_cV1  rfl rfl (r := 295) (as := [.int a1, .int (3 : Int32)]) (rest := []) rfl ly295 rfl rfl (ok_fM_of0 sc a1 (3 : Int32) m ho3) ?_
    by_cases hc4 : o3 = 0
    · replace h := tk_ifT hc4 h
      refine tk_bT  rfl rfl rfl (c := o3 = 0) hc4 (pc' := 17) (ls' := [(0, .ref 295), (1, .int a1)]) (st' := []) ?_
      refine tk_Ps  2 (pc' := 40) (ls' := [(0, .ref 295), (1, .int a1)]) (st' := [.int (3 : Int32)]) rfl ?_
      replace h := Option.some.inj h
      subst h
      exact tk_RI  rfl rfl rfl
    · replace h := tk_ifF hc4 h
      refine tk_bF  rfl rfl rfl (c := o3 = 0) hc4 (pc' := 21) (ls' := [(0, .ref 295), (1, .int a1)]) (st' := []) ?_
      refine tk_Ps  2 (pc' := 40) (ls' := [(0, .ref 295), (1, .int a1)]) (st' := [.int (1 : Int32)]) rfl ?_
      replace h := Option.some.inj h
      subst h
      exact tk_RI  rfl rfl rfl
  · replace h := tk_ifF hc2 h
    refine tk_bF  rfl rfl tk_eB_eq (c := o1 = true) hc2 (pc' := 25) (ls' := [(0, .ref 295), (1, .int a1)]) (st' := []) ?_
    refine tk_Ps  3 (pc' := 28) (ls' := [(0, .ref 295), (1, .int a1)]) (st' := [.int (1 : Int32), .int a1, .ref 295]) rfl ?_
    obtain ⟨o5, ho5, h⟩ := tk_bnd h
    refine tk_cV1  rfl rfl (r := 295) (as := [.int a1, .int (1 : Int32)]) (rest := []) rfl ly295 rfl rfl (ok_fM_of0 sc a1 (1 : Int32) m ho5) ?_
    refine tk_Ps  1 (pc' := 32) (ls' := [(0, .ref 295), (1, .int a1)]) (st' := [.int (2 : Int32), .int o5]) rfl ?_
    by_cases hc6 : (2 : Int32) ≤ o5
    · replace h := tk_ifT hc6 h
      refine tk_bT  rfl rfl rfl (c := (2 : Int32) ≤ o5) hc6 (pc' := 39) (ls' := [(0, .ref 295), (1, .int a1)]) (st' := []) ?_
      refine tk_Ps  1 (pc' := 40) (ls' := [(0, .ref 295), (1, .int a1)]) (st' := [.int (2 : Int32)]) rfl ?_
      replace h := Option.some.inj h
      subst h
      exact tk_RI  rfl rfl rfl
    · replace h := tk_ifF hc6 h
      refine tk_bF  rfl rfl rfl (c := (2 : Int32) ≤ o5) hc6 (pc' := 35) (ls' := [(0, .ref 295), (1, .int a1)]) (st' := []) ?_
      refine tk_Ps  2 (pc' := 40) (ls' := [(0, .ref 295), (1, .int a1)]) (st' := [.int (4 : Int32)]) rfl ?_
      replace h := Option.some.inj h
      subst h
      exact tk_RI  rfl rfl rfl
theorem ok_fM_slant (sc : tk_X) (a1 : Nat) (a2 : Int32) (m : tk_m) (ha1 : 1000 ≤ a1 ∧ a1 < 1006) {out : Int32} (h : fM_slant a1 a2 m = some out) : tk_Ru sc 2 189 [.ref 295, .ref a1, .int a2] (tk_full m) (some (.int out), tk_full m) := by
  unfold fM_slant at h
  refine tk_Ru0 me189 (ls := [(0, .ref 295), (1, .ref a1), (2, .int a2)]) rfl rfl ?_
  refine tk_Ps  4 (pc' := 4) (ls' := [(0, .ref 295), (1, .ref a1), (2, .int a2)]) (st' := [.int (1 : Int32), .int a2, .ref 295, .ref a1]) rfl ?_
  obtain ⟨o1, ho1, h⟩ := tk_bnd h
  refine tk_cV1  rfl rfl (r := 295) (as := [.int a2, .int (1 : Int32)]) (rest := [.ref a1]) rfl ly295 rfl rfl (ok_fM_of0 sc a2 (1 : Int32) m ho1) ?_
  obtain ⟨hg2, h⟩ := tk_grd h
  refine tk_Hxv  rfl rfl ha1 hg2 ?_
  replace h := Option.some.inj h
  subst h
  exact tk_RI  rfl rfl rfl
theorem ok_fM_form (sc : tk_X) (a1 : Int32) (a2 : Int32) (m : tk_m) {out : Int32} (h : fM_form a1 a2 m = some out) : tk_Ru sc 3 188 [.ref 295, .int a1, .int a2] (tk_full m) (some (.int out), tk_full m) := by
  unfold fM_form at h
  refine tk_Ru0 me188 (ls := [(0, .ref 295), (1, .int a1), (2, .int a2)]) rfl rfl ?_
  refine tk_Ps  3 (pc' := 3) (ls' := [(0, .ref 295), (1, .int a1), (2, .int a2)]) (st' := [.int (1 : Int32), .int a1, .ref 295]) rfl ?_
  obtain ⟨o1, ho1, h⟩ := tk_bnd h
  refine tk_cV1  rfl rfl (r := 295) (as := [.int a1, .int (1 : Int32)]) (rest := []) rfl ly295 rfl rfl (ok_fM_of0 sc a1 (1 : Int32) m ho1) ?_
  refine tk_Ps  4 (pc' := 10) (ls' := [(3, .int o1), (0, .ref 295), (1, .int a1), (2, .int a2)]) (st' := [.int (2 : Int32), .int a1, .ref 295]) rfl ?_
  obtain ⟨o2, ho2, h⟩ := tk_bnd h
  refine tk_cV1  rfl rfl (r := 295) (as := [.int a1, .int (2 : Int32)]) (rest := []) rfl ly295 rfl rfl (ok_fM_of0 sc a1 (2 : Int32) m ho2) ?_
  refine tk_Ps  4 (pc' := 18) (ls' := [(4, .int o2), (3, .int o1), (0, .ref 295), (1, .int a1), (2, .int a2)]) (st' := [.int (3 : Int32), .int a1, .ref 295]) rfl ?_
  obtain ⟨o3, ho3, h⟩ := tk_bnd h
  refine tk_cV1  rfl rfl (r := 295) (as := [.int a1, .int (3 : Int32)]) (rest := []) rfl ly295 rfl rfl (ok_fM_of0 sc a1 (3 : Int32) m ho3) ?_
  refine tk_Ps  3 (pc' := 25) (ls' := [(5, .int o3), (4, .int o2), (3, .int o1), (0, .ref 295), (1, .int a1), (2, .int a2)]) (st' := [.int a1, .ref 295]) rfl ?_
  obtain ⟨o4, ho4, h⟩ := tk_bnd h
  refine tk_cV1  rfl rfl (r := 295) (as := [.int a1]) (rest := []) rfl ly295 rfl rfl (ok_fM_isRound sc a1 m ho4) ?_
  by_cases hc5 : o4 = true
  · replace h := tk_ifT hc5 h
    refine tk_bT  rfl rfl tk_eB_eq (c := o4 = true) hc5 (pc' := 31) (ls' := [(5, .int o3), (4, .int o2), (3, .int o1), (0, .ref 295), (1, .int a1), (2, .int a2)]) (st' := []) ?_
    refine tk_Ps  1 (pc' := 32) (ls' := [(5, .int o3), (4, .int o2), (3, .int o1), (0, .ref 295), (1, .int a1), (2, .int a2)]) (st' := [.int a2]) rfl ?_
    by_cases hc6 : a2 = 0
    · replace h := tk_ifT hc6 h
      refine tk_bT  rfl rfl rfl (c := a2 = 0) hc6 (pc' := 35) (ls' := [(5, .int o3), (4, .int o2), (3, .int o1), (0, .ref 295), (1, .int a1), (2, .int a2)]) (st' := []) ?_
      refine tk_Ps  2 (pc' := 79) (ls' := [(5, .int o3), (4, .int o2), (3, .int o1), (0, .ref 295), (1, .int a1), (2, .int a2)]) (st' := [.int (1 : Int32)]) rfl ?_
      replace h := Option.some.inj h
      subst h
      exact tk_RI  rfl rfl rfl
    · replace h := tk_ifF hc6 h
      refine tk_bF  rfl rfl rfl (c := a2 = 0) hc6 (pc' := 39) (ls' := [(5, .int o3), (4, .int o2), (3, .int o1), (0, .ref 295), (1, .int a1), (2, .int a2)]) (st' := []) ?_
      refine tk_Ps  2 (pc' := 41) (ls' := [(5, .int o3), (4, .int o2), (3, .int o1), (0, .ref 295), (1, .int a1), (2, .int a2)]) (st' := [.int (1 : Int32), .int a2]) rfl ?_
      by_cases hc7 : a2 = (1 : Int32)
      · replace h := tk_ifT hc7 h
        refine tk_bT  rfl rfl rfl (c := a2 = (1 : Int32)) hc7 (pc' := 44) (ls' := [(5, .int o3), (4, .int o2), (3, .int o1), (0, .ref 295), (1, .int a1), (2, .int a2)]) (st' := []) ?_
        refine tk_Ps  4 (pc' := 79) (ls' := [(5, .int o3), (4, .int o2), (3, .int o1), (0, .ref 295), (1, .int a1), (2, .int a2)]) (st' := [.int ((-2 : Int32) * o1)]) rfl ?_
        replace h := Option.some.inj h
        subst h
        exact tk_RI  rfl rfl rfl
      · replace h := tk_ifF hc7 h
        refine tk_bF  rfl rfl rfl (c := a2 = (1 : Int32)) hc7 (pc' := 51) (ls' := [(5, .int o3), (4, .int o2), (3, .int o1), (0, .ref 295), (1, .int a1), (2, .int a2)]) (st' := []) ?_
        refine tk_Ps  2 (pc' := 53) (ls' := [(5, .int o3), (4, .int o2), (3, .int o1), (0, .ref 295), (1, .int a1), (2, .int a2)]) (st' := [.int (2 : Int32), .int a2]) rfl ?_
        by_cases hc8 : a2 = (2 : Int32)
        · replace h := tk_ifT hc8 h
          refine tk_bT  rfl rfl rfl (c := a2 = (2 : Int32)) hc8 (pc' := 56) (ls' := [(5, .int o3), (4, .int o2), (3, .int o1), (0, .ref 295), (1, .int a1), (2, .int a2)]) (st' := []) ?_
          refine tk_Ps  4 (pc' := 79) (ls' := [(5, .int o3), (4, .int o2), (3, .int o1), (0, .ref 295), (1, .int a1), (2, .int a2)]) (st' := [.int ((-2 : Int32) * o2)]) rfl ?_
          replace h := Option.some.inj h
          subst h
          exact tk_RI  rfl rfl rfl
        · replace h := tk_ifF hc8 h
          refine tk_bF  rfl rfl rfl (c := a2 = (2 : Int32)) hc8 (pc' := 64) (ls' := [(5, .int o3), (4, .int o2), (3, .int o1), (0, .ref 295), (1, .int a1), (2, .int a2)]) (st' := []) ?_
          refine tk_Ps  11 (pc' := 79) (ls' := [(5, .int o3), (4, .int o2), (3, .int o1), (0, .ref 295), (1, .int a1), (2, .int a2)]) (st' := [.int (((o1 * o1) + (o2 * o2)) - (o3 * o3))]) rfl ?_
          replace h := Option.some.inj h
          subst h
          exact tk_RI  rfl rfl rfl
  · replace h := tk_ifF hc5 h
    refine tk_bF  rfl rfl tk_eB_eq (c := o4 = true) hc5 (pc' := 80) (ls' := [(5, .int o3), (4, .int o2), (3, .int o1), (0, .ref 295), (1, .int a1), (2, .int a2)]) (st' := []) ?_
    refine tk_Ps  1 (pc' := 81) (ls' := [(5, .int o3), (4, .int o2), (3, .int o1), (0, .ref 295), (1, .int a1), (2, .int a2)]) (st' := [.int a2]) rfl ?_
    by_cases hc9 : a2 = 0
    · replace h := tk_ifT hc9 h
      refine tk_bT  rfl rfl rfl (c := a2 = 0) hc9 (pc' := 84) (ls' := [(5, .int o3), (4, .int o2), (3, .int o1), (0, .ref 295), (1, .int a1), (2, .int a2)]) (st' := []) ?_
      refine tk_Ps  2 (pc' := 123) (ls' := [(5, .int o3), (4, .int o2), (3, .int o1), (0, .ref 295), (1, .int a1), (2, .int a2)]) (st' := [.int (0 : Int32)]) rfl ?_
      replace h := Option.some.inj h
      subst h
      exact tk_RI  rfl rfl rfl
    · replace h := tk_ifF hc9 h
      refine tk_bF  rfl rfl rfl (c := a2 = 0) hc9 (pc' := 88) (ls' := [(5, .int o3), (4, .int o2), (3, .int o1), (0, .ref 295), (1, .int a1), (2, .int a2)]) (st' := []) ?_
      refine tk_Ps  2 (pc' := 90) (ls' := [(5, .int o3), (4, .int o2), (3, .int o1), (0, .ref 295), (1, .int a1), (2, .int a2)]) (st' := [.int (1 : Int32), .int a2]) rfl ?_
      by_cases hc10 : a2 = (1 : Int32)
      · replace h := tk_ifT hc10 h
        refine tk_bT  rfl rfl rfl (c := a2 = (1 : Int32)) hc10 (pc' := 93) (ls' := [(5, .int o3), (4, .int o2), (3, .int o1), (0, .ref 295), (1, .int a1), (2, .int a2)]) (st' := []) ?_
        refine tk_Ps  1 (pc' := 94) (ls' := [(5, .int o3), (4, .int o2), (3, .int o1), (0, .ref 295), (1, .int a1), (2, .int a2)]) (st' := [.ref 295]) rfl ?_
        refine tk_Hst  rfl rfl ?_
        refine tk_Ps  1 (pc' := 98) (ls' := [(5, .int o3), (4, .int o2), (3, .int o1), (0, .ref 295), (1, .int a1), (2, .int a2)]) (st' := [.int a1, .ref 1003, .ref 295]) rfl ?_
        obtain ⟨o11, ho11, h⟩ := tk_bnd h
        refine tk_cV1  rfl rfl (r := 295) (as := [.ref 1003, .int a1]) (rest := []) rfl ly295 rfl rfl (ok_fM_slant sc 1003 a1 m (by decide) ho11) ?_
        refine tk_Ps  1 (pc' := 123) (ls' := [(5, .int o3), (4, .int o2), (3, .int o1), (0, .ref 295), (1, .int a1), (2, .int a2)]) (st' := [.int o11]) rfl ?_
        replace h := Option.some.inj h
        subst h
        exact tk_RI  rfl rfl rfl
      · replace h := tk_ifF hc10 h
        refine tk_bF  rfl rfl rfl (c := a2 = (1 : Int32)) hc10 (pc' := 104) (ls' := [(5, .int o3), (4, .int o2), (3, .int o1), (0, .ref 295), (1, .int a1), (2, .int a2)]) (st' := []) ?_
        refine tk_Ps  2 (pc' := 106) (ls' := [(5, .int o3), (4, .int o2), (3, .int o1), (0, .ref 295), (1, .int a1), (2, .int a2)]) (st' := [.int (2 : Int32), .int a2]) rfl ?_
        by_cases hc12 : a2 = (2 : Int32)
        · replace h := tk_ifT hc12 h
          refine tk_bT  rfl rfl rfl (c := a2 = (2 : Int32)) hc12 (pc' := 109) (ls' := [(5, .int o3), (4, .int o2), (3, .int o1), (0, .ref 295), (1, .int a1), (2, .int a2)]) (st' := []) ?_
          refine tk_Ps  1 (pc' := 110) (ls' := [(5, .int o3), (4, .int o2), (3, .int o1), (0, .ref 295), (1, .int a1), (2, .int a2)]) (st' := [.ref 295]) rfl ?_
          refine tk_Hst  rfl rfl ?_
          refine tk_Ps  1 (pc' := 114) (ls' := [(5, .int o3), (4, .int o2), (3, .int o1), (0, .ref 295), (1, .int a1), (2, .int a2)]) (st' := [.int a1, .ref 1004, .ref 295]) rfl ?_
          obtain ⟨o13, ho13, h⟩ := tk_bnd h
          refine tk_cV1  rfl rfl (r := 295) (as := [.ref 1004, .int a1]) (rest := []) rfl ly295 rfl rfl (ok_fM_slant sc 1004 a1 m (by decide) ho13) ?_
          refine tk_Ps  1 (pc' := 123) (ls' := [(5, .int o3), (4, .int o2), (3, .int o1), (0, .ref 295), (1, .int a1), (2, .int a2)]) (st' := [.int o13]) rfl ?_
          replace h := Option.some.inj h
          subst h
          exact tk_RI  rfl rfl rfl
        · replace h := tk_ifF hc12 h
          refine tk_bF  rfl rfl rfl (c := a2 = (2 : Int32)) hc12 (pc' := 120) (ls' := [(5, .int o3), (4, .int o2), (3, .int o1), (0, .ref 295), (1, .int a1), (2, .int a2)]) (st' := []) ?_
          refine tk_Ps  2 (pc' := 123) (ls' := [(5, .int o3), (4, .int o2), (3, .int o1), (0, .ref 295), (1, .int a1), (2, .int a2)]) (st' := [.int (-o2)]) rfl ?_
          replace h := Option.some.inj h
          subst h
          exact tk_RI  rfl rfl rfl
theorem ok_fM_of_61 (sc : tk_X) (v1 : Int32) (v2 : Int32) (s0 : Int32) (m : tk_m) (out : Int32 × tk_m) (h : fM_of_61 v1 v2 s0 m = some out) : tk_Ex sc 3 tk_r183 tk_k183 61 [(0, .ref 295), (1, .int v1), (2, .int v2)] [.int s0] (tk_full m) (some (.int out.1), tk_full out.2) := by
  unfold fM_of_61 at h
  refine tk_Ps  2 (pc' := 63) (ls' := [(0, .ref 295), (1, .int v1), (2, .int v2)]) (st' := [.int v1, .ref 295, .int s0]) rfl ?_
  obtain ⟨o1, ho1, h⟩ := tk_bnd h
  refine tk_cV1  rfl rfl (r := 295) (as := [.int v1]) (rest := [.int s0]) rfl ly295 rfl rfl (ok_fM_isRound sc v1 m ho1) ?_
  by_cases hc2 : s0 = (tk_b o1)
  · replace h := tk_ifT hc2 h
    refine tk_bT  rfl rfl rfl (c := s0 = (tk_b o1)) hc2 (pc' := 75) (ls' := [(0, .ref 295), (1, .int v1), (2, .int v2)]) (st' := []) ?_
    refine tk_Ps  2 (pc' := 77) (ls' := [(0, .ref 295), (1, .int v1), (2, .int v2)]) (st' := [.int (4 : Int32), .int v2]) rfl ?_
    by_cases hc3 : (4 : Int32) ≤ v2
    · replace h := tk_ifT hc3 h
      refine tk_bT  rfl rfl rfl (c := (4 : Int32) ≤ v2) hc3 (pc' := 89) (ls' := [(0, .ref 295), (1, .int v1), (2, .int v2)]) (st' := []) ?_
      refine tk_Ps  5 (pc' := 94) (ls' := [(0, .ref 295), (1, .int v1), (2, .int v2)]) (st' := [.int (v2 - (3 : Int32)), .int v1, .ref 295]) rfl ?_
      obtain ⟨o4, ho4, h⟩ := tk_bnd h
      refine tk_cV1  rfl rfl (r := 295) (as := [.int v1, .int (v2 - (3 : Int32))]) (rest := []) rfl ly295 rfl rfl (ok_fM_of0 sc v1 (v2 - (3 : Int32)) m ho4) ?_
      replace h := Option.some.inj h
      subst h
      exact tk_RI  rfl rfl rfl
    · replace h := tk_ifF hc3 h
      refine tk_bF  rfl rfl rfl (c := (4 : Int32) ≤ v2) hc3 (pc' := 80) (ls' := [(0, .ref 295), (1, .int v1), (2, .int v2)]) (st' := []) ?_
      refine tk_Ps  3 (pc' := 83) (ls' := [(0, .ref 295), (1, .int v1), (2, .int v2)]) (st' := [.int v2, .int v1, .ref 295]) rfl ?_
      obtain ⟨o5, ho5, h⟩ := tk_bnd h
      refine tk_cV1  rfl rfl (r := 295) (as := [.int v1, .int v2]) (rest := []) rfl ly295 rfl rfl (ok_fM_of0 sc v1 v2 m ho5) ?_
      refine tk_Ps  1 (pc' := 97) (ls' := [(0, .ref 295), (1, .int v1), (2, .int v2)]) (st' := [.int o5]) rfl ?_
      replace h := Option.some.inj h
      subst h
      exact tk_RI  rfl rfl rfl
  · replace h := tk_ifF hc2 h
    refine tk_bF  rfl rfl rfl (c := s0 = (tk_b o1)) hc2 (pc' := 69) (ls' := [(0, .ref 295), (1, .int v1), (2, .int v2)]) (st' := []) ?_
    refine tk_Ps  2 (pc' := 71) (ls' := [(0, .ref 295), (1, .int v1), (2, .int v2)]) (st' := [.int (2 : Int32), .ref 295]) rfl ?_
    obtain ⟨o6, ho6, h⟩ := tk_bnd h
    refine tk_cV1  rfl rfl (r := 295) (as := [.int (2 : Int32)]) (rest := []) rfl ly295 rfl rfl (ok_fM_finds sc (2 : Int32) m ho6) ?_
    replace h := Option.some.inj h
    subst h
    exact tk_RI  rfl rfl rfl
theorem ok_fM_of (sc : tk_X) (a1 : Int32) (a2 : Int32) (m : tk_m) {out : Int32 × tk_m} (h : fM_of a1 a2 m = some out) : tk_Ru sc 4 183 [.ref 295, .int a1, .int a2] (tk_full m) (some (.int out.1), tk_full out.2) := by
  unfold fM_of at h
  refine tk_Ru0 me183 (ls := [(0, .ref 295), (1, .int a1), (2, .int a2)]) rfl rfl ?_
  refine tk_Ps  2 (pc' := 2) (ls' := [(0, .ref 295), (1, .int a1), (2, .int a2)]) (st' := [.int a1, .ref 295]) rfl ?_
  refine tk_cV1  rfl rfl (r := 295) (as := [.int a1]) (rest := []) rfl ly295 rfl rfl (ok_fM_isShape sc a1 m) ?_
  by_cases hc1 : (fM_isShape a1 m) = true
  · replace h := tk_ifT hc1 h
    refine tk_bT  rfl rfl tk_eB_eq (c := (fM_isShape a1 m) = true) hc1 (pc' := 8) (ls' := [(0, .ref 295), (1, .int a1), (2, .int a2)]) (st' := []) ?_
    refine tk_Ps  4 (pc' := 14) (ls' := [(0, .ref 295), (1, .int a1), (2, .int a2)]) (st' := [.long (9 : Int64), .long (0 : Int64), .long (Int32.toInt64 a2)]) rfl ?_
    refine tk_cS1  rfl rfl (as := [.long (Int32.toInt64 a2), .long (0 : Int64), .long (9 : Int64)]) (rest := []) rfl rfl rfl (ok_fM_in sc (Int32.toInt64 a2) (0 : Int64) (9 : Int64) m) ?_
    by_cases hc2 : (fM_in (Int32.toInt64 a2) (0 : Int64) (9 : Int64)) = true
    · replace h := tk_ifT hc2 h
      refine tk_bT  rfl rfl tk_eB_ne (c := (fM_in (Int32.toInt64 a2) (0 : Int64) (9 : Int64)) = true) hc2 (pc' := 26) (ls' := [(0, .ref 295), (1, .int a1), (2, .int a2)]) (st' := []) ?_
      refine tk_Ps  1 (pc' := 27) (ls' := [(0, .ref 295), (1, .int a1), (2, .int a2)]) (st' := [.int a2]) rfl ?_
      by_cases hc3 : a2 = 0
      · replace h := tk_ifT hc3 h
        refine tk_bT  rfl rfl rfl (c := a2 = 0) hc3 (pc' := 30) (ls' := [(0, .ref 295), (1, .int a1), (2, .int a2)]) (st' := []) ?_
        refine tk_Ps  2 (pc' := 32) (ls' := [(0, .ref 295), (1, .int a1), (2, .int a2)]) (st' := [.int a1, .ref 295]) rfl ?_
        obtain ⟨o4, ho4, h⟩ := tk_bnd h
        refine tk_cV1  rfl rfl (r := 295) (as := [.int a1]) (rest := []) rfl ly295 rfl rfl (ok_fM_kindOf sc a1 m ho4) ?_
        replace h := Option.some.inj h
        subst h
        exact tk_RI  rfl rfl rfl
      · replace h := tk_ifF hc3 h
        refine tk_bF  rfl rfl rfl (c := a2 = 0) hc3 (pc' := 36) (ls' := [(0, .ref 295), (1, .int a1), (2, .int a2)]) (st' := []) ?_
        refine tk_Ps  2 (pc' := 38) (ls' := [(0, .ref 295), (1, .int a1), (2, .int a2)]) (st' := [.int (5 : Int32), .int a2]) rfl ?_
        by_cases hc5 : a2 ≤ (5 : Int32)
        · replace h := tk_ifT hc5 h
          refine tk_bT  rfl rfl rfl (c := a2 ≤ (5 : Int32)) hc5 (pc' := 51) (ls' := [(0, .ref 295), (1, .int a1), (2, .int a2)]) (st' := []) ?_
          refine tk_Ps  2 (pc' := 53) (ls' := [(0, .ref 295), (1, .int a1), (2, .int a2)]) (st' := [.int (4 : Int32), .int a2]) rfl ?_
          by_cases hc6 : (4 : Int32) ≤ a2
          · replace h := tk_ifT hc6 h
            refine tk_bT  rfl rfl rfl (c := (4 : Int32) ≤ a2) hc6 (pc' := 60) (ls' := [(0, .ref 295), (1, .int a1), (2, .int a2)]) (st' := []) ?_
            refine tk_Ps  1 (pc' := 61) (ls' := [(0, .ref 295), (1, .int a1), (2, .int a2)]) (st' := [.int (0 : Int32)]) rfl ?_
            refine tk_Kp  (ls' := [(0, .ref 295), (1, .int a1), (2, .int a2)]) rfl rfl ?_
            exact ok_fM_of_61 sc a1 a2 (0 : Int32) m _ h
          · replace h := tk_ifF hc6 h
            refine tk_bF  rfl rfl rfl (c := (4 : Int32) ≤ a2) hc6 (pc' := 56) (ls' := [(0, .ref 295), (1, .int a1), (2, .int a2)]) (st' := []) ?_
            refine tk_Ps  2 (pc' := 61) (ls' := [(0, .ref 295), (1, .int a1), (2, .int a2)]) (st' := [.int (1 : Int32)]) rfl ?_
            refine tk_Kp  (ls' := [(0, .ref 295), (1, .int a1), (2, .int a2)]) rfl rfl ?_
            exact ok_fM_of_61 sc a1 a2 (1 : Int32) m _ h
        · replace h := tk_ifF hc5 h
          refine tk_bF  rfl rfl rfl (c := a2 ≤ (5 : Int32)) hc5 (pc' := 41) (ls' := [(0, .ref 295), (1, .int a1), (2, .int a2)]) (st' := []) ?_
          refine tk_Ps  5 (pc' := 47) (ls' := [(0, .ref 295), (1, .int a1), (2, .int a2)]) (st' := [.int (a2 - (6 : Int32)), .int a1, .ref 295]) rfl ?_
          obtain ⟨o7, ho7, h⟩ := tk_bnd h
          refine tk_cV1  rfl rfl (r := 295) (as := [.int a1, .int (a2 - (6 : Int32))]) (rest := []) rfl ly295 rfl rfl (ok_fM_form sc a1 (a2 - (6 : Int32)) m ho7) ?_
          replace h := Option.some.inj h
          subst h
          exact tk_RI  rfl rfl rfl
    · replace h := tk_ifF hc2 h
      refine tk_bF  rfl rfl tk_eB_ne (c := (fM_in (Int32.toInt64 a2) (0 : Int64) (9 : Int64)) = true) hc2 (pc' := 20) (ls' := [(0, .ref 295), (1, .int a1), (2, .int a2)]) (st' := []) ?_
      refine tk_Ps  2 (pc' := 22) (ls' := [(0, .ref 295), (1, .int a1), (2, .int a2)]) (st' := [.int (0 : Int32), .ref 295]) rfl ?_
      obtain ⟨o8, ho8, h⟩ := tk_bnd h
      refine tk_cV1  rfl rfl (r := 295) (as := [.int (0 : Int32)]) (rest := []) rfl ly295 rfl rfl (ok_fM_finds sc (0 : Int32) m ho8) ?_
      replace h := Option.some.inj h
      subst h
      exact tk_RI  rfl rfl rfl
  · replace h := tk_ifF hc1 h
    refine tk_bF  rfl rfl tk_eB_eq (c := (fM_isShape a1 m) = true) hc1 (pc' := 20) (ls' := [(0, .ref 295), (1, .int a1), (2, .int a2)]) (st' := []) ?_
    refine tk_Ps  2 (pc' := 22) (ls' := [(0, .ref 295), (1, .int a1), (2, .int a2)]) (st' := [.int (0 : Int32), .ref 295]) rfl ?_
    obtain ⟨o9, ho9, h⟩ := tk_bnd h
    refine tk_cV1  rfl rfl (r := 295) (as := [.int (0 : Int32)]) (rest := []) rfl ly295 rfl rfl (ok_fM_finds sc (0 : Int32) m ho9) ?_
    replace h := Option.some.inj h
    subst h
    exact tk_RI  rfl rfl rfl
theorem ok_fM_change_97 (sc : tk_X) (v1 : Int32) (v2 : Int32) (v3 : Int32) (s0 : Bool) (m : tk_m) (out : Int32 × tk_m) (h : fM_change_97 v1 v2 v3 s0 m = some out) : tk_Ex sc 2 tk_r190 tk_k190 97 [(0, .ref 295), (1, .int v1), (2, .int v2), (3, .int v3)] [.int (tk_b s0)] (tk_full m) (some (.int out.1), tk_full out.2) := by
  unfold fM_change_97 at h
  refine tk_Ps  2 (pc' := 101) (ls' := [(4, .int (tk_b s0)), (0, .ref 295), (1, .int v1), (2, .int v2), (3, .int v3)]) (st' := [.int (tk_b s0)]) rfl ?_
  by_cases hc1 : s0 = true
  · replace h := tk_ifT hc1 h
    refine tk_bT  rfl rfl tk_eB_ne (c := s0 = true) hc1 (pc' := 110) (ls' := [(4, .int (tk_b s0)), (0, .ref 295), (1, .int v1), (2, .int v2), (3, .int v3)]) (st' := []) ?_
    refine tk_Ps  7 (pc' := 117) (ls' := [(4, .int (tk_b s0)), (0, .ref 295), (1, .int v1), (2, .int v2), (3, .int v3)]) (st' := [.int (4 : Int32), .int v2, .int ((5 : Int32) + ((4 : Int32) * v1))]) rfl ?_
    by_cases hc2 : (4 : Int32) ≤ v2
    · replace h := tk_ifT hc2 h
      refine tk_bT  rfl rfl rfl (c := (4 : Int32) ≤ v2) hc2 (pc' := 124) (ls' := [(4, .int (tk_b s0)), (0, .ref 295), (1, .int v1), (2, .int v2), (3, .int v3)]) (st' := [.int ((5 : Int32) + ((4 : Int32) * v1))]) ?_
      refine tk_Ps  6 (pc' := 131) (ls' := [(5, .int (((5 : Int32) + ((4 : Int32) * v1)) + (v2 - (3 : Int32)))), (4, .int (tk_b s0)), (0, .ref 295), (1, .int v1), (2, .int v2), (3, .int v3)]) (st' := [.ref 295]) rfl ?_
      refine tk_HR  rfl rfl ly295 rt295_0 ?_
      refine tk_Ps  1 (pc' := 136) (ls' := [(5, .int (((5 : Int32) + ((4 : Int32) * v1)) + (v2 - (3 : Int32)))), (4, .int (tk_b s0)), (0, .ref 295), (1, .int v1), (2, .int v2), (3, .int v3)]) (st' := [.int (((5 : Int32) + ((4 : Int32) * v1)) + (v2 - (3 : Int32))), .ref 296]) rfl ?_
      obtain ⟨hg3, h⟩ := tk_grd h
      refine tk_HIa  rfl rfl ly296 hg3 ?_
      refine tk_Ps  2 (pc' := 140) (ls' := [(6, .int (m.1 296 (tk_n (((5 : Int32) + ((4 : Int32) * v1)) + (v2 - (3 : Int32)))))), (5, .int (((5 : Int32) + ((4 : Int32) * v1)) + (v2 - (3 : Int32)))), (4, .int (tk_b s0)), (0, .ref 295), (1, .int v1), (2, .int v2), (3, .int v3)]) (st' := [.ref 295]) rfl ?_
      refine tk_HR  rfl rfl ly295 rt295_0 ?_
      refine tk_Ps  2 (pc' := 146) (ls' := [(6, .int (m.1 296 (tk_n (((5 : Int32) + ((4 : Int32) * v1)) + (v2 - (3 : Int32)))))), (5, .int (((5 : Int32) + ((4 : Int32) * v1)) + (v2 - (3 : Int32)))), (4, .int (tk_b s0)), (0, .ref 295), (1, .int v1), (2, .int v2), (3, .int v3)]) (st' := [.int v3, .int (((5 : Int32) + ((4 : Int32) * v1)) + (v2 - (3 : Int32))), .ref 296]) rfl ?_
      refine tk_SIa  rfl rfl ly296 hg3 ?_
      refine tk_Ps  1 (pc' := 149) (ls' := [(6, .int (m.1 296 (tk_n (((5 : Int32) + ((4 : Int32) * v1)) + (v2 - (3 : Int32)))))), (5, .int (((5 : Int32) + ((4 : Int32) * v1)) + (v2 - (3 : Int32)))), (4, .int (tk_b s0)), (0, .ref 295), (1, .int v1), (2, .int v2), (3, .int v3)]) (st' := [.int (m.1 296 (tk_n (((5 : Int32) + ((4 : Int32) * v1)) + (v2 - (3 : Int32)))))]) rfl ?_
      replace h := Option.some.inj h
      subst h
      exact tk_RI  rfl rfl rfl
    · replace h := tk_ifF hc2 h
      refine tk_bF  rfl rfl rfl (c := (4 : Int32) ≤ v2) hc2 (pc' := 120) (ls' := [(4, .int (tk_b s0)), (0, .ref 295), (1, .int v1), (2, .int v2), (3, .int v3)]) (st' := [.int ((5 : Int32) + ((4 : Int32) * v1))]) ?_
      refine tk_Ps  5 (pc' := 131) (ls' := [(5, .int (((5 : Int32) + ((4 : Int32) * v1)) + v2)), (4, .int (tk_b s0)), (0, .ref 295), (1, .int v1), (2, .int v2), (3, .int v3)]) (st' := [.ref 295]) rfl ?_
      refine tk_HR  rfl rfl ly295 rt295_0 ?_
      refine tk_Ps  1 (pc' := 136) (ls' := [(5, .int (((5 : Int32) + ((4 : Int32) * v1)) + v2)), (4, .int (tk_b s0)), (0, .ref 295), (1, .int v1), (2, .int v2), (3, .int v3)]) (st' := [.int (((5 : Int32) + ((4 : Int32) * v1)) + v2), .ref 296]) rfl ?_
      obtain ⟨hg4, h⟩ := tk_grd h
      refine tk_HIa  rfl rfl ly296 hg4 ?_
      refine tk_Ps  2 (pc' := 140) (ls' := [(6, .int (m.1 296 (tk_n (((5 : Int32) + ((4 : Int32) * v1)) + v2)))), (5, .int (((5 : Int32) + ((4 : Int32) * v1)) + v2)), (4, .int (tk_b s0)), (0, .ref 295), (1, .int v1), (2, .int v2), (3, .int v3)]) (st' := [.ref 295]) rfl ?_
      refine tk_HR  rfl rfl ly295 rt295_0 ?_
      refine tk_Ps  2 (pc' := 146) (ls' := [(6, .int (m.1 296 (tk_n (((5 : Int32) + ((4 : Int32) * v1)) + v2)))), (5, .int (((5 : Int32) + ((4 : Int32) * v1)) + v2)), (4, .int (tk_b s0)), (0, .ref 295), (1, .int v1), (2, .int v2), (3, .int v3)]) (st' := [.int v3, .int (((5 : Int32) + ((4 : Int32) * v1)) + v2), .ref 296]) rfl ?_
      refine tk_SIa  rfl rfl ly296 hg4 ?_
      refine tk_Ps  1 (pc' := 149) (ls' := [(6, .int (m.1 296 (tk_n (((5 : Int32) + ((4 : Int32) * v1)) + v2)))), (5, .int (((5 : Int32) + ((4 : Int32) * v1)) + v2)), (4, .int (tk_b s0)), (0, .ref 295), (1, .int v1), (2, .int v2), (3, .int v3)]) (st' := [.int (m.1 296 (tk_n (((5 : Int32) + ((4 : Int32) * v1)) + v2)))]) rfl ?_
      replace h := Option.some.inj h
      subst h
      exact tk_RI  rfl rfl rfl
  · replace h := tk_ifF hc1 h
    refine tk_bF  rfl rfl tk_eB_ne (c := s0 = true) hc1 (pc' := 104) (ls' := [(4, .int (tk_b s0)), (0, .ref 295), (1, .int v1), (2, .int v2), (3, .int v3)]) (st' := []) ?_
    refine tk_Ps  2 (pc' := 106) (ls' := [(4, .int (tk_b s0)), (0, .ref 295), (1, .int v1), (2, .int v2), (3, .int v3)]) (st' := [.int (0 : Int32), .ref 295]) rfl ?_
    obtain ⟨o5, ho5, h⟩ := tk_bnd h
    refine tk_cV1  rfl rfl (r := 295) (as := [.int (0 : Int32)]) (rest := []) rfl ly295 rfl rfl (ok_fM_finds sc (0 : Int32) m ho5) ?_
    replace h := Option.some.inj h
    subst h
    exact tk_RI  rfl rfl rfl
theorem ok_fM_change_36 (sc : tk_X) (v1 : Int32) (v2 : Int32) (v3 : Int32) (s0 : Int32) (m : tk_m) (out : Int32 × tk_m) (h : fM_change_36 v1 v2 v3 s0 m = some out) : tk_Ex sc 2 tk_r190 tk_k190 36 [(0, .ref 295), (1, .int v1), (2, .int v2), (3, .int v3)] [.int s0] (tk_full m) (some (.int out.1), tk_full out.2) := by
  unfold fM_change_36 at h
  refine tk_Ps  2 (pc' := 38) (ls' := [(0, .ref 295), (1, .int v1), (2, .int v2), (3, .int v3)]) (st' := [.int v1, .ref 295, .int s0]) rfl ?_
  obtain ⟨o1, ho1, h⟩ := tk_bnd h
  refine tk_cV1  rfl rfl (r := 295) (as := [.int v1]) (rest := [.int s0]) rfl ly295 rfl rfl (ok_fM_isRound sc v1 m ho1) ?_
  by_cases hc2 : s0 = (tk_b o1)
  · replace h := tk_ifT hc2 h
    refine tk_bT  rfl rfl rfl (c := s0 = (tk_b o1)) hc2 (pc' := 50) (ls' := [(0, .ref 295), (1, .int v1), (2, .int v2), (3, .int v3)]) (st' := []) ?_
    refine tk_Ps  2 (pc' := 52) (ls' := [(0, .ref 295), (1, .int v1), (2, .int v2), (3, .int v3)]) (st' := [.int (3 : Int32), .int v2]) rfl ?_
    by_cases hc3 : (3 : Int32) ≤ v2
    · replace h := tk_ifT hc3 h
      refine tk_bT  rfl rfl rfl (c := (3 : Int32) ≤ v2) hc3 (pc' := 69) (ls' := [(0, .ref 295), (1, .int v1), (2, .int v2), (3, .int v3)]) (st' := []) ?_
      refine tk_Ps  2 (pc' := 71) (ls' := [(0, .ref 295), (1, .int v1), (2, .int v2), (3, .int v3)]) (st' := [.int (5 : Int32), .int v2]) rfl ?_
      by_cases hc4 : (5 : Int32) ≤ v2
      · replace h := tk_ifT hc4 h
        refine tk_bT  rfl rfl rfl (c := (5 : Int32) ≤ v2) hc4 (pc' := 86) (ls' := [(0, .ref 295), (1, .int v1), (2, .int v2), (3, .int v3)]) (st' := []) ?_
        refine tk_Ps  4 (pc' := 94) (ls' := [(0, .ref 295), (1, .int v1), (2, .int v2), (3, .int v3)]) (st' := [.long (30 : Int64), .long (-30 : Int64), .long (Int32.toInt64 v3)]) rfl ?_
        refine tk_cS1  rfl rfl (as := [.long (Int32.toInt64 v3), .long (-30 : Int64), .long (30 : Int64)]) (rest := []) rfl rfl rfl (ok_fM_in sc (Int32.toInt64 v3) (-30 : Int64) (30 : Int64) m) ?_
        refine tk_Kp  (ls' := [(0, .ref 295), (1, .int v1), (2, .int v2), (3, .int v3)]) rfl rfl ?_
        exact ok_fM_change_97 sc v1 v2 v3 (fM_in (Int32.toInt64 v3) (-30 : Int64) (30 : Int64)) m _ h
      · replace h := tk_ifF hc4 h
        refine tk_bF  rfl rfl rfl (c := (5 : Int32) ≤ v2) hc4 (pc' := 74) (ls' := [(0, .ref 295), (1, .int v1), (2, .int v2), (3, .int v3)]) (st' := []) ?_
        refine tk_Ps  4 (pc' := 80) (ls' := [(0, .ref 295), (1, .int v1), (2, .int v2), (3, .int v3)]) (st' := [.long (5 : Int64), .long (0 : Int64), .long (Int32.toInt64 v3)]) rfl ?_
        refine tk_cS1  rfl rfl (as := [.long (Int32.toInt64 v3), .long (0 : Int64), .long (5 : Int64)]) (rest := []) rfl rfl rfl (ok_fM_in sc (Int32.toInt64 v3) (0 : Int64) (5 : Int64) m) ?_
        refine tk_Ps  1 (pc' := 97) (ls' := [(0, .ref 295), (1, .int v1), (2, .int v2), (3, .int v3)]) (st' := [.int (tk_b (fM_in (Int32.toInt64 v3) (0 : Int64) (5 : Int64)))]) rfl ?_
        refine tk_Kp  (ls' := [(0, .ref 295), (1, .int v1), (2, .int v2), (3, .int v3)]) rfl rfl ?_
        exact ok_fM_change_97 sc v1 v2 v3 (fM_in (Int32.toInt64 v3) (0 : Int64) (5 : Int64)) m _ h
    · replace h := tk_ifF hc3 h
      refine tk_bF  rfl rfl rfl (c := (3 : Int32) ≤ v2) hc3 (pc' := 55) (ls' := [(0, .ref 295), (1, .int v1), (2, .int v2), (3, .int v3)]) (st' := []) ?_
      refine tk_Ps  4 (pc' := 63) (ls' := [(0, .ref 295), (1, .int v1), (2, .int v2), (3, .int v3)]) (st' := [.long (5 : Int64), .long (-5 : Int64), .long (Int32.toInt64 v3)]) rfl ?_
      refine tk_cS1  rfl rfl (as := [.long (Int32.toInt64 v3), .long (-5 : Int64), .long (5 : Int64)]) (rest := []) rfl rfl rfl (ok_fM_in sc (Int32.toInt64 v3) (-5 : Int64) (5 : Int64) m) ?_
      refine tk_Ps  1 (pc' := 97) (ls' := [(0, .ref 295), (1, .int v1), (2, .int v2), (3, .int v3)]) (st' := [.int (tk_b (fM_in (Int32.toInt64 v3) (-5 : Int64) (5 : Int64)))]) rfl ?_
      refine tk_Kp  (ls' := [(0, .ref 295), (1, .int v1), (2, .int v2), (3, .int v3)]) rfl rfl ?_
      exact ok_fM_change_97 sc v1 v2 v3 (fM_in (Int32.toInt64 v3) (-5 : Int64) (5 : Int64)) m _ h
  · replace h := tk_ifF hc2 h
    refine tk_bF  rfl rfl rfl (c := s0 = (tk_b o1)) hc2 (pc' := 44) (ls' := [(0, .ref 295), (1, .int v1), (2, .int v2), (3, .int v3)]) (st' := []) ?_
    refine tk_Ps  2 (pc' := 46) (ls' := [(0, .ref 295), (1, .int v1), (2, .int v2), (3, .int v3)]) (st' := [.int (2 : Int32), .ref 295]) rfl ?_
    obtain ⟨o5, ho5, h⟩ := tk_bnd h
    refine tk_cV1  rfl rfl (r := 295) (as := [.int (2 : Int32)]) (rest := []) rfl ly295 rfl rfl (ok_fM_finds sc (2 : Int32) m ho5) ?_
    replace h := Option.some.inj h
    subst h
    exact tk_RI  rfl rfl rfl
theorem ok_fM_change (sc : tk_X) (a1 : Int32) (a2 : Int32) (a3 : Int32) (m : tk_m) {out : Int32 × tk_m} (h : fM_change a1 a2 a3 m = some out) : tk_Ru sc 3 190 [.ref 295, .int a1, .int a2, .int a3] (tk_full m) (some (.int out.1), tk_full out.2) := by
  unfold fM_change at h
  refine tk_Ru0 me190 (ls := [(0, .ref 295), (1, .int a1), (2, .int a2), (3, .int a3)]) rfl rfl ?_
  refine tk_Ps  2 (pc' := 2) (ls' := [(0, .ref 295), (1, .int a1), (2, .int a2), (3, .int a3)]) (st' := [.int a1, .ref 295]) rfl ?_
  refine tk_cV1  rfl rfl (r := 295) (as := [.int a1]) (rest := []) rfl ly295 rfl rfl (ok_fM_isShape sc a1 m) ?_
  by_cases hc1 : (fM_isShape a1 m) = true
  · replace h := tk_ifT hc1 h
    refine tk_bT  rfl rfl tk_eB_eq (c := (fM_isShape a1 m) = true) hc1 (pc' := 8) (ls' := [(0, .ref 295), (1, .int a1), (2, .int a2), (3, .int a3)]) (st' := []) ?_
    refine tk_Ps  4 (pc' := 14) (ls' := [(0, .ref 295), (1, .int a1), (2, .int a2), (3, .int a3)]) (st' := [.long (5 : Int64), .long (1 : Int64), .long (Int32.toInt64 a2)]) rfl ?_
    refine tk_cS1  rfl rfl (as := [.long (Int32.toInt64 a2), .long (1 : Int64), .long (5 : Int64)]) (rest := []) rfl rfl rfl (ok_fM_in sc (Int32.toInt64 a2) (1 : Int64) (5 : Int64) m) ?_
    by_cases hc2 : (fM_in (Int32.toInt64 a2) (1 : Int64) (5 : Int64)) = true
    · replace h := tk_ifT hc2 h
      refine tk_bT  rfl rfl tk_eB_ne (c := (fM_in (Int32.toInt64 a2) (1 : Int64) (5 : Int64)) = true) hc2 (pc' := 26) (ls' := [(0, .ref 295), (1, .int a1), (2, .int a2), (3, .int a3)]) (st' := []) ?_
      refine tk_Ps  2 (pc' := 28) (ls' := [(0, .ref 295), (1, .int a1), (2, .int a2), (3, .int a3)]) (st' := [.int (4 : Int32), .int a2]) rfl ?_
      by_cases hc3 : (4 : Int32) ≤ a2
      · replace h := tk_ifT hc3 h
        refine tk_bT  rfl rfl rfl (c := (4 : Int32) ≤ a2) hc3 (pc' := 35) (ls' := [(0, .ref 295), (1, .int a1), (2, .int a2), (3, .int a3)]) (st' := []) ?_
        refine tk_Ps  1 (pc' := 36) (ls' := [(0, .ref 295), (1, .int a1), (2, .int a2), (3, .int a3)]) (st' := [.int (0 : Int32)]) rfl ?_
        refine tk_Kp  (ls' := [(0, .ref 295), (1, .int a1), (2, .int a2), (3, .int a3)]) rfl rfl ?_
        exact ok_fM_change_36 sc a1 a2 a3 (0 : Int32) m _ h
      · replace h := tk_ifF hc3 h
        refine tk_bF  rfl rfl rfl (c := (4 : Int32) ≤ a2) hc3 (pc' := 31) (ls' := [(0, .ref 295), (1, .int a1), (2, .int a2), (3, .int a3)]) (st' := []) ?_
        refine tk_Ps  2 (pc' := 36) (ls' := [(0, .ref 295), (1, .int a1), (2, .int a2), (3, .int a3)]) (st' := [.int (1 : Int32)]) rfl ?_
        refine tk_Kp  (ls' := [(0, .ref 295), (1, .int a1), (2, .int a2), (3, .int a3)]) rfl rfl ?_
        exact ok_fM_change_36 sc a1 a2 a3 (1 : Int32) m _ h
    · replace h := tk_ifF hc2 h
      refine tk_bF  rfl rfl tk_eB_ne (c := (fM_in (Int32.toInt64 a2) (1 : Int64) (5 : Int64)) = true) hc2 (pc' := 20) (ls' := [(0, .ref 295), (1, .int a1), (2, .int a2), (3, .int a3)]) (st' := []) ?_
      refine tk_Ps  2 (pc' := 22) (ls' := [(0, .ref 295), (1, .int a1), (2, .int a2), (3, .int a3)]) (st' := [.int (0 : Int32), .ref 295]) rfl ?_
      obtain ⟨o4, ho4, h⟩ := tk_bnd h
      refine tk_cV1  rfl rfl (r := 295) (as := [.int (0 : Int32)]) (rest := []) rfl ly295 rfl rfl (ok_fM_finds sc (0 : Int32) m ho4) ?_
      replace h := Option.some.inj h
      subst h
      exact tk_RI  rfl rfl rfl
  · replace h := tk_ifF hc1 h
    refine tk_bF  rfl rfl tk_eB_eq (c := (fM_isShape a1 m) = true) hc1 (pc' := 20) (ls' := [(0, .ref 295), (1, .int a1), (2, .int a2), (3, .int a3)]) (st' := []) ?_
    refine tk_Ps  2 (pc' := 22) (ls' := [(0, .ref 295), (1, .int a1), (2, .int a2), (3, .int a3)]) (st' := [.int (0 : Int32), .ref 295]) rfl ?_
    obtain ⟨o5, ho5, h⟩ := tk_bnd h
    refine tk_cV1  rfl rfl (r := 295) (as := [.int (0 : Int32)]) (rest := []) rfl ly295 rfl rfl (ok_fM_finds sc (0 : Int32) m ho5) ?_
    replace h := Option.some.inj h
    subst h
    exact tk_RI  rfl rfl rfl
theorem ok_fM_isUnder (sc : tk_X) (a1 : Int32) (a2 : Int32) (m : tk_m) : tk_Ru sc 1 192 [.int a1, .int a2] (tk_full m) (some (.int (tk_b (fM_isUnder a1 a2))), tk_full m) := by
  obtain ⟨out, h⟩ : ∃ out, fM_isUnder a1 a2 = out := ⟨_, rfl⟩
  rw [h]
  unfold fM_isUnder at h
  refine tk_Ru0 me192 (ls := [(0, .int a1), (1, .int a2)]) rfl rfl ?_
  refine tk_Ps  1 (pc' := 1) (ls' := [(0, .int a1), (1, .int a2)]) (st' := [.int a2]) rfl ?_
  by_cases hc1 : a2 = 0
  · replace h := tk_ifT hc1 h
    refine tk_bT  rfl rfl rfl (c := a2 = 0) hc1 (pc' := 29) (ls' := [(0, .int a1), (1, .int a2)]) (st' := []) ?_
    refine tk_Ps  2 (pc' := 34) (ls' := [(0, .int a1), (1, .int a2)]) (st' := [.int (1 : Int32)]) rfl ?_
    subst h
    exact tk_RB (b := true)  rfl rfl rfl
  · replace h := tk_ifF hc1 h
    refine tk_bF  rfl rfl rfl (c := a2 = 0) hc1 (pc' := 4) (ls' := [(0, .int a1), (1, .int a2)]) (st' := []) ?_
    refine tk_Ps  2 (pc' := 6) (ls' := [(0, .int a1), (1, .int a2)]) (st' := [.int a1, .int a2]) rfl ?_
    by_cases hc2 : a2 = a1
    · replace h := tk_ifT hc2 h
      refine tk_bT  rfl rfl rfl (c := a2 = a1) hc2 (pc' := 29) (ls' := [(0, .int a1), (1, .int a2)]) (st' := []) ?_
      refine tk_Ps  2 (pc' := 34) (ls' := [(0, .int a1), (1, .int a2)]) (st' := [.int (1 : Int32)]) rfl ?_
      subst h
      exact tk_RB (b := true)  rfl rfl rfl
    · replace h := tk_ifF hc2 h
      refine tk_bF  rfl rfl rfl (c := a2 = a1) hc2 (pc' := 9) (ls' := [(0, .int a1), (1, .int a2)]) (st' := []) ?_
      refine tk_Ps  2 (pc' := 11) (ls' := [(0, .int a1), (1, .int a2)]) (st' := [.int (3 : Int32), .int a1]) rfl ?_
      by_cases hc3 : a1 = (3 : Int32)
      · replace h := tk_ifT hc3 h
        refine tk_bT  rfl rfl rfl (c := a1 = (3 : Int32)) hc3 (pc' := 14) (ls' := [(0, .int a1), (1, .int a2)]) (st' := []) ?_
        refine tk_Ps  2 (pc' := 16) (ls' := [(0, .int a1), (1, .int a2)]) (st' := [.int (1 : Int32), .int a2]) rfl ?_
        by_cases hc4 : a2 = (1 : Int32)
        · replace h := tk_ifT hc4 h
          refine tk_bT  rfl rfl rfl (c := a2 = (1 : Int32)) hc4 (pc' := 29) (ls' := [(0, .int a1), (1, .int a2)]) (st' := []) ?_
          refine tk_Ps  2 (pc' := 34) (ls' := [(0, .int a1), (1, .int a2)]) (st' := [.int (1 : Int32)]) rfl ?_
          subst h
          exact tk_RB (b := true)  rfl rfl rfl
        · replace h := tk_ifF hc4 h
          refine tk_bF  rfl rfl rfl (c := a2 = (1 : Int32)) hc4 (pc' := 19) (ls' := [(0, .int a1), (1, .int a2)]) (st' := []) ?_
          refine tk_Ps  2 (pc' := 21) (ls' := [(0, .int a1), (1, .int a2)]) (st' := [.int (4 : Int32), .int a1]) rfl ?_
          by_cases hc5 : a1 = (4 : Int32)
          · replace h := tk_ifT hc5 h
            refine tk_bT  rfl rfl rfl (c := a1 = (4 : Int32)) hc5 (pc' := 24) (ls' := [(0, .int a1), (1, .int a2)]) (st' := []) ?_
            refine tk_Ps  2 (pc' := 26) (ls' := [(0, .int a1), (1, .int a2)]) (st' := [.int (2 : Int32), .int a2]) rfl ?_
            by_cases hc6 : a2 = (2 : Int32)
            · replace h := tk_ifT hc6 h
              refine tk_bT  rfl rfl rfl (c := a2 = (2 : Int32)) hc6 (pc' := 29) (ls' := [(0, .int a1), (1, .int a2)]) (st' := []) ?_
              refine tk_Ps  2 (pc' := 34) (ls' := [(0, .int a1), (1, .int a2)]) (st' := [.int (1 : Int32)]) rfl ?_
              subst h
              exact tk_RB (b := true)  rfl rfl rfl
            · replace h := tk_ifF hc6 h
              refine tk_bF  rfl rfl rfl (c := a2 = (2 : Int32)) hc6 (pc' := 33) (ls' := [(0, .int a1), (1, .int a2)]) (st' := []) ?_
              refine tk_Ps  1 (pc' := 34) (ls' := [(0, .int a1), (1, .int a2)]) (st' := [.int (0 : Int32)]) rfl ?_
              subst h
              exact tk_RB (b := false)  rfl rfl rfl
          · replace h := tk_ifF hc5 h
            refine tk_bF  rfl rfl rfl (c := a1 = (4 : Int32)) hc5 (pc' := 33) (ls' := [(0, .int a1), (1, .int a2)]) (st' := []) ?_
            refine tk_Ps  1 (pc' := 34) (ls' := [(0, .int a1), (1, .int a2)]) (st' := [.int (0 : Int32)]) rfl ?_
            subst h
            exact tk_RB (b := false)  rfl rfl rfl
      · replace h := tk_ifF hc3 h
        refine tk_bF  rfl rfl rfl (c := a1 = (3 : Int32)) hc3 (pc' := 19) (ls' := [(0, .int a1), (1, .int a2)]) (st' := []) ?_
        refine tk_Ps  2 (pc' := 21) (ls' := [(0, .int a1), (1, .int a2)]) (st' := [.int (4 : Int32), .int a1]) rfl ?_
        by_cases hc7 : a1 = (4 : Int32)
        · replace h := tk_ifT hc7 h
          refine tk_bT  rfl rfl rfl (c := a1 = (4 : Int32)) hc7 (pc' := 24) (ls' := [(0, .int a1), (1, .int a2)]) (st' := []) ?_
          refine tk_Ps  2 (pc' := 26) (ls' := [(0, .int a1), (1, .int a2)]) (st' := [.int (2 : Int32), .int a2]) rfl ?_
          by_cases hc8 : a2 = (2 : Int32)
          · replace h := tk_ifT hc8 h
            refine tk_bT  rfl rfl rfl (c := a2 = (2 : Int32)) hc8 (pc' := 29) (ls' := [(0, .int a1), (1, .int a2)]) (st' := []) ?_
            refine tk_Ps  2 (pc' := 34) (ls' := [(0, .int a1), (1, .int a2)]) (st' := [.int (1 : Int32)]) rfl ?_
            subst h
            exact tk_RB (b := true)  rfl rfl rfl
          · replace h := tk_ifF hc8 h
            refine tk_bF  rfl rfl rfl (c := a2 = (2 : Int32)) hc8 (pc' := 33) (ls' := [(0, .int a1), (1, .int a2)]) (st' := []) ?_
            refine tk_Ps  1 (pc' := 34) (ls' := [(0, .int a1), (1, .int a2)]) (st' := [.int (0 : Int32)]) rfl ?_
            subst h
            exact tk_RB (b := false)  rfl rfl rfl
        · replace h := tk_ifF hc7 h
          refine tk_bF  rfl rfl rfl (c := a1 = (4 : Int32)) hc7 (pc' := 33) (ls' := [(0, .int a1), (1, .int a2)]) (st' := []) ?_
          refine tk_Ps  1 (pc' := 34) (ls' := [(0, .int a1), (1, .int a2)]) (st' := [.int (0 : Int32)]) rfl ?_
          subst h
          exact tk_RB (b := false)  rfl rfl rfl
theorem ok_fM_as (sc : tk_X) (a1 : Int32) (a2 : Int32) (m : tk_m) {out : Int32 × tk_m} (h : fM_as a1 a2 m = some out) : tk_Ru sc 4 191 [.ref 295, .int a1, .int a2] (tk_full m) (some (.int out.1), tk_full out.2) := by
  unfold fM_as at h
  refine tk_Ru0 me191 (ls := [(0, .ref 295), (1, .int a1), (2, .int a2)]) rfl rfl ?_
  refine tk_Ps  2 (pc' := 2) (ls' := [(0, .ref 295), (1, .int a1), (2, .int a2)]) (st' := [.int a1, .ref 295]) rfl ?_
  refine tk_cV1  rfl rfl (r := 295) (as := [.int a1]) (rest := []) rfl ly295 rfl rfl (ok_fM_isShape sc a1 m) ?_
  by_cases hc1 : (fM_isShape a1 m) = true
  · replace h := tk_ifT hc1 h
    refine tk_bT  rfl rfl tk_eB_eq (c := (fM_isShape a1 m) = true) hc1 (pc' := 8) (ls' := [(0, .ref 295), (1, .int a1), (2, .int a2)]) (st' := []) ?_
    refine tk_Ps  4 (pc' := 14) (ls' := [(0, .ref 295), (1, .int a1), (2, .int a2)]) (st' := [.long (4 : Int64), .long (0 : Int64), .long (Int32.toInt64 a2)]) rfl ?_
    refine tk_cS1  rfl rfl (as := [.long (Int32.toInt64 a2), .long (0 : Int64), .long (4 : Int64)]) (rest := []) rfl rfl rfl (ok_fM_in sc (Int32.toInt64 a2) (0 : Int64) (4 : Int64) m) ?_
    by_cases hc2 : (fM_in (Int32.toInt64 a2) (0 : Int64) (4 : Int64)) = true
    · replace h := tk_ifT hc2 h
      refine tk_bT  rfl rfl tk_eB_ne (c := (fM_in (Int32.toInt64 a2) (0 : Int64) (4 : Int64)) = true) hc2 (pc' := 26) (ls' := [(0, .ref 295), (1, .int a1), (2, .int a2)]) (st' := []) ?_
      refine tk_Ps  2 (pc' := 28) (ls' := [(0, .ref 295), (1, .int a1), (2, .int a2)]) (st' := [.int a1, .ref 295]) rfl ?_
      obtain ⟨o3, ho3, h⟩ := tk_bnd h
      refine tk_cV1  rfl rfl (r := 295) (as := [.int a1]) (rest := []) rfl ly295 rfl rfl (ok_fM_kindOf sc a1 m ho3) ?_
      refine tk_Ps  1 (pc' := 32) (ls' := [(0, .ref 295), (1, .int a1), (2, .int a2)]) (st' := [.int a2, .int o3]) rfl ?_
      refine tk_cS1  rfl rfl (as := [.int o3, .int a2]) (rest := []) rfl rfl rfl (ok_fM_isUnder sc o3 a2 m) ?_
      by_cases hc4 : (fM_isUnder o3 a2) = true
      · replace h := tk_ifT hc4 h
        refine tk_bT  rfl rfl tk_eB_ne (c := (fM_isUnder o3 a2) = true) hc4 (pc' := 44) (ls' := [(0, .ref 295), (1, .int a1), (2, .int a2)]) (st' := []) ?_
        refine tk_Ps  2 (pc' := 46) (ls' := [(0, .ref 295), (1, .int a1), (2, .int a2)]) (st' := [.int a1, .ref 295]) rfl ?_
        obtain ⟨o5, ho5, h⟩ := tk_bnd h
        refine tk_cV1  rfl rfl (r := 295) (as := [.int a1]) (rest := []) rfl ly295 rfl rfl (ok_fM_isRound sc a1 m ho5) ?_
        by_cases hc6 : o5 = true
        · replace h := tk_ifT hc6 h
          refine tk_bT  rfl rfl tk_eB_eq (c := o5 = true) hc6 (pc' := 52) (ls' := [(0, .ref 295), (1, .int a1), (2, .int a2)]) (st' := []) ?_
          refine tk_Ps  3 (pc' := 55) (ls' := [(0, .ref 295), (1, .int a1), (2, .int a2)]) (st' := [.int (3 : Int32), .int a1, .ref 295]) rfl ?_
          obtain ⟨o7, ho7, h⟩ := tk_bnd h
          refine tk_cV1  rfl rfl (r := 295) (as := [.int a1, .int (3 : Int32)]) (rest := []) rfl ly295 rfl rfl (ok_fM_of0 sc a1 (3 : Int32) m ho7) ?_
          refine tk_Ps  1 (pc' := 67) (ls' := [(0, .ref 295), (1, .int a1), (2, .int a2)]) (st' := [.int o7]) rfl ?_
          replace h := Option.some.inj h
          subst h
          exact tk_RI  rfl rfl rfl
        · replace h := tk_ifF hc6 h
          refine tk_bF  rfl rfl tk_eB_eq (c := o5 = true) hc6 (pc' := 61) (ls' := [(0, .ref 295), (1, .int a1), (2, .int a2)]) (st' := []) ?_
          refine tk_Ps  3 (pc' := 64) (ls' := [(0, .ref 295), (1, .int a1), (2, .int a2)]) (st' := [.int (2 : Int32), .int a1, .ref 295]) rfl ?_
          obtain ⟨o8, ho8, h⟩ := tk_bnd h
          refine tk_cV1  rfl rfl (r := 295) (as := [.int a1, .int (2 : Int32)]) (rest := []) rfl ly295 rfl rfl (ok_fM_of0 sc a1 (2 : Int32) m ho8) ?_
          replace h := Option.some.inj h
          subst h
          exact tk_RI  rfl rfl rfl
      · replace h := tk_ifF hc4 h
        refine tk_bF  rfl rfl tk_eB_ne (c := (fM_isUnder o3 a2) = true) hc4 (pc' := 38) (ls' := [(0, .ref 295), (1, .int a1), (2, .int a2)]) (st' := []) ?_
        refine tk_Ps  2 (pc' := 40) (ls' := [(0, .ref 295), (1, .int a1), (2, .int a2)]) (st' := [.int (2 : Int32), .ref 295]) rfl ?_
        obtain ⟨o9, ho9, h⟩ := tk_bnd h
        refine tk_cV1  rfl rfl (r := 295) (as := [.int (2 : Int32)]) (rest := []) rfl ly295 rfl rfl (ok_fM_finds sc (2 : Int32) m ho9) ?_
        replace h := Option.some.inj h
        subst h
        exact tk_RI  rfl rfl rfl
    · replace h := tk_ifF hc2 h
      refine tk_bF  rfl rfl tk_eB_ne (c := (fM_in (Int32.toInt64 a2) (0 : Int64) (4 : Int64)) = true) hc2 (pc' := 20) (ls' := [(0, .ref 295), (1, .int a1), (2, .int a2)]) (st' := []) ?_
      refine tk_Ps  2 (pc' := 22) (ls' := [(0, .ref 295), (1, .int a1), (2, .int a2)]) (st' := [.int (0 : Int32), .ref 295]) rfl ?_
      obtain ⟨o10, ho10, h⟩ := tk_bnd h
      refine tk_cV1  rfl rfl (r := 295) (as := [.int (0 : Int32)]) (rest := []) rfl ly295 rfl rfl (ok_fM_finds sc (0 : Int32) m ho10) ?_
      replace h := Option.some.inj h
      subst h
      exact tk_RI  rfl rfl rfl
  · replace h := tk_ifF hc1 h
    refine tk_bF  rfl rfl tk_eB_eq (c := (fM_isShape a1 m) = true) hc1 (pc' := 20) (ls' := [(0, .ref 295), (1, .int a1), (2, .int a2)]) (st' := []) ?_
    refine tk_Ps  2 (pc' := 22) (ls' := [(0, .ref 295), (1, .int a1), (2, .int a2)]) (st' := [.int (0 : Int32), .ref 295]) rfl ?_
    obtain ⟨o11, ho11, h⟩ := tk_bnd h
    refine tk_cV1  rfl rfl (r := 295) (as := [.int (0 : Int32)]) (rest := []) rfl ly295 rfl rfl (ok_fM_finds sc (0 : Int32) m ho11) ?_
    replace h := Option.some.inj h
    subst h
    exact tk_RI  rfl rfl rfl
theorem ok_fM_drop (sc : tk_X) (m : tk_m) {out : Int32 × tk_m} (h : fM_drop m = some out) : tk_Ru sc 2 193 [.ref 295] (tk_full m) (some (.int out.1), tk_full out.2) := by
  unfold fM_drop at h
  refine tk_Ru0 me193 (ls := [(0, .ref 295)]) rfl rfl ?_
  refine tk_Ps  1 (pc' := 1) (ls' := [(0, .ref 295)]) (st' := [.ref 295]) rfl ?_
  refine tk_HR  rfl rfl ly295 rt295_0 ?_
  refine tk_Ps  1 (pc' := 5) (ls' := [(0, .ref 295)]) (st' := [.int (0 : Int32), .ref 296]) rfl ?_
  refine tk_HIa  rfl rfl ly296 (by decide) ?_
  by_cases hc1 : (m.1 296 0) = 0
  · replace h := tk_ifT hc1 h
    refine tk_bT  rfl rfl rfl (c := (m.1 296 0) = 0) hc1 (pc' := 9) (ls' := [(0, .ref 295)]) (st' := []) ?_
    refine tk_Ps  2 (pc' := 11) (ls' := [(0, .ref 295)]) (st' := [.int (3 : Int32), .ref 295]) rfl ?_
    obtain ⟨o2, ho2, h⟩ := tk_bnd h
    refine tk_cV1  rfl rfl (r := 295) (as := [.int (3 : Int32)]) (rest := []) rfl ly295 rfl rfl (ok_fM_finds sc (3 : Int32) m ho2) ?_
    replace h := Option.some.inj h
    subst h
    exact tk_RI  rfl rfl rfl
  · replace h := tk_ifF hc1 h
    refine tk_bF  rfl rfl rfl (c := (m.1 296 0) = 0) hc1 (pc' := 15) (ls' := [(0, .ref 295)]) (st' := []) ?_
    refine tk_Ps  1 (pc' := 16) (ls' := [(0, .ref 295)]) (st' := [.ref 295]) rfl ?_
    refine tk_HR  rfl rfl ly295 rt295_0 ?_
    refine tk_Ps  2 (pc' := 21) (ls' := [(0, .ref 295)]) (st' := [.int (0 : Int32), .ref 296, .int (0 : Int32), .ref 296]) rfl ?_
    refine tk_HIa  rfl rfl ly296 (by decide) ?_
    refine tk_Ps  2 (pc' := 24) (ls' := [(0, .ref 295)]) (st' := [.int ((m.1 296 0) - (1 : Int32)), .int (0 : Int32), .ref 296]) rfl ?_
    refine tk_SIa  rfl rfl ly296 (by decide) ?_
    refine tk_Ps  1 (pc' := 26) (ls' := [(0, .ref 295)]) (st' := [.ref 295]) rfl ?_
    refine tk_HR  rfl rfl ly295 rt295_0 ?_
    refine tk_Ps  1 (pc' := 30) (ls' := [(0, .ref 295)]) (st' := [.int (0 : Int32), .ref 296]) rfl ?_
    refine tk_HIa  rfl rfl ly296 (by decide) ?_
    replace h := Option.some.inj h
    subst h
    exact tk_RI  rfl rfl rfl
theorem ok_fM_copies_2 (sc : tk_X) : ∀ (n : Nat) (v1 : Int32) (v2 : Int32) (v3 : Int32) (m : tk_m) (out : tk_m), fM_copies_2 n v1 v2 v3 m = some out → tk_Ex sc 0 tk_r195 tk_k195 2 [(0, .ref 295), (1, .int v1), (2, .int v2), (3, .int v3)] [] (tk_full m) (none, tk_full out) := by
  intro n
  induction n with
  | zero =>
    intro v1 v2 v3 m out h
    cases h
  | succ n ih =>
    intro v1 v2 v3 m out h
    unfold fM_copies_2 at h
    refine tk_Ps  2 (pc' := 4) (ls' := [(0, .ref 295), (1, .int v1), (2, .int v2), (3, .int v3)]) (st' := [.int (4 : Int32), .int v3]) rfl ?_
    by_cases hc1 : (4 : Int32) ≤ v3
    · replace h := tk_ifT hc1 h
      refine tk_bT  rfl rfl rfl (c := (4 : Int32) ≤ v3) hc1 (pc' := 37) (ls' := [(0, .ref 295), (1, .int v1), (2, .int v2), (3, .int v3)]) (st' := []) ?_
      replace h := Option.some.inj h
      subst h
      exact tk_RV  rfl rfl rfl
    · replace h := tk_ifF hc1 h
      refine tk_bF  rfl rfl rfl (c := (4 : Int32) ≤ v3) hc1 (pc' := 7) (ls' := [(0, .ref 295), (1, .int v1), (2, .int v2), (3, .int v3)]) (st' := []) ?_
      refine tk_Ps  1 (pc' := 8) (ls' := [(0, .ref 295), (1, .int v1), (2, .int v2), (3, .int v3)]) (st' := [.ref 295]) rfl ?_
      refine tk_HR  rfl rfl ly295 rt295_0 ?_
      refine tk_Ps  8 (pc' := 19) (ls' := [(0, .ref 295), (1, .int v1), (2, .int v2), (3, .int v3)]) (st' := [.ref 295, .int (((5 : Int32) + ((4 : Int32) * v2)) + v3), .ref 296]) rfl ?_
      refine tk_HR  rfl rfl ly295 rt295_0 ?_
      refine tk_Ps  7 (pc' := 29) (ls' := [(0, .ref 295), (1, .int v1), (2, .int v2), (3, .int v3)]) (st' := [.int (((5 : Int32) + ((4 : Int32) * v1)) + v3), .ref 296, .int (((5 : Int32) + ((4 : Int32) * v2)) + v3), .ref 296]) rfl ?_
      obtain ⟨hg2, h⟩ := tk_grd h
      refine tk_HIa  rfl rfl ly296 hg2 ?_
      obtain ⟨hg3, h⟩ := tk_grd h
      refine tk_SIa  rfl rfl ly296 hg3 ?_
      refine tk_Ps  2 (pc' := 2) (ls' := [(3, .int (v3 + (1 : Int32))), (0, .ref 295), (1, .int v1), (2, .int v2)]) (st' := []) rfl ?_
      refine tk_Kp  (ls' := [(0, .ref 295), (1, .int v1), (2, .int v2), (3, .int (v3 + (1 : Int32)))]) rfl rfl ?_
      exact ih v1 v2 (v3 + (1 : Int32)) (tk_u2 m.1 296 (tk_n (((5 : Int32) + ((4 : Int32) * v2)) + v3)) (m.1 296 (tk_n (((5 : Int32) + ((4 : Int32) * v1)) + v3))), m.2.1, m.2.2.1, m.2.2.2) _ h
theorem ok_fM_copies (sc : tk_X) (a1 : Int32) (a2 : Int32) (m : tk_m) {out : tk_m} (h : fM_copies a1 a2 m = some out) : tk_Ru sc 1 195 [.ref 295, .int a1, .int a2] (tk_full m) (none, tk_full out) := by
  unfold fM_copies at h
  refine tk_Ru0 me195 (ls := [(0, .ref 295), (1, .int a1), (2, .int a2)]) rfl rfl ?_
  refine tk_Ps  2 (pc' := 2) (ls' := [(3, .int (0 : Int32)), (0, .ref 295), (1, .int a1), (2, .int a2)]) (st' := []) rfl ?_
  refine tk_Kp  (ls' := [(0, .ref 295), (1, .int a1), (2, .int a2), (3, .int (0 : Int32))]) rfl rfl ?_
  exact ok_fM_copies_2 sc tk_F a1 a2 (0 : Int32) m _ h
theorem ok_fM_prune_68 (sc : tk_X) (v2 : Int32) (v3 : Int32) (m : tk_m) (out : Int32 × tk_m) (h : fM_prune_68 v2 v3 m = some out) : tk_Ex sc 3 tk_r194 tk_k194 68 [(0, .ref 295), (2, .int v2), (3, .int v3)] [] (tk_full m) (some (.int out.1), tk_full out.2) := by
  unfold fM_prune_68 at h
  refine tk_Ps  1 (pc' := 69) (ls' := [(0, .ref 295), (2, .int v2), (3, .int v3)]) (st' := [.ref 295]) rfl ?_
  refine tk_HR  rfl rfl ly295 rt295_0 ?_
  refine tk_Ps  2 (pc' := 74) (ls' := [(0, .ref 295), (2, .int v2), (3, .int v3)]) (st' := [.int v2, .int (0 : Int32), .ref 296]) rfl ?_
  refine tk_SIa  rfl rfl ly296 (by decide) ?_
  refine tk_Ps  3 (pc' := 78) (ls' := [(0, .ref 295), (2, .int v2), (3, .int v3)]) (st' := [.int (v3 - v2)]) rfl ?_
  replace h := Option.some.inj h
  subst h
  exact tk_RI  rfl rfl rfl
theorem ok_fM_prune_30 (sc : tk_X) : ∀ (n : Nat) (v1 : Int32) (v2 : Int32) (v3 : Int32) (v4 : Int32) (m : tk_m) (out : Int32 × tk_m), fM_prune_30 n v1 v2 v3 v4 m = some out → tk_Ex sc 3 tk_r194 tk_k194 30 [(0, .ref 295), (1, .int v1), (2, .int v2), (3, .int v3), (4, .int v4)] [] (tk_full m) (some (.int out.1), tk_full out.2) := by
  intro n
  induction n with
  | zero =>
    intro v1 v2 v3 v4 m out h
    cases h
  | succ n ih =>
    intro v1 v2 v3 v4 m out h
    unfold fM_prune_30 at h
    refine tk_Ps  2 (pc' := 33) (ls' := [(0, .ref 295), (1, .int v1), (2, .int v2), (3, .int v3), (4, .int v4)]) (st' := [.int v3, .int v4]) rfl ?_
    by_cases hc1 : v3 ≤ v4
    · replace h := tk_ifT hc1 h
      refine tk_bT  rfl rfl rfl (c := v3 ≤ v4) hc1 (pc' := 68) (ls' := [(0, .ref 295), (1, .int v1), (2, .int v2), (3, .int v3), (4, .int v4)]) (st' := []) ?_
      refine tk_Kp  (ls' := [(0, .ref 295), (2, .int v2), (3, .int v3)]) rfl rfl ?_
      exact ok_fM_prune_68 sc v2 v3 m _ h
    · replace h := tk_ifF hc1 h
      refine tk_bF  rfl rfl rfl (c := v3 ≤ v4) hc1 (pc' := 36) (ls' := [(0, .ref 295), (1, .int v1), (2, .int v2), (3, .int v3), (4, .int v4)]) (st' := []) ?_
      refine tk_Ps  2 (pc' := 39) (ls' := [(0, .ref 295), (1, .int v1), (2, .int v2), (3, .int v3), (4, .int v4)]) (st' := [.int v4, .ref 295]) rfl ?_
      obtain ⟨o2, ho2, h⟩ := tk_bnd h
      refine tk_cV1  rfl rfl (r := 295) (as := [.int v4]) (rest := []) rfl ly295 rfl rfl (ok_fM_kindOf sc v4 m ho2) ?_
      refine tk_Ps  1 (pc' := 43) (ls' := [(0, .ref 295), (1, .int v1), (2, .int v2), (3, .int v3), (4, .int v4)]) (st' := [.int v1, .int o2]) rfl ?_
      refine tk_cS1  rfl rfl (as := [.int o2, .int v1]) (rest := []) rfl rfl rfl (ok_fM_isUnder sc o2 v1 m) ?_
      by_cases hc3 : (fM_isUnder o2 v1) = true
      · replace h := tk_ifT hc3 h
        refine tk_bT  rfl rfl tk_eB_eq (c := (fM_isUnder o2 v1) = true) hc3 (pc' := 49) (ls' := [(0, .ref 295), (1, .int v1), (2, .int v2), (3, .int v3), (4, .int v4)]) (st' := []) ?_
        refine tk_Ps  3 (pc' := 30) (ls' := [(4, .int (v4 + (1 : Int32))), (0, .ref 295), (1, .int v1), (2, .int v2), (3, .int v3)]) (st' := []) rfl ?_
        refine tk_Kp  (ls' := [(0, .ref 295), (1, .int v1), (2, .int v2), (3, .int v3), (4, .int (v4 + (1 : Int32)))]) rfl rfl ?_
        exact ih v1 v2 v3 (v4 + (1 : Int32)) m _ h
      · replace h := tk_ifF hc3 h
        refine tk_bF  rfl rfl tk_eB_eq (c := (fM_isUnder o2 v1) = true) hc3 (pc' := 52) (ls' := [(0, .ref 295), (1, .int v1), (2, .int v2), (3, .int v3), (4, .int v4)]) (st' := []) ?_
        refine tk_Ps  3 (pc' := 56) (ls' := [(0, .ref 295), (1, .int v1), (2, .int v2), (3, .int v3), (4, .int v4)]) (st' := [.int v2, .int v4, .ref 295]) rfl ?_
        obtain ⟨o4, ho4, h⟩ := tk_bnd h
        refine tk_cV0  rfl rfl (r := 295) (as := [.int v4, .int v2]) (rest := []) rfl ly295 rfl rfl (ok_fM_copies sc v4 v2 m ho4) ?_
        refine tk_Ps  3 (pc' := 30) (ls' := [(4, .int (v4 + (1 : Int32))), (2, .int (v2 + (1 : Int32))), (0, .ref 295), (1, .int v1), (3, .int v3)]) (st' := []) rfl ?_
        refine tk_Kp  (ls' := [(0, .ref 295), (1, .int v1), (2, .int (v2 + (1 : Int32))), (3, .int v3), (4, .int (v4 + (1 : Int32)))]) rfl rfl ?_
        exact ih v1 (v2 + (1 : Int32)) v3 (v4 + (1 : Int32)) o4 _ h
theorem ok_fM_prune (sc : tk_X) (a1 : Int32) (m : tk_m) {out : Int32 × tk_m} (h : fM_prune a1 m = some out) : tk_Ru sc 4 194 [.ref 295, .int a1] (tk_full m) (some (.int out.1), tk_full out.2) := by
  unfold fM_prune at h
  refine tk_Ru0 me194 (ls := [(0, .ref 295), (1, .int a1)]) rfl rfl ?_
  refine tk_Ps  4 (pc' := 6) (ls' := [(0, .ref 295), (1, .int a1)]) (st' := [.long (4 : Int64), .long (0 : Int64), .long (Int32.toInt64 a1)]) rfl ?_
  refine tk_cS1  rfl rfl (as := [.long (Int32.toInt64 a1), .long (0 : Int64), .long (4 : Int64)]) (rest := []) rfl rfl rfl (ok_fM_in sc (Int32.toInt64 a1) (0 : Int64) (4 : Int64) m) ?_
  by_cases hc1 : (fM_in (Int32.toInt64 a1) (0 : Int64) (4 : Int64)) = true
  · replace h := tk_ifT hc1 h
    refine tk_bT  rfl rfl tk_eB_ne (c := (fM_in (Int32.toInt64 a1) (0 : Int64) (4 : Int64)) = true) hc1 (pc' := 18) (ls' := [(0, .ref 295), (1, .int a1)]) (st' := []) ?_
    refine tk_Ps  3 (pc' := 21) (ls' := [(2, .int (0 : Int32)), (0, .ref 295), (1, .int a1)]) (st' := [.ref 295]) rfl ?_
    refine tk_HR  rfl rfl ly295 rt295_0 ?_
    refine tk_Ps  1 (pc' := 25) (ls' := [(2, .int (0 : Int32)), (0, .ref 295), (1, .int a1)]) (st' := [.int (0 : Int32), .ref 296]) rfl ?_
    refine tk_HIa  rfl rfl ly296 (by decide) ?_
    refine tk_Ps  3 (pc' := 30) (ls' := [(4, .int (0 : Int32)), (3, .int (m.1 296 0)), (2, .int (0 : Int32)), (0, .ref 295), (1, .int a1)]) (st' := []) rfl ?_
    refine tk_Kp  (ls' := [(0, .ref 295), (1, .int a1), (2, .int (0 : Int32)), (3, .int (m.1 296 0)), (4, .int (0 : Int32))]) rfl rfl ?_
    exact ok_fM_prune_30 sc tk_F a1 (0 : Int32) (m.1 296 0) (0 : Int32) m _ h
  · replace h := tk_ifF hc1 h
    refine tk_bF  rfl rfl tk_eB_ne (c := (fM_in (Int32.toInt64 a1) (0 : Int64) (4 : Int64)) = true) hc1 (pc' := 12) (ls' := [(0, .ref 295), (1, .int a1)]) (st' := []) ?_
    refine tk_Ps  2 (pc' := 14) (ls' := [(0, .ref 295), (1, .int a1)]) (st' := [.int (0 : Int32), .ref 295]) rfl ?_
    obtain ⟨o2, ho2, h⟩ := tk_bnd h
    refine tk_cV1  rfl rfl (r := 295) (as := [.int (0 : Int32)]) (rest := []) rfl ly295 rfl rfl (ok_fM_finds sc (0 : Int32) m ho2) ?_
    replace h := Option.some.inj h
    subst h
    exact tk_RI  rfl rfl rfl
theorem ok_fM_swaps_2 (sc : tk_X) : ∀ (n : Nat) (v1 : Int32) (v2 : Int32) (v3 : Int32) (m : tk_m) (out : tk_m), fM_swaps_2 n v1 v2 v3 m = some out → tk_Ex sc 1 tk_r197 tk_k197 2 [(0, .ref 295), (1, .int v1), (2, .int v2), (3, .int v3)] [] (tk_full m) (none, tk_full out) := by
  intro n
  induction n with
  | zero =>
    intro v1 v2 v3 m out h
    cases h
  | succ n ih =>
    intro v1 v2 v3 m out h
    unfold fM_swaps_2 at h
    refine tk_Ps  2 (pc' := 4) (ls' := [(0, .ref 295), (1, .int v1), (2, .int v2), (3, .int v3)]) (st' := [.int (4 : Int32), .int v3]) rfl ?_
    by_cases hc1 : (4 : Int32) ≤ v3
    · replace h := tk_ifT hc1 h
      refine tk_bT  rfl rfl rfl (c := (4 : Int32) ≤ v3) hc1 (pc' := 53) (ls' := [(0, .ref 295), (1, .int v1), (2, .int v2), (3, .int v3)]) (st' := []) ?_
      replace h := Option.some.inj h
      subst h
      exact tk_RV  rfl rfl rfl
    · replace h := tk_ifF hc1 h
      refine tk_bF  rfl rfl rfl (c := (4 : Int32) ≤ v3) hc1 (pc' := 7) (ls' := [(0, .ref 295), (1, .int v1), (2, .int v2), (3, .int v3)]) (st' := []) ?_
      refine tk_Ps  3 (pc' := 10) (ls' := [(0, .ref 295), (1, .int v1), (2, .int v2), (3, .int v3)]) (st' := [.int v3, .int v1, .ref 295]) rfl ?_
      obtain ⟨o2, ho2, h⟩ := tk_bnd h
      refine tk_cV1  rfl rfl (r := 295) (as := [.int v1, .int v3]) (rest := []) rfl ly295 rfl rfl (ok_fM_of0 sc v1 v3 m ho2) ?_
      refine tk_Ps  2 (pc' := 16) (ls' := [(4, .int o2), (0, .ref 295), (1, .int v1), (2, .int v2), (3, .int v3)]) (st' := [.ref 295]) rfl ?_
      refine tk_HR  rfl rfl ly295 rt295_0 ?_
      refine tk_Ps  10 (pc' := 29) (ls' := [(4, .int o2), (0, .ref 295), (1, .int v1), (2, .int v2), (3, .int v3)]) (st' := [.int v3, .int v2, .ref 295, .int (((5 : Int32) + ((4 : Int32) * v1)) + v3), .ref 296]) rfl ?_
      obtain ⟨o3, ho3, h⟩ := tk_bnd h
      refine tk_cV1  rfl rfl (r := 295) (as := [.int v2, .int v3]) (rest := [.int (((5 : Int32) + ((4 : Int32) * v1)) + v3), .ref 296]) rfl ly295 rfl rfl (ok_fM_of0 sc v2 v3 m ho3) ?_
      obtain ⟨hg4, h⟩ := tk_grd h
      refine tk_SIa  rfl rfl ly296 hg4 ?_
      refine tk_Ps  1 (pc' := 34) (ls' := [(4, .int o2), (0, .ref 295), (1, .int v1), (2, .int v2), (3, .int v3)]) (st' := [.ref 295]) rfl ?_
      refine tk_HR  rfl rfl ly295 rt295_0 ?_
      refine tk_Ps  8 (pc' := 46) (ls' := [(4, .int o2), (0, .ref 295), (1, .int v1), (2, .int v2), (3, .int v3)]) (st' := [.int o2, .int (((5 : Int32) + ((4 : Int32) * v2)) + v3), .ref 296]) rfl ?_
      obtain ⟨hg5, h⟩ := tk_grd h
      refine tk_SIa  rfl rfl ly296 hg5 ?_
      refine tk_Ps  2 (pc' := 2) (ls' := [(3, .int (v3 + (1 : Int32))), (4, .int o2), (0, .ref 295), (1, .int v1), (2, .int v2)]) (st' := []) rfl ?_
      refine tk_Kp  (ls' := [(0, .ref 295), (1, .int v1), (2, .int v2), (3, .int (v3 + (1 : Int32)))]) rfl rfl ?_
      exact ih v1 v2 (v3 + (1 : Int32)) (tk_u2 (tk_u2 m.1 296 (tk_n (((5 : Int32) + ((4 : Int32) * v1)) + v3)) o3) 296 (tk_n (((5 : Int32) + ((4 : Int32) * v2)) + v3)) o2, m.2.1, m.2.2.1, m.2.2.2) _ h
theorem ok_fM_swaps (sc : tk_X) (a1 : Int32) (a2 : Int32) (m : tk_m) {out : tk_m} (h : fM_swaps a1 a2 m = some out) : tk_Ru sc 2 197 [.ref 295, .int a1, .int a2] (tk_full m) (none, tk_full out) := by
  unfold fM_swaps at h
  refine tk_Ru0 me197 (ls := [(0, .ref 295), (1, .int a1), (2, .int a2)]) rfl rfl ?_
  refine tk_Ps  2 (pc' := 2) (ls' := [(3, .int (0 : Int32)), (0, .ref 295), (1, .int a1), (2, .int a2)]) (st' := []) rfl ?_
  refine tk_Kp  (ls' := [(0, .ref 295), (1, .int a1), (2, .int a2), (3, .int (0 : Int32))]) rfl rfl ?_
  exact ok_fM_swaps_2 sc tk_F a1 a2 (0 : Int32) m _ h

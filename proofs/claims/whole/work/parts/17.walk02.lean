theorem ok_fF_firstRound_2 (sc : tk_X) : ∀ (n : Nat) (v0 : Nat) (v1 : Int32) (m : tk_m) (hv0 : tk_lay[v0]? = some (.inl 5)) (out : Int32), fF_firstRound_2 n v0 v1 m = some out → tk_Ex sc 1 tk_r71 tk_k71 2 [(0, .ref v0), (1, .int v1)] [] (tk_full m) (some (.int out), tk_full m) := by
  intro n
  induction n with
  | zero =>
    intro v0 v1 m hv0 out h
    cases h
  | succ n ih =>
    intro v0 v1 m hv0 out h
    unfold fF_firstRound_2 at h
    refine tk_Ps  2 (pc' := 4) (ls' := [(0, .ref v0), (1, .int v1)]) (st' := [.int (3 : Int32), .int v1]) rfl ?_
    by_cases hc1 : (3 : Int32) ≤ v1
    · replace h := tk_ifT hc1 h
      refine tk_bT  rfl rfl rfl (c := (3 : Int32) ≤ v1) hc1 (pc' := 26) (ls' := [(0, .ref v0), (1, .int v1)]) (st' := []) ?_
      refine tk_Ps  1 (pc' := 27) (ls' := [(0, .ref v0), (1, .int v1)]) (st' := [.int (-1 : Int32)]) rfl ?_
      replace h := Option.some.inj h
      subst h
      exact tk_RI  rfl rfl rfl
    · replace h := tk_ifF hc1 h
      refine tk_bF  rfl rfl rfl (c := (3 : Int32) ≤ v1) hc1 (pc' := 7) (ls' := [(0, .ref v0), (1, .int v1)]) (st' := []) ?_
      refine tk_Ps  2 (pc' := 9) (ls' := [(0, .ref v0), (1, .int v1)]) (st' := [.int v1, .ref v0]) rfl ?_
      obtain ⟨o2, ho2, h⟩ := tk_bnd h
      refine tk_cV1  rfl rfl (r := v0) (as := [.int v1]) (rest := []) rfl hv0 rfl rfl (ok_fS_given sc v0 v1 m hv0 ho2) ?_
      refine tk_HB  rfl rfl (lay_fS_given sc v0 v1 m hv0 ho2) ?_
      by_cases hc3 : (m.2.2.1 o2 0) = true
      · replace h := tk_ifT hc3 h
        refine tk_bT  rfl rfl tk_eB_ne (c := (m.2.2.1 o2 0) = true) hc3 (pc' := 20) (ls' := [(0, .ref v0), (1, .int v1)]) (st' := []) ?_
        refine tk_Ps  2 (pc' := 2) (ls' := [(1, .int (v1 + (1 : Int32))), (0, .ref v0)]) (st' := []) rfl ?_
        refine tk_Kp  (ls' := [(0, .ref v0), (1, .int (v1 + (1 : Int32)))]) rfl rfl ?_
        exact ih v0 (v1 + (1 : Int32)) m hv0 _ h
      · replace h := tk_ifF hc3 h
        refine tk_bF  rfl rfl tk_eB_ne (c := (m.2.2.1 o2 0) = true) hc3 (pc' := 18) (ls' := [(0, .ref v0), (1, .int v1)]) (st' := []) ?_
        refine tk_Ps  1 (pc' := 19) (ls' := [(0, .ref v0), (1, .int v1)]) (st' := [.int v1]) rfl ?_
        replace h := Option.some.inj h
        subst h
        exact tk_RI  rfl rfl rfl
theorem ok_fF_firstRound (sc : tk_X) (a1 : Nat) (m : tk_m) (ha1 : tk_lay[a1]? = some (.inl 5)) {out : Int32} (h : fF_firstRound a1 m = some out) : tk_Ru sc 2 71 [.ref a1] (tk_full m) (some (.int out), tk_full m) := by
  unfold fF_firstRound at h
  refine tk_Ru0 me71 (ls := [(0, .ref a1)]) rfl rfl ?_
  refine tk_Ps  2 (pc' := 2) (ls' := [(1, .int (0 : Int32)), (0, .ref a1)]) (st' := []) rfl ?_
  refine tk_Kp  (ls' := [(0, .ref a1), (1, .int (0 : Int32))]) rfl rfl ?_
  exact ok_fF_firstRound_2 sc tk_F a1 (0 : Int32) m ha1 _ h
theorem ok_fV_set (sc : tk_X) (t : Nat) (a1 : Int64) (a2 : Int64) (a3 : Int64) (m : tk_m) (ht : tk_lay[t]? = some (.inl 8)) {out : tk_m} (h : fV_set t a1 a2 a3 m = out) : tk_Ru sc 1 72 [.ref t, .long a1, .long a2, .long a3] (tk_full m) (none, tk_full out) := by
  unfold fV_set at h
  refine tk_Ru0 me72 (ls := [(0, .ref t), (1, .long a1), (3, .long a2), (5, .long a3)]) rfl rfl ?_
  refine tk_Ps  2 (pc' := 2) (ls' := [(0, .ref t), (1, .long a1), (3, .long a2), (5, .long a3)]) (st' := [.long a1, .ref t]) rfl ?_
  refine tk_SJ  rfl rfl ht ?_
  refine tk_Ps  2 (pc' := 7) (ls' := [(0, .ref t), (1, .long a1), (3, .long a2), (5, .long a3)]) (st' := [.long a2, .ref t]) rfl ?_
  refine tk_SJ  rfl rfl ht ?_
  refine tk_Ps  2 (pc' := 13) (ls' := [(0, .ref t), (1, .long a1), (3, .long a2), (5, .long a3)]) (st' := [.long a3, .ref t]) rfl ?_
  refine tk_SJ  rfl rfl ht ?_
  subst h
  exact tk_RV  rfl rfl rfl
theorem ok_fH_shift (sc : tk_X) (t : Nat) (a1 : Int32) (m : tk_m) (ht : tk_lay[t]? = some (.inl 6)) : tk_Ru sc 1 73 [.ref t, .int a1] (tk_full m) (some (.int (fH_shift t a1 m)), tk_full m) := by
  obtain ⟨out, h⟩ : ∃ out, fH_shift t a1 m = out := ⟨_, rfl⟩
  rw [h]
  unfold fH_shift at h
  refine tk_Ru0 me73 (ls := [(0, .ref t), (1, .int a1)]) rfl rfl ?_
  refine tk_Ps  1 (pc' := 1) (ls' := [(0, .ref t), (1, .int a1)]) (st' := [.int a1]) rfl ?_
  by_cases hc1 : a1 = 0
  · replace h := tk_ifT hc1 h
    refine tk_bT  rfl rfl rfl (c := a1 = 0) hc1 (pc' := 11) (ls' := [(0, .ref t), (1, .int a1)]) (st' := []) ?_
    refine tk_Ps  1 (pc' := 12) (ls' := [(0, .ref t), (1, .int a1)]) (st' := [.ref t]) rfl ?_
    refine tk_HI  rfl rfl ht ?_
    refine tk_Ps  1 (pc' := 16) (ls' := [(0, .ref t), (1, .int a1)]) (st' := [.int (-(m.1 t 3))]) rfl ?_
    subst h
    exact tk_RI  rfl rfl rfl
  · replace h := tk_ifF hc1 h
    refine tk_bF  rfl rfl rfl (c := a1 = 0) hc1 (pc' := 4) (ls' := [(0, .ref t), (1, .int a1)]) (st' := []) ?_
    refine tk_Ps  1 (pc' := 5) (ls' := [(0, .ref t), (1, .int a1)]) (st' := [.ref t]) rfl ?_
    refine tk_HI  rfl rfl ht ?_
    refine tk_Ps  1 (pc' := 16) (ls' := [(0, .ref t), (1, .int a1)]) (st' := [.int (m.1 t 3)]) rfl ?_
    subst h
    exact tk_RI  rfl rfl rfl
theorem ok_fH_slope (sc : tk_X) (t : Nat) (a1 : Int32) (m : tk_m) (ht : tk_lay[t]? = some (.inl 6)) : tk_Ru sc 1 75 [.ref t, .int a1] (tk_full m) (some (.int (fH_slope t a1 m)), tk_full m) := by
  obtain ⟨out, h⟩ : ∃ out, fH_slope t a1 m = out := ⟨_, rfl⟩
  rw [h]
  unfold fH_slope at h
  refine tk_Ru0 me75 (ls := [(0, .ref t), (1, .int a1)]) rfl rfl ?_
  refine tk_Ps  1 (pc' := 1) (ls' := [(0, .ref t), (1, .int a1)]) (st' := [.int a1]) rfl ?_
  by_cases hc1 : a1 = 0
  · replace h := tk_ifT hc1 h
    refine tk_bT  rfl rfl rfl (c := a1 = 0) hc1 (pc' := 11) (ls' := [(0, .ref t), (1, .int a1)]) (st' := []) ?_
    refine tk_Ps  1 (pc' := 12) (ls' := [(0, .ref t), (1, .int a1)]) (st' := [.ref t]) rfl ?_
    refine tk_HI  rfl rfl ht ?_
    refine tk_Ps  1 (pc' := 16) (ls' := [(0, .ref t), (1, .int a1)]) (st' := [.int (-(m.1 t 8))]) rfl ?_
    subst h
    exact tk_RI  rfl rfl rfl
  · replace h := tk_ifF hc1 h
    refine tk_bF  rfl rfl rfl (c := a1 = 0) hc1 (pc' := 4) (ls' := [(0, .ref t), (1, .int a1)]) (st' := []) ?_
    refine tk_Ps  1 (pc' := 5) (ls' := [(0, .ref t), (1, .int a1)]) (st' := [.ref t]) rfl ?_
    refine tk_HI  rfl rfl ht ?_
    refine tk_Ps  1 (pc' := 16) (ls' := [(0, .ref t), (1, .int a1)]) (st' := [.int (m.1 t 8)]) rfl ?_
    subst h
    exact tk_RI  rfl rfl rfl
theorem ok_fV_straightProduct (sc : tk_X) (t : Nat) (a1 : Nat) (m : tk_m) (ht : tk_lay[t]? = some (.inl 8)) (ha1 : tk_lay[a1]? = some (.inl 8)) : tk_Ru sc 1 76 [.ref t, .ref a1] (tk_full m) (some (.long (fV_straightProduct t a1 m)), tk_full m) := by
  obtain ⟨out, h⟩ : ∃ out, fV_straightProduct t a1 m = out := ⟨_, rfl⟩
  rw [h]
  unfold fV_straightProduct at h
  refine tk_Ru0 me76 (ls := [(0, .ref t), (1, .ref a1)]) rfl rfl ?_
  refine tk_Ps  1 (pc' := 1) (ls' := [(0, .ref t), (1, .ref a1)]) (st' := [.ref t]) rfl ?_
  refine tk_HJ  rfl rfl ht ?_
  refine tk_Ps  1 (pc' := 5) (ls' := [(0, .ref t), (1, .ref a1)]) (st' := [.ref a1, .long (m.2.1 t 0)]) rfl ?_
  refine tk_HJ  rfl rfl ha1 ?_
  refine tk_Ps  2 (pc' := 10) (ls' := [(0, .ref t), (1, .ref a1)]) (st' := [.ref t, .long ((m.2.1 t 0) * (m.2.1 a1 0))]) rfl ?_
  refine tk_HJ  rfl rfl ht ?_
  refine tk_Ps  1 (pc' := 14) (ls' := [(0, .ref t), (1, .ref a1)]) (st' := [.ref a1, .long (m.2.1 t 1), .long ((m.2.1 t 0) * (m.2.1 a1 0))]) rfl ?_
  refine tk_HJ  rfl rfl ha1 ?_
  refine tk_Ps  3 (pc' := 20) (ls' := [(0, .ref t), (1, .ref a1)]) (st' := [.ref t, .long (((m.2.1 t 0) * (m.2.1 a1 0)) + ((m.2.1 t 1) * (m.2.1 a1 1)))]) rfl ?_
  refine tk_HJ  rfl rfl ht ?_
  refine tk_Ps  1 (pc' := 24) (ls' := [(0, .ref t), (1, .ref a1)]) (st' := [.ref a1, .long (m.2.1 t 2), .long (((m.2.1 t 0) * (m.2.1 a1 0)) + ((m.2.1 t 1) * (m.2.1 a1 1)))]) rfl ?_
  refine tk_HJ  rfl rfl ha1 ?_
  refine tk_Ps  2 (pc' := 29) (ls' := [(0, .ref t), (1, .ref a1)]) (st' := [.long ((((m.2.1 t 0) * (m.2.1 a1 0)) + ((m.2.1 t 1) * (m.2.1 a1 1))) + ((m.2.1 t 2) * (m.2.1 a1 2)))]) rfl ?_
  subst h
  exact tk_RJ  rfl rfl rfl
theorem ok_fV_bentProduct (sc : tk_X) (t : Nat) (a1 : Nat) (m : tk_m) (ht : tk_lay[t]? = some (.inl 8)) (ha1 : tk_lay[a1]? = some (.inl 8)) : tk_Ru sc 1 77 [.ref t, .ref a1] (tk_full m) (some (.long (fV_bentProduct t a1 m)), tk_full m) := by
  obtain ⟨out, h⟩ : ∃ out, fV_bentProduct t a1 m = out := ⟨_, rfl⟩
  rw [h]
  unfold fV_bentProduct at h
  refine tk_Ru0 me77 (ls := [(0, .ref t), (1, .ref a1)]) rfl rfl ?_
  refine tk_Ps  1 (pc' := 1) (ls' := [(0, .ref t), (1, .ref a1)]) (st' := [.ref t]) rfl ?_
  refine tk_HJ  rfl rfl ht ?_
  refine tk_Ps  1 (pc' := 5) (ls' := [(0, .ref t), (1, .ref a1)]) (st' := [.ref a1, .long (m.2.1 t 0)]) rfl ?_
  refine tk_HJ  rfl rfl ha1 ?_
  refine tk_Ps  2 (pc' := 10) (ls' := [(0, .ref t), (1, .ref a1)]) (st' := [.ref t, .long ((m.2.1 t 0) * (m.2.1 a1 0))]) rfl ?_
  refine tk_HJ  rfl rfl ht ?_
  refine tk_Ps  1 (pc' := 14) (ls' := [(0, .ref t), (1, .ref a1)]) (st' := [.ref a1, .long (m.2.1 t 1), .long ((m.2.1 t 0) * (m.2.1 a1 0))]) rfl ?_
  refine tk_HJ  rfl rfl ha1 ?_
  refine tk_Ps  3 (pc' := 20) (ls' := [(0, .ref t), (1, .ref a1)]) (st' := [.ref t, .long (((m.2.1 t 0) * (m.2.1 a1 0)) + ((m.2.1 t 1) * (m.2.1 a1 1)))]) rfl ?_
  refine tk_HJ  rfl rfl ht ?_
  refine tk_Ps  1 (pc' := 24) (ls' := [(0, .ref t), (1, .ref a1)]) (st' := [.ref a1, .long (m.2.1 t 2), .long (((m.2.1 t 0) * (m.2.1 a1 0)) + ((m.2.1 t 1) * (m.2.1 a1 1)))]) rfl ?_
  refine tk_HJ  rfl rfl ha1 ?_
  refine tk_Ps  2 (pc' := 29) (ls' := [(0, .ref t), (1, .ref a1)]) (st' := [.long ((((m.2.1 t 0) * (m.2.1 a1 0)) + ((m.2.1 t 1) * (m.2.1 a1 1))) - ((m.2.1 t 2) * (m.2.1 a1 2)))]) rfl ?_
  subst h
  exact tk_RJ  rfl rfl rfl
theorem ok_fF_layPlane (sc : tk_X) (a1 : Nat) (a2 : Nat) (a3 : Int32) (m : tk_m) (ha1 : tk_lay[a1]? = some (.inl 8)) (ha2 : tk_lay[a2]? = some (.inl 6)) {out : tk_m} (h : fF_layPlane a1 a2 a3 m = out) : tk_Ru sc 2 74 [.ref 39, .ref a1, .ref a2, .int a3] (tk_full m) (none, tk_full out) := by
  unfold fF_layPlane at h
  refine tk_Ru0 me74 (ls := [(0, .ref 39), (1, .ref a1), (2, .ref a2), (3, .int a3)]) rfl rfl ?_
  refine tk_Ps  1 (pc' := 1) (ls' := [(0, .ref 39), (1, .ref a1), (2, .ref a2), (3, .int a3)]) (st' := [.ref a2]) rfl ?_
  refine tk_HB  rfl rfl ha2 ?_
  by_cases hc1 : (m.2.2.1 a2 0) = true
  · replace h := tk_ifT hc1 h
    refine tk_bT  rfl rfl tk_eB_eq (c := (m.2.2.1 a2 0) = true) hc1 (pc' := 7) (ls' := [(0, .ref 39), (1, .ref a1), (2, .ref a2), (3, .int a3)]) (st' := []) ?_
    refine tk_Ps  2 (pc' := 9) (ls' := [(0, .ref 39), (1, .ref a1), (2, .ref a2), (3, .int a3)]) (st' := [.ref a2, .ref a1]) rfl ?_
    refine tk_HI  rfl rfl ha2 ?_
    refine tk_Ps  2 (pc' := 14) (ls' := [(0, .ref 39), (1, .ref a1), (2, .ref a2), (3, .int a3)]) (st' := [.ref a2, .long (Int32.toInt64 (m.1 a2 6)), .ref a1]) rfl ?_
    refine tk_HI  rfl rfl ha2 ?_
    refine tk_Ps  3 (pc' := 20) (ls' := [(0, .ref 39), (1, .ref a1), (2, .ref a2), (3, .int a3)]) (st' := [.int a3, .ref a2, .long (Int32.toInt64 (m.1 a2 7)), .long (Int32.toInt64 (m.1 a2 6)), .ref a1]) rfl ?_
    refine tk_cV1  rfl rfl (r := a2) (as := [.int a3]) (rest := [.long (Int32.toInt64 (m.1 a2 7)), .long (Int32.toInt64 (m.1 a2 6)), .ref a1]) rfl ha2 rfl rfl (ok_fH_slope sc a2 a3 m ha2) ?_
    refine tk_Ps  1 (pc' := 24) (ls' := [(0, .ref 39), (1, .ref a1), (2, .ref a2), (3, .int a3)]) (st' := [.long (Int32.toInt64 (fH_slope a2 a3 m)), .long (Int32.toInt64 (m.1 a2 7)), .long (Int32.toInt64 (m.1 a2 6)), .ref a1]) rfl ?_
    obtain ⟨o2, ho2, h⟩ := tk_lete h
    refine tk_cV0  rfl rfl (r := a1) (as := [.long (Int32.toInt64 (m.1 a2 6)), .long (Int32.toInt64 (m.1 a2 7)), .long (Int32.toInt64 (fH_slope a2 a3 m))]) (rest := []) rfl ha1 rfl rfl (ok_fV_set sc a1 (Int32.toInt64 (m.1 a2 6)) (Int32.toInt64 (m.1 a2 7)) (Int32.toInt64 (fH_slope a2 a3 m)) m ha1 ho2) ?_
    refine tk_Ps  3 (pc' := 32) (ls' := [(0, .ref 39), (1, .ref a1), (2, .ref a2), (3, .int a3)]) (st' := [.ref a2, .long (2 : Int64), .ref a1]) rfl ?_
    refine tk_HI  rfl rfl ha2 ?_
    refine tk_Ps  3 (pc' := 38) (ls' := [(0, .ref 39), (1, .ref a1), (2, .ref a2), (3, .int a3)]) (st' := [.ref 39, .ref a1, .long (Int32.toInt64 (o2.1 a2 5)), .long (2 : Int64), .ref a1]) rfl ?_
    refine tk_HR  rfl rfl ly39 rt39_5 ?_
    refine tk_cV1  rfl rfl (r := a1) (as := [.ref 62]) (rest := [.long (Int32.toInt64 (o2.1 a2 5)), .long (2 : Int64), .ref a1]) rfl ha1 rfl rfl (ok_fV_straightProduct sc a1 62 o2 ha1 ly62) ?_
    refine tk_Ps  2 (pc' := 46) (ls' := [(0, .ref 39), (1, .ref a1), (2, .ref a2), (3, .int a3)]) (st' := [.long ((2 : Int64) * ((Int32.toInt64 (o2.1 a2 5)) - (fV_straightProduct a1 62 o2))), .ref a1]) rfl ?_
    refine tk_SJ  rfl rfl ha1 ?_
    refine tk_Ps  1 (pc' := 105) (ls' := [(0, .ref 39), (1, .ref a1), (2, .ref a2), (3, .int a3)]) (st' := []) rfl ?_
    subst h
    exact tk_RV  rfl rfl rfl
  · replace h := tk_ifF hc1 h
    refine tk_bF  rfl rfl tk_eB_eq (c := (m.2.2.1 a2 0) = true) hc1 (pc' := 52) (ls' := [(0, .ref 39), (1, .ref a1), (2, .ref a2), (3, .int a3)]) (st' := []) ?_
    refine tk_Ps  2 (pc' := 54) (ls' := [(0, .ref 39), (1, .ref a1), (2, .ref a2), (3, .int a3)]) (st' := [.ref a2, .ref a1]) rfl ?_
    refine tk_HI  rfl rfl ha2 ?_
    refine tk_Ps  2 (pc' := 59) (ls' := [(0, .ref 39), (1, .ref a1), (2, .ref a2), (3, .int a3)]) (st' := [.ref 39, .long (Int32.toInt64 (m.1 a2 1)), .ref a1]) rfl ?_
    refine tk_HR  rfl rfl ly39 rt39_5 ?_
    refine tk_HJ  rfl rfl ly62 ?_
    refine tk_Ps  2 (pc' := 67) (ls' := [(0, .ref 39), (1, .ref a1), (2, .ref a2), (3, .int a3)]) (st' := [.ref a2, .long ((Int32.toInt64 (m.1 a2 1)) - (m.2.1 62 0)), .ref a1]) rfl ?_
    refine tk_HI  rfl rfl ha2 ?_
    refine tk_Ps  2 (pc' := 72) (ls' := [(0, .ref 39), (1, .ref a1), (2, .ref a2), (3, .int a3)]) (st' := [.ref 39, .long (Int32.toInt64 (m.1 a2 2)), .long ((Int32.toInt64 (m.1 a2 1)) - (m.2.1 62 0)), .ref a1]) rfl ?_
    refine tk_HR  rfl rfl ly39 rt39_5 ?_
    refine tk_HJ  rfl rfl ly62 ?_
    refine tk_Ps  3 (pc' := 81) (ls' := [(0, .ref 39), (1, .ref a1), (2, .ref a2), (3, .int a3)]) (st' := [.int a3, .ref a2, .long ((Int32.toInt64 (m.1 a2 2)) - (m.2.1 62 1)), .long ((Int32.toInt64 (m.1 a2 1)) - (m.2.1 62 0)), .ref a1]) rfl ?_
    refine tk_cV1  rfl rfl (r := a2) (as := [.int a3]) (rest := [.long ((Int32.toInt64 (m.1 a2 2)) - (m.2.1 62 1)), .long ((Int32.toInt64 (m.1 a2 1)) - (m.2.1 62 0)), .ref a1]) rfl ha2 rfl rfl (ok_fH_shift sc a2 a3 m ha2) ?_
    refine tk_Ps  2 (pc' := 86) (ls' := [(0, .ref 39), (1, .ref a1), (2, .ref a2), (3, .int a3)]) (st' := [.ref 39, .long (Int32.toInt64 (fH_shift a2 a3 m)), .long ((Int32.toInt64 (m.1 a2 2)) - (m.2.1 62 1)), .long ((Int32.toInt64 (m.1 a2 1)) - (m.2.1 62 0)), .ref a1]) rfl ?_
    refine tk_HR  rfl rfl ly39 rt39_5 ?_
    refine tk_HJ  rfl rfl ly62 ?_
    refine tk_Ps  1 (pc' := 93) (ls' := [(0, .ref 39), (1, .ref a1), (2, .ref a2), (3, .int a3)]) (st' := [.long ((Int32.toInt64 (fH_shift a2 a3 m)) + (m.2.1 62 2)), .long ((Int32.toInt64 (m.1 a2 2)) - (m.2.1 62 1)), .long ((Int32.toInt64 (m.1 a2 1)) - (m.2.1 62 0)), .ref a1]) rfl ?_
    obtain ⟨o3, ho3, h⟩ := tk_lete h
    refine tk_cV0  rfl rfl (r := a1) (as := [.long ((Int32.toInt64 (m.1 a2 1)) - (m.2.1 62 0)), .long ((Int32.toInt64 (m.1 a2 2)) - (m.2.1 62 1)), .long ((Int32.toInt64 (fH_shift a2 a3 m)) + (m.2.1 62 2))]) (rest := []) rfl ha1 rfl rfl (ok_fV_set sc a1 ((Int32.toInt64 (m.1 a2 1)) - (m.2.1 62 0)) ((Int32.toInt64 (m.1 a2 2)) - (m.2.1 62 1)) ((Int32.toInt64 (fH_shift a2 a3 m)) + (m.2.1 62 2)) m ha1 ho3) ?_
    refine tk_Ps  3 (pc' := 99) (ls' := [(0, .ref 39), (1, .ref a1), (2, .ref a2), (3, .int a3)]) (st' := [.ref a1, .ref a1, .ref a1]) rfl ?_
    refine tk_cV1  rfl rfl (r := a1) (as := [.ref a1]) (rest := [.ref a1]) rfl ha1 rfl rfl (ok_fV_bentProduct sc a1 a1 o3 ha1 ha1) ?_
    refine tk_SJ  rfl rfl ha1 ?_
    subst h
    exact tk_RV  rfl rfl rfl
theorem ok_fF_layPlanes_107 (sc : tk_X) (v3 : Int32) (m : tk_m) (out : Bool × tk_m) (h : fF_layPlanes_107 v3 m = some out) : tk_Ex sc 2 tk_r70 tk_k70 107 [(3, .int v3)] [] (tk_full m) (some (.int (tk_b out.1)), tk_full out.2) := by
  unfold fF_layPlanes_107 at h
  refine tk_Ps  1 (pc' := 108) (ls' := [(3, .int v3)]) (st' := [.int v3]) rfl ?_
  by_cases hc1 : v3 < 0
  · replace h := tk_ifT hc1 h
    refine tk_bT  rfl rfl rfl (c := v3 < 0) hc1 (pc' := 115) (ls' := [(3, .int v3)]) (st' := []) ?_
    refine tk_Ps  1 (pc' := 116) (ls' := [(3, .int v3)]) (st' := [.int (0 : Int32)]) rfl ?_
    replace h := Option.some.inj h
    subst h
    exact tk_RB (b := false)  rfl rfl rfl
  · replace h := tk_ifF hc1 h
    refine tk_bF  rfl rfl rfl (c := v3 < 0) hc1 (pc' := 111) (ls' := [(3, .int v3)]) (st' := []) ?_
    refine tk_Ps  2 (pc' := 116) (ls' := [(3, .int v3)]) (st' := [.int (1 : Int32)]) rfl ?_
    replace h := Option.some.inj h
    subst h
    exact tk_RB (b := true)  rfl rfl rfl
theorem ok_fF_layPlanes_63 (sc : tk_X) : ∀ (n : Nat) (v1 : Nat) (v2 : Int32) (v3 : Int32) (v4 : Int32) (v5 : Int32) (m : tk_m) (hv1 : tk_lay[v1]? = some (.inl 5)) (out : Bool × tk_m), fF_layPlanes_63 n v1 v2 v3 v4 v5 m = some out → tk_Ex sc 2 tk_r70 tk_k70 63 [(0, .ref 39), (1, .ref v1), (2, .int v2), (3, .int v3), (4, .int v4), (5, .int v5)] [] (tk_full m) (some (.int (tk_b out.1)), tk_full out.2) := by
  intro n
  induction n with
  | zero =>
    intro v1 v2 v3 v4 v5 m hv1 out h
    cases h
  | succ n ih =>
    intro v1 v2 v3 v4 v5 m hv1 out h
    unfold fF_layPlanes_63 at h
    refine tk_Ps  2 (pc' := 66) (ls' := [(0, .ref 39), (1, .ref v1), (2, .int v2), (3, .int v3), (4, .int v4), (5, .int v5)]) (st' := [.int (3 : Int32), .int v5]) rfl ?_
    by_cases hc1 : (3 : Int32) ≤ v5
    · replace h := tk_ifT hc1 h
      refine tk_bT  rfl rfl rfl (c := (3 : Int32) ≤ v5) hc1 (pc' := 107) (ls' := [(0, .ref 39), (1, .ref v1), (2, .int v2), (3, .int v3), (4, .int v4), (5, .int v5)]) (st' := []) ?_
      refine tk_Kp  (ls' := [(3, .int v3)]) rfl rfl ?_
      exact ok_fF_layPlanes_107 sc v3 m _ h
    · replace h := tk_ifF hc1 h
      refine tk_bF  rfl rfl rfl (c := (3 : Int32) ≤ v5) hc1 (pc' := 69) (ls' := [(0, .ref 39), (1, .ref v1), (2, .int v2), (3, .int v3), (4, .int v4), (5, .int v5)]) (st' := []) ?_
      refine tk_Ps  2 (pc' := 72) (ls' := [(0, .ref 39), (1, .ref v1), (2, .int v2), (3, .int v3), (4, .int v4), (5, .int v5)]) (st' := [.int v3, .int v5]) rfl ?_
      by_cases hc2 : v5 = v3
      · replace h := tk_ifT hc2 h
        refine tk_bT  rfl rfl rfl (c := v5 = v3) hc2 (pc' := 101) (ls' := [(0, .ref 39), (1, .ref v1), (2, .int v2), (3, .int v3), (4, .int v4), (5, .int v5)]) (st' := []) ?_
        refine tk_Ps  2 (pc' := 63) (ls' := [(5, .int (v5 + (1 : Int32))), (0, .ref 39), (1, .ref v1), (2, .int v2), (3, .int v3), (4, .int v4)]) (st' := []) rfl ?_
        refine tk_Kp  (ls' := [(0, .ref 39), (1, .ref v1), (2, .int v2), (3, .int v3), (4, .int v4), (5, .int (v5 + (1 : Int32)))]) rfl rfl ?_
        exact ih v1 v2 v3 v4 (v5 + (1 : Int32)) m hv1 _ h
      · replace h := tk_ifF hc2 h
        refine tk_bF  rfl rfl rfl (c := v5 = v3) hc2 (pc' := 75) (ls' := [(0, .ref 39), (1, .ref v1), (2, .int v2), (3, .int v3), (4, .int v4), (5, .int v5)]) (st' := []) ?_
        refine tk_Ps  2 (pc' := 77) (ls' := [(0, .ref 39), (1, .ref v1), (2, .int v2), (3, .int v3), (4, .int v4), (5, .int v5)]) (st' := [.ref 39, .ref 39]) rfl ?_
        refine tk_HR  rfl rfl ly39 rt39_6 ?_
        refine tk_Ps  1 (pc' := 82) (ls' := [(0, .ref 39), (1, .ref v1), (2, .int v2), (3, .int v3), (4, .int v4), (5, .int v5)]) (st' := [.int v4, .ref 63, .ref 39]) rfl ?_
        obtain ⟨hg3, h⟩ := tk_grd h
        refine tk_HQ  rfl rfl ly63 hg3 (la63 _ (hg3).2).1 ?_
        refine tk_Ps  2 (pc' := 86) (ls' := [(0, .ref 39), (1, .ref v1), (2, .int v2), (3, .int v3), (4, .int v4), (5, .int v5)]) (st' := [.int v5, .ref v1, .ref (199 + (tk_n v4)), .ref 39]) rfl ?_
        obtain ⟨o4, ho4, h⟩ := tk_bnd h
        refine tk_cV1  rfl rfl (r := v1) (as := [.int v5]) (rest := [.ref (199 + (tk_n v4)), .ref 39]) rfl hv1 rfl rfl (ok_fS_given sc v1 v5 m hv1 ho4) ?_
        refine tk_Ps  2 (pc' := 92) (ls' := [(0, .ref 39), (1, .ref v1), (2, .int v2), (3, .int v3), (4, .int v4), (5, .int v5)]) (st' := [.int v5, .int v2, .ref o4, .ref (199 + (tk_n v4)), .ref 39]) rfl ?_
        refine tk_cS1  rfl rfl (as := [.int v2, .int v5]) (rest := [.ref o4, .ref (199 + (tk_n v4)), .ref 39]) rfl rfl rfl (ok_fF_hasBit sc v2 v5 m) ?_
        obtain ⟨o5, ho5, h⟩ := tk_lete h
        refine tk_cV0  rfl rfl (r := 39) (as := [.ref (199 + (tk_n v4)), .ref o4, .int (tk_b (fF_hasBit v2 v5))]) (rest := []) rfl ly39 rfl rfl (ok_fF_layPlane sc (199 + (tk_n v4)) o4 (tk_b (fF_hasBit v2 v5)) m ((la63 _ (hg3).2).2) (lay_fS_given sc v1 v5 m hv1 ho4) ho5) ?_
        refine tk_Ps  3 (pc' := 63) (ls' := [(5, .int (v5 + (1 : Int32))), (4, .int (v4 + (1 : Int32))), (0, .ref 39), (1, .ref v1), (2, .int v2), (3, .int v3)]) (st' := []) rfl ?_
        refine tk_Kp  (ls' := [(0, .ref 39), (1, .ref v1), (2, .int v2), (3, .int v3), (4, .int (v4 + (1 : Int32))), (5, .int (v5 + (1 : Int32)))]) rfl rfl ?_
        exact ih v1 v2 v3 (v4 + (1 : Int32)) (v5 + (1 : Int32)) o5 hv1 _ h
theorem ok_fF_layPlanes (sc : tk_X) (a1 : Nat) (a2 : Int32) (m : tk_m) (ha1 : tk_lay[a1]? = some (.inl 5)) {out : Bool × tk_m} (h : fF_layPlanes a1 a2 m = some out) : tk_Ru sc 3 70 [.ref 39, .ref a1, .int a2] (tk_full m) (some (.int (tk_b out.1)), tk_full out.2) := by
  unfold fF_layPlanes at h
  refine tk_Ru0 me70 (ls := [(0, .ref 39), (1, .ref a1), (2, .int a2)]) rfl rfl ?_
  refine tk_Ps  1 (pc' := 1) (ls' := [(0, .ref 39), (1, .ref a1), (2, .int a2)]) (st' := [.ref a1]) rfl ?_
  obtain ⟨o1, ho1, h⟩ := tk_bnd h
  refine tk_cS1  rfl rfl (as := [.ref a1]) (rest := []) rfl rfl rfl (ok_fF_firstRound sc a1 m ha1 ho1) ?_
  refine tk_Ps  2 (pc' := 6) (ls' := [(3, .int o1), (0, .ref 39), (1, .ref a1), (2, .int a2)]) (st' := [.ref 39]) rfl ?_
  refine tk_HR  rfl rfl ly39 rt39_5 ?_
  refine tk_Ps  3 (pc' := 12) (ls' := [(3, .int o1), (0, .ref 39), (1, .ref a1), (2, .int a2)]) (st' := [.long (0 : Int64), .long (0 : Int64), .long (0 : Int64), .ref 62]) rfl ?_
  obtain ⟨o2, ho2, h⟩ := tk_lete h
  refine tk_cV0  rfl rfl (r := 62) (as := [.long (0 : Int64), .long (0 : Int64), .long (0 : Int64)]) (rest := []) rfl ly62 rfl rfl (ok_fV_set sc 62 (0 : Int64) (0 : Int64) (0 : Int64) m ly62 ho2) ?_
  refine tk_Ps  1 (pc' := 16) (ls' := [(3, .int o1), (0, .ref 39), (1, .ref a1), (2, .int a2)]) (st' := [.int o1]) rfl ?_
  by_cases hc3 : o1 < 0
  · replace h := tk_ifT hc3 h
    refine tk_bT  rfl rfl rfl (c := o1 < 0) hc3 (pc' := 57) (ls' := [(3, .int o1), (0, .ref 39), (1, .ref a1), (2, .int a2)]) (st' := []) ?_
    refine tk_Ps  4 (pc' := 63) (ls' := [(5, .int (0 : Int32)), (4, .int (0 : Int32)), (3, .int o1), (0, .ref 39), (1, .ref a1), (2, .int a2)]) (st' := []) rfl ?_
    refine tk_Kp  (ls' := [(0, .ref 39), (1, .ref a1), (2, .int a2), (3, .int o1), (4, .int (0 : Int32)), (5, .int (0 : Int32))]) rfl rfl ?_
    exact ok_fF_layPlanes_63 sc tk_F a1 a2 o1 (0 : Int32) (0 : Int32) o2 ha1 _ h
  · replace h := tk_ifF hc3 h
    refine tk_bF  rfl rfl rfl (c := o1 < 0) hc3 (pc' := 19) (ls' := [(3, .int o1), (0, .ref 39), (1, .ref a1), (2, .int a2)]) (st' := []) ?_
    refine tk_Ps  2 (pc' := 21) (ls' := [(3, .int o1), (0, .ref 39), (1, .ref a1), (2, .int a2)]) (st' := [.int o1, .ref a1]) rfl ?_
    obtain ⟨o4, ho4, h⟩ := tk_bnd h
    refine tk_cV1  rfl rfl (r := a1) (as := [.int o1]) (rest := []) rfl ha1 rfl rfl (ok_fS_given sc a1 o1 o2 ha1 ho4) ?_
    refine tk_Ps  2 (pc' := 27) (ls' := [(4, .ref o4), (3, .int o1), (0, .ref 39), (1, .ref a1), (2, .int a2)]) (st' := [.ref 39]) rfl ?_
    refine tk_HR  rfl rfl ly39 rt39_5 ?_
    refine tk_Ps  1 (pc' := 32) (ls' := [(4, .ref o4), (3, .int o1), (0, .ref 39), (1, .ref a1), (2, .int a2)]) (st' := [.ref o4, .ref 62]) rfl ?_
    refine tk_HI  rfl rfl (lay_fS_given sc a1 o1 o2 ha1 ho4) ?_
    refine tk_Ps  2 (pc' := 38) (ls' := [(4, .ref o4), (3, .int o1), (0, .ref 39), (1, .ref a1), (2, .int a2)]) (st' := [.ref o4, .long (Int32.toInt64 (o2.1 o4 1)), .ref 62]) rfl ?_
    refine tk_HI  rfl rfl (lay_fS_given sc a1 o1 o2 ha1 ho4) ?_
    refine tk_Ps  4 (pc' := 46) (ls' := [(4, .ref o4), (3, .int o1), (0, .ref 39), (1, .ref a1), (2, .int a2)]) (st' := [.int o1, .int a2, .ref o4, .long (Int32.toInt64 (o2.1 o4 2)), .long (Int32.toInt64 (o2.1 o4 1)), .ref 62]) rfl ?_
    refine tk_cS1  rfl rfl (as := [.int a2, .int o1]) (rest := [.ref o4, .long (Int32.toInt64 (o2.1 o4 2)), .long (Int32.toInt64 (o2.1 o4 1)), .ref 62]) rfl rfl rfl (ok_fF_hasBit sc a2 o1 o2) ?_
    refine tk_cV1  rfl rfl (r := o4) (as := [.int (tk_b (fF_hasBit a2 o1))]) (rest := [.long (Int32.toInt64 (o2.1 o4 2)), .long (Int32.toInt64 (o2.1 o4 1)), .ref 62]) rfl (lay_fS_given sc a1 o1 o2 ha1 ho4) rfl rfl (ok_fH_shift sc o4 (tk_b (fF_hasBit a2 o1)) o2 (lay_fS_given sc a1 o1 o2 ha1 ho4)) ?_
    refine tk_Ps  2 (pc' := 54) (ls' := [(4, .ref o4), (3, .int o1), (0, .ref 39), (1, .ref a1), (2, .int a2)]) (st' := [.long (Int32.toInt64 (-(fH_shift o4 (tk_b (fF_hasBit a2 o1)) o2))), .long (Int32.toInt64 (o2.1 o4 2)), .long (Int32.toInt64 (o2.1 o4 1)), .ref 62]) rfl ?_
    obtain ⟨o5, ho5, h⟩ := tk_lete h
    refine tk_cV0  rfl rfl (r := 62) (as := [.long (Int32.toInt64 (o2.1 o4 1)), .long (Int32.toInt64 (o2.1 o4 2)), .long (Int32.toInt64 (-(fH_shift o4 (tk_b (fF_hasBit a2 o1)) o2)))]) (rest := []) rfl ly62 rfl rfl (ok_fV_set sc 62 (Int32.toInt64 (o2.1 o4 1)) (Int32.toInt64 (o2.1 o4 2)) (Int32.toInt64 (-(fH_shift o4 (tk_b (fF_hasBit a2 o1)) o2))) o2 ly62 ho5) ?_
    refine tk_Ps  4 (pc' := 63) (ls' := [(5, .int (0 : Int32)), (4, .int (0 : Int32)), (3, .int o1), (0, .ref 39), (1, .ref a1), (2, .int a2)]) (st' := []) rfl ?_
    refine tk_Kp  (ls' := [(0, .ref 39), (1, .ref a1), (2, .int a2), (3, .int o1), (4, .int (0 : Int32)), (5, .int (0 : Int32))]) rfl rfl ?_
    exact ok_fF_layPlanes_63 sc tk_F a1 a2 o1 (0 : Int32) (0 : Int32) o5 ha1 _ h
theorem ok_fV_takeCross (sc : tk_X) (t : Nat) (a1 : Nat) (a2 : Nat) (m : tk_m) (ht : tk_lay[t]? = some (.inl 8)) (ha1 : tk_lay[a1]? = some (.inl 8)) (ha2 : tk_lay[a2]? = some (.inl 8)) {out : tk_m} (h : fV_takeCross t a1 a2 m = out) : tk_Ru sc 2 79 [.ref t, .ref a1, .ref a2] (tk_full m) (none, tk_full out) := by
  unfold fV_takeCross at h
  refine tk_Ru0 me79 (ls := [(0, .ref t), (1, .ref a1), (2, .ref a2)]) rfl rfl ?_
  refine tk_Ps  2 (pc' := 2) (ls' := [(0, .ref t), (1, .ref a1), (2, .ref a2)]) (st' := [.ref a1, .ref t]) rfl ?_
  refine tk_HJ  rfl rfl ha1 ?_
  refine tk_Ps  1 (pc' := 6) (ls' := [(0, .ref t), (1, .ref a1), (2, .ref a2)]) (st' := [.ref a2, .long (m.2.1 a1 1), .ref t]) rfl ?_
  refine tk_HJ  rfl rfl ha2 ?_
  refine tk_Ps  2 (pc' := 11) (ls' := [(0, .ref t), (1, .ref a1), (2, .ref a2)]) (st' := [.ref a1, .long ((m.2.1 a1 1) * (m.2.1 a2 2)), .ref t]) rfl ?_
  refine tk_HJ  rfl rfl ha1 ?_
  refine tk_Ps  1 (pc' := 15) (ls' := [(0, .ref t), (1, .ref a1), (2, .ref a2)]) (st' := [.ref a2, .long (m.2.1 a1 2), .long ((m.2.1 a1 1) * (m.2.1 a2 2)), .ref t]) rfl ?_
  refine tk_HJ  rfl rfl ha2 ?_
  refine tk_Ps  3 (pc' := 21) (ls' := [(0, .ref t), (1, .ref a1), (2, .ref a2)]) (st' := [.ref a1, .long (((m.2.1 a1 1) * (m.2.1 a2 2)) - ((m.2.1 a1 2) * (m.2.1 a2 1))), .ref t]) rfl ?_
  refine tk_HJ  rfl rfl ha1 ?_
  refine tk_Ps  1 (pc' := 25) (ls' := [(0, .ref t), (1, .ref a1), (2, .ref a2)]) (st' := [.ref a2, .long (m.2.1 a1 2), .long (((m.2.1 a1 1) * (m.2.1 a2 2)) - ((m.2.1 a1 2) * (m.2.1 a2 1))), .ref t]) rfl ?_
  refine tk_HJ  rfl rfl ha2 ?_
  refine tk_Ps  2 (pc' := 30) (ls' := [(0, .ref t), (1, .ref a1), (2, .ref a2)]) (st' := [.ref a1, .long ((m.2.1 a1 2) * (m.2.1 a2 0)), .long (((m.2.1 a1 1) * (m.2.1 a2 2)) - ((m.2.1 a1 2) * (m.2.1 a2 1))), .ref t]) rfl ?_
  refine tk_HJ  rfl rfl ha1 ?_
  refine tk_Ps  1 (pc' := 34) (ls' := [(0, .ref t), (1, .ref a1), (2, .ref a2)]) (st' := [.ref a2, .long (m.2.1 a1 0), .long ((m.2.1 a1 2) * (m.2.1 a2 0)), .long (((m.2.1 a1 1) * (m.2.1 a2 2)) - ((m.2.1 a1 2) * (m.2.1 a2 1))), .ref t]) rfl ?_
  refine tk_HJ  rfl rfl ha2 ?_
  refine tk_Ps  3 (pc' := 40) (ls' := [(0, .ref t), (1, .ref a1), (2, .ref a2)]) (st' := [.ref a1, .long (((m.2.1 a1 2) * (m.2.1 a2 0)) - ((m.2.1 a1 0) * (m.2.1 a2 2))), .long (((m.2.1 a1 1) * (m.2.1 a2 2)) - ((m.2.1 a1 2) * (m.2.1 a2 1))), .ref t]) rfl ?_
  refine tk_HJ  rfl rfl ha1 ?_
  refine tk_Ps  1 (pc' := 44) (ls' := [(0, .ref t), (1, .ref a1), (2, .ref a2)]) (st' := [.ref a2, .long (m.2.1 a1 0), .long (((m.2.1 a1 2) * (m.2.1 a2 0)) - ((m.2.1 a1 0) * (m.2.1 a2 2))), .long (((m.2.1 a1 1) * (m.2.1 a2 2)) - ((m.2.1 a1 2) * (m.2.1 a2 1))), .ref t]) rfl ?_
  refine tk_HJ  rfl rfl ha2 ?_
  refine tk_Ps  2 (pc' := 49) (ls' := [(0, .ref t), (1, .ref a1), (2, .ref a2)]) (st' := [.ref a1, .long ((m.2.1 a1 0) * (m.2.1 a2 1)), .long (((m.2.1 a1 2) * (m.2.1 a2 0)) - ((m.2.1 a1 0) * (m.2.1 a2 2))), .long (((m.2.1 a1 1) * (m.2.1 a2 2)) - ((m.2.1 a1 2) * (m.2.1 a2 1))), .ref t]) rfl ?_
  refine tk_HJ  rfl rfl ha1 ?_
  refine tk_Ps  1 (pc' := 53) (ls' := [(0, .ref t), (1, .ref a1), (2, .ref a2)]) (st' := [.ref a2, .long (m.2.1 a1 1), .long ((m.2.1 a1 0) * (m.2.1 a2 1)), .long (((m.2.1 a1 2) * (m.2.1 a2 0)) - ((m.2.1 a1 0) * (m.2.1 a2 2))), .long (((m.2.1 a1 1) * (m.2.1 a2 2)) - ((m.2.1 a1 2) * (m.2.1 a2 1))), .ref t]) rfl ?_
  refine tk_HJ  rfl rfl ha2 ?_
  refine tk_Ps  2 (pc' := 58) (ls' := [(0, .ref t), (1, .ref a1), (2, .ref a2)]) (st' := [.long (((m.2.1 a1 0) * (m.2.1 a2 1)) - ((m.2.1 a1 1) * (m.2.1 a2 0))), .long (((m.2.1 a1 2) * (m.2.1 a2 0)) - ((m.2.1 a1 0) * (m.2.1 a2 2))), .long (((m.2.1 a1 1) * (m.2.1 a2 2)) - ((m.2.1 a1 2) * (m.2.1 a2 1))), .ref t]) rfl ?_
  obtain ⟨o1, ho1, h⟩ := tk_lete h
  refine tk_cV0  rfl rfl (r := t) (as := [.long (((m.2.1 a1 1) * (m.2.1 a2 2)) - ((m.2.1 a1 2) * (m.2.1 a2 1))), .long (((m.2.1 a1 2) * (m.2.1 a2 0)) - ((m.2.1 a1 0) * (m.2.1 a2 2))), .long (((m.2.1 a1 0) * (m.2.1 a2 1)) - ((m.2.1 a1 1) * (m.2.1 a2 0)))]) (rest := []) rfl ht rfl rfl (ok_fV_set sc t (((m.2.1 a1 1) * (m.2.1 a2 2)) - ((m.2.1 a1 2) * (m.2.1 a2 1))) (((m.2.1 a1 2) * (m.2.1 a2 0)) - ((m.2.1 a1 0) * (m.2.1 a2 2))) (((m.2.1 a1 0) * (m.2.1 a2 1)) - ((m.2.1 a1 1) * (m.2.1 a2 0))) m ht ho1) ?_
  subst h
  exact tk_RV  rfl rfl rfl
theorem ok_fV_isZero (sc : tk_X) (t : Nat) (m : tk_m) (ht : tk_lay[t]? = some (.inl 8)) : tk_Ru sc 1 80 [.ref t] (tk_full m) (some (.int (tk_b (fV_isZero t m))), tk_full m) := by
  obtain ⟨out, h⟩ : ∃ out, fV_isZero t m = out := ⟨_, rfl⟩
  rw [h]
  unfold fV_isZero at h
  refine tk_Ru0 me80 (ls := [(0, .ref t)]) rfl rfl ?_
  refine tk_Ps  1 (pc' := 1) (ls' := [(0, .ref t)]) (st' := [.ref t]) rfl ?_
  refine tk_HJ  rfl rfl ht ?_
  refine tk_Ps  2 (pc' := 6) (ls' := [(0, .ref t)]) (st' := [.int (lg_cmp (m.2.1 t 0) (0 : Int64))]) rfl ?_
  by_cases hc1 : (m.2.1 t 0) = (0 : Int64)
  · replace h := tk_ifT hc1 h
    refine tk_bT  rfl rfl tk_eL_ne (c := (m.2.1 t 0) = (0 : Int64)) hc1 (pc' := 9) (ls' := [(0, .ref t)]) (st' := []) ?_
    refine tk_Ps  1 (pc' := 10) (ls' := [(0, .ref t)]) (st' := [.ref t]) rfl ?_
    refine tk_HJ  rfl rfl ht ?_
    refine tk_Ps  2 (pc' := 15) (ls' := [(0, .ref t)]) (st' := [.int (lg_cmp (m.2.1 t 1) (0 : Int64))]) rfl ?_
    by_cases hc2 : (m.2.1 t 1) = (0 : Int64)
    · replace h := tk_ifT hc2 h
      refine tk_bT  rfl rfl tk_eL_ne (c := (m.2.1 t 1) = (0 : Int64)) hc2 (pc' := 18) (ls' := [(0, .ref t)]) (st' := []) ?_
      refine tk_Ps  1 (pc' := 19) (ls' := [(0, .ref t)]) (st' := [.ref t]) rfl ?_
      refine tk_HJ  rfl rfl ht ?_
      refine tk_Ps  2 (pc' := 24) (ls' := [(0, .ref t)]) (st' := [.int (lg_cmp (m.2.1 t 2) (0 : Int64))]) rfl ?_
      by_cases hc3 : (m.2.1 t 2) = (0 : Int64)
      · replace h := tk_ifT hc3 h
        refine tk_bT  rfl rfl tk_eL_ne (c := (m.2.1 t 2) = (0 : Int64)) hc3 (pc' := 27) (ls' := [(0, .ref t)]) (st' := []) ?_
        refine tk_Ps  2 (pc' := 32) (ls' := [(0, .ref t)]) (st' := [.int (1 : Int32)]) rfl ?_
        subst h
        exact tk_RB (b := true)  rfl rfl rfl
      · replace h := tk_ifF hc3 h
        refine tk_bF  rfl rfl tk_eL_ne (c := (m.2.1 t 2) = (0 : Int64)) hc3 (pc' := 31) (ls' := [(0, .ref t)]) (st' := []) ?_
        refine tk_Ps  1 (pc' := 32) (ls' := [(0, .ref t)]) (st' := [.int (0 : Int32)]) rfl ?_
        subst h
        exact tk_RB (b := false)  rfl rfl rfl
    · replace h := tk_ifF hc2 h
      refine tk_bF  rfl rfl tk_eL_ne (c := (m.2.1 t 1) = (0 : Int64)) hc2 (pc' := 31) (ls' := [(0, .ref t)]) (st' := []) ?_
      refine tk_Ps  1 (pc' := 32) (ls' := [(0, .ref t)]) (st' := [.int (0 : Int32)]) rfl ?_
      subst h
      exact tk_RB (b := false)  rfl rfl rfl
  · replace h := tk_ifF hc1 h
    refine tk_bF  rfl rfl tk_eL_ne (c := (m.2.1 t 0) = (0 : Int64)) hc1 (pc' := 31) (ls' := [(0, .ref t)]) (st' := []) ?_
    refine tk_Ps  1 (pc' := 32) (ls' := [(0, .ref t)]) (st' := [.int (0 : Int32)]) rfl ?_
    subst h
    exact tk_RB (b := false)  rfl rfl rfl
theorem ok_fV_add (sc : tk_X) (t : Nat) (a1 : Int64) (a2 : Nat) (m : tk_m) (ht : tk_lay[t]? = some (.inl 8)) (ha2 : tk_lay[a2]? = some (.inl 8)) {out : tk_m} (h : fV_add t a1 a2 m = out) : tk_Ru sc 1 82 [.ref t, .long a1, .ref a2] (tk_full m) (none, tk_full out) := by
  unfold fV_add at h
  refine tk_Ru0 me82 (ls := [(0, .ref t), (1, .long a1), (3, .ref a2)]) rfl rfl ?_
  refine tk_Ps  2 (pc' := 2) (ls' := [(0, .ref t), (1, .long a1), (3, .ref a2)]) (st' := [.ref t, .ref t]) rfl ?_
  refine tk_HJ  rfl rfl ht ?_
  refine tk_Ps  2 (pc' := 7) (ls' := [(0, .ref t), (1, .long a1), (3, .ref a2)]) (st' := [.ref a2, .long a1, .long (m.2.1 t 0), .ref t]) rfl ?_
  refine tk_HJ  rfl rfl ha2 ?_
  refine tk_Ps  2 (pc' := 12) (ls' := [(0, .ref t), (1, .long a1), (3, .ref a2)]) (st' := [.long ((m.2.1 t 0) + (a1 * (m.2.1 a2 0))), .ref t]) rfl ?_
  refine tk_SJ  rfl rfl ht ?_
  refine tk_Ps  2 (pc' := 17) (ls' := [(0, .ref t), (1, .long a1), (3, .ref a2)]) (st' := [.ref t, .ref t]) rfl ?_
  refine tk_HJ  rfl rfl ht ?_
  refine tk_Ps  2 (pc' := 22) (ls' := [(0, .ref t), (1, .long a1), (3, .ref a2)]) (st' := [.ref a2, .long a1, .long (tk_u2 m.2.1 t 0 ((m.2.1 t 0) + (a1 * (m.2.1 a2 0))) t 1), .ref t]) rfl ?_
  refine tk_HJ  rfl rfl ha2 ?_
  refine tk_Ps  2 (pc' := 27) (ls' := [(0, .ref t), (1, .long a1), (3, .ref a2)]) (st' := [.long ((tk_u2 m.2.1 t 0 ((m.2.1 t 0) + (a1 * (m.2.1 a2 0))) t 1) + (a1 * (tk_u2 m.2.1 t 0 ((m.2.1 t 0) + (a1 * (m.2.1 a2 0))) a2 1))), .ref t]) rfl ?_
  refine tk_SJ  rfl rfl ht ?_
  refine tk_Ps  2 (pc' := 32) (ls' := [(0, .ref t), (1, .long a1), (3, .ref a2)]) (st' := [.ref t, .ref t]) rfl ?_
  refine tk_HJ  rfl rfl ht ?_
  refine tk_Ps  2 (pc' := 37) (ls' := [(0, .ref t), (1, .long a1), (3, .ref a2)]) (st' := [.ref a2, .long a1, .long (tk_u2 (tk_u2 m.2.1 t 0 ((m.2.1 t 0) + (a1 * (m.2.1 a2 0)))) t 1 ((tk_u2 m.2.1 t 0 ((m.2.1 t 0) + (a1 * (m.2.1 a2 0))) t 1) + (a1 * (tk_u2 m.2.1 t 0 ((m.2.1 t 0) + (a1 * (m.2.1 a2 0))) a2 1))) t 2), .ref t]) rfl ?_
  refine tk_HJ  rfl rfl ha2 ?_
  refine tk_Ps  2 (pc' := 42) (ls' := [(0, .ref t), (1, .long a1), (3, .ref a2)]) (st' := [.long ((tk_u2 (tk_u2 m.2.1 t 0 ((m.2.1 t 0) + (a1 * (m.2.1 a2 0)))) t 1 ((tk_u2 m.2.1 t 0 ((m.2.1 t 0) + (a1 * (m.2.1 a2 0))) t 1) + (a1 * (tk_u2 m.2.1 t 0 ((m.2.1 t 0) + (a1 * (m.2.1 a2 0))) a2 1))) t 2) + (a1 * (tk_u2 (tk_u2 m.2.1 t 0 ((m.2.1 t 0) + (a1 * (m.2.1 a2 0)))) t 1 ((tk_u2 m.2.1 t 0 ((m.2.1 t 0) + (a1 * (m.2.1 a2 0))) t 1) + (a1 * (tk_u2 m.2.1 t 0 ((m.2.1 t 0) + (a1 * (m.2.1 a2 0))) a2 1))) a2 2))), .ref t]) rfl ?_
  refine tk_SJ  rfl rfl ht ?_
  subst h
  exact tk_RV  rfl rfl rfl
theorem ok_fF_followEdge (sc : tk_X) (m : tk_m) {out : Bool × tk_m} (h : fF_followEdge m = out) : tk_Ru sc 3 81 [.ref 39] (tk_full m) (some (.int (tk_b out.1)), tk_full out.2) := by
  unfold fF_followEdge at h
  refine tk_Ru0 me81 (ls := [(0, .ref 39)]) rfl rfl ?_
  refine tk_Ps  1 (pc' := 1) (ls' := [(0, .ref 39)]) (st' := [.ref 39]) rfl ?_
  refine tk_HR  rfl rfl ly39 rt39_10 ?_
  refine tk_Ps  3 (pc' := 7) (ls' := [(0, .ref 39)]) (st' := [.long (0 : Int64), .long (0 : Int64), .long (0 : Int64), .ref 67]) rfl ?_
  obtain ⟨o1, ho1, h⟩ := tk_lete h
  refine tk_cV0  rfl rfl (r := 67) (as := [.long (0 : Int64), .long (0 : Int64), .long (0 : Int64)]) (rest := []) rfl ly67 rfl rfl (ok_fV_set sc 67 (0 : Int64) (0 : Int64) (0 : Int64) m ly67 ho1) ?_
  refine tk_Ps  1 (pc' := 11) (ls' := [(0, .ref 39)]) (st' := [.ref 39]) rfl ?_
  refine tk_HR  rfl rfl ly39 rt39_8 ?_
  refine tk_Ps  1 (pc' := 15) (ls' := [(0, .ref 39)]) (st' := [.ref 39, .ref 65]) rfl ?_
  refine tk_HR  rfl rfl ly39 rt39_6 ?_
  refine tk_Ps  1 (pc' := 19) (ls' := [(0, .ref 39)]) (st' := [.int (1 : Int32), .ref 63, .ref 65]) rfl ?_
  refine tk_HQ  rfl rfl ly63 (by decide) rt63_1 ?_
  refine tk_Ps  1 (pc' := 21) (ls' := [(0, .ref 39)]) (st' := [.ref 39, .ref 200, .ref 65]) rfl ?_
  refine tk_HR  rfl rfl ly39 rt39_7 ?_
  obtain ⟨o2, ho2, h⟩ := tk_lete h
  refine tk_cV0  rfl rfl (r := 65) (as := [.ref 200, .ref 64]) (rest := []) rfl ly65 rfl rfl (ok_fV_takeCross sc 65 200 64 o1 ly65 ly200 ly64 ho2) ?_
  refine tk_Ps  1 (pc' := 28) (ls' := [(0, .ref 39)]) (st' := [.ref 39]) rfl ?_
  refine tk_HR  rfl rfl ly39 rt39_10 ?_
  refine tk_Ps  1 (pc' := 32) (ls' := [(0, .ref 39)]) (st' := [.ref 39, .ref 67]) rfl ?_
  refine tk_HR  rfl rfl ly39 rt39_6 ?_
  refine tk_Ps  1 (pc' := 36) (ls' := [(0, .ref 39)]) (st' := [.int (0 : Int32), .ref 63, .ref 67]) rfl ?_
  refine tk_HQ  rfl rfl ly63 (by decide) rt63_0 ?_
  refine tk_HJ  rfl rfl ly199 ?_
  refine tk_Ps  1 (pc' := 41) (ls' := [(0, .ref 39)]) (st' := [.ref 39, .long (o2.2.1 199 3), .ref 67]) rfl ?_
  refine tk_HR  rfl rfl ly39 rt39_8 ?_
  obtain ⟨o3, ho3, h⟩ := tk_lete h
  refine tk_cV0  rfl rfl (r := 67) (as := [.long (o2.2.1 199 3), .ref 65]) (rest := []) rfl ly67 rfl rfl (ok_fV_add sc 67 (o2.2.1 199 3) 65 o2 ly67 ly65 ho3) ?_
  refine tk_Ps  1 (pc' := 48) (ls' := [(0, .ref 39)]) (st' := [.ref 39]) rfl ?_
  refine tk_HR  rfl rfl ly39 rt39_8 ?_
  refine tk_Ps  1 (pc' := 52) (ls' := [(0, .ref 39)]) (st' := [.ref 39, .ref 65]) rfl ?_
  refine tk_HR  rfl rfl ly39 rt39_7 ?_
  refine tk_Ps  1 (pc' := 56) (ls' := [(0, .ref 39)]) (st' := [.ref 39, .ref 64, .ref 65]) rfl ?_
  refine tk_HR  rfl rfl ly39 rt39_6 ?_
  refine tk_Ps  1 (pc' := 60) (ls' := [(0, .ref 39)]) (st' := [.int (0 : Int32), .ref 63, .ref 64, .ref 65]) rfl ?_
  refine tk_HQ  rfl rfl ly63 (by decide) rt63_0 ?_
  obtain ⟨o4, ho4, h⟩ := tk_lete h
  refine tk_cV0  rfl rfl (r := 65) (as := [.ref 64, .ref 199]) (rest := []) rfl ly65 rfl rfl (ok_fV_takeCross sc 65 64 199 o3 ly65 ly64 ly199 ho4) ?_
  refine tk_Ps  1 (pc' := 65) (ls' := [(0, .ref 39)]) (st' := [.ref 39]) rfl ?_
  refine tk_HR  rfl rfl ly39 rt39_10 ?_
  refine tk_Ps  1 (pc' := 69) (ls' := [(0, .ref 39)]) (st' := [.ref 39, .ref 67]) rfl ?_
  refine tk_HR  rfl rfl ly39 rt39_6 ?_
  refine tk_Ps  1 (pc' := 73) (ls' := [(0, .ref 39)]) (st' := [.int (1 : Int32), .ref 63, .ref 67]) rfl ?_
  refine tk_HQ  rfl rfl ly63 (by decide) rt63_1 ?_
  refine tk_HJ  rfl rfl ly200 ?_
  refine tk_Ps  1 (pc' := 78) (ls' := [(0, .ref 39)]) (st' := [.ref 39, .long (o4.2.1 200 3), .ref 67]) rfl ?_
  refine tk_HR  rfl rfl ly39 rt39_8 ?_
  obtain ⟨o5, ho5, h⟩ := tk_lete h
  refine tk_cV0  rfl rfl (r := 67) (as := [.long (o4.2.1 200 3), .ref 65]) (rest := []) rfl ly67 rfl rfl (ok_fV_add sc 67 (o4.2.1 200 3) 65 o4 ly67 ly65 ho5) ?_
  refine tk_Ps  1 (pc' := 85) (ls' := [(0, .ref 39)]) (st' := [.ref 39]) rfl ?_
  refine tk_HR  rfl rfl ly39 rt39_10 ?_
  refine tk_Ps  1 (pc' := 89) (ls' := [(0, .ref 39)]) (st' := [.ref 39, .ref 67]) rfl ?_
  refine tk_HR  rfl rfl ly39 rt39_7 ?_
  refine tk_cV1  rfl rfl (r := 67) (as := [.ref 64]) (rest := []) rfl ly67 rfl rfl (ok_fV_bentProduct sc 67 64 o5 ly67 ly64) ?_
  refine tk_Ps  2 (pc' := 97) (ls' := [(1, .long (fV_bentProduct 67 64 o5)), (0, .ref 39)]) (st' := [.ref 39]) rfl ?_
  refine tk_HR  rfl rfl ly39 rt39_10 ?_
  refine tk_Ps  1 (pc' := 101) (ls' := [(1, .long (fV_bentProduct 67 64 o5)), (0, .ref 39)]) (st' := [.ref 39, .ref 67]) rfl ?_
  refine tk_HR  rfl rfl ly39 rt39_10 ?_
  refine tk_cV1  rfl rfl (r := 67) (as := [.ref 67]) (rest := []) rfl ly67 rfl rfl (ok_fV_bentProduct sc 67 67 o5 ly67 ly67) ?_
  refine tk_Ps  4 (pc' := 111) (ls' := [(3, .long (fV_bentProduct 67 67 o5)), (1, .long (fV_bentProduct 67 64 o5)), (0, .ref 39)]) (st' := [.int (lg_cmp (fV_bentProduct 67 64 o5) (0 : Int64))]) rfl ?_
  by_cases hc6 : (fV_bentProduct 67 64 o5) = (0 : Int64)
  · replace h := tk_ifT hc6 h
    refine tk_bT  rfl rfl tk_eL_ne (c := (fV_bentProduct 67 64 o5) = (0 : Int64)) hc6 (pc' := 114) (ls' := [(3, .long (fV_bentProduct 67 67 o5)), (1, .long (fV_bentProduct 67 64 o5)), (0, .ref 39)]) (st' := []) ?_
    refine tk_Ps  2 (pc' := 118) (ls' := [(3, .long (fV_bentProduct 67 67 o5)), (1, .long (fV_bentProduct 67 64 o5)), (0, .ref 39)]) (st' := [.long (-1 : Int64), .ref 39]) rfl ?_
    refine tk_SJ  rfl rfl ly39 ?_
    refine tk_Ps  3 (pc' := 124) (ls' := [(3, .long (fV_bentProduct 67 67 o5)), (1, .long (fV_bentProduct 67 64 o5)), (0, .ref 39)]) (st' := [.int (lg_cmp (fV_bentProduct 67 67 o5) (0 : Int64))]) rfl ?_
    by_cases hc7 : (fV_bentProduct 67 67 o5) = (0 : Int64)
    · replace h := tk_ifT hc7 h
      refine tk_bT  rfl rfl tk_eL_ne (c := (fV_bentProduct 67 67 o5) = (0 : Int64)) hc7 (pc' := 127) (ls' := [(3, .long (fV_bentProduct 67 67 o5)), (1, .long (fV_bentProduct 67 64 o5)), (0, .ref 39)]) (st' := []) ?_
      refine tk_Ps  2 (pc' := 132) (ls' := [(3, .long (fV_bentProduct 67 67 o5)), (1, .long (fV_bentProduct 67 64 o5)), (0, .ref 39)]) (st' := [.int (1 : Int32)]) rfl ?_
      subst h
      exact tk_RB (b := true)  rfl rfl rfl
    · replace h := tk_ifF hc7 h
      refine tk_bF  rfl rfl tk_eL_ne (c := (fV_bentProduct 67 67 o5) = (0 : Int64)) hc7 (pc' := 131) (ls' := [(3, .long (fV_bentProduct 67 67 o5)), (1, .long (fV_bentProduct 67 64 o5)), (0, .ref 39)]) (st' := []) ?_
      refine tk_Ps  1 (pc' := 132) (ls' := [(3, .long (fV_bentProduct 67 67 o5)), (1, .long (fV_bentProduct 67 64 o5)), (0, .ref 39)]) (st' := [.int (0 : Int32)]) rfl ?_
      subst h
      exact tk_RB (b := false)  rfl rfl rfl
  · replace h := tk_ifF hc6 h
    refine tk_bF  rfl rfl tk_eL_ne (c := (fV_bentProduct 67 64 o5) = (0 : Int64)) hc6 (pc' := 133) (ls' := [(3, .long (fV_bentProduct 67 67 o5)), (1, .long (fV_bentProduct 67 64 o5)), (0, .ref 39)]) (st' := []) ?_
    refine tk_Ps  1 (pc' := 134) (ls' := [(3, .long (fV_bentProduct 67 67 o5)), (1, .long (fV_bentProduct 67 64 o5)), (0, .ref 39)]) (st' := [.ref 39]) rfl ?_
    refine tk_HR  rfl rfl ly39 rt39_9 ?_
    refine tk_Ps  3 (pc' := 140) (ls' := [(3, .long (fV_bentProduct 67 67 o5)), (1, .long (fV_bentProduct 67 64 o5)), (0, .ref 39)]) (st' := [.long (0 : Int64), .long (0 : Int64), .long (0 : Int64), .ref 66]) rfl ?_
    obtain ⟨o8, ho8, h⟩ := tk_lete h
    refine tk_cV0  rfl rfl (r := 66) (as := [.long (0 : Int64), .long (0 : Int64), .long (0 : Int64)]) (rest := []) rfl ly66 rfl rfl (ok_fV_set sc 66 (0 : Int64) (0 : Int64) (0 : Int64) o5 ly66 ho8) ?_
    refine tk_Ps  1 (pc' := 144) (ls' := [(3, .long (fV_bentProduct 67 67 o5)), (1, .long (fV_bentProduct 67 64 o5)), (0, .ref 39)]) (st' := [.ref 39]) rfl ?_
    refine tk_HR  rfl rfl ly39 rt39_9 ?_
    refine tk_Ps  4 (pc' := 153) (ls' := [(3, .long (fV_bentProduct 67 67 o5)), (1, .long (fV_bentProduct 67 64 o5)), (0, .ref 39)]) (st' := [.ref 39, .long ((2 : Int64) * (fV_bentProduct 67 64 o5)), .ref 66]) rfl ?_
    refine tk_HR  rfl rfl ly39 rt39_10 ?_
    obtain ⟨o9, ho9, h⟩ := tk_lete h
    refine tk_cV0  rfl rfl (r := 66) (as := [.long ((2 : Int64) * (fV_bentProduct 67 64 o5)), .ref 67]) (rest := []) rfl ly66 rfl rfl (ok_fV_add sc 66 ((2 : Int64) * (fV_bentProduct 67 64 o5)) 67 o8 ly66 ly67 ho9) ?_
    refine tk_Ps  1 (pc' := 160) (ls' := [(3, .long (fV_bentProduct 67 67 o5)), (1, .long (fV_bentProduct 67 64 o5)), (0, .ref 39)]) (st' := [.ref 39]) rfl ?_
    refine tk_HR  rfl rfl ly39 rt39_9 ?_
    refine tk_Ps  3 (pc' := 166) (ls' := [(3, .long (fV_bentProduct 67 67 o5)), (1, .long (fV_bentProduct 67 64 o5)), (0, .ref 39)]) (st' := [.ref 39, .long (-(fV_bentProduct 67 67 o5)), .ref 66]) rfl ?_
    refine tk_HR  rfl rfl ly39 rt39_7 ?_
    obtain ⟨o10, ho10, h⟩ := tk_lete h
    refine tk_cV0  rfl rfl (r := 66) (as := [.long (-(fV_bentProduct 67 67 o5)), .ref 64]) (rest := []) rfl ly66 rfl rfl (ok_fV_add sc 66 (-(fV_bentProduct 67 67 o5)) 64 o9 ly66 ly64 ho10) ?_
    refine tk_Ps  2 (pc' := 174) (ls' := [(3, .long (fV_bentProduct 67 67 o5)), (1, .long (fV_bentProduct 67 64 o5)), (0, .ref 39)]) (st' := [.long (0 : Int64), .ref 39]) rfl ?_
    refine tk_SJ  rfl rfl ly39 ?_
    refine tk_Ps  5 (pc' := 184) (ls' := [(3, .long (fV_bentProduct 67 67 o5)), (1, .long (fV_bentProduct 67 64 o5)), (0, .ref 39)]) (st' := [.ref 39, .long ((4 : Int64) * (fV_bentProduct 67 64 o5)), .ref 39]) rfl ?_
    refine tk_HR  rfl rfl ly39 rt39_7 ?_
    refine tk_Ps  1 (pc' := 188) (ls' := [(3, .long (fV_bentProduct 67 67 o5)), (1, .long (fV_bentProduct 67 64 o5)), (0, .ref 39)]) (st' := [.ref 39, .ref 64, .long ((4 : Int64) * (fV_bentProduct 67 64 o5)), .ref 39]) rfl ?_
    refine tk_HR  rfl rfl ly39 rt39_7 ?_
    refine tk_cV1  rfl rfl (r := 64) (as := [.ref 64]) (rest := [.long ((4 : Int64) * (fV_bentProduct 67 64 o5)), .ref 39]) rfl ly64 rfl rfl (ok_fV_straightProduct sc 64 64 (o10.1, tk_u2 o10.2.1 39 12 (0 : Int64), o10.2.2.1, o10.2.2.2) ly64 ly64) ?_
    refine tk_Ps  1 (pc' := 195) (ls' := [(3, .long (fV_bentProduct 67 67 o5)), (1, .long (fV_bentProduct 67 64 o5)), (0, .ref 39)]) (st' := [.long (((4 : Int64) * (fV_bentProduct 67 64 o5)) * (fV_straightProduct 64 64 (o10.1, tk_u2 o10.2.1 39 12 (0 : Int64), o10.2.2.1, o10.2.2.2))), .ref 39]) rfl ?_
    refine tk_SJ  rfl rfl ly39 ?_
    refine tk_Ps  1 (pc' := 199) (ls' := [(3, .long (fV_bentProduct 67 67 o5)), (1, .long (fV_bentProduct 67 64 o5)), (0, .ref 39)]) (st' := [.int (0 : Int32)]) rfl ?_
    subst h
    exact tk_RB (b := false)  rfl rfl rfl
theorem ok_fV_addBent (sc : tk_X) (t : Nat) (a1 : Int64) (a2 : Nat) (m : tk_m) (ht : tk_lay[t]? = some (.inl 8)) (ha2 : tk_lay[a2]? = some (.inl 8)) {out : tk_m} (h : fV_addBent t a1 a2 m = out) : tk_Ru sc 1 84 [.ref t, .long a1, .ref a2] (tk_full m) (none, tk_full out) := by
  unfold fV_addBent at h
  refine tk_Ru0 me84 (ls := [(0, .ref t), (1, .long a1), (3, .ref a2)]) rfl rfl ?_
  refine tk_Ps  2 (pc' := 2) (ls' := [(0, .ref t), (1, .long a1), (3, .ref a2)]) (st' := [.ref t, .ref t]) rfl ?_
  refine tk_HJ  rfl rfl ht ?_
  refine tk_Ps  2 (pc' := 7) (ls' := [(0, .ref t), (1, .long a1), (3, .ref a2)]) (st' := [.ref a2, .long a1, .long (m.2.1 t 0), .ref t]) rfl ?_
  refine tk_HJ  rfl rfl ha2 ?_
  refine tk_Ps  2 (pc' := 12) (ls' := [(0, .ref t), (1, .long a1), (3, .ref a2)]) (st' := [.long ((m.2.1 t 0) + (a1 * (m.2.1 a2 0))), .ref t]) rfl ?_
  refine tk_SJ  rfl rfl ht ?_
  refine tk_Ps  2 (pc' := 17) (ls' := [(0, .ref t), (1, .long a1), (3, .ref a2)]) (st' := [.ref t, .ref t]) rfl ?_
  refine tk_HJ  rfl rfl ht ?_
  refine tk_Ps  2 (pc' := 22) (ls' := [(0, .ref t), (1, .long a1), (3, .ref a2)]) (st' := [.ref a2, .long a1, .long (tk_u2 m.2.1 t 0 ((m.2.1 t 0) + (a1 * (m.2.1 a2 0))) t 1), .ref t]) rfl ?_
  refine tk_HJ  rfl rfl ha2 ?_
  refine tk_Ps  2 (pc' := 27) (ls' := [(0, .ref t), (1, .long a1), (3, .ref a2)]) (st' := [.long ((tk_u2 m.2.1 t 0 ((m.2.1 t 0) + (a1 * (m.2.1 a2 0))) t 1) + (a1 * (tk_u2 m.2.1 t 0 ((m.2.1 t 0) + (a1 * (m.2.1 a2 0))) a2 1))), .ref t]) rfl ?_
  refine tk_SJ  rfl rfl ht ?_
  refine tk_Ps  2 (pc' := 32) (ls' := [(0, .ref t), (1, .long a1), (3, .ref a2)]) (st' := [.ref t, .ref t]) rfl ?_
  refine tk_HJ  rfl rfl ht ?_
  refine tk_Ps  2 (pc' := 37) (ls' := [(0, .ref t), (1, .long a1), (3, .ref a2)]) (st' := [.ref a2, .long a1, .long (tk_u2 (tk_u2 m.2.1 t 0 ((m.2.1 t 0) + (a1 * (m.2.1 a2 0)))) t 1 ((tk_u2 m.2.1 t 0 ((m.2.1 t 0) + (a1 * (m.2.1 a2 0))) t 1) + (a1 * (tk_u2 m.2.1 t 0 ((m.2.1 t 0) + (a1 * (m.2.1 a2 0))) a2 1))) t 2), .ref t]) rfl ?_
  refine tk_HJ  rfl rfl ha2 ?_
  refine tk_Ps  2 (pc' := 42) (ls' := [(0, .ref t), (1, .long a1), (3, .ref a2)]) (st' := [.long ((tk_u2 (tk_u2 m.2.1 t 0 ((m.2.1 t 0) + (a1 * (m.2.1 a2 0)))) t 1 ((tk_u2 m.2.1 t 0 ((m.2.1 t 0) + (a1 * (m.2.1 a2 0))) t 1) + (a1 * (tk_u2 m.2.1 t 0 ((m.2.1 t 0) + (a1 * (m.2.1 a2 0))) a2 1))) t 2) - (a1 * (tk_u2 (tk_u2 m.2.1 t 0 ((m.2.1 t 0) + (a1 * (m.2.1 a2 0)))) t 1 ((tk_u2 m.2.1 t 0 ((m.2.1 t 0) + (a1 * (m.2.1 a2 0))) t 1) + (a1 * (tk_u2 m.2.1 t 0 ((m.2.1 t 0) + (a1 * (m.2.1 a2 0))) a2 1))) a2 2))), .ref t]) rfl ?_
  refine tk_SJ  rfl rfl ht ?_
  subst h
  exact tk_RV  rfl rfl rfl
theorem ok_fF_pierceCone (sc : tk_X) (a1 : Nat) (a2 : Nat) (m : tk_m) (ha1 : tk_lay[a1]? = some (.inl 8)) (ha2 : tk_lay[a2]? = some (.inl 8)) {out : tk_m} (h : fF_pierceCone a1 a2 m = out) : tk_Ru sc 2 83 [.ref 39, .ref a1, .ref a2] (tk_full m) (none, tk_full out) := by
  unfold fF_pierceCone at h
  refine tk_Ru0 me83 (ls := [(0, .ref 39), (1, .ref a1), (2, .ref a2)]) rfl rfl ?_
  refine tk_Ps  2 (pc' := 2) (ls' := [(0, .ref 39), (1, .ref a1), (2, .ref a2)]) (st' := [.ref a1, .ref a1]) rfl ?_
  refine tk_cV1  rfl rfl (r := a1) (as := [.ref a1]) (rest := []) rfl ha1 rfl rfl (ok_fV_bentProduct sc a1 a1 m ha1 ha1) ?_
  refine tk_Ps  3 (pc' := 8) (ls' := [(3, .long (fV_bentProduct a1 a1 m)), (0, .ref 39), (1, .ref a1), (2, .ref a2)]) (st' := [.ref a2, .ref a1]) rfl ?_
  refine tk_cV1  rfl rfl (r := a1) (as := [.ref a2]) (rest := []) rfl ha1 rfl rfl (ok_fV_bentProduct sc a1 a2 m ha1 ha2) ?_
  refine tk_Ps  3 (pc' := 15) (ls' := [(5, .long (fV_bentProduct a1 a2 m)), (3, .long (fV_bentProduct a1 a1 m)), (0, .ref 39), (1, .ref a1), (2, .ref a2)]) (st' := [.ref a2, .ref a2]) rfl ?_
  refine tk_cV1  rfl rfl (r := a2) (as := [.ref a2]) (rest := []) rfl ha2 rfl rfl (ok_fV_bentProduct sc a2 a2 m ha2 ha2) ?_
  refine tk_Ps  3 (pc' := 23) (ls' := [(7, .long (fV_bentProduct a2 a2 m)), (5, .long (fV_bentProduct a1 a2 m)), (3, .long (fV_bentProduct a1 a1 m)), (0, .ref 39), (1, .ref a1), (2, .ref a2)]) (st' := [.ref a2, .long (fV_bentProduct a1 a2 m)]) rfl ?_
  refine tk_HJ  rfl rfl ha2 ?_
  refine tk_Ps  3 (pc' := 30) (ls' := [(7, .long (fV_bentProduct a2 a2 m)), (5, .long (fV_bentProduct a1 a2 m)), (3, .long (fV_bentProduct a1 a1 m)), (0, .ref 39), (1, .ref a1), (2, .ref a2)]) (st' := [.ref a1, .long (fV_bentProduct a2 a2 m), .long ((fV_bentProduct a1 a2 m) * (m.2.1 a2 3))]) rfl ?_
  refine tk_HJ  rfl rfl ha1 ?_
  refine tk_Ps  5 (pc' := 40) (ls' := [(9, .long (((fV_bentProduct a1 a2 m) * (m.2.1 a2 3)) - ((fV_bentProduct a2 a2 m) * (m.2.1 a1 3)))), (7, .long (fV_bentProduct a2 a2 m)), (5, .long (fV_bentProduct a1 a2 m)), (3, .long (fV_bentProduct a1 a1 m)), (0, .ref 39), (1, .ref a1), (2, .ref a2)]) (st' := [.ref a1, .long (fV_bentProduct a1 a2 m)]) rfl ?_
  refine tk_HJ  rfl rfl ha1 ?_
  refine tk_Ps  3 (pc' := 46) (ls' := [(9, .long (((fV_bentProduct a1 a2 m) * (m.2.1 a2 3)) - ((fV_bentProduct a2 a2 m) * (m.2.1 a1 3)))), (7, .long (fV_bentProduct a2 a2 m)), (5, .long (fV_bentProduct a1 a2 m)), (3, .long (fV_bentProduct a1 a1 m)), (0, .ref 39), (1, .ref a1), (2, .ref a2)]) (st' := [.ref a2, .long (fV_bentProduct a1 a1 m), .long ((fV_bentProduct a1 a2 m) * (m.2.1 a1 3))]) rfl ?_
  refine tk_HJ  rfl rfl ha2 ?_
  refine tk_Ps  4 (pc' := 54) (ls' := [(11, .long (((fV_bentProduct a1 a2 m) * (m.2.1 a1 3)) - ((fV_bentProduct a1 a1 m) * (m.2.1 a2 3)))), (9, .long (((fV_bentProduct a1 a2 m) * (m.2.1 a2 3)) - ((fV_bentProduct a2 a2 m) * (m.2.1 a1 3)))), (7, .long (fV_bentProduct a2 a2 m)), (5, .long (fV_bentProduct a1 a2 m)), (3, .long (fV_bentProduct a1 a1 m)), (0, .ref 39), (1, .ref a1), (2, .ref a2)]) (st' := [.ref 39]) rfl ?_
  refine tk_HR  rfl rfl ly39 rt39_9 ?_
  refine tk_Ps  3 (pc' := 60) (ls' := [(11, .long (((fV_bentProduct a1 a2 m) * (m.2.1 a1 3)) - ((fV_bentProduct a1 a1 m) * (m.2.1 a2 3)))), (9, .long (((fV_bentProduct a1 a2 m) * (m.2.1 a2 3)) - ((fV_bentProduct a2 a2 m) * (m.2.1 a1 3)))), (7, .long (fV_bentProduct a2 a2 m)), (5, .long (fV_bentProduct a1 a2 m)), (3, .long (fV_bentProduct a1 a1 m)), (0, .ref 39), (1, .ref a1), (2, .ref a2)]) (st' := [.long (0 : Int64), .long (0 : Int64), .long (0 : Int64), .ref 66]) rfl ?_
  obtain ⟨o1, ho1, h⟩ := tk_lete h
  refine tk_cV0  rfl rfl (r := 66) (as := [.long (0 : Int64), .long (0 : Int64), .long (0 : Int64)]) (rest := []) rfl ly66 rfl rfl (ok_fV_set sc 66 (0 : Int64) (0 : Int64) (0 : Int64) m ly66 ho1) ?_
  refine tk_Ps  1 (pc' := 64) (ls' := [(11, .long (((fV_bentProduct a1 a2 m) * (m.2.1 a1 3)) - ((fV_bentProduct a1 a1 m) * (m.2.1 a2 3)))), (9, .long (((fV_bentProduct a1 a2 m) * (m.2.1 a2 3)) - ((fV_bentProduct a2 a2 m) * (m.2.1 a1 3)))), (7, .long (fV_bentProduct a2 a2 m)), (5, .long (fV_bentProduct a1 a2 m)), (3, .long (fV_bentProduct a1 a1 m)), (0, .ref 39), (1, .ref a1), (2, .ref a2)]) (st' := [.ref 39]) rfl ?_
  refine tk_HR  rfl rfl ly39 rt39_9 ?_
  refine tk_Ps  2 (pc' := 70) (ls' := [(11, .long (((fV_bentProduct a1 a2 m) * (m.2.1 a1 3)) - ((fV_bentProduct a1 a1 m) * (m.2.1 a2 3)))), (9, .long (((fV_bentProduct a1 a2 m) * (m.2.1 a2 3)) - ((fV_bentProduct a2 a2 m) * (m.2.1 a1 3)))), (7, .long (fV_bentProduct a2 a2 m)), (5, .long (fV_bentProduct a1 a2 m)), (3, .long (fV_bentProduct a1 a1 m)), (0, .ref 39), (1, .ref a1), (2, .ref a2)]) (st' := [.ref a1, .long (((fV_bentProduct a1 a2 m) * (m.2.1 a2 3)) - ((fV_bentProduct a2 a2 m) * (m.2.1 a1 3))), .ref 66]) rfl ?_
  obtain ⟨o2, ho2, h⟩ := tk_lete h
  refine tk_cV0  rfl rfl (r := 66) (as := [.long (((fV_bentProduct a1 a2 m) * (m.2.1 a2 3)) - ((fV_bentProduct a2 a2 m) * (m.2.1 a1 3))), .ref a1]) (rest := []) rfl ly66 rfl rfl (ok_fV_addBent sc 66 (((fV_bentProduct a1 a2 m) * (m.2.1 a2 3)) - ((fV_bentProduct a2 a2 m) * (m.2.1 a1 3))) a1 o1 ly66 ha1 ho2) ?_
  refine tk_Ps  1 (pc' := 74) (ls' := [(11, .long (((fV_bentProduct a1 a2 m) * (m.2.1 a1 3)) - ((fV_bentProduct a1 a1 m) * (m.2.1 a2 3)))), (9, .long (((fV_bentProduct a1 a2 m) * (m.2.1 a2 3)) - ((fV_bentProduct a2 a2 m) * (m.2.1 a1 3)))), (7, .long (fV_bentProduct a2 a2 m)), (5, .long (fV_bentProduct a1 a2 m)), (3, .long (fV_bentProduct a1 a1 m)), (0, .ref 39), (1, .ref a1), (2, .ref a2)]) (st' := [.ref 39]) rfl ?_
  refine tk_HR  rfl rfl ly39 rt39_9 ?_
  refine tk_Ps  2 (pc' := 80) (ls' := [(11, .long (((fV_bentProduct a1 a2 m) * (m.2.1 a1 3)) - ((fV_bentProduct a1 a1 m) * (m.2.1 a2 3)))), (9, .long (((fV_bentProduct a1 a2 m) * (m.2.1 a2 3)) - ((fV_bentProduct a2 a2 m) * (m.2.1 a1 3)))), (7, .long (fV_bentProduct a2 a2 m)), (5, .long (fV_bentProduct a1 a2 m)), (3, .long (fV_bentProduct a1 a1 m)), (0, .ref 39), (1, .ref a1), (2, .ref a2)]) (st' := [.ref a2, .long (((fV_bentProduct a1 a2 m) * (m.2.1 a1 3)) - ((fV_bentProduct a1 a1 m) * (m.2.1 a2 3))), .ref 66]) rfl ?_
  obtain ⟨o3, ho3, h⟩ := tk_lete h
  refine tk_cV0  rfl rfl (r := 66) (as := [.long (((fV_bentProduct a1 a2 m) * (m.2.1 a1 3)) - ((fV_bentProduct a1 a1 m) * (m.2.1 a2 3))), .ref a2]) (rest := []) rfl ly66 rfl rfl (ok_fV_addBent sc 66 (((fV_bentProduct a1 a2 m) * (m.2.1 a1 3)) - ((fV_bentProduct a1 a1 m) * (m.2.1 a2 3))) a2 o2 ly66 ha2 ho3) ?_
  refine tk_Ps  4 (pc' := 88) (ls' := [(11, .long (((fV_bentProduct a1 a2 m) * (m.2.1 a1 3)) - ((fV_bentProduct a1 a1 m) * (m.2.1 a2 3)))), (9, .long (((fV_bentProduct a1 a2 m) * (m.2.1 a2 3)) - ((fV_bentProduct a2 a2 m) * (m.2.1 a1 3)))), (7, .long (fV_bentProduct a2 a2 m)), (5, .long (fV_bentProduct a1 a2 m)), (3, .long (fV_bentProduct a1 a1 m)), (0, .ref 39), (1, .ref a1), (2, .ref a2)]) (st' := [.ref a1, .long (-(((fV_bentProduct a1 a2 m) * (m.2.1 a2 3)) - ((fV_bentProduct a2 a2 m) * (m.2.1 a1 3)))), .ref 39]) rfl ?_
  refine tk_HJ  rfl rfl ha1 ?_
  refine tk_Ps  3 (pc' := 95) (ls' := [(11, .long (((fV_bentProduct a1 a2 m) * (m.2.1 a1 3)) - ((fV_bentProduct a1 a1 m) * (m.2.1 a2 3)))), (9, .long (((fV_bentProduct a1 a2 m) * (m.2.1 a2 3)) - ((fV_bentProduct a2 a2 m) * (m.2.1 a1 3)))), (7, .long (fV_bentProduct a2 a2 m)), (5, .long (fV_bentProduct a1 a2 m)), (3, .long (fV_bentProduct a1 a1 m)), (0, .ref 39), (1, .ref a1), (2, .ref a2)]) (st' := [.ref a2, .long (((fV_bentProduct a1 a2 m) * (m.2.1 a1 3)) - ((fV_bentProduct a1 a1 m) * (m.2.1 a2 3))), .long ((-(((fV_bentProduct a1 a2 m) * (m.2.1 a2 3)) - ((fV_bentProduct a2 a2 m) * (m.2.1 a1 3)))) * (o3.2.1 a1 3)), .ref 39]) rfl ?_
  refine tk_HJ  rfl rfl ha2 ?_
  refine tk_Ps  2 (pc' := 100) (ls' := [(11, .long (((fV_bentProduct a1 a2 m) * (m.2.1 a1 3)) - ((fV_bentProduct a1 a1 m) * (m.2.1 a2 3)))), (9, .long (((fV_bentProduct a1 a2 m) * (m.2.1 a2 3)) - ((fV_bentProduct a2 a2 m) * (m.2.1 a1 3)))), (7, .long (fV_bentProduct a2 a2 m)), (5, .long (fV_bentProduct a1 a2 m)), (3, .long (fV_bentProduct a1 a1 m)), (0, .ref 39), (1, .ref a1), (2, .ref a2)]) (st' := [.long (((-(((fV_bentProduct a1 a2 m) * (m.2.1 a2 3)) - ((fV_bentProduct a2 a2 m) * (m.2.1 a1 3)))) * (o3.2.1 a1 3)) - ((((fV_bentProduct a1 a2 m) * (m.2.1 a1 3)) - ((fV_bentProduct a1 a1 m) * (m.2.1 a2 3))) * (o3.2.1 a2 3))), .ref 39]) rfl ?_
  refine tk_SJ  rfl rfl ly39 ?_
  refine tk_Ps  3 (pc' := 108) (ls' := [(11, .long (((fV_bentProduct a1 a2 m) * (m.2.1 a1 3)) - ((fV_bentProduct a1 a1 m) * (m.2.1 a2 3)))), (9, .long (((fV_bentProduct a1 a2 m) * (m.2.1 a2 3)) - ((fV_bentProduct a2 a2 m) * (m.2.1 a1 3)))), (7, .long (fV_bentProduct a2 a2 m)), (5, .long (fV_bentProduct a1 a2 m)), (3, .long (fV_bentProduct a1 a1 m)), (0, .ref 39), (1, .ref a1), (2, .ref a2)]) (st' := [.ref 39, .long (2 : Int64), .ref 39]) rfl ?_
  refine tk_HR  rfl rfl ly39 rt39_7 ?_
  refine tk_Ps  1 (pc' := 112) (ls' := [(11, .long (((fV_bentProduct a1 a2 m) * (m.2.1 a1 3)) - ((fV_bentProduct a1 a1 m) * (m.2.1 a2 3)))), (9, .long (((fV_bentProduct a1 a2 m) * (m.2.1 a2 3)) - ((fV_bentProduct a2 a2 m) * (m.2.1 a1 3)))), (7, .long (fV_bentProduct a2 a2 m)), (5, .long (fV_bentProduct a1 a2 m)), (3, .long (fV_bentProduct a1 a1 m)), (0, .ref 39), (1, .ref a1), (2, .ref a2)]) (st' := [.ref 39, .ref 64, .long (2 : Int64), .ref 39]) rfl ?_
  refine tk_HR  rfl rfl ly39 rt39_7 ?_
  refine tk_cV1  rfl rfl (r := 64) (as := [.ref 64]) (rest := [.long (2 : Int64), .ref 39]) rfl ly64 rfl rfl (ok_fV_bentProduct sc 64 64 (o3.1, tk_u2 o3.2.1 39 12 (((-(((fV_bentProduct a1 a2 m) * (m.2.1 a2 3)) - ((fV_bentProduct a2 a2 m) * (m.2.1 a1 3)))) * (o3.2.1 a1 3)) - ((((fV_bentProduct a1 a2 m) * (m.2.1 a1 3)) - ((fV_bentProduct a1 a1 m) * (m.2.1 a2 3))) * (o3.2.1 a2 3))), o3.2.2.1, o3.2.2.2) ly64 ly64) ?_
  refine tk_Ps  1 (pc' := 119) (ls' := [(11, .long (((fV_bentProduct a1 a2 m) * (m.2.1 a1 3)) - ((fV_bentProduct a1 a1 m) * (m.2.1 a2 3)))), (9, .long (((fV_bentProduct a1 a2 m) * (m.2.1 a2 3)) - ((fV_bentProduct a2 a2 m) * (m.2.1 a1 3)))), (7, .long (fV_bentProduct a2 a2 m)), (5, .long (fV_bentProduct a1 a2 m)), (3, .long (fV_bentProduct a1 a1 m)), (0, .ref 39), (1, .ref a1), (2, .ref a2)]) (st' := [.long ((2 : Int64) * (fV_bentProduct 64 64 (o3.1, tk_u2 o3.2.1 39 12 (((-(((fV_bentProduct a1 a2 m) * (m.2.1 a2 3)) - ((fV_bentProduct a2 a2 m) * (m.2.1 a1 3)))) * (o3.2.1 a1 3)) - ((((fV_bentProduct a1 a2 m) * (m.2.1 a1 3)) - ((fV_bentProduct a1 a1 m) * (m.2.1 a2 3))) * (o3.2.1 a2 3))), o3.2.2.1, o3.2.2.2))), .ref 39]) rfl ?_
  refine tk_SJ  rfl rfl ly39 ?_
  subst h
  exact tk_RV  rfl rfl rfl
theorem ok_fF_meetCone (sc : tk_X) (m : tk_m) {out : Bool × tk_m} (h : fF_meetCone m = out) : tk_Ru sc 4 78 [.ref 39] (tk_full m) (some (.int (tk_b out.1)), tk_full out.2) := by
  unfold fF_meetCone at h
  refine tk_Ru0 me78 (ls := [(0, .ref 39)]) rfl rfl ?_
  refine tk_Ps  1 (pc' := 1) (ls' := [(0, .ref 39)]) (st' := [.ref 39]) rfl ?_
  refine tk_HR  rfl rfl ly39 rt39_7 ?_
  refine tk_Ps  1 (pc' := 5) (ls' := [(0, .ref 39)]) (st' := [.ref 39, .ref 64]) rfl ?_
  refine tk_HR  rfl rfl ly39 rt39_6 ?_
  refine tk_Ps  1 (pc' := 9) (ls' := [(0, .ref 39)]) (st' := [.int (0 : Int32), .ref 63, .ref 64]) rfl ?_
  refine tk_HQ  rfl rfl ly63 (by decide) rt63_0 ?_
  refine tk_Ps  1 (pc' := 11) (ls' := [(0, .ref 39)]) (st' := [.ref 39, .ref 199, .ref 64]) rfl ?_
  refine tk_HR  rfl rfl ly39 rt39_6 ?_
  refine tk_Ps  1 (pc' := 15) (ls' := [(0, .ref 39)]) (st' := [.int (1 : Int32), .ref 63, .ref 199, .ref 64]) rfl ?_
  refine tk_HQ  rfl rfl ly63 (by decide) rt63_1 ?_
  obtain ⟨o1, ho1, h⟩ := tk_lete h
  refine tk_cV0  rfl rfl (r := 64) (as := [.ref 199, .ref 200]) (rest := []) rfl ly64 rfl rfl (ok_fV_takeCross sc 64 199 200 m ly64 ly199 ly200 ho1) ?_
  refine tk_Ps  1 (pc' := 20) (ls' := [(0, .ref 39)]) (st' := [.ref 39]) rfl ?_
  refine tk_HR  rfl rfl ly39 rt39_7 ?_
  refine tk_cV1  rfl rfl (r := 64) (as := []) (rest := []) rfl ly64 rfl rfl (ok_fV_isZero sc 64 o1 ly64) ?_
  by_cases hc2 : (fV_isZero 64 o1) = true
  · replace h := tk_ifT hc2 h
    refine tk_bT  rfl rfl tk_eB_eq (c := (fV_isZero 64 o1) = true) hc2 (pc' := 29) (ls' := [(0, .ref 39)]) (st' := []) ?_
    refine tk_Ps  1 (pc' := 30) (ls' := [(0, .ref 39)]) (st' := [.int (1 : Int32)]) rfl ?_
    subst h
    exact tk_RB (b := true)  rfl rfl rfl
  · replace h := tk_ifF hc2 h
    refine tk_bF  rfl rfl tk_eB_eq (c := (fV_isZero 64 o1) = true) hc2 (pc' := 31) (ls' := [(0, .ref 39)]) (st' := []) ?_
    refine tk_Ps  1 (pc' := 32) (ls' := [(0, .ref 39)]) (st' := [.ref 39]) rfl ?_
    refine tk_HR  rfl rfl ly39 rt39_7 ?_
    refine tk_Ps  1 (pc' := 36) (ls' := [(0, .ref 39)]) (st' := [.ref 39, .ref 64]) rfl ?_
    refine tk_HR  rfl rfl ly39 rt39_7 ?_
    refine tk_cV1  rfl rfl (r := 64) (as := [.ref 64]) (rest := []) rfl ly64 rfl rfl (ok_fV_bentProduct sc 64 64 o1 ly64 ly64) ?_
    refine tk_Ps  2 (pc' := 44) (ls' := [(0, .ref 39)]) (st' := [.int (lg_cmp (fV_bentProduct 64 64 o1) (0 : Int64))]) rfl ?_
    by_cases hc3 : (fV_bentProduct 64 64 o1) = (0 : Int64)
    · replace h := tk_ifT hc3 h
      refine tk_bT  rfl rfl tk_eL_ne (c := (fV_bentProduct 64 64 o1) = (0 : Int64)) hc3 (pc' := 47) (ls' := [(0, .ref 39)]) (st' := []) ?_
      refine tk_Ps  1 (pc' := 48) (ls' := [(0, .ref 39)]) (st' := [.ref 39]) rfl ?_
      obtain ⟨o4, ho4, h⟩ := tk_lete h
      refine tk_cV1  rfl rfl (r := 39) (as := []) (rest := []) rfl ly39 rfl rfl (ok_fF_followEdge sc o1 ho4) ?_
      subst h
      exact tk_RB (b := o4.1)  rfl rfl rfl
    · replace h := tk_ifF hc3 h
      refine tk_bF  rfl rfl tk_eL_ne (c := (fV_bentProduct 64 64 o1) = (0 : Int64)) hc3 (pc' := 52) (ls' := [(0, .ref 39)]) (st' := []) ?_
      refine tk_Ps  2 (pc' := 54) (ls' := [(0, .ref 39)]) (st' := [.ref 39, .ref 39]) rfl ?_
      refine tk_HR  rfl rfl ly39 rt39_6 ?_
      refine tk_Ps  1 (pc' := 58) (ls' := [(0, .ref 39)]) (st' := [.int (0 : Int32), .ref 63, .ref 39]) rfl ?_
      refine tk_HQ  rfl rfl ly63 (by decide) rt63_0 ?_
      refine tk_Ps  1 (pc' := 60) (ls' := [(0, .ref 39)]) (st' := [.ref 39, .ref 199, .ref 39]) rfl ?_
      refine tk_HR  rfl rfl ly39 rt39_6 ?_
      refine tk_Ps  1 (pc' := 64) (ls' := [(0, .ref 39)]) (st' := [.int (1 : Int32), .ref 63, .ref 199, .ref 39]) rfl ?_
      refine tk_HQ  rfl rfl ly63 (by decide) rt63_1 ?_
      obtain ⟨o5, ho5, h⟩ := tk_lete h
      refine tk_cV0  rfl rfl (r := 39) (as := [.ref 199, .ref 200]) (rest := []) rfl ly39 rfl rfl (ok_fF_pierceCone sc 199 200 o1 ly199 ly200 ho5) ?_
      refine tk_Ps  1 (pc' := 69) (ls' := [(0, .ref 39)]) (st' := [.int (0 : Int32)]) rfl ?_
      subst h
      exact tk_RB (b := false)  rfl rfl rfl
theorem ok_fF_meetPlanes (sc : tk_X) (m : tk_m) {out : Bool × tk_m} (h : fF_meetPlanes m = out) : tk_Ru sc 3 85 [.ref 39] (tk_full m) (some (.int (tk_b out.1)), tk_full out.2) := by
  unfold fF_meetPlanes at h
  refine tk_Ru0 me85 (ls := [(0, .ref 39)]) rfl rfl ?_
  refine tk_Ps  1 (pc' := 1) (ls' := [(0, .ref 39)]) (st' := [.ref 39]) rfl ?_
  refine tk_HR  rfl rfl ly39 rt39_8 ?_
  refine tk_Ps  1 (pc' := 5) (ls' := [(0, .ref 39)]) (st' := [.ref 39, .ref 65]) rfl ?_
  refine tk_HR  rfl rfl ly39 rt39_6 ?_
  refine tk_Ps  1 (pc' := 9) (ls' := [(0, .ref 39)]) (st' := [.int (1 : Int32), .ref 63, .ref 65]) rfl ?_
  refine tk_HQ  rfl rfl ly63 (by decide) rt63_1 ?_
  refine tk_Ps  1 (pc' := 11) (ls' := [(0, .ref 39)]) (st' := [.ref 39, .ref 200, .ref 65]) rfl ?_
  refine tk_HR  rfl rfl ly39 rt39_6 ?_
  refine tk_Ps  1 (pc' := 15) (ls' := [(0, .ref 39)]) (st' := [.int (2 : Int32), .ref 63, .ref 200, .ref 65]) rfl ?_
  refine tk_HQ  rfl rfl ly63 (by decide) rt63_2 ?_
  obtain ⟨o1, ho1, h⟩ := tk_lete h
  refine tk_cV0  rfl rfl (r := 65) (as := [.ref 200, .ref 201]) (rest := []) rfl ly65 rfl rfl (ok_fV_takeCross sc 65 200 201 m ly65 ly200 ly201 ho1) ?_
  refine tk_Ps  1 (pc' := 20) (ls' := [(0, .ref 39)]) (st' := [.ref 39]) rfl ?_
  refine tk_HR  rfl rfl ly39 rt39_6 ?_
  refine tk_Ps  1 (pc' := 24) (ls' := [(0, .ref 39)]) (st' := [.int (0 : Int32), .ref 63]) rfl ?_
  refine tk_HQ  rfl rfl ly63 (by decide) rt63_0 ?_
  refine tk_Ps  1 (pc' := 26) (ls' := [(0, .ref 39)]) (st' := [.ref 39, .ref 199]) rfl ?_
  refine tk_HR  rfl rfl ly39 rt39_8 ?_
  refine tk_cV1  rfl rfl (r := 199) (as := [.ref 65]) (rest := []) rfl ly199 rfl rfl (ok_fV_straightProduct sc 199 65 o1 ly199 ly65) ?_
  refine tk_Ps  4 (pc' := 36) (ls' := [(1, .long (fV_straightProduct 199 65 o1)), (0, .ref 39)]) (st' := [.int (lg_cmp (fV_straightProduct 199 65 o1) (0 : Int64))]) rfl ?_
  by_cases hc2 : (fV_straightProduct 199 65 o1) = (0 : Int64)
  · replace h := tk_ifT hc2 h
    refine tk_bT  rfl rfl tk_eL_ne (c := (fV_straightProduct 199 65 o1) = (0 : Int64)) hc2 (pc' := 39) (ls' := [(1, .long (fV_straightProduct 199 65 o1)), (0, .ref 39)]) (st' := []) ?_
    refine tk_Ps  1 (pc' := 40) (ls' := [(1, .long (fV_straightProduct 199 65 o1)), (0, .ref 39)]) (st' := [.int (1 : Int32)]) rfl ?_
    subst h
    exact tk_RB (b := true)  rfl rfl rfl
  · replace h := tk_ifF hc2 h
    refine tk_bF  rfl rfl tk_eL_ne (c := (fV_straightProduct 199 65 o1) = (0 : Int64)) hc2 (pc' := 41) (ls' := [(1, .long (fV_straightProduct 199 65 o1)), (0, .ref 39)]) (st' := []) ?_
    refine tk_Ps  1 (pc' := 42) (ls' := [(1, .long (fV_straightProduct 199 65 o1)), (0, .ref 39)]) (st' := [.ref 39]) rfl ?_
    refine tk_HR  rfl rfl ly39 rt39_9 ?_
    refine tk_Ps  3 (pc' := 48) (ls' := [(1, .long (fV_straightProduct 199 65 o1)), (0, .ref 39)]) (st' := [.long (0 : Int64), .long (0 : Int64), .long (0 : Int64), .ref 66]) rfl ?_
    obtain ⟨o3, ho3, h⟩ := tk_lete h
    refine tk_cV0  rfl rfl (r := 66) (as := [.long (0 : Int64), .long (0 : Int64), .long (0 : Int64)]) (rest := []) rfl ly66 rfl rfl (ok_fV_set sc 66 (0 : Int64) (0 : Int64) (0 : Int64) o1 ly66 ho3) ?_
    refine tk_Ps  1 (pc' := 52) (ls' := [(1, .long (fV_straightProduct 199 65 o1)), (0, .ref 39)]) (st' := [.ref 39]) rfl ?_
    refine tk_HR  rfl rfl ly39 rt39_9 ?_
    refine tk_Ps  1 (pc' := 56) (ls' := [(1, .long (fV_straightProduct 199 65 o1)), (0, .ref 39)]) (st' := [.ref 39, .ref 66]) rfl ?_
    refine tk_HR  rfl rfl ly39 rt39_6 ?_
    refine tk_Ps  1 (pc' := 60) (ls' := [(1, .long (fV_straightProduct 199 65 o1)), (0, .ref 39)]) (st' := [.int (0 : Int32), .ref 63, .ref 66]) rfl ?_
    refine tk_HQ  rfl rfl ly63 (by decide) rt63_0 ?_
    refine tk_HJ  rfl rfl ly199 ?_
    refine tk_Ps  1 (pc' := 65) (ls' := [(1, .long (fV_straightProduct 199 65 o1)), (0, .ref 39)]) (st' := [.ref 39, .long (o3.2.1 199 3), .ref 66]) rfl ?_
    refine tk_HR  rfl rfl ly39 rt39_8 ?_
    obtain ⟨o4, ho4, h⟩ := tk_lete h
    refine tk_cV0  rfl rfl (r := 66) (as := [.long (o3.2.1 199 3), .ref 65]) (rest := []) rfl ly66 rfl rfl (ok_fV_add sc 66 (o3.2.1 199 3) 65 o3 ly66 ly65 ho4) ?_
    refine tk_Ps  1 (pc' := 72) (ls' := [(1, .long (fV_straightProduct 199 65 o1)), (0, .ref 39)]) (st' := [.ref 39]) rfl ?_
    refine tk_HR  rfl rfl ly39 rt39_8 ?_
    refine tk_Ps  1 (pc' := 76) (ls' := [(1, .long (fV_straightProduct 199 65 o1)), (0, .ref 39)]) (st' := [.ref 39, .ref 65]) rfl ?_
    refine tk_HR  rfl rfl ly39 rt39_6 ?_
    refine tk_Ps  1 (pc' := 80) (ls' := [(1, .long (fV_straightProduct 199 65 o1)), (0, .ref 39)]) (st' := [.int (2 : Int32), .ref 63, .ref 65]) rfl ?_
    refine tk_HQ  rfl rfl ly63 (by decide) rt63_2 ?_
    refine tk_Ps  1 (pc' := 82) (ls' := [(1, .long (fV_straightProduct 199 65 o1)), (0, .ref 39)]) (st' := [.ref 39, .ref 201, .ref 65]) rfl ?_
    refine tk_HR  rfl rfl ly39 rt39_6 ?_
    refine tk_Ps  1 (pc' := 86) (ls' := [(1, .long (fV_straightProduct 199 65 o1)), (0, .ref 39)]) (st' := [.int (0 : Int32), .ref 63, .ref 201, .ref 65]) rfl ?_
    refine tk_HQ  rfl rfl ly63 (by decide) rt63_0 ?_
    obtain ⟨o5, ho5, h⟩ := tk_lete h
    refine tk_cV0  rfl rfl (r := 65) (as := [.ref 201, .ref 199]) (rest := []) rfl ly65 rfl rfl (ok_fV_takeCross sc 65 201 199 o4 ly65 ly201 ly199 ho5) ?_
    refine tk_Ps  1 (pc' := 91) (ls' := [(1, .long (fV_straightProduct 199 65 o1)), (0, .ref 39)]) (st' := [.ref 39]) rfl ?_
    refine tk_HR  rfl rfl ly39 rt39_9 ?_
    refine tk_Ps  1 (pc' := 95) (ls' := [(1, .long (fV_straightProduct 199 65 o1)), (0, .ref 39)]) (st' := [.ref 39, .ref 66]) rfl ?_
    refine tk_HR  rfl rfl ly39 rt39_6 ?_
    refine tk_Ps  1 (pc' := 99) (ls' := [(1, .long (fV_straightProduct 199 65 o1)), (0, .ref 39)]) (st' := [.int (1 : Int32), .ref 63, .ref 66]) rfl ?_
    refine tk_HQ  rfl rfl ly63 (by decide) rt63_1 ?_
    refine tk_HJ  rfl rfl ly200 ?_
    refine tk_Ps  1 (pc' := 104) (ls' := [(1, .long (fV_straightProduct 199 65 o1)), (0, .ref 39)]) (st' := [.ref 39, .long (o5.2.1 200 3), .ref 66]) rfl ?_
    refine tk_HR  rfl rfl ly39 rt39_8 ?_
    obtain ⟨o6, ho6, h⟩ := tk_lete h
    refine tk_cV0  rfl rfl (r := 66) (as := [.long (o5.2.1 200 3), .ref 65]) (rest := []) rfl ly66 rfl rfl (ok_fV_add sc 66 (o5.2.1 200 3) 65 o5 ly66 ly65 ho6) ?_
    refine tk_Ps  1 (pc' := 111) (ls' := [(1, .long (fV_straightProduct 199 65 o1)), (0, .ref 39)]) (st' := [.ref 39]) rfl ?_
    refine tk_HR  rfl rfl ly39 rt39_8 ?_
    refine tk_Ps  1 (pc' := 115) (ls' := [(1, .long (fV_straightProduct 199 65 o1)), (0, .ref 39)]) (st' := [.ref 39, .ref 65]) rfl ?_
    refine tk_HR  rfl rfl ly39 rt39_6 ?_
    refine tk_Ps  1 (pc' := 119) (ls' := [(1, .long (fV_straightProduct 199 65 o1)), (0, .ref 39)]) (st' := [.int (0 : Int32), .ref 63, .ref 65]) rfl ?_
    refine tk_HQ  rfl rfl ly63 (by decide) rt63_0 ?_
    refine tk_Ps  1 (pc' := 121) (ls' := [(1, .long (fV_straightProduct 199 65 o1)), (0, .ref 39)]) (st' := [.ref 39, .ref 199, .ref 65]) rfl ?_
    refine tk_HR  rfl rfl ly39 rt39_6 ?_
    refine tk_Ps  1 (pc' := 125) (ls' := [(1, .long (fV_straightProduct 199 65 o1)), (0, .ref 39)]) (st' := [.int (1 : Int32), .ref 63, .ref 199, .ref 65]) rfl ?_
    refine tk_HQ  rfl rfl ly63 (by decide) rt63_1 ?_
    obtain ⟨o7, ho7, h⟩ := tk_lete h
    refine tk_cV0  rfl rfl (r := 65) (as := [.ref 199, .ref 200]) (rest := []) rfl ly65 rfl rfl (ok_fV_takeCross sc 65 199 200 o6 ly65 ly199 ly200 ho7) ?_
    refine tk_Ps  1 (pc' := 130) (ls' := [(1, .long (fV_straightProduct 199 65 o1)), (0, .ref 39)]) (st' := [.ref 39]) rfl ?_
    refine tk_HR  rfl rfl ly39 rt39_9 ?_
    refine tk_Ps  1 (pc' := 134) (ls' := [(1, .long (fV_straightProduct 199 65 o1)), (0, .ref 39)]) (st' := [.ref 39, .ref 66]) rfl ?_
    refine tk_HR  rfl rfl ly39 rt39_6 ?_
    refine tk_Ps  1 (pc' := 138) (ls' := [(1, .long (fV_straightProduct 199 65 o1)), (0, .ref 39)]) (st' := [.int (2 : Int32), .ref 63, .ref 66]) rfl ?_
    refine tk_HQ  rfl rfl ly63 (by decide) rt63_2 ?_
    refine tk_HJ  rfl rfl ly201 ?_
    refine tk_Ps  1 (pc' := 143) (ls' := [(1, .long (fV_straightProduct 199 65 o1)), (0, .ref 39)]) (st' := [.ref 39, .long (o7.2.1 201 3), .ref 66]) rfl ?_
    refine tk_HR  rfl rfl ly39 rt39_8 ?_
    obtain ⟨o8, ho8, h⟩ := tk_lete h
    refine tk_cV0  rfl rfl (r := 66) (as := [.long (o7.2.1 201 3), .ref 65]) (rest := []) rfl ly66 rfl rfl (ok_fV_add sc 66 (o7.2.1 201 3) 65 o7 ly66 ly65 ho8) ?_
    refine tk_Ps  2 (pc' := 151) (ls' := [(1, .long (fV_straightProduct 199 65 o1)), (0, .ref 39)]) (st' := [.long (0 : Int64), .ref 39]) rfl ?_
    refine tk_SJ  rfl rfl ly39 ?_
    refine tk_Ps  4 (pc' := 160) (ls' := [(1, .long (fV_straightProduct 199 65 o1)), (0, .ref 39)]) (st' := [.long ((2 : Int64) * (fV_straightProduct 199 65 o1)), .ref 39]) rfl ?_
    refine tk_SJ  rfl rfl ly39 ?_
    refine tk_Ps  1 (pc' := 164) (ls' := [(1, .long (fV_straightProduct 199 65 o1)), (0, .ref 39)]) (st' := [.int (0 : Int32)]) rfl ?_
    subst h
    exact tk_RB (b := false)  rfl rfl rfl
theorem ok_fN_hold (sc : tk_X) (t : Nat) (a1 : Int64) (a2 : Int64) (a3 : Int64) (a4 : Int64) (m : tk_m) (ht : tk_lay[t]? = some (.inl 4)) {out : Bool × tk_m} (h : fN_hold t a1 a2 a3 a4 m = some out) : tk_Ru sc 3 87 [.ref t, .long a1, .long a2, .long a3, .long a4] (tk_full m) (some (.int (tk_b out.1)), tk_full out.2) := by
  unfold fN_hold at h
  refine tk_Ru0 me87 (ls := [(0, .ref t), (1, .long a1), (3, .long a2), (5, .long a3), (7, .long a4)]) rfl rfl ?_
  refine tk_Ps  1 (pc' := 1) (ls' := [(0, .ref t), (1, .long a1), (3, .long a2), (5, .long a3), (7, .long a4)]) (st' := [.ref t]) rfl ?_
  refine tk_HR  rfl rfl ht (ro4_1 ht) ?_
  refine tk_Ps  2 (pc' := 6) (ls' := [(0, .ref t), (1, .long a1), (3, .long a2), (5, .long a3), (7, .long a4)]) (st' := [.long a1, .int (0 : Int32), .ref (t + 1)]) rfl ?_
  refine tk_SJa  rfl rfl (lo4_1 ht) (by decide) ?_
  refine tk_Ps  1 (pc' := 8) (ls' := [(0, .ref t), (1, .long a1), (3, .long a2), (5, .long a3), (7, .long a4)]) (st' := [.ref t]) rfl ?_
  refine tk_HR  rfl rfl ht (ro4_1 ht) ?_
  refine tk_Ps  2 (pc' := 13) (ls' := [(0, .ref t), (1, .long a1), (3, .long a2), (5, .long a3), (7, .long a4)]) (st' := [.long a2, .int (1 : Int32), .ref (t + 1)]) rfl ?_
  refine tk_SJa  rfl rfl (lo4_1 ht) (by decide) ?_
  refine tk_Ps  1 (pc' := 15) (ls' := [(0, .ref t), (1, .long a1), (3, .long a2), (5, .long a3), (7, .long a4)]) (st' := [.ref t]) rfl ?_
  refine tk_HR  rfl rfl ht (ro4_1 ht) ?_
  refine tk_Ps  2 (pc' := 21) (ls' := [(0, .ref t), (1, .long a1), (3, .long a2), (5, .long a3), (7, .long a4)]) (st' := [.long a4, .int (2 : Int32), .ref (t + 1)]) rfl ?_
  refine tk_SJa  rfl rfl (lo4_1 ht) (by decide) ?_
  refine tk_Ps  2 (pc' := 24) (ls' := [(0, .ref t), (1, .long a1), (3, .long a2), (5, .long a3), (7, .long a4)]) (st' := [.ref t, .ref t]) rfl ?_
  refine tk_HR  rfl rfl ht (ro4_1 ht) ?_
  refine tk_Ps  1 (pc' := 28) (ls' := [(0, .ref t), (1, .long a1), (3, .long a2), (5, .long a3), (7, .long a4)]) (st' := [.int (2 : Int32), .ref (t + 1), .ref t]) rfl ?_
  obtain ⟨o1, ho1, h⟩ := tk_bnd h
  refine tk_cS1  rfl rfl (as := [.ref (t + 1), .int (2 : Int32)]) (rest := [.ref t]) rfl rfl rfl (ok_fK_lower sc (t + 1) (2 : Int32) (m.1, tk_u2 (tk_u2 (tk_u2 m.2.1 (t + 1) 0 a1) (t + 1) 1 a2) (t + 1) 2 a4, m.2.2.1, m.2.2.2) (tk_al_of (lo4_1 ht)) ho1) ?_
  refine tk_SB (b := o1.1)  rfl rfl ht ?_
  refine tk_Ps  2 (pc' := 36) (ls' := [(0, .ref t), (1, .long a1), (3, .long a2), (5, .long a3), (7, .long a4)]) (st' := [.ref t, .ref t]) rfl ?_
  refine tk_HR  rfl rfl ht (ro4_1 ht) ?_
  refine tk_Ps  1 (pc' := 40) (ls' := [(0, .ref t), (1, .long a1), (3, .long a2), (5, .long a3), (7, .long a4)]) (st' := [.int (1 : Int32), .ref (t + 1), .ref t]) rfl ?_
  refine tk_HJa  rfl rfl (lo4_1 ht) (by decide) ?_
  refine tk_Ps  2 (pc' := 43) (ls' := [(0, .ref t), (1, .long a1), (3, .long a2), (5, .long a3), (7, .long a4)]) (st' := [.int (lg_cmp (o1.2.2.1 (t + 1) 1) (0 : Int64)), .ref t]) rfl ?_
  by_cases hc2 : (o1.2.2.1 (t + 1) 1) = (0 : Int64)
  · replace h := tk_ifT hc2 h
    refine tk_bT  rfl rfl tk_eL_ne (c := (o1.2.2.1 (t + 1) 1) = (0 : Int64)) hc2 (pc' := 46) (ls' := [(0, .ref t), (1, .long a1), (3, .long a2), (5, .long a3), (7, .long a4)]) (st' := [.ref t]) ?_
    refine tk_Ps  2 (pc' := 52) (ls' := [(0, .ref t), (1, .long a1), (3, .long a2), (5, .long a3), (7, .long a4)]) (st' := [.long (0 : Int64), .ref t]) rfl ?_
    refine tk_SJ  rfl rfl ht ?_
    refine tk_Ps  1 (pc' := 56) (ls' := [(0, .ref t), (1, .long a1), (3, .long a2), (5, .long a3), (7, .long a4)]) (st' := [.ref t]) rfl ?_
    refine tk_HB  rfl rfl ht ?_
    replace h := Option.some.inj h
    subst h
    exact tk_RB (b := tk_u2 o1.2.2.2.1 t 0 o1.1 t 0)  rfl rfl rfl
  · replace h := tk_ifF hc2 h
    refine tk_bF  rfl rfl tk_eL_ne (c := (o1.2.2.1 (t + 1) 1) = (0 : Int64)) hc2 (pc' := 50) (ls' := [(0, .ref t), (1, .long a1), (3, .long a2), (5, .long a3), (7, .long a4)]) (st' := [.ref t]) ?_
    refine tk_Ps  1 (pc' := 52) (ls' := [(0, .ref t), (1, .long a1), (3, .long a2), (5, .long a3), (7, .long a4)]) (st' := [.long a3, .ref t]) rfl ?_
    refine tk_SJ  rfl rfl ht ?_
    refine tk_Ps  1 (pc' := 56) (ls' := [(0, .ref t), (1, .long a1), (3, .long a2), (5, .long a3), (7, .long a4)]) (st' := [.ref t]) rfl ?_
    refine tk_HB  rfl rfl ht ?_
    replace h := Option.some.inj h
    subst h
    exact tk_RB (b := tk_u2 o1.2.2.2.1 t 0 o1.1 t 0)  rfl rfl rfl
theorem ok_fN_floorOfRoot_7 (sc : tk_X) : ∀ (n : Nat) (v0 : Int64) (v2 : Int64) (v4 : Int64) (m : tk_m) (out : Int64), fN_floorOfRoot_7 n v0 v2 v4 = some out → tk_Ex sc 0 tk_r88 tk_k88 7 [(0, .long v0), (2, .long v2), (4, .long v4)] [] (tk_full m) (some (.long out), tk_full m) := by
  intro n
  induction n with
  | zero =>
    intro v0 v2 v4 m out h
    cases h
  | succ n ih =>
    intro v0 v2 v4 m out h
    unfold fN_floorOfRoot_7 at h
    refine tk_Ps  3 (pc' := 11) (ls' := [(0, .long v0), (2, .long v2), (4, .long v4)]) (st' := [.int (lg_cmp v4 (0 : Int64))]) rfl ?_
    by_cases hc1 : v4 ≤ (0 : Int64)
    · replace h := tk_ifT hc1 h
      refine tk_bT  rfl rfl tk_eL_le (c := v4 ≤ (0 : Int64)) hc1 (pc' := 42) (ls' := [(0, .long v0), (2, .long v2), (4, .long v4)]) (st' := []) ?_
      refine tk_Ps  1 (pc' := 43) (ls' := [(0, .long v0), (2, .long v2), (4, .long v4)]) (st' := [.long v2]) rfl ?_
      replace h := Option.some.inj h
      subst h
      exact tk_RJ  rfl rfl rfl
    · replace h := tk_ifF hc1 h
      refine tk_bF  rfl rfl tk_eL_le (c := v4 ≤ (0 : Int64)) hc1 (pc' := 14) (ls' := [(0, .long v0), (2, .long v2), (4, .long v4)]) (st' := []) ?_
      refine tk_Ps  9 (pc' := 25) (ls' := [(0, .long v0), (2, .long v2), (4, .long v4)]) (st' := [.int (lg_cmp ((v2 + v4) * (v2 + v4)) v0)]) rfl ?_
      by_cases hc2 : v0 < ((v2 + v4) * (v2 + v4))
      · replace h := tk_ifT hc2 h
        refine tk_bT  rfl rfl tk_eL_gt (c := v0 < ((v2 + v4) * (v2 + v4))) hc2 (pc' := 33) (ls' := [(0, .long v0), (2, .long v2), (4, .long v4)]) (st' := []) ?_
        refine tk_Ps  5 (pc' := 7) (ls' := [(4, .long (tk_lshr v4 (1 : Int32))), (0, .long v0), (2, .long v2)]) (st' := []) rfl ?_
        refine tk_Kp  (ls' := [(0, .long v0), (2, .long v2), (4, .long (tk_lshr v4 (1 : Int32)))]) rfl rfl ?_
        exact ih v0 v2 (tk_lshr v4 (1 : Int32)) m _ h
      · replace h := tk_ifF hc2 h
        refine tk_bF  rfl rfl tk_eL_gt (c := v0 < ((v2 + v4) * (v2 + v4))) hc2 (pc' := 28) (ls' := [(0, .long v0), (2, .long v2), (4, .long v4)]) (st' := []) ?_
        refine tk_Ps  9 (pc' := 7) (ls' := [(4, .long (tk_lshr v4 (1 : Int32))), (2, .long (v2 + v4)), (0, .long v0)]) (st' := []) rfl ?_
        refine tk_Kp  (ls' := [(0, .long v0), (2, .long (v2 + v4)), (4, .long (tk_lshr v4 (1 : Int32)))]) rfl rfl ?_
        exact ih v0 (v2 + v4) (tk_lshr v4 (1 : Int32)) m _ h
theorem ok_fN_floorOfRoot (sc : tk_X) (a1 : Int64) (m : tk_m) {out : Int64} (h : fN_floorOfRoot a1 = some out) : tk_Ru sc 1 88 [.long a1] (tk_full m) (some (.long out), tk_full m) := by
  unfold fN_floorOfRoot at h
  refine tk_Ru0 me88 (ls := [(0, .long a1)]) rfl rfl ?_
  refine tk_Ps  4 (pc' := 7) (ls' := [(4, .long (1073741824 : Int64)), (2, .long (0 : Int64)), (0, .long a1)]) (st' := []) rfl ?_
  refine tk_Kp  (ls' := [(0, .long a1), (2, .long (0 : Int64)), (4, .long (1073741824 : Int64))]) rfl rfl ?_
  exact ok_fN_floorOfRoot_7 sc tk_F a1 (0 : Int64) (1073741824 : Int64) m _ h
theorem ok_fN_holdRoot_167 (sc : tk_X) (v3 : Int64) (v5 : Int64) (s0 : Int64) (s1 : Nat) (m : tk_m) (hs1 : tk_lay[s1]? = some (.inl 4)) (out : tk_m) (h : fN_holdRoot_167 v3 v5 s0 s1 m = some out) : tk_Ex sc 3 tk_r86 tk_k86 167 [(3, .long v3), (5, .long v5)] [.long s0, .ref s1] (tk_full m) (none, tk_full out) := by
  unfold fN_holdRoot_167 at h
  refine tk_Ps  3 (pc' := 171) (ls' := [(3, .long v3), (5, .long v5)]) (st' := [.int (lg_cmp v5 (1 : Int64)), .long s0, .ref s1]) rfl ?_
  by_cases hc1 : v5 = (1 : Int64)
  · replace h := tk_ifT hc1 h
    refine tk_bT  rfl rfl tk_eL_ne (c := v5 = (1 : Int64)) hc1 (pc' := 174) (ls' := [(3, .long v3), (5, .long v5)]) (st' := [.long s0, .ref s1]) ?_
    refine tk_Ps  4 (pc' := 182) (ls' := [(3, .long v3), (5, .long v5)]) (st' := [.long (1 : Int64), .long v5, .long (0 : Int64), .long s0, .ref s1]) rfl ?_
    obtain ⟨o2, ho2, h⟩ := tk_bnd h
    refine tk_cV1  rfl rfl (r := s1) (as := [.long s0, .long (0 : Int64), .long v5, .long (1 : Int64)]) (rest := []) rfl hs1 rfl rfl (ok_fN_hold sc s1 s0 (0 : Int64) v5 (1 : Int64) m hs1 ho2) ?_
    refine tk_Ps  1 (pc' := 186) (ls' := [(3, .long v3), (5, .long v5)]) (st' := []) rfl ?_
    replace h := Option.some.inj h
    subst h
    exact tk_RV  rfl rfl rfl
  · replace h := tk_ifF hc1 h
    refine tk_bF  rfl rfl tk_eL_ne (c := v5 = (1 : Int64)) hc1 (pc' := 178) (ls' := [(3, .long v3), (5, .long v5)]) (st' := [.long s0, .ref s1]) ?_
    refine tk_Ps  3 (pc' := 182) (ls' := [(3, .long v3), (5, .long v5)]) (st' := [.long (1 : Int64), .long v5, .long v3, .long s0, .ref s1]) rfl ?_
    obtain ⟨o3, ho3, h⟩ := tk_bnd h
    refine tk_cV1  rfl rfl (r := s1) (as := [.long s0, .long v3, .long v5, .long (1 : Int64)]) (rest := []) rfl hs1 rfl rfl (ok_fN_hold sc s1 s0 v3 v5 (1 : Int64) m hs1 ho3) ?_
    refine tk_Ps  1 (pc' := 186) (ls' := [(3, .long v3), (5, .long v5)]) (st' := []) rfl ?_
    replace h := Option.some.inj h
    subst h
    exact tk_RV  rfl rfl rfl
theorem ok_fN_holdRoot_121 (sc : tk_X) (v0 : Nat) (v3 : Int64) (v5 : Int64) (v7 : Int64) (m : tk_m) (hv0 : tk_lay[v0]? = some (.inl 4)) (out : tk_m) (h : fN_holdRoot_121 v0 v3 v5 v7 m = some out) : tk_Ex sc 3 tk_r86 tk_k86 121 [(0, .ref v0), (3, .long v3), (5, .long v5), (7, .long v7)] [] (tk_full m) (none, tk_full out) := by
  unfold fN_holdRoot_121 at h
  refine tk_Ps  1 (pc' := 123) (ls' := [(0, .ref v0), (3, .long v3), (5, .long v5), (7, .long v7)]) (st' := [.long v7]) rfl ?_
  obtain ⟨o1, ho1, h⟩ := tk_bnd h
  refine tk_cS1  rfl rfl (as := [.long v7]) (rest := []) rfl rfl rfl (ok_fN_floorOfRoot sc v7 m ho1) ?_
  refine tk_Ps  6 (pc' := 136) (ls' := [(9, .long o1), (0, .ref v0), (3, .long v3), (5, .long v5), (7, .long v7)]) (st' := [.int (lg_cmp (o1 * o1) v7)]) rfl ?_
  by_cases hc2 : (o1 * o1) = v7
  · replace h := tk_ifT hc2 h
    refine tk_bT  rfl rfl tk_eL_ne (c := (o1 * o1) = v7) hc2 (pc' := 139) (ls' := [(9, .long o1), (0, .ref v0), (3, .long v3), (5, .long v5), (7, .long v7)]) (st' := []) ?_
    refine tk_Ps  9 (pc' := 159) (ls' := [(3, .long (v3 * o1)), (9, .long o1), (0, .ref v0), (5, .long v5), (7, .long v7)]) (st' := [.int (lg_cmp v5 (1 : Int64)), .ref v0]) rfl ?_
    by_cases hc3 : v5 = (1 : Int64)
    · replace h := tk_ifT hc3 h
      refine tk_bT  rfl rfl tk_eL_ne (c := v5 = (1 : Int64)) hc3 (pc' := 162) (ls' := [(3, .long (v3 * o1)), (9, .long o1), (0, .ref v0), (5, .long v5), (7, .long v7)]) (st' := [.ref v0]) ?_
      refine tk_Ps  2 (pc' := 167) (ls' := [(3, .long (v3 * o1)), (9, .long o1), (0, .ref v0), (5, .long v5), (7, .long v7)]) (st' := [.long (v3 * o1), .ref v0]) rfl ?_
      refine tk_Kp  (ls' := [(3, .long (v3 * o1)), (5, .long v5)]) rfl rfl ?_
      exact ok_fN_holdRoot_167 sc (v3 * o1) v5 (v3 * o1) v0 m hv0 _ h
    · replace h := tk_ifF hc3 h
      refine tk_bF  rfl rfl tk_eL_ne (c := v5 = (1 : Int64)) hc3 (pc' := 166) (ls' := [(3, .long (v3 * o1)), (9, .long o1), (0, .ref v0), (5, .long v5), (7, .long v7)]) (st' := [.ref v0]) ?_
      refine tk_Ps  1 (pc' := 167) (ls' := [(3, .long (v3 * o1)), (9, .long o1), (0, .ref v0), (5, .long v5), (7, .long v7)]) (st' := [.long (0 : Int64), .ref v0]) rfl ?_
      refine tk_Kp  (ls' := [(3, .long (v3 * o1)), (5, .long v5)]) rfl rfl ?_
      exact ok_fN_holdRoot_167 sc (v3 * o1) v5 (0 : Int64) v0 m hv0 _ h
  · replace h := tk_ifF hc2 h
    refine tk_bF  rfl rfl tk_eL_ne (c := (o1 * o1) = v7) hc2 (pc' := 147) (ls' := [(9, .long o1), (0, .ref v0), (3, .long v3), (5, .long v5), (7, .long v7)]) (st' := []) ?_
    refine tk_Ps  8 (pc' := 159) (ls' := [(5, .long (v5 * v7)), (9, .long o1), (0, .ref v0), (3, .long v3), (7, .long v7)]) (st' := [.int (lg_cmp (v5 * v7) (1 : Int64)), .ref v0]) rfl ?_
    by_cases hc4 : (v5 * v7) = (1 : Int64)
    · replace h := tk_ifT hc4 h
      refine tk_bT  rfl rfl tk_eL_ne (c := (v5 * v7) = (1 : Int64)) hc4 (pc' := 162) (ls' := [(5, .long (v5 * v7)), (9, .long o1), (0, .ref v0), (3, .long v3), (7, .long v7)]) (st' := [.ref v0]) ?_
      refine tk_Ps  2 (pc' := 167) (ls' := [(5, .long (v5 * v7)), (9, .long o1), (0, .ref v0), (3, .long v3), (7, .long v7)]) (st' := [.long v3, .ref v0]) rfl ?_
      refine tk_Kp  (ls' := [(3, .long v3), (5, .long (v5 * v7))]) rfl rfl ?_
      exact ok_fN_holdRoot_167 sc v3 (v5 * v7) v3 v0 m hv0 _ h
    · replace h := tk_ifF hc4 h
      refine tk_bF  rfl rfl tk_eL_ne (c := (v5 * v7) = (1 : Int64)) hc4 (pc' := 166) (ls' := [(5, .long (v5 * v7)), (9, .long o1), (0, .ref v0), (3, .long v3), (7, .long v7)]) (st' := [.ref v0]) ?_
      refine tk_Ps  1 (pc' := 167) (ls' := [(5, .long (v5 * v7)), (9, .long o1), (0, .ref v0), (3, .long v3), (7, .long v7)]) (st' := [.long (0 : Int64), .ref v0]) rfl ?_
      refine tk_Kp  (ls' := [(3, .long v3), (5, .long (v5 * v7))]) rfl rfl ?_
      exact ok_fN_holdRoot_167 sc v3 (v5 * v7) (0 : Int64) v0 m hv0 _ h
theorem ok_fN_holdRoot_88 (sc : tk_X) (r29 : Nat → Int64 → Int64 → Int64 → Int64 → tk_m → Option tk_m) (H29 : ∀ (v0 : Nat) (v3 : Int64) (v5 : Int64) (v7 : Int64) (v9 : Int64) (m : tk_m) (hv0 : tk_lay[v0]? = some (.inl 4)) (out : tk_m), r29 v0 v3 v5 v7 v9 m = some out → tk_Ex sc 3 tk_r86 tk_k86 29 [(0, .ref v0), (3, .long v3), (5, .long v5), (7, .long v7), (9, .long v9)] [] (tk_full m) (none, tk_full out)) (v0 : Nat) (v3 : Int64) (v5 : Int64) (v7 : Int64) (v9 : Int64) (m : tk_m) (hv0 : tk_lay[v0]? = some (.inl 4)) (out : tk_m) (h : fN_holdRoot_88 r29 v0 v3 v5 v7 v9 m = some out) : tk_Ex sc 3 tk_r86 tk_k86 88 [(0, .ref v0), (3, .long v3), (5, .long v5), (7, .long v7), (9, .long v9)] [] (tk_full m) (none, tk_full out) := by
  unfold fN_holdRoot_88 at h
  refine tk_Ps  2 (pc' := 92) (ls' := [(0, .ref v0), (3, .long v3), (5, .long v5), (7, .long v7), (9, .long v9)]) (st' := [.long v9, .long v7]) rfl ?_
  obtain ⟨hz1, h⟩ := tk_grn h
  refine tk_lremR  rfl rfl hz1 ?_
  refine tk_Ps  2 (pc' := 95) (ls' := [(0, .ref v0), (3, .long v3), (5, .long v5), (7, .long v7), (9, .long v9)]) (st' := [.int (lg_cmp (tk_lrem v7 v9) (0 : Int64))]) rfl ?_
  by_cases hc2 : (tk_lrem v7 v9) = (0 : Int64)
  · replace h := tk_ifT hc2 h
    refine tk_bT  rfl rfl tk_eL_ne (c := (tk_lrem v7 v9) = (0 : Int64)) hc2 (pc' := 98) (ls' := [(0, .ref v0), (3, .long v3), (5, .long v5), (7, .long v7), (9, .long v9)]) (st' := []) ?_
    refine tk_Ps  2 (pc' := 102) (ls' := [(0, .ref v0), (3, .long v3), (5, .long v5), (7, .long v7), (9, .long v9)]) (st' := [.long v9, .long v7]) rfl ?_
    obtain ⟨hz3, h⟩ := tk_grn h
    refine tk_ldiv  rfl rfl hz3 ?_
    refine tk_Ps  10 (pc' := 29) (ls' := [(9, .long (v9 + (1 : Int64))), (5, .long (v5 * v9)), (7, .long (v7 / v9)), (0, .ref v0), (3, .long v3)]) (st' := []) rfl ?_
    refine tk_Kp  (ls' := [(0, .ref v0), (3, .long v3), (5, .long (v5 * v9)), (7, .long (v7 / v9)), (9, .long (v9 + (1 : Int64)))]) rfl rfl ?_
    exact H29 v0 v3 (v5 * v9) (v7 / v9) (v9 + (1 : Int64)) m hv0 _ h
  · replace h := tk_ifF hc2 h
    refine tk_bF  rfl rfl tk_eL_ne (c := (tk_lrem v7 v9) = (0 : Int64)) hc2 (pc' := 112) (ls' := [(0, .ref v0), (3, .long v3), (5, .long v5), (7, .long v7), (9, .long v9)]) (st' := []) ?_
    refine tk_Ps  5 (pc' := 29) (ls' := [(9, .long (v9 + (1 : Int64))), (0, .ref v0), (3, .long v3), (5, .long v5), (7, .long v7)]) (st' := []) rfl ?_
    refine tk_Kp  (ls' := [(0, .ref v0), (3, .long v3), (5, .long v5), (7, .long v7), (9, .long (v9 + (1 : Int64)))]) rfl rfl ?_
    exact H29 v0 v3 v5 v7 (v9 + (1 : Int64)) m hv0 _ h
theorem ok_fN_holdRoot_53 (sc : tk_X) (r29 : Nat → Int64 → Int64 → Int64 → Int64 → tk_m → Option tk_m) (H29 : ∀ (v0 : Nat) (v3 : Int64) (v5 : Int64) (v7 : Int64) (v9 : Int64) (m : tk_m) (hv0 : tk_lay[v0]? = some (.inl 4)) (out : tk_m), r29 v0 v3 v5 v7 v9 m = some out → tk_Ex sc 3 tk_r86 tk_k86 29 [(0, .ref v0), (3, .long v3), (5, .long v5), (7, .long v7), (9, .long v9)] [] (tk_full m) (none, tk_full out)) : ∀ (n : Nat) (v0 : Nat) (v3 : Int64) (v5 : Int64) (v7 : Int64) (v9 : Int64) (v11 : Int64) (v13 : Int32) (m : tk_m) (hv0 : tk_lay[v0]? = some (.inl 4)) (out : tk_m), fN_holdRoot_53 r29 n v0 v3 v5 v7 v9 v11 v13 m = some out → tk_Ex sc 3 tk_r86 tk_k86 53 [(0, .ref v0), (3, .long v3), (5, .long v5), (7, .long v7), (9, .long v9), (11, .long v11), (13, .int v13)] [] (tk_full m) (none, tk_full out) := by
  intro n
  induction n with
  | zero =>
    intro v0 v3 v5 v7 v9 v11 v13 m hv0 out h
    cases h
  | succ n ih =>
    intro v0 v3 v5 v7 v9 v11 v13 m hv0 out h
    unfold fN_holdRoot_53 at h
    refine tk_Ps  2 (pc' := 57) (ls' := [(0, .ref v0), (3, .long v3), (5, .long v5), (7, .long v7), (9, .long v9), (11, .long v11), (13, .int v13)]) (st' := [.int (64 : Int32), .int v13]) rfl ?_
    by_cases hc1 : (64 : Int32) ≤ v13
    · replace h := tk_ifT hc1 h
      refine tk_bT  rfl rfl rfl (c := (64 : Int32) ≤ v13) hc1 (pc' := 88) (ls' := [(0, .ref v0), (3, .long v3), (5, .long v5), (7, .long v7), (9, .long v9), (11, .long v11), (13, .int v13)]) (st' := []) ?_
      refine tk_Kp  (ls' := [(0, .ref v0), (3, .long v3), (5, .long v5), (7, .long v7), (9, .long v9)]) rfl rfl ?_
      exact ok_fN_holdRoot_88 sc r29 H29 v0 v3 v5 v7 v9 m hv0 _ h
    · replace h := tk_ifF hc1 h
      refine tk_bF  rfl rfl rfl (c := (64 : Int32) ≤ v13) hc1 (pc' := 60) (ls' := [(0, .ref v0), (3, .long v3), (5, .long v5), (7, .long v7), (9, .long v9), (11, .long v11), (13, .int v13)]) (st' := []) ?_
      refine tk_Ps  2 (pc' := 64) (ls' := [(0, .ref v0), (3, .long v3), (5, .long v5), (7, .long v7), (9, .long v9), (11, .long v11), (13, .int v13)]) (st' := [.long v11, .long v7]) rfl ?_
      obtain ⟨hz2, h⟩ := tk_grn h
      refine tk_lremR  rfl rfl hz2 ?_
      refine tk_Ps  2 (pc' := 67) (ls' := [(0, .ref v0), (3, .long v3), (5, .long v5), (7, .long v7), (9, .long v9), (11, .long v11), (13, .int v13)]) (st' := [.int (lg_cmp (tk_lrem v7 v11) (0 : Int64))]) rfl ?_
      by_cases hc3 : (tk_lrem v7 v11) = (0 : Int64)
      · replace h := tk_ifT hc3 h
        refine tk_bT  rfl rfl tk_eL_ne (c := (tk_lrem v7 v11) = (0 : Int64)) hc3 (pc' := 70) (ls' := [(0, .ref v0), (3, .long v3), (5, .long v5), (7, .long v7), (9, .long v9), (11, .long v11), (13, .int v13)]) (st' := []) ?_
        refine tk_Ps  2 (pc' := 74) (ls' := [(0, .ref v0), (3, .long v3), (5, .long v5), (7, .long v7), (9, .long v9), (11, .long v11), (13, .int v13)]) (st' := [.long v11, .long v7]) rfl ?_
        obtain ⟨hz4, h⟩ := tk_grn h
        refine tk_ldiv  rfl rfl hz4 ?_
        refine tk_Ps  7 (pc' := 53) (ls' := [(13, .int (v13 + (1 : Int32))), (3, .long (v3 * v9)), (7, .long (v7 / v11)), (0, .ref v0), (5, .long v5), (9, .long v9), (11, .long v11)]) (st' := []) rfl ?_
        refine tk_Kp  (ls' := [(0, .ref v0), (3, .long (v3 * v9)), (5, .long v5), (7, .long (v7 / v11)), (9, .long v9), (11, .long v11), (13, .int (v13 + (1 : Int32)))]) rfl rfl ?_
        exact ih v0 (v3 * v9) v5 (v7 / v11) v9 v11 (v13 + (1 : Int32)) m hv0 _ h
      · replace h := tk_ifF hc3 h
        refine tk_bF  rfl rfl tk_eL_ne (c := (tk_lrem v7 v11) = (0 : Int64)) hc3 (pc' := 88) (ls' := [(0, .ref v0), (3, .long v3), (5, .long v5), (7, .long v7), (9, .long v9), (11, .long v11), (13, .int v13)]) (st' := []) ?_
        refine tk_Kp  (ls' := [(0, .ref v0), (3, .long v3), (5, .long v5), (7, .long v7), (9, .long v9)]) rfl rfl ?_
        exact ok_fN_holdRoot_88 sc r29 H29 v0 v3 v5 v7 v9 m hv0 _ h
theorem ok_fN_holdRoot_29 (sc : tk_X) : ∀ (n : Nat) (v0 : Nat) (v3 : Int64) (v5 : Int64) (v7 : Int64) (v9 : Int64) (m : tk_m) (hv0 : tk_lay[v0]? = some (.inl 4)) (out : tk_m), fN_holdRoot_29 n v0 v3 v5 v7 v9 m = some out → tk_Ex sc 3 tk_r86 tk_k86 29 [(0, .ref v0), (3, .long v3), (5, .long v5), (7, .long v7), (9, .long v9)] [] (tk_full m) (none, tk_full out) := by
  intro n
  induction n with
  | zero =>
    intro v0 v3 v5 v7 v9 m hv0 out h
    cases h
  | succ n ih =>
    intro v0 v3 v5 v7 v9 m hv0 out h
    unfold fN_holdRoot_29 at h
    refine tk_Ps  7 (pc' := 40) (ls' := [(0, .ref v0), (3, .long v3), (5, .long v5), (7, .long v7), (9, .long v9)]) (st' := [.int (lg_cmp ((v9 * v9) * v9) v7)]) rfl ?_
    by_cases hc1 : v7 < ((v9 * v9) * v9)
    · replace h := tk_ifT hc1 h
      refine tk_bT  rfl rfl tk_eL_gt (c := v7 < ((v9 * v9) * v9)) hc1 (pc' := 121) (ls' := [(0, .ref v0), (3, .long v3), (5, .long v5), (7, .long v7), (9, .long v9)]) (st' := []) ?_
      refine tk_Kp  (ls' := [(0, .ref v0), (3, .long v3), (5, .long v5), (7, .long v7)]) rfl rfl ?_
      exact ok_fN_holdRoot_121 sc v0 v3 v5 v7 m hv0 _ h
    · replace h := tk_ifF hc1 h
      refine tk_bF  rfl rfl tk_eL_gt (c := v7 < ((v9 * v9) * v9)) hc1 (pc' := 43) (ls' := [(0, .ref v0), (3, .long v3), (5, .long v5), (7, .long v7), (9, .long v9)]) (st' := []) ?_
      refine tk_Ps  6 (pc' := 53) (ls' := [(13, .int (0 : Int32)), (11, .long (v9 * v9)), (0, .ref v0), (3, .long v3), (5, .long v5), (7, .long v7), (9, .long v9)]) (st' := []) rfl ?_
      refine tk_Kp  (ls' := [(0, .ref v0), (3, .long v3), (5, .long v5), (7, .long v7), (9, .long v9), (11, .long (v9 * v9)), (13, .int (0 : Int32))]) rfl rfl ?_
      exact ok_fN_holdRoot_53 sc (fN_holdRoot_29 n) ih tk_F v0 v3 v5 v7 v9 (v9 * v9) (0 : Int32) m hv0 _ h
theorem ok_fN_holdRoot (sc : tk_X) (t : Nat) (a1 : Int64) (m : tk_m) (ht : tk_lay[t]? = some (.inl 4)) {out : tk_m} (h : fN_holdRoot t a1 m = some out) : tk_Ru sc 4 86 [.ref t, .long a1] (tk_full m) (none, tk_full out) := by
  unfold fN_holdRoot at h
  refine tk_Ru0 me86 (ls := [(0, .ref t), (1, .long a1)]) rfl rfl ?_
  refine tk_Ps  3 (pc' := 3) (ls' := [(0, .ref t), (1, .long a1)]) (st' := [.int (lg_cmp a1 (0 : Int64))]) rfl ?_
  by_cases hc1 : (0 : Int64) < a1
  · replace h := tk_ifT hc1 h
    refine tk_bT  rfl rfl tk_eL_gt (c := (0 : Int64) < a1) hc1 (pc' := 16) (ls' := [(0, .ref t), (1, .long a1)]) (st' := []) ?_
    refine tk_Ps  8 (pc' := 29) (ls' := [(9, .long (2 : Int64)), (7, .long a1), (5, .long (1 : Int64)), (3, .long (1 : Int64)), (0, .ref t), (1, .long a1)]) (st' := []) rfl ?_
    refine tk_Kp  (ls' := [(0, .ref t), (3, .long (1 : Int64)), (5, .long (1 : Int64)), (7, .long a1), (9, .long (2 : Int64))]) rfl rfl ?_
    exact ok_fN_holdRoot_29 sc tk_F t (1 : Int64) (1 : Int64) a1 (2 : Int64) m ht _ h
  · replace h := tk_ifF hc1 h
    refine tk_bF  rfl rfl tk_eL_gt (c := (0 : Int64) < a1) hc1 (pc' := 6) (ls' := [(0, .ref t), (1, .long a1)]) (st' := []) ?_
    refine tk_Ps  5 (pc' := 11) (ls' := [(0, .ref t), (1, .long a1)]) (st' := [.long (1 : Int64), .long (0 : Int64), .long (0 : Int64), .long (0 : Int64), .ref t]) rfl ?_
    obtain ⟨o2, ho2, h⟩ := tk_bnd h
    refine tk_cV1  rfl rfl (r := t) (as := [.long (0 : Int64), .long (0 : Int64), .long (0 : Int64), .long (1 : Int64)]) (rest := []) rfl ht rfl rfl (ok_fN_hold sc t (0 : Int64) (0 : Int64) (0 : Int64) (1 : Int64) m ht ho2) ?_
    refine tk_Ps  1 (pc' := 15) (ls' := [(0, .ref t), (1, .long a1)]) (st' := []) rfl ?_
    replace h := Option.some.inj h
    subst h
    exact tk_RV  rfl rfl rfl
theorem ok_fZ_compare_J (sc : tk_X) (a1 : Int64) (a2 : Int64) (m : tk_m) : tk_Ru sc 1 89 [.long a1, .long a2] (tk_full m) (some (.int (fZ_compare_J a1 a2)), tk_full m) := by
  obtain ⟨out, h⟩ : ∃ out, fZ_compare_J a1 a2 = out := ⟨_, rfl⟩
  rw [h]
  unfold fZ_compare_J at h
  refine tk_Ru0 me89 (ls := [(0, .long a1), (2, .long a2)]) rfl rfl ?_
  refine tk_Ps  3 (pc' := 3) (ls' := [(0, .long a1), (2, .long a2)]) (st' := [.int (lg_cmp a1 a2)]) rfl ?_
  by_cases hc1 : a2 ≤ a1
  · replace h := tk_ifT hc1 h
    refine tk_bT  rfl rfl tk_eL_ge (c := a2 ≤ a1) hc1 (pc' := 10) (ls' := [(0, .long a1), (2, .long a2)]) (st' := []) ?_
    refine tk_Ps  3 (pc' := 13) (ls' := [(0, .long a1), (2, .long a2)]) (st' := [.int (lg_cmp a1 a2)]) rfl ?_
    by_cases hc2 : a1 = a2
    · replace h := tk_ifT hc2 h
      refine tk_bT  rfl rfl tk_eL_ne (c := a1 = a2) hc2 (pc' := 16) (ls' := [(0, .long a1), (2, .long a2)]) (st' := []) ?_
      refine tk_Ps  2 (pc' := 21) (ls' := [(0, .long a1), (2, .long a2)]) (st' := [.int (0 : Int32)]) rfl ?_
      subst h
      exact tk_RI  rfl rfl rfl
    · replace h := tk_ifF hc2 h
      refine tk_bF  rfl rfl tk_eL_ne (c := a1 = a2) hc2 (pc' := 20) (ls' := [(0, .long a1), (2, .long a2)]) (st' := []) ?_
      refine tk_Ps  1 (pc' := 21) (ls' := [(0, .long a1), (2, .long a2)]) (st' := [.int (1 : Int32)]) rfl ?_
      subst h
      exact tk_RI  rfl rfl rfl
  · replace h := tk_ifF hc1 h
    refine tk_bF  rfl rfl tk_eL_ge (c := a2 ≤ a1) hc1 (pc' := 6) (ls' := [(0, .long a1), (2, .long a2)]) (st' := []) ?_
    refine tk_Ps  2 (pc' := 21) (ls' := [(0, .long a1), (2, .long a2)]) (st' := [.int (-1 : Int32)]) rfl ?_
    subst h
    exact tk_RI  rfl rfl rfl
theorem ok_fF_lesserSide_63 (sc : tk_X) (s0 : Int32) (m : tk_m) (out : Int32) (h : fF_lesserSide_63 s0 m = out) : tk_Ex sc 0 tk_r90 tk_k90 63 [(0, .ref 39)] [.int s0] (tk_full m) (some (.int out), tk_full m) := by
  unfold fF_lesserSide_63 at h
  refine tk_Ps  1 (pc' := 64) (ls' := [(0, .ref 39)]) (st' := [.ref 39, .int s0]) rfl ?_
  refine tk_HJ  rfl rfl ly39 ?_
  refine tk_Ps  2 (pc' := 69) (ls' := [(0, .ref 39)]) (st' := [.int (lg_cmp (m.2.1 39 13) (0 : Int64)), .int s0]) rfl ?_
  by_cases hc1 : (m.2.1 39 13) ≤ (0 : Int64)
  · replace h := tk_ifT hc1 h
    refine tk_bT  rfl rfl tk_eL_le (c := (m.2.1 39 13) ≤ (0 : Int64)) hc1 (pc' := 76) (ls' := [(0, .ref 39)]) (st' := [.int s0]) ?_
    refine tk_Ps  1 (pc' := 77) (ls' := [(0, .ref 39)]) (st' := [.int (0 : Int32), .int s0]) rfl ?_
    by_cases hc2 : s0 = (0 : Int32)
    · replace h := tk_ifT hc2 h
      refine tk_bT  rfl rfl rfl (c := s0 = (0 : Int32)) hc2 (pc' := 80) (ls' := [(0, .ref 39)]) (st' := []) ?_
      refine tk_Ps  2 (pc' := 85) (ls' := [(0, .ref 39)]) (st' := [.int (-1 : Int32)]) rfl ?_
      subst h
      exact tk_RI  rfl rfl rfl
    · replace h := tk_ifF hc2 h
      refine tk_bF  rfl rfl rfl (c := s0 = (0 : Int32)) hc2 (pc' := 84) (ls' := [(0, .ref 39)]) (st' := []) ?_
      refine tk_Ps  1 (pc' := 85) (ls' := [(0, .ref 39)]) (st' := [.int (1 : Int32)]) rfl ?_
      subst h
      exact tk_RI  rfl rfl rfl
  · replace h := tk_ifF hc1 h
    refine tk_bF  rfl rfl tk_eL_le (c := (m.2.1 39 13) ≤ (0 : Int64)) hc1 (pc' := 72) (ls' := [(0, .ref 39)]) (st' := [.int s0]) ?_
    refine tk_Ps  2 (pc' := 77) (ls' := [(0, .ref 39)]) (st' := [.int (1 : Int32), .int s0]) rfl ?_
    by_cases hc3 : s0 = (1 : Int32)
    · replace h := tk_ifT hc3 h
      refine tk_bT  rfl rfl rfl (c := s0 = (1 : Int32)) hc3 (pc' := 80) (ls' := [(0, .ref 39)]) (st' := []) ?_
      refine tk_Ps  2 (pc' := 85) (ls' := [(0, .ref 39)]) (st' := [.int (-1 : Int32)]) rfl ?_
      subst h
      exact tk_RI  rfl rfl rfl
    · replace h := tk_ifF hc3 h
      refine tk_bF  rfl rfl rfl (c := s0 = (1 : Int32)) hc3 (pc' := 84) (ls' := [(0, .ref 39)]) (st' := []) ?_
      refine tk_Ps  1 (pc' := 85) (ls' := [(0, .ref 39)]) (st' := [.int (1 : Int32)]) rfl ?_
      subst h
      exact tk_RI  rfl rfl rfl
theorem ok_fF_lesserSide (sc : tk_X) (m : tk_m) : tk_Ru sc 1 90 [.ref 39] (tk_full m) (some (.int (fF_lesserSide m)), tk_full m) := by
  obtain ⟨out, h⟩ : ∃ out, fF_lesserSide m = out := ⟨_, rfl⟩
  rw [h]
  unfold fF_lesserSide at h
  refine tk_Ru0 me90 (ls := [(0, .ref 39)]) rfl rfl ?_
  refine tk_Ps  1 (pc' := 1) (ls' := [(0, .ref 39)]) (st' := [.ref 39]) rfl ?_
  refine tk_HR  rfl rfl ly39 rt39_7 ?_
  refine tk_HJ  rfl rfl ly64 ?_
  refine tk_Ps  2 (pc' := 9) (ls' := [(0, .ref 39)]) (st' := [.int (lg_cmp (m.2.1 64 2) (0 : Int64))]) rfl ?_
  by_cases hc1 : (m.2.1 64 2) = (0 : Int64)
  · replace h := tk_ifT hc1 h
    refine tk_bT  rfl rfl tk_eL_eq (c := (m.2.1 64 2) = (0 : Int64)) hc1 (pc' := 22) (ls' := [(0, .ref 39)]) (st' := []) ?_
    refine tk_Ps  1 (pc' := 23) (ls' := [(0, .ref 39)]) (st' := [.ref 39]) rfl ?_
    refine tk_HR  rfl rfl ly39 rt39_7 ?_
    refine tk_HJ  rfl rfl ly64 ?_
    refine tk_Ps  2 (pc' := 31) (ls' := [(0, .ref 39)]) (st' := [.int (lg_cmp (m.2.1 64 0) (0 : Int64))]) rfl ?_
    by_cases hc2 : (m.2.1 64 0) = (0 : Int64)
    · replace h := tk_ifT hc2 h
      refine tk_bT  rfl rfl tk_eL_eq (c := (m.2.1 64 0) = (0 : Int64)) hc2 (pc' := 44) (ls' := [(0, .ref 39)]) (st' := []) ?_
      refine tk_Ps  1 (pc' := 45) (ls' := [(0, .ref 39)]) (st' := [.ref 39]) rfl ?_
      refine tk_HR  rfl rfl ly39 rt39_7 ?_
      refine tk_HJ  rfl rfl ly64 ?_
      refine tk_Ps  4 (pc' := 55) (ls' := [(1, .long (m.2.1 64 1)), (0, .ref 39)]) (st' := [.int (lg_cmp (m.2.1 64 1) (0 : Int64))]) rfl ?_
      by_cases hc3 : (m.2.1 64 1) ≤ (0 : Int64)
      · replace h := tk_ifT hc3 h
        refine tk_bT  rfl rfl tk_eL_le (c := (m.2.1 64 1) ≤ (0 : Int64)) hc3 (pc' := 62) (ls' := [(1, .long (m.2.1 64 1)), (0, .ref 39)]) (st' := []) ?_
        refine tk_Ps  1 (pc' := 63) (ls' := [(1, .long (m.2.1 64 1)), (0, .ref 39)]) (st' := [.int (0 : Int32)]) rfl ?_
        refine tk_Kp  (ls' := [(0, .ref 39)]) rfl rfl ?_
        exact ok_fF_lesserSide_63 sc (0 : Int32) m _ h
      · replace h := tk_ifF hc3 h
        refine tk_bF  rfl rfl tk_eL_le (c := (m.2.1 64 1) ≤ (0 : Int64)) hc3 (pc' := 58) (ls' := [(1, .long (m.2.1 64 1)), (0, .ref 39)]) (st' := []) ?_
        refine tk_Ps  2 (pc' := 63) (ls' := [(1, .long (m.2.1 64 1)), (0, .ref 39)]) (st' := [.int (1 : Int32)]) rfl ?_
        refine tk_Kp  (ls' := [(0, .ref 39)]) rfl rfl ?_
        exact ok_fF_lesserSide_63 sc (1 : Int32) m _ h
    · replace h := tk_ifF hc2 h
      refine tk_bF  rfl rfl tk_eL_eq (c := (m.2.1 64 0) = (0 : Int64)) hc2 (pc' := 34) (ls' := [(0, .ref 39)]) (st' := []) ?_
      refine tk_Ps  1 (pc' := 35) (ls' := [(0, .ref 39)]) (st' := [.ref 39]) rfl ?_
      refine tk_HR  rfl rfl ly39 rt39_7 ?_
      refine tk_HJ  rfl rfl ly64 ?_
      refine tk_Ps  5 (pc' := 55) (ls' := [(1, .long (m.2.1 64 0)), (0, .ref 39)]) (st' := [.int (lg_cmp (m.2.1 64 0) (0 : Int64))]) rfl ?_
      by_cases hc4 : (m.2.1 64 0) ≤ (0 : Int64)
      · replace h := tk_ifT hc4 h
        refine tk_bT  rfl rfl tk_eL_le (c := (m.2.1 64 0) ≤ (0 : Int64)) hc4 (pc' := 62) (ls' := [(1, .long (m.2.1 64 0)), (0, .ref 39)]) (st' := []) ?_
        refine tk_Ps  1 (pc' := 63) (ls' := [(1, .long (m.2.1 64 0)), (0, .ref 39)]) (st' := [.int (0 : Int32)]) rfl ?_
        refine tk_Kp  (ls' := [(0, .ref 39)]) rfl rfl ?_
        exact ok_fF_lesserSide_63 sc (0 : Int32) m _ h
      · replace h := tk_ifF hc4 h
        refine tk_bF  rfl rfl tk_eL_le (c := (m.2.1 64 0) ≤ (0 : Int64)) hc4 (pc' := 58) (ls' := [(1, .long (m.2.1 64 0)), (0, .ref 39)]) (st' := []) ?_
        refine tk_Ps  2 (pc' := 63) (ls' := [(1, .long (m.2.1 64 0)), (0, .ref 39)]) (st' := [.int (1 : Int32)]) rfl ?_
        refine tk_Kp  (ls' := [(0, .ref 39)]) rfl rfl ?_
        exact ok_fF_lesserSide_63 sc (1 : Int32) m _ h
  · replace h := tk_ifF hc1 h
    refine tk_bF  rfl rfl tk_eL_eq (c := (m.2.1 64 2) = (0 : Int64)) hc1 (pc' := 12) (ls' := [(0, .ref 39)]) (st' := []) ?_
    refine tk_Ps  1 (pc' := 13) (ls' := [(0, .ref 39)]) (st' := [.ref 39]) rfl ?_
    refine tk_HR  rfl rfl ly39 rt39_7 ?_
    refine tk_HJ  rfl rfl ly64 ?_
    refine tk_Ps  5 (pc' := 55) (ls' := [(1, .long (m.2.1 64 2)), (0, .ref 39)]) (st' := [.int (lg_cmp (m.2.1 64 2) (0 : Int64))]) rfl ?_
    by_cases hc5 : (m.2.1 64 2) ≤ (0 : Int64)
    · replace h := tk_ifT hc5 h
      refine tk_bT  rfl rfl tk_eL_le (c := (m.2.1 64 2) ≤ (0 : Int64)) hc5 (pc' := 62) (ls' := [(1, .long (m.2.1 64 2)), (0, .ref 39)]) (st' := []) ?_
      refine tk_Ps  1 (pc' := 63) (ls' := [(1, .long (m.2.1 64 2)), (0, .ref 39)]) (st' := [.int (0 : Int32)]) rfl ?_
      refine tk_Kp  (ls' := [(0, .ref 39)]) rfl rfl ?_
      exact ok_fF_lesserSide_63 sc (0 : Int32) m _ h
    · replace h := tk_ifF hc5 h
      refine tk_bF  rfl rfl tk_eL_le (c := (m.2.1 64 2) ≤ (0 : Int64)) hc5 (pc' := 58) (ls' := [(1, .long (m.2.1 64 2)), (0, .ref 39)]) (st' := []) ?_
      refine tk_Ps  2 (pc' := 63) (ls' := [(1, .long (m.2.1 64 2)), (0, .ref 39)]) (st' := [.int (1 : Int32)]) rfl ?_
      refine tk_Kp  (ls' := [(0, .ref 39)]) rfl rfl ?_
      exact ok_fF_lesserSide_63 sc (1 : Int32) m _ h
theorem ok_fN_p (sc : tk_X) (t : Nat) (m : tk_m) (ht : tk_lay[t]? = some (.inl 4)) : tk_Ru sc 1 92 [.ref t] (tk_full m) (some (.long (fN_p t m)), tk_full m) := by
  obtain ⟨out, h⟩ : ∃ out, fN_p t m = out := ⟨_, rfl⟩
  rw [h]
  unfold fN_p at h
  refine tk_Ru0 me92 (ls := [(0, .ref t)]) rfl rfl ?_
  refine tk_Ps  1 (pc' := 1) (ls' := [(0, .ref t)]) (st' := [.ref t]) rfl ?_
  refine tk_HR  rfl rfl ht (ro4_1 ht) ?_
  refine tk_Ps  1 (pc' := 5) (ls' := [(0, .ref t)]) (st' := [.int (0 : Int32), .ref (t + 1)]) rfl ?_
  refine tk_HJa  rfl rfl (lo4_1 ht) (by decide) ?_
  subst h
  exact tk_RJ  rfl rfl rfl
theorem ok_fN_q (sc : tk_X) (t : Nat) (m : tk_m) (ht : tk_lay[t]? = some (.inl 4)) : tk_Ru sc 1 93 [.ref t] (tk_full m) (some (.long (fN_q t m)), tk_full m) := by
  obtain ⟨out, h⟩ : ∃ out, fN_q t m = out := ⟨_, rfl⟩
  rw [h]
  unfold fN_q at h
  refine tk_Ru0 me93 (ls := [(0, .ref t)]) rfl rfl ?_
  refine tk_Ps  1 (pc' := 1) (ls' := [(0, .ref t)]) (st' := [.ref t]) rfl ?_
  refine tk_HR  rfl rfl ht (ro4_1 ht) ?_
  refine tk_Ps  1 (pc' := 5) (ls' := [(0, .ref t)]) (st' := [.int (1 : Int32), .ref (t + 1)]) rfl ?_
  refine tk_HJa  rfl rfl (lo4_1 ht) (by decide) ?_
  subst h
  exact tk_RJ  rfl rfl rfl
theorem ok_fF_takePlace (sc : tk_X) (a1 : Int32) (m : tk_m) {out : tk_m} (h : fF_takePlace a1 m = out) : tk_Ru sc 2 91 [.ref 39, .int a1] (tk_full m) (none, tk_full out) := by
  unfold fF_takePlace at h
  refine tk_Ru0 me91 (ls := [(0, .ref 39), (1, .int a1)]) rfl rfl ?_
  refine tk_Ps  1 (pc' := 1) (ls' := [(0, .ref 39), (1, .int a1)]) (st' := [.ref 39]) rfl ?_
  refine tk_HR  rfl rfl ly39 rt39_10 ?_
  refine tk_Ps  1 (pc' := 5) (ls' := [(0, .ref 39), (1, .int a1)]) (st' := [.ref 39, .ref 67]) rfl ?_
  refine tk_HR  rfl rfl ly39 rt39_9 ?_
  refine tk_HJ  rfl rfl ly66 ?_
  refine tk_Ps  1 (pc' := 12) (ls' := [(0, .ref 39), (1, .int a1)]) (st' := [.ref 39, .long (m.2.1 66 0), .ref 67]) rfl ?_
  refine tk_HR  rfl rfl ly39 rt39_9 ?_
  refine tk_HJ  rfl rfl ly66 ?_
  refine tk_Ps  1 (pc' := 19) (ls' := [(0, .ref 39), (1, .int a1)]) (st' := [.ref 39, .long (m.2.1 66 1), .long (m.2.1 66 0), .ref 67]) rfl ?_
  refine tk_HR  rfl rfl ly39 rt39_9 ?_
  refine tk_HJ  rfl rfl ly66 ?_
  obtain ⟨o1, ho1, h⟩ := tk_lete h
  refine tk_cV0  rfl rfl (r := 67) (as := [.long (m.2.1 66 0), .long (m.2.1 66 1), .long (m.2.1 66 2)]) (rest := []) rfl ly67 rfl rfl (ok_fV_set sc 67 (m.2.1 66 0) (m.2.1 66 1) (m.2.1 66 2) m ly67 ho1) ?_
  refine tk_Ps  1 (pc' := 29) (ls' := [(0, .ref 39), (1, .int a1)]) (st' := [.ref 39]) rfl ?_
  refine tk_HR  rfl rfl ly39 rt39_10 ?_
  refine tk_Ps  3 (pc' := 35) (ls' := [(0, .ref 39), (1, .int a1)]) (st' := [.ref 39, .long (Int32.toInt64 a1), .ref 67]) rfl ?_
  refine tk_HR  rfl rfl ly39 rt39_14 ?_
  refine tk_cV1  rfl rfl (r := 69) (as := []) (rest := [.long (Int32.toInt64 a1), .ref 67]) rfl ly69 rfl rfl (ok_fN_p sc 69 o1 ly69) ?_
  refine tk_Ps  2 (pc' := 43) (ls' := [(0, .ref 39), (1, .int a1)]) (st' := [.ref 39, .long ((Int32.toInt64 a1) * (fN_p 69 o1)), .ref 67]) rfl ?_
  refine tk_HR  rfl rfl ly39 rt39_7 ?_
  obtain ⟨o2, ho2, h⟩ := tk_lete h
  refine tk_cV0  rfl rfl (r := 67) (as := [.long ((Int32.toInt64 a1) * (fN_p 69 o1)), .ref 64]) (rest := []) rfl ly67 rfl rfl (ok_fV_add sc 67 ((Int32.toInt64 a1) * (fN_p 69 o1)) 64 o1 ly67 ly64 ho2) ?_
  refine tk_Ps  1 (pc' := 50) (ls' := [(0, .ref 39), (1, .int a1)]) (st' := [.ref 39]) rfl ?_
  refine tk_HR  rfl rfl ly39 rt39_11 ?_
  refine tk_Ps  3 (pc' := 56) (ls' := [(0, .ref 39), (1, .int a1)]) (st' := [.long (0 : Int64), .long (0 : Int64), .long (0 : Int64), .ref 68]) rfl ?_
  obtain ⟨o3, ho3, h⟩ := tk_lete h
  refine tk_cV0  rfl rfl (r := 68) (as := [.long (0 : Int64), .long (0 : Int64), .long (0 : Int64)]) (rest := []) rfl ly68 rfl rfl (ok_fV_set sc 68 (0 : Int64) (0 : Int64) (0 : Int64) o2 ly68 ho3) ?_
  refine tk_Ps  1 (pc' := 60) (ls' := [(0, .ref 39), (1, .int a1)]) (st' := [.ref 39]) rfl ?_
  refine tk_HR  rfl rfl ly39 rt39_11 ?_
  refine tk_Ps  3 (pc' := 66) (ls' := [(0, .ref 39), (1, .int a1)]) (st' := [.ref 39, .long (Int32.toInt64 a1), .ref 68]) rfl ?_
  refine tk_HR  rfl rfl ly39 rt39_14 ?_
  refine tk_cV1  rfl rfl (r := 69) (as := []) (rest := [.long (Int32.toInt64 a1), .ref 68]) rfl ly69 rfl rfl (ok_fN_q sc 69 o3 ly69) ?_
  refine tk_Ps  2 (pc' := 74) (ls' := [(0, .ref 39), (1, .int a1)]) (st' := [.ref 39, .long ((Int32.toInt64 a1) * (fN_q 69 o3)), .ref 68]) rfl ?_
  refine tk_HR  rfl rfl ly39 rt39_7 ?_
  obtain ⟨o4, ho4, h⟩ := tk_lete h
  refine tk_cV0  rfl rfl (r := 68) (as := [.long ((Int32.toInt64 a1) * (fN_q 69 o3)), .ref 64]) (rest := []) rfl ly68 rfl rfl (ok_fV_add sc 68 ((Int32.toInt64 a1) * (fN_q 69 o3)) 64 o3 ly68 ly64 ho4) ?_
  subst h
  exact tk_RV  rfl rfl rfl
theorem ok_fC_become (sc : tk_X) (t : Nat) (a1 : Nat) (a2 : Nat) (a3 : Int64) (a4 : Int64) (a5 : Nat) (m : tk_m) (ht : tk_lay[t]? = some (.inl 1)) (ha1 : tk_lay[a1]? = some (.inl 8)) (ha2 : tk_lay[a2]? = some (.inl 8)) (ha5 : tk_lay[a5]? = some (.inl 8)) {out : tk_m} (h : fC_become t a1 a2 a3 a4 a5 m = some out) : tk_Ru sc 4 94 [.ref t, .ref a1, .ref a2, .long a3, .long a4, .ref a5] (tk_full m) (none, tk_full out) := by
  unfold fC_become at h
  refine tk_Ru0 me94 (ls := [(0, .ref t), (1, .ref a1), (2, .ref a2), (3, .long a3), (5, .long a4), (7, .ref a5)]) rfl rfl ?_
  refine tk_Ps  1 (pc' := 1) (ls' := [(0, .ref t), (1, .ref a1), (2, .ref a2), (3, .long a3), (5, .long a4), (7, .ref a5)]) (st' := [.ref t]) rfl ?_
  refine tk_HR  rfl rfl ht (ro1_1 ht) ?_
  refine tk_Ps  2 (pc' := 6) (ls' := [(0, .ref t), (1, .ref a1), (2, .ref a2), (3, .long a3), (5, .long a4), (7, .ref a5)]) (st' := [.ref a1, .int (0 : Int32), .ref (t + 1)]) rfl ?_
  refine tk_HJ  rfl rfl ha1 ?_
  refine tk_Ps  1 (pc' := 11) (ls' := [(0, .ref t), (1, .ref a1), (2, .ref a2), (3, .long a3), (5, .long a4), (7, .ref a5)]) (st' := [.ref a5, .long (m.2.1 a1 0), .int (0 : Int32), .ref (t + 1)]) rfl ?_
  refine tk_HJ  rfl rfl ha5 ?_
  refine tk_Ps  3 (pc' := 18) (ls' := [(0, .ref t), (1, .ref a1), (2, .ref a2), (3, .long a3), (5, .long a4), (7, .ref a5)]) (st' := [.long ((m.2.1 a1 0) + ((m.2.1 a5 0) * a4)), .int (0 : Int32), .ref (t + 1)]) rfl ?_
  refine tk_SJa  rfl rfl (lo1_1 ht) (by decide) ?_
  refine tk_Ps  1 (pc' := 20) (ls' := [(0, .ref t), (1, .ref a1), (2, .ref a2), (3, .long a3), (5, .long a4), (7, .ref a5)]) (st' := [.ref t]) rfl ?_
  refine tk_HR  rfl rfl ht (ro1_1 ht) ?_
  refine tk_Ps  2 (pc' := 25) (ls' := [(0, .ref t), (1, .ref a1), (2, .ref a2), (3, .long a3), (5, .long a4), (7, .ref a5)]) (st' := [.ref a1, .int (1 : Int32), .ref (t + 1)]) rfl ?_
  refine tk_HJ  rfl rfl ha1 ?_
  refine tk_Ps  1 (pc' := 30) (ls' := [(0, .ref t), (1, .ref a1), (2, .ref a2), (3, .long a3), (5, .long a4), (7, .ref a5)]) (st' := [.ref a5, .long (tk_u2 m.2.1 (t + 1) 0 ((m.2.1 a1 0) + ((m.2.1 a5 0) * a4)) a1 1), .int (1 : Int32), .ref (t + 1)]) rfl ?_
  refine tk_HJ  rfl rfl ha5 ?_
  refine tk_Ps  3 (pc' := 37) (ls' := [(0, .ref t), (1, .ref a1), (2, .ref a2), (3, .long a3), (5, .long a4), (7, .ref a5)]) (st' := [.long ((tk_u2 m.2.1 (t + 1) 0 ((m.2.1 a1 0) + ((m.2.1 a5 0) * a4)) a1 1) + ((tk_u2 m.2.1 (t + 1) 0 ((m.2.1 a1 0) + ((m.2.1 a5 0) * a4)) a5 1) * a4)), .int (1 : Int32), .ref (t + 1)]) rfl ?_
  refine tk_SJa  rfl rfl (lo1_1 ht) (by decide) ?_
  refine tk_Ps  1 (pc' := 39) (ls' := [(0, .ref t), (1, .ref a1), (2, .ref a2), (3, .long a3), (5, .long a4), (7, .ref a5)]) (st' := [.ref t]) rfl ?_
  refine tk_HR  rfl rfl ht (ro1_1 ht) ?_
  refine tk_Ps  2 (pc' := 44) (ls' := [(0, .ref t), (1, .ref a1), (2, .ref a2), (3, .long a3), (5, .long a4), (7, .ref a5)]) (st' := [.ref a1, .int (2 : Int32), .ref (t + 1)]) rfl ?_
  refine tk_HJ  rfl rfl ha1 ?_
  refine tk_Ps  1 (pc' := 49) (ls' := [(0, .ref t), (1, .ref a1), (2, .ref a2), (3, .long a3), (5, .long a4), (7, .ref a5)]) (st' := [.ref a5, .long (tk_u2 (tk_u2 m.2.1 (t + 1) 0 ((m.2.1 a1 0) + ((m.2.1 a5 0) * a4))) (t + 1) 1 ((tk_u2 m.2.1 (t + 1) 0 ((m.2.1 a1 0) + ((m.2.1 a5 0) * a4)) a1 1) + ((tk_u2 m.2.1 (t + 1) 0 ((m.2.1 a1 0) + ((m.2.1 a5 0) * a4)) a5 1) * a4)) a1 2), .int (2 : Int32), .ref (t + 1)]) rfl ?_
  refine tk_HJ  rfl rfl ha5 ?_
  refine tk_Ps  3 (pc' := 56) (ls' := [(0, .ref t), (1, .ref a1), (2, .ref a2), (3, .long a3), (5, .long a4), (7, .ref a5)]) (st' := [.long ((tk_u2 (tk_u2 m.2.1 (t + 1) 0 ((m.2.1 a1 0) + ((m.2.1 a5 0) * a4))) (t + 1) 1 ((tk_u2 m.2.1 (t + 1) 0 ((m.2.1 a1 0) + ((m.2.1 a5 0) * a4)) a1 1) + ((tk_u2 m.2.1 (t + 1) 0 ((m.2.1 a1 0) + ((m.2.1 a5 0) * a4)) a5 1) * a4)) a1 2) + ((tk_u2 (tk_u2 m.2.1 (t + 1) 0 ((m.2.1 a1 0) + ((m.2.1 a5 0) * a4))) (t + 1) 1 ((tk_u2 m.2.1 (t + 1) 0 ((m.2.1 a1 0) + ((m.2.1 a5 0) * a4)) a1 1) + ((tk_u2 m.2.1 (t + 1) 0 ((m.2.1 a1 0) + ((m.2.1 a5 0) * a4)) a5 1) * a4)) a5 2) * a4)), .int (2 : Int32), .ref (t + 1)]) rfl ?_
  refine tk_SJa  rfl rfl (lo1_1 ht) (by decide) ?_
  refine tk_Ps  1 (pc' := 58) (ls' := [(0, .ref t), (1, .ref a1), (2, .ref a2), (3, .long a3), (5, .long a4), (7, .ref a5)]) (st' := [.ref t]) rfl ?_
  refine tk_HR  rfl rfl ht (ro1_1 ht) ?_
  refine tk_Ps  2 (pc' := 63) (ls' := [(0, .ref t), (1, .ref a1), (2, .ref a2), (3, .long a3), (5, .long a4), (7, .ref a5)]) (st' := [.ref a2, .int (3 : Int32), .ref (t + 1)]) rfl ?_
  refine tk_HJ  rfl rfl ha2 ?_
  refine tk_SJa  rfl rfl (lo1_1 ht) (by decide) ?_
  refine tk_Ps  1 (pc' := 68) (ls' := [(0, .ref t), (1, .ref a1), (2, .ref a2), (3, .long a3), (5, .long a4), (7, .ref a5)]) (st' := [.ref t]) rfl ?_
  refine tk_HR  rfl rfl ht (ro1_1 ht) ?_
  refine tk_Ps  2 (pc' := 73) (ls' := [(0, .ref t), (1, .ref a1), (2, .ref a2), (3, .long a3), (5, .long a4), (7, .ref a5)]) (st' := [.ref a2, .int (4 : Int32), .ref (t + 1)]) rfl ?_
  refine tk_HJ  rfl rfl ha2 ?_
  refine tk_SJa  rfl rfl (lo1_1 ht) (by decide) ?_
  refine tk_Ps  1 (pc' := 78) (ls' := [(0, .ref t), (1, .ref a1), (2, .ref a2), (3, .long a3), (5, .long a4), (7, .ref a5)]) (st' := [.ref t]) rfl ?_
  refine tk_HR  rfl rfl ht (ro1_1 ht) ?_
  refine tk_Ps  2 (pc' := 83) (ls' := [(0, .ref t), (1, .ref a1), (2, .ref a2), (3, .long a3), (5, .long a4), (7, .ref a5)]) (st' := [.ref a2, .int (5 : Int32), .ref (t + 1)]) rfl ?_
  refine tk_HJ  rfl rfl ha2 ?_
  refine tk_SJa  rfl rfl (lo1_1 ht) (by decide) ?_
  refine tk_Ps  1 (pc' := 88) (ls' := [(0, .ref t), (1, .ref a1), (2, .ref a2), (3, .long a3), (5, .long a4), (7, .ref a5)]) (st' := [.ref t]) rfl ?_
  refine tk_HR  rfl rfl ht (ro1_1 ht) ?_
  refine tk_Ps  2 (pc' := 95) (ls' := [(0, .ref t), (1, .ref a1), (2, .ref a2), (3, .long a3), (5, .long a4), (7, .ref a5)]) (st' := [.long a4, .int (6 : Int32), .ref (t + 1)]) rfl ?_
  refine tk_SJa  rfl rfl (lo1_1 ht) (by decide) ?_
  refine tk_Ps  2 (pc' := 98) (ls' := [(0, .ref t), (1, .ref a1), (2, .ref a2), (3, .long a3), (5, .long a4), (7, .ref a5)]) (st' := [.long a3, .ref t]) rfl ?_
  refine tk_SJ  rfl rfl ht ?_
  refine tk_Ps  1 (pc' := 102) (ls' := [(0, .ref t), (1, .ref a1), (2, .ref a2), (3, .long a3), (5, .long a4), (7, .ref a5)]) (st' := [.ref t]) rfl ?_
  refine tk_HR  rfl rfl ht (ro1_1 ht) ?_
  refine tk_Ps  1 (pc' := 107) (ls' := [(0, .ref t), (1, .ref a1), (2, .ref a2), (3, .long a3), (5, .long a4), (7, .ref a5)]) (st' := [.int (6 : Int32), .ref (t + 1)]) rfl ?_
  obtain ⟨o1, ho1, h⟩ := tk_bnd h
  refine tk_cS1  rfl rfl (as := [.ref (t + 1), .int (6 : Int32)]) (rest := []) rfl rfl rfl (ok_fK_lower sc (t + 1) (6 : Int32) (m.1, tk_u2 (tk_u2 (tk_u2 (tk_u2 (tk_u2 (tk_u2 (tk_u2 (tk_u2 m.2.1 (t + 1) 0 ((m.2.1 a1 0) + ((m.2.1 a5 0) * a4))) (t + 1) 1 ((tk_u2 m.2.1 (t + 1) 0 ((m.2.1 a1 0) + ((m.2.1 a5 0) * a4)) a1 1) + ((tk_u2 m.2.1 (t + 1) 0 ((m.2.1 a1 0) + ((m.2.1 a5 0) * a4)) a5 1) * a4))) (t + 1) 2 ((tk_u2 (tk_u2 m.2.1 (t + 1) 0 ((m.2.1 a1 0) + ((m.2.1 a5 0) * a4))) (t + 1) 1 ((tk_u2 m.2.1 (t + 1) 0 ((m.2.1 a1 0) + ((m.2.1 a5 0) * a4)) a1 1) + ((tk_u2 m.2.1 (t + 1) 0 ((m.2.1 a1 0) + ((m.2.1 a5 0) * a4)) a5 1) * a4)) a1 2) + ((tk_u2 (tk_u2 m.2.1 (t + 1) 0 ((m.2.1 a1 0) + ((m.2.1 a5 0) * a4))) (t + 1) 1 ((tk_u2 m.2.1 (t + 1) 0 ((m.2.1 a1 0) + ((m.2.1 a5 0) * a4)) a1 1) + ((tk_u2 m.2.1 (t + 1) 0 ((m.2.1 a1 0) + ((m.2.1 a5 0) * a4)) a5 1) * a4)) a5 2) * a4))) (t + 1) 3 (tk_u2 (tk_u2 (tk_u2 m.2.1 (t + 1) 0 ((m.2.1 a1 0) + ((m.2.1 a5 0) * a4))) (t + 1) 1 ((tk_u2 m.2.1 (t + 1) 0 ((m.2.1 a1 0) + ((m.2.1 a5 0) * a4)) a1 1) + ((tk_u2 m.2.1 (t + 1) 0 ((m.2.1 a1 0) + ((m.2.1 a5 0) * a4)) a5 1) * a4))) (t + 1) 2 ((tk_u2 (tk_u2 m.2.1 (t + 1) 0 ((m.2.1 a1 0) + ((m.2.1 a5 0) * a4))) (t + 1) 1 ((tk_u2 m.2.1 (t + 1) 0 ((m.2.1 a1 0) + ((m.2.1 a5 0) * a4)) a1 1) + ((tk_u2 m.2.1 (t + 1) 0 ((m.2.1 a1 0) + ((m.2.1 a5 0) * a4)) a5 1) * a4)) a1 2) + ((tk_u2 (tk_u2 m.2.1 (t + 1) 0 ((m.2.1 a1 0) + ((m.2.1 a5 0) * a4))) (t + 1) 1 ((tk_u2 m.2.1 (t + 1) 0 ((m.2.1 a1 0) + ((m.2.1 a5 0) * a4)) a1 1) + ((tk_u2 m.2.1 (t + 1) 0 ((m.2.1 a1 0) + ((m.2.1 a5 0) * a4)) a5 1) * a4)) a5 2) * a4)) a2 0)) (t + 1) 4 (tk_u2 (tk_u2 (tk_u2 (tk_u2 m.2.1 (t + 1) 0 ((m.2.1 a1 0) + ((m.2.1 a5 0) * a4))) (t + 1) 1 ((tk_u2 m.2.1 (t + 1) 0 ((m.2.1 a1 0) + ((m.2.1 a5 0) * a4)) a1 1) + ((tk_u2 m.2.1 (t + 1) 0 ((m.2.1 a1 0) + ((m.2.1 a5 0) * a4)) a5 1) * a4))) (t + 1) 2 ((tk_u2 (tk_u2 m.2.1 (t + 1) 0 ((m.2.1 a1 0) + ((m.2.1 a5 0) * a4))) (t + 1) 1 ((tk_u2 m.2.1 (t + 1) 0 ((m.2.1 a1 0) + ((m.2.1 a5 0) * a4)) a1 1) + ((tk_u2 m.2.1 (t + 1) 0 ((m.2.1 a1 0) + ((m.2.1 a5 0) * a4)) a5 1) * a4)) a1 2) + ((tk_u2 (tk_u2 m.2.1 (t + 1) 0 ((m.2.1 a1 0) + ((m.2.1 a5 0) * a4))) (t + 1) 1 ((tk_u2 m.2.1 (t + 1) 0 ((m.2.1 a1 0) + ((m.2.1 a5 0) * a4)) a1 1) + ((tk_u2 m.2.1 (t + 1) 0 ((m.2.1 a1 0) + ((m.2.1 a5 0) * a4)) a5 1) * a4)) a5 2) * a4))) (t + 1) 3 (tk_u2 (tk_u2 (tk_u2 m.2.1 (t + 1) 0 ((m.2.1 a1 0) + ((m.2.1 a5 0) * a4))) (t + 1) 1 ((tk_u2 m.2.1 (t + 1) 0 ((m.2.1 a1 0) + ((m.2.1 a5 0) * a4)) a1 1) + ((tk_u2 m.2.1 (t + 1) 0 ((m.2.1 a1 0) + ((m.2.1 a5 0) * a4)) a5 1) * a4))) (t + 1) 2 ((tk_u2 (tk_u2 m.2.1 (t + 1) 0 ((m.2.1 a1 0) + ((m.2.1 a5 0) * a4))) (t + 1) 1 ((tk_u2 m.2.1 (t + 1) 0 ((m.2.1 a1 0) + ((m.2.1 a5 0) * a4)) a1 1) + ((tk_u2 m.2.1 (t + 1) 0 ((m.2.1 a1 0) + ((m.2.1 a5 0) * a4)) a5 1) * a4)) a1 2) + ((tk_u2 (tk_u2 m.2.1 (t + 1) 0 ((m.2.1 a1 0) + ((m.2.1 a5 0) * a4))) (t + 1) 1 ((tk_u2 m.2.1 (t + 1) 0 ((m.2.1 a1 0) + ((m.2.1 a5 0) * a4)) a1 1) + ((tk_u2 m.2.1 (t + 1) 0 ((m.2.1 a1 0) + ((m.2.1 a5 0) * a4)) a5 1) * a4)) a5 2) * a4)) a2 0) a2 1)) (t + 1) 5 (tk_u2 (tk_u2 (tk_u2 (tk_u2 (tk_u2 m.2.1 (t + 1) 0 ((m.2.1 a1 0) + ((m.2.1 a5 0) * a4))) (t + 1) 1 ((tk_u2 m.2.1 (t + 1) 0 ((m.2.1 a1 0) + ((m.2.1 a5 0) * a4)) a1 1) + ((tk_u2 m.2.1 (t + 1) 0 ((m.2.1 a1 0) + ((m.2.1 a5 0) * a4)) a5 1) * a4))) (t + 1) 2 ((tk_u2 (tk_u2 m.2.1 (t + 1) 0 ((m.2.1 a1 0) + ((m.2.1 a5 0) * a4))) (t + 1) 1 ((tk_u2 m.2.1 (t + 1) 0 ((m.2.1 a1 0) + ((m.2.1 a5 0) * a4)) a1 1) + ((tk_u2 m.2.1 (t + 1) 0 ((m.2.1 a1 0) + ((m.2.1 a5 0) * a4)) a5 1) * a4)) a1 2) + ((tk_u2 (tk_u2 m.2.1 (t + 1) 0 ((m.2.1 a1 0) + ((m.2.1 a5 0) * a4))) (t + 1) 1 ((tk_u2 m.2.1 (t + 1) 0 ((m.2.1 a1 0) + ((m.2.1 a5 0) * a4)) a1 1) + ((tk_u2 m.2.1 (t + 1) 0 ((m.2.1 a1 0) + ((m.2.1 a5 0) * a4)) a5 1) * a4)) a5 2) * a4))) (t + 1) 3 (tk_u2 (tk_u2 (tk_u2 m.2.1 (t + 1) 0 ((m.2.1 a1 0) + ((m.2.1 a5 0) * a4))) (t + 1) 1 ((tk_u2 m.2.1 (t + 1) 0 ((m.2.1 a1 0) + ((m.2.1 a5 0) * a4)) a1 1) + ((tk_u2 m.2.1 (t + 1) 0 ((m.2.1 a1 0) + ((m.2.1 a5 0) * a4)) a5 1) * a4))) (t + 1) 2 ((tk_u2 (tk_u2 m.2.1 (t + 1) 0 ((m.2.1 a1 0) + ((m.2.1 a5 0) * a4))) (t + 1) 1 ((tk_u2 m.2.1 (t + 1) 0 ((m.2.1 a1 0) + ((m.2.1 a5 0) * a4)) a1 1) + ((tk_u2 m.2.1 (t + 1) 0 ((m.2.1 a1 0) + ((m.2.1 a5 0) * a4)) a5 1) * a4)) a1 2) + ((tk_u2 (tk_u2 m.2.1 (t + 1) 0 ((m.2.1 a1 0) + ((m.2.1 a5 0) * a4))) (t + 1) 1 ((tk_u2 m.2.1 (t + 1) 0 ((m.2.1 a1 0) + ((m.2.1 a5 0) * a4)) a1 1) + ((tk_u2 m.2.1 (t + 1) 0 ((m.2.1 a1 0) + ((m.2.1 a5 0) * a4)) a5 1) * a4)) a5 2) * a4)) a2 0)) (t + 1) 4 (tk_u2 (tk_u2 (tk_u2 (tk_u2 m.2.1 (t + 1) 0 ((m.2.1 a1 0) + ((m.2.1 a5 0) * a4))) (t + 1) 1 ((tk_u2 m.2.1 (t + 1) 0 ((m.2.1 a1 0) + ((m.2.1 a5 0) * a4)) a1 1) + ((tk_u2 m.2.1 (t + 1) 0 ((m.2.1 a1 0) + ((m.2.1 a5 0) * a4)) a5 1) * a4))) (t + 1) 2 ((tk_u2 (tk_u2 m.2.1 (t + 1) 0 ((m.2.1 a1 0) + ((m.2.1 a5 0) * a4))) (t + 1) 1 ((tk_u2 m.2.1 (t + 1) 0 ((m.2.1 a1 0) + ((m.2.1 a5 0) * a4)) a1 1) + ((tk_u2 m.2.1 (t + 1) 0 ((m.2.1 a1 0) + ((m.2.1 a5 0) * a4)) a5 1) * a4)) a1 2) + ((tk_u2 (tk_u2 m.2.1 (t + 1) 0 ((m.2.1 a1 0) + ((m.2.1 a5 0) * a4))) (t + 1) 1 ((tk_u2 m.2.1 (t + 1) 0 ((m.2.1 a1 0) + ((m.2.1 a5 0) * a4)) a1 1) + ((tk_u2 m.2.1 (t + 1) 0 ((m.2.1 a1 0) + ((m.2.1 a5 0) * a4)) a5 1) * a4)) a5 2) * a4))) (t + 1) 3 (tk_u2 (tk_u2 (tk_u2 m.2.1 (t + 1) 0 ((m.2.1 a1 0) + ((m.2.1 a5 0) * a4))) (t + 1) 1 ((tk_u2 m.2.1 (t + 1) 0 ((m.2.1 a1 0) + ((m.2.1 a5 0) * a4)) a1 1) + ((tk_u2 m.2.1 (t + 1) 0 ((m.2.1 a1 0) + ((m.2.1 a5 0) * a4)) a5 1) * a4))) (t + 1) 2 ((tk_u2 (tk_u2 m.2.1 (t + 1) 0 ((m.2.1 a1 0) + ((m.2.1 a5 0) * a4))) (t + 1) 1 ((tk_u2 m.2.1 (t + 1) 0 ((m.2.1 a1 0) + ((m.2.1 a5 0) * a4)) a1 1) + ((tk_u2 m.2.1 (t + 1) 0 ((m.2.1 a1 0) + ((m.2.1 a5 0) * a4)) a5 1) * a4)) a1 2) + ((tk_u2 (tk_u2 m.2.1 (t + 1) 0 ((m.2.1 a1 0) + ((m.2.1 a5 0) * a4))) (t + 1) 1 ((tk_u2 m.2.1 (t + 1) 0 ((m.2.1 a1 0) + ((m.2.1 a5 0) * a4)) a1 1) + ((tk_u2 m.2.1 (t + 1) 0 ((m.2.1 a1 0) + ((m.2.1 a5 0) * a4)) a5 1) * a4)) a5 2) * a4)) a2 0) a2 1) a2 2)) (t + 1) 6 a4) t 2 a3, m.2.2.1, m.2.2.2) (tk_al_of (lo1_1 ht)) ho1) ?_
  refine tk_Ps  2 (pc' := 112) (ls' := [(0, .ref t), (1, .ref a1), (2, .ref a2), (3, .long a3), (5, .long a4), (7, .ref a5)]) (st' := [.ref t]) rfl ?_
  refine tk_HR  rfl rfl ht (ro1_3 ht) ?_
  refine tk_Ps  1 (pc' := 116) (ls' := [(0, .ref t), (1, .ref a1), (2, .ref a2), (3, .long a3), (5, .long a4), (7, .ref a5)]) (st' := [.ref t, .ref (t + 2)]) rfl ?_
  refine tk_HR  rfl rfl ht (ro1_1 ht) ?_
  refine tk_Ps  1 (pc' := 120) (ls' := [(0, .ref t), (1, .ref a1), (2, .ref a2), (3, .long a3), (5, .long a4), (7, .ref a5)]) (st' := [.int (0 : Int32), .ref (t + 1), .ref (t + 2)]) rfl ?_
  refine tk_HJa  rfl rfl (lo1_1 ht) (by decide) ?_
  refine tk_Ps  1 (pc' := 122) (ls' := [(0, .ref t), (1, .ref a1), (2, .ref a2), (3, .long a3), (5, .long a4), (7, .ref a5)]) (st' := [.ref t, .long (o1.2.2.1 (t + 1) 0), .ref (t + 2)]) rfl ?_
  refine tk_HR  rfl rfl ht (ro1_1 ht) ?_
  refine tk_Ps  1 (pc' := 126) (ls' := [(0, .ref t), (1, .ref a1), (2, .ref a2), (3, .long a3), (5, .long a4), (7, .ref a5)]) (st' := [.int (3 : Int32), .ref (t + 1), .long (o1.2.2.1 (t + 1) 0), .ref (t + 2)]) rfl ?_
  refine tk_HJa  rfl rfl (lo1_1 ht) (by decide) ?_
  refine tk_Ps  1 (pc' := 128) (ls' := [(0, .ref t), (1, .ref a1), (2, .ref a2), (3, .long a3), (5, .long a4), (7, .ref a5)]) (st' := [.ref t, .long (o1.2.2.1 (t + 1) 3), .long (o1.2.2.1 (t + 1) 0), .ref (t + 2)]) rfl ?_
  refine tk_HJ  rfl rfl ht ?_
  refine tk_Ps  1 (pc' := 132) (ls' := [(0, .ref t), (1, .ref a1), (2, .ref a2), (3, .long a3), (5, .long a4), (7, .ref a5)]) (st' := [.ref t, .long (o1.2.2.1 t 2), .long (o1.2.2.1 (t + 1) 3), .long (o1.2.2.1 (t + 1) 0), .ref (t + 2)]) rfl ?_
  refine tk_HR  rfl rfl ht (ro1_1 ht) ?_
  refine tk_Ps  1 (pc' := 137) (ls' := [(0, .ref t), (1, .ref a1), (2, .ref a2), (3, .long a3), (5, .long a4), (7, .ref a5)]) (st' := [.int (6 : Int32), .ref (t + 1), .long (o1.2.2.1 t 2), .long (o1.2.2.1 (t + 1) 3), .long (o1.2.2.1 (t + 1) 0), .ref (t + 2)]) rfl ?_
  refine tk_HJa  rfl rfl (lo1_1 ht) (by decide) ?_
  obtain ⟨o2, ho2, h⟩ := tk_bnd h
  refine tk_cV1  rfl rfl (r := (t + 2)) (as := [.long (o1.2.2.1 (t + 1) 0), .long (o1.2.2.1 (t + 1) 3), .long (o1.2.2.1 t 2), .long (o1.2.2.1 (t + 1) 6)]) (rest := []) rfl (lo1_3 ht) rfl rfl (ok_fN_hold sc (t + 2) (o1.2.2.1 (t + 1) 0) (o1.2.2.1 (t + 1) 3) (o1.2.2.1 t 2) (o1.2.2.1 (t + 1) 6) o1.2 (lo1_3 ht) ho2) ?_
  refine tk_Ps  2 (pc' := 143) (ls' := [(0, .ref t), (1, .ref a1), (2, .ref a2), (3, .long a3), (5, .long a4), (7, .ref a5)]) (st' := [.ref t]) rfl ?_
  refine tk_HR  rfl rfl ht (ro1_4 ht) ?_
  refine tk_Ps  1 (pc' := 147) (ls' := [(0, .ref t), (1, .ref a1), (2, .ref a2), (3, .long a3), (5, .long a4), (7, .ref a5)]) (st' := [.ref t, .ref (t + 4)]) rfl ?_
  refine tk_HR  rfl rfl ht (ro1_1 ht) ?_
  refine tk_Ps  1 (pc' := 151) (ls' := [(0, .ref t), (1, .ref a1), (2, .ref a2), (3, .long a3), (5, .long a4), (7, .ref a5)]) (st' := [.int (1 : Int32), .ref (t + 1), .ref (t + 4)]) rfl ?_
  refine tk_HJa  rfl rfl (lo1_1 ht) (by decide) ?_
  refine tk_Ps  1 (pc' := 153) (ls' := [(0, .ref t), (1, .ref a1), (2, .ref a2), (3, .long a3), (5, .long a4), (7, .ref a5)]) (st' := [.ref t, .long (o2.2.2.1 (t + 1) 1), .ref (t + 4)]) rfl ?_
  refine tk_HR  rfl rfl ht (ro1_1 ht) ?_
  refine tk_Ps  1 (pc' := 157) (ls' := [(0, .ref t), (1, .ref a1), (2, .ref a2), (3, .long a3), (5, .long a4), (7, .ref a5)]) (st' := [.int (4 : Int32), .ref (t + 1), .long (o2.2.2.1 (t + 1) 1), .ref (t + 4)]) rfl ?_
  refine tk_HJa  rfl rfl (lo1_1 ht) (by decide) ?_
  refine tk_Ps  1 (pc' := 159) (ls' := [(0, .ref t), (1, .ref a1), (2, .ref a2), (3, .long a3), (5, .long a4), (7, .ref a5)]) (st' := [.ref t, .long (o2.2.2.1 (t + 1) 4), .long (o2.2.2.1 (t + 1) 1), .ref (t + 4)]) rfl ?_
  refine tk_HJ  rfl rfl ht ?_
  refine tk_Ps  1 (pc' := 163) (ls' := [(0, .ref t), (1, .ref a1), (2, .ref a2), (3, .long a3), (5, .long a4), (7, .ref a5)]) (st' := [.ref t, .long (o2.2.2.1 t 2), .long (o2.2.2.1 (t + 1) 4), .long (o2.2.2.1 (t + 1) 1), .ref (t + 4)]) rfl ?_
  refine tk_HR  rfl rfl ht (ro1_1 ht) ?_
  refine tk_Ps  1 (pc' := 168) (ls' := [(0, .ref t), (1, .ref a1), (2, .ref a2), (3, .long a3), (5, .long a4), (7, .ref a5)]) (st' := [.int (6 : Int32), .ref (t + 1), .long (o2.2.2.1 t 2), .long (o2.2.2.1 (t + 1) 4), .long (o2.2.2.1 (t + 1) 1), .ref (t + 4)]) rfl ?_
  refine tk_HJa  rfl rfl (lo1_1 ht) (by decide) ?_
  obtain ⟨o3, ho3, h⟩ := tk_bnd h
  refine tk_cV1  rfl rfl (r := (t + 4)) (as := [.long (o2.2.2.1 (t + 1) 1), .long (o2.2.2.1 (t + 1) 4), .long (o2.2.2.1 t 2), .long (o2.2.2.1 (t + 1) 6)]) (rest := []) rfl (lo1_4 ht) rfl rfl (ok_fN_hold sc (t + 4) (o2.2.2.1 (t + 1) 1) (o2.2.2.1 (t + 1) 4) (o2.2.2.1 t 2) (o2.2.2.1 (t + 1) 6) o2.2 (lo1_4 ht) ho3) ?_
  refine tk_Ps  2 (pc' := 174) (ls' := [(0, .ref t), (1, .ref a1), (2, .ref a2), (3, .long a3), (5, .long a4), (7, .ref a5)]) (st' := [.ref t]) rfl ?_
  refine tk_HR  rfl rfl ht (ro1_5 ht) ?_
  refine tk_Ps  1 (pc' := 178) (ls' := [(0, .ref t), (1, .ref a1), (2, .ref a2), (3, .long a3), (5, .long a4), (7, .ref a5)]) (st' := [.ref t, .ref (t + 6)]) rfl ?_
  refine tk_HR  rfl rfl ht (ro1_1 ht) ?_
  refine tk_Ps  1 (pc' := 182) (ls' := [(0, .ref t), (1, .ref a1), (2, .ref a2), (3, .long a3), (5, .long a4), (7, .ref a5)]) (st' := [.int (2 : Int32), .ref (t + 1), .ref (t + 6)]) rfl ?_
  refine tk_HJa  rfl rfl (lo1_1 ht) (by decide) ?_
  refine tk_Ps  1 (pc' := 184) (ls' := [(0, .ref t), (1, .ref a1), (2, .ref a2), (3, .long a3), (5, .long a4), (7, .ref a5)]) (st' := [.ref t, .long (o3.2.2.1 (t + 1) 2), .ref (t + 6)]) rfl ?_
  refine tk_HR  rfl rfl ht (ro1_1 ht) ?_
  refine tk_Ps  1 (pc' := 188) (ls' := [(0, .ref t), (1, .ref a1), (2, .ref a2), (3, .long a3), (5, .long a4), (7, .ref a5)]) (st' := [.int (5 : Int32), .ref (t + 1), .long (o3.2.2.1 (t + 1) 2), .ref (t + 6)]) rfl ?_
  refine tk_HJa  rfl rfl (lo1_1 ht) (by decide) ?_
  refine tk_Ps  1 (pc' := 190) (ls' := [(0, .ref t), (1, .ref a1), (2, .ref a2), (3, .long a3), (5, .long a4), (7, .ref a5)]) (st' := [.ref t, .long (o3.2.2.1 (t + 1) 5), .long (o3.2.2.1 (t + 1) 2), .ref (t + 6)]) rfl ?_
  refine tk_HJ  rfl rfl ht ?_
  refine tk_Ps  1 (pc' := 194) (ls' := [(0, .ref t), (1, .ref a1), (2, .ref a2), (3, .long a3), (5, .long a4), (7, .ref a5)]) (st' := [.ref t, .long (o3.2.2.1 t 2), .long (o3.2.2.1 (t + 1) 5), .long (o3.2.2.1 (t + 1) 2), .ref (t + 6)]) rfl ?_
  refine tk_HR  rfl rfl ht (ro1_1 ht) ?_
  refine tk_Ps  1 (pc' := 199) (ls' := [(0, .ref t), (1, .ref a1), (2, .ref a2), (3, .long a3), (5, .long a4), (7, .ref a5)]) (st' := [.int (6 : Int32), .ref (t + 1), .long (o3.2.2.1 t 2), .long (o3.2.2.1 (t + 1) 5), .long (o3.2.2.1 (t + 1) 2), .ref (t + 6)]) rfl ?_
  refine tk_HJa  rfl rfl (lo1_1 ht) (by decide) ?_
  obtain ⟨o4, ho4, h⟩ := tk_bnd h
  refine tk_cV1  rfl rfl (r := (t + 6)) (as := [.long (o3.2.2.1 (t + 1) 2), .long (o3.2.2.1 (t + 1) 5), .long (o3.2.2.1 t 2), .long (o3.2.2.1 (t + 1) 6)]) (rest := []) rfl (lo1_5 ht) rfl rfl (ok_fN_hold sc (t + 6) (o3.2.2.1 (t + 1) 2) (o3.2.2.1 (t + 1) 5) (o3.2.2.1 t 2) (o3.2.2.1 (t + 1) 6) o3.2 (lo1_5 ht) ho4) ?_
  refine tk_Ps  1 (pc' := 204) (ls' := [(0, .ref t), (1, .ref a1), (2, .ref a2), (3, .long a3), (5, .long a4), (7, .ref a5)]) (st' := []) rfl ?_
  replace h := Option.some.inj h
  subst h
  exact tk_RV  rfl rfl rfl

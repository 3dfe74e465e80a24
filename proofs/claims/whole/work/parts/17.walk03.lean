theorem ok_fN_p (sc : tk_X) (t : Nat) (m : tk_m) (ht : tk_lay[t]? = some (.inl 4)) : tk_Ru sc 1 92 [.ref t] (tk_full m) (some (.long (fN_p t m)), tk_full m) := by
  obtain ⟨out, h⟩ : ∃ out, fN_p t m = out := ⟨_, rfl⟩
  rw [h]
  unfold fN_p at h
  refine tk_Ru0 me92 (ls := [(0, .ref t)]) rfl rfl ?_
  refine tk_Ps me92 1 (pc' := 1) (ls' := [(0, .ref t)]) (st' := [.ref t]) rfl ?_
  refine tk_HR me92 rfl rfl ht (ro4_1 ht) ?_
  refine tk_Ps me92 1 (pc' := 5) (ls' := [(0, .ref t)]) (st' := [.int (0 : Int32), .ref (t + 1)]) rfl ?_
  refine tk_HJa me92 rfl rfl (lo4_1 ht) (by decide) ?_
  subst h
  exact tk_RJ me92 rfl rfl rfl
theorem ok_fN_q (sc : tk_X) (t : Nat) (m : tk_m) (ht : tk_lay[t]? = some (.inl 4)) : tk_Ru sc 1 93 [.ref t] (tk_full m) (some (.long (fN_q t m)), tk_full m) := by
  obtain ⟨out, h⟩ : ∃ out, fN_q t m = out := ⟨_, rfl⟩
  rw [h]
  unfold fN_q at h
  refine tk_Ru0 me93 (ls := [(0, .ref t)]) rfl rfl ?_
  refine tk_Ps me93 1 (pc' := 1) (ls' := [(0, .ref t)]) (st' := [.ref t]) rfl ?_
  refine tk_HR me93 rfl rfl ht (ro4_1 ht) ?_
  refine tk_Ps me93 1 (pc' := 5) (ls' := [(0, .ref t)]) (st' := [.int (1 : Int32), .ref (t + 1)]) rfl ?_
  refine tk_HJa me93 rfl rfl (lo4_1 ht) (by decide) ?_
  subst h
  exact tk_RJ me93 rfl rfl rfl
theorem ok_fF_takePlace (sc : tk_X) (a1 : Int32) (m : tk_m) {out : tk_m} (h : fF_takePlace a1 m = out) : tk_Ru sc 2 91 [.ref 39, .int a1] (tk_full m) (none, tk_full out) := by
  unfold fF_takePlace at h
  refine tk_Ru0 me91 (ls := [(0, .ref 39), (1, .int a1)]) rfl rfl ?_
  refine tk_Ps me91 1 (pc' := 1) (ls' := [(0, .ref 39), (1, .int a1)]) (st' := [.ref 39]) rfl ?_
  refine tk_HR me91 rfl rfl ly39 rt39_10 ?_
  refine tk_Ps me91 1 (pc' := 5) (ls' := [(0, .ref 39), (1, .int a1)]) (st' := [.ref 39, .ref 46]) rfl ?_
  refine tk_HR me91 rfl rfl ly39 rt39_9 ?_
  refine tk_HJ me91 rfl rfl ly45 ?_
  refine tk_Ps me91 1 (pc' := 12) (ls' := [(0, .ref 39), (1, .int a1)]) (st' := [.ref 39, .long (m.2.1 45 0), .ref 46]) rfl ?_
  refine tk_HR me91 rfl rfl ly39 rt39_9 ?_
  refine tk_HJ me91 rfl rfl ly45 ?_
  refine tk_Ps me91 1 (pc' := 19) (ls' := [(0, .ref 39), (1, .int a1)]) (st' := [.ref 39, .long (m.2.1 45 1), .long (m.2.1 45 0), .ref 46]) rfl ?_
  refine tk_HR me91 rfl rfl ly39 rt39_9 ?_
  refine tk_HJ me91 rfl rfl ly45 ?_
  obtain ⟨o1, ho1, h⟩ := tk_lete h
  refine tk_cV0 me91 rfl rfl (r := 46) (as := [.long (m.2.1 45 0), .long (m.2.1 45 1), .long (m.2.1 45 2)]) (rest := []) rfl ly46 rfl rfl (ok_fV_set sc 46 (m.2.1 45 0) (m.2.1 45 1) (m.2.1 45 2) m ly46 ho1) ?_
  refine tk_Ps me91 1 (pc' := 29) (ls' := [(0, .ref 39), (1, .int a1)]) (st' := [.ref 39]) rfl ?_
  refine tk_HR me91 rfl rfl ly39 rt39_10 ?_
  refine tk_Ps me91 3 (pc' := 35) (ls' := [(0, .ref 39), (1, .int a1)]) (st' := [.ref 39, .long (Int32.toInt64 a1), .ref 46]) rfl ?_
  refine tk_HR me91 rfl rfl ly39 rt39_14 ?_
  refine tk_cV1 me91 rfl rfl (r := 48) (as := []) (rest := [.long (Int32.toInt64 a1), .ref 46]) rfl ly48 rfl rfl (ok_fN_p sc 48 o1 ly48) ?_
  refine tk_Ps me91 2 (pc' := 43) (ls' := [(0, .ref 39), (1, .int a1)]) (st' := [.ref 39, .long ((Int32.toInt64 a1) * (fN_p 48 o1)), .ref 46]) rfl ?_
  refine tk_HR me91 rfl rfl ly39 rt39_7 ?_
  obtain ⟨o2, ho2, h⟩ := tk_lete h
  refine tk_cV0 me91 rfl rfl (r := 46) (as := [.long ((Int32.toInt64 a1) * (fN_p 48 o1)), .ref 43]) (rest := []) rfl ly46 rfl rfl (ok_fV_add sc 46 ((Int32.toInt64 a1) * (fN_p 48 o1)) 43 o1 ly46 ly43 ho2) ?_
  refine tk_Ps me91 1 (pc' := 50) (ls' := [(0, .ref 39), (1, .int a1)]) (st' := [.ref 39]) rfl ?_
  refine tk_HR me91 rfl rfl ly39 rt39_11 ?_
  refine tk_Ps me91 3 (pc' := 56) (ls' := [(0, .ref 39), (1, .int a1)]) (st' := [.long (0 : Int64), .long (0 : Int64), .long (0 : Int64), .ref 47]) rfl ?_
  obtain ⟨o3, ho3, h⟩ := tk_lete h
  refine tk_cV0 me91 rfl rfl (r := 47) (as := [.long (0 : Int64), .long (0 : Int64), .long (0 : Int64)]) (rest := []) rfl ly47 rfl rfl (ok_fV_set sc 47 (0 : Int64) (0 : Int64) (0 : Int64) o2 ly47 ho3) ?_
  refine tk_Ps me91 1 (pc' := 60) (ls' := [(0, .ref 39), (1, .int a1)]) (st' := [.ref 39]) rfl ?_
  refine tk_HR me91 rfl rfl ly39 rt39_11 ?_
  refine tk_Ps me91 3 (pc' := 66) (ls' := [(0, .ref 39), (1, .int a1)]) (st' := [.ref 39, .long (Int32.toInt64 a1), .ref 47]) rfl ?_
  refine tk_HR me91 rfl rfl ly39 rt39_14 ?_
  refine tk_cV1 me91 rfl rfl (r := 48) (as := []) (rest := [.long (Int32.toInt64 a1), .ref 47]) rfl ly48 rfl rfl (ok_fN_q sc 48 o3 ly48) ?_
  refine tk_Ps me91 2 (pc' := 74) (ls' := [(0, .ref 39), (1, .int a1)]) (st' := [.ref 39, .long ((Int32.toInt64 a1) * (fN_q 48 o3)), .ref 47]) rfl ?_
  refine tk_HR me91 rfl rfl ly39 rt39_7 ?_
  obtain ⟨o4, ho4, h⟩ := tk_lete h
  refine tk_cV0 me91 rfl rfl (r := 47) (as := [.long ((Int32.toInt64 a1) * (fN_q 48 o3)), .ref 43]) (rest := []) rfl ly47 rfl rfl (ok_fV_add sc 47 ((Int32.toInt64 a1) * (fN_q 48 o3)) 43 o3 ly47 ly43 ho4) ?_
  subst h
  exact tk_RV me91 rfl rfl rfl
theorem ok_fC_become (sc : tk_X) (t : Nat) (a1 : Nat) (a2 : Nat) (a3 : Int64) (a4 : Int64) (a5 : Nat) (m : tk_m) (ht : tk_lay[t]? = some (.inl 1)) (ha1 : tk_lay[a1]? = some (.inl 8)) (ha2 : tk_lay[a2]? = some (.inl 8)) (ha5 : tk_lay[a5]? = some (.inl 8)) {out : tk_m} (h : fC_become t a1 a2 a3 a4 a5 m = some out) : tk_Ru sc 4 94 [.ref t, .ref a1, .ref a2, .long a3, .long a4, .ref a5] (tk_full m) (none, tk_full out) := by
  unfold fC_become at h
  refine tk_Ru0 me94 (ls := [(0, .ref t), (1, .ref a1), (2, .ref a2), (3, .long a3), (5, .long a4), (7, .ref a5)]) rfl rfl ?_
  refine tk_Ps me94 1 (pc' := 1) (ls' := [(0, .ref t), (1, .ref a1), (2, .ref a2), (3, .long a3), (5, .long a4), (7, .ref a5)]) (st' := [.ref t]) rfl ?_
  refine tk_HR me94 rfl rfl ht (ro1_1 ht) ?_
  refine tk_Ps me94 2 (pc' := 6) (ls' := [(0, .ref t), (1, .ref a1), (2, .ref a2), (3, .long a3), (5, .long a4), (7, .ref a5)]) (st' := [.ref a1, .int (0 : Int32), .ref (t + 1)]) rfl ?_
  refine tk_HJ me94 rfl rfl ha1 ?_
  refine tk_Ps me94 1 (pc' := 11) (ls' := [(0, .ref t), (1, .ref a1), (2, .ref a2), (3, .long a3), (5, .long a4), (7, .ref a5)]) (st' := [.ref a5, .long (m.2.1 a1 0), .int (0 : Int32), .ref (t + 1)]) rfl ?_
  refine tk_HJ me94 rfl rfl ha5 ?_
  refine tk_Ps me94 3 (pc' := 18) (ls' := [(0, .ref t), (1, .ref a1), (2, .ref a2), (3, .long a3), (5, .long a4), (7, .ref a5)]) (st' := [.long ((m.2.1 a1 0) + ((m.2.1 a5 0) * a4)), .int (0 : Int32), .ref (t + 1)]) rfl ?_
  refine tk_SJa me94 rfl rfl (lo1_1 ht) (by decide) ?_
  refine tk_Ps me94 1 (pc' := 20) (ls' := [(0, .ref t), (1, .ref a1), (2, .ref a2), (3, .long a3), (5, .long a4), (7, .ref a5)]) (st' := [.ref t]) rfl ?_
  refine tk_HR me94 rfl rfl ht (ro1_1 ht) ?_
  refine tk_Ps me94 2 (pc' := 25) (ls' := [(0, .ref t), (1, .ref a1), (2, .ref a2), (3, .long a3), (5, .long a4), (7, .ref a5)]) (st' := [.ref a1, .int (1 : Int32), .ref (t + 1)]) rfl ?_
  refine tk_HJ me94 rfl rfl ha1 ?_
  refine tk_Ps me94 1 (pc' := 30) (ls' := [(0, .ref t), (1, .ref a1), (2, .ref a2), (3, .long a3), (5, .long a4), (7, .ref a5)]) (st' := [.ref a5, .long (tk_u2 m.2.1 (t + 1) 0 ((m.2.1 a1 0) + ((m.2.1 a5 0) * a4)) a1 1), .int (1 : Int32), .ref (t + 1)]) rfl ?_
  refine tk_HJ me94 rfl rfl ha5 ?_
  refine tk_Ps me94 3 (pc' := 37) (ls' := [(0, .ref t), (1, .ref a1), (2, .ref a2), (3, .long a3), (5, .long a4), (7, .ref a5)]) (st' := [.long ((tk_u2 m.2.1 (t + 1) 0 ((m.2.1 a1 0) + ((m.2.1 a5 0) * a4)) a1 1) + ((tk_u2 m.2.1 (t + 1) 0 ((m.2.1 a1 0) + ((m.2.1 a5 0) * a4)) a5 1) * a4)), .int (1 : Int32), .ref (t + 1)]) rfl ?_
  refine tk_SJa me94 rfl rfl (lo1_1 ht) (by decide) ?_
  refine tk_Ps me94 1 (pc' := 39) (ls' := [(0, .ref t), (1, .ref a1), (2, .ref a2), (3, .long a3), (5, .long a4), (7, .ref a5)]) (st' := [.ref t]) rfl ?_
  refine tk_HR me94 rfl rfl ht (ro1_1 ht) ?_
  refine tk_Ps me94 2 (pc' := 44) (ls' := [(0, .ref t), (1, .ref a1), (2, .ref a2), (3, .long a3), (5, .long a4), (7, .ref a5)]) (st' := [.ref a1, .int (2 : Int32), .ref (t + 1)]) rfl ?_
  refine tk_HJ me94 rfl rfl ha1 ?_
  refine tk_Ps me94 1 (pc' := 49) (ls' := [(0, .ref t), (1, .ref a1), (2, .ref a2), (3, .long a3), (5, .long a4), (7, .ref a5)]) (st' := [.ref a5, .long (tk_u2 (tk_u2 m.2.1 (t + 1) 0 ((m.2.1 a1 0) + ((m.2.1 a5 0) * a4))) (t + 1) 1 ((tk_u2 m.2.1 (t + 1) 0 ((m.2.1 a1 0) + ((m.2.1 a5 0) * a4)) a1 1) + ((tk_u2 m.2.1 (t + 1) 0 ((m.2.1 a1 0) + ((m.2.1 a5 0) * a4)) a5 1) * a4)) a1 2), .int (2 : Int32), .ref (t + 1)]) rfl ?_
  refine tk_HJ me94 rfl rfl ha5 ?_
  refine tk_Ps me94 3 (pc' := 56) (ls' := [(0, .ref t), (1, .ref a1), (2, .ref a2), (3, .long a3), (5, .long a4), (7, .ref a5)]) (st' := [.long ((tk_u2 (tk_u2 m.2.1 (t + 1) 0 ((m.2.1 a1 0) + ((m.2.1 a5 0) * a4))) (t + 1) 1 ((tk_u2 m.2.1 (t + 1) 0 ((m.2.1 a1 0) + ((m.2.1 a5 0) * a4)) a1 1) + ((tk_u2 m.2.1 (t + 1) 0 ((m.2.1 a1 0) + ((m.2.1 a5 0) * a4)) a5 1) * a4)) a1 2) + ((tk_u2 (tk_u2 m.2.1 (t + 1) 0 ((m.2.1 a1 0) + ((m.2.1 a5 0) * a4))) (t + 1) 1 ((tk_u2 m.2.1 (t + 1) 0 ((m.2.1 a1 0) + ((m.2.1 a5 0) * a4)) a1 1) + ((tk_u2 m.2.1 (t + 1) 0 ((m.2.1 a1 0) + ((m.2.1 a5 0) * a4)) a5 1) * a4)) a5 2) * a4)), .int (2 : Int32), .ref (t + 1)]) rfl ?_
  refine tk_SJa me94 rfl rfl (lo1_1 ht) (by decide) ?_
  refine tk_Ps me94 1 (pc' := 58) (ls' := [(0, .ref t), (1, .ref a1), (2, .ref a2), (3, .long a3), (5, .long a4), (7, .ref a5)]) (st' := [.ref t]) rfl ?_
  refine tk_HR me94 rfl rfl ht (ro1_1 ht) ?_
  refine tk_Ps me94 2 (pc' := 63) (ls' := [(0, .ref t), (1, .ref a1), (2, .ref a2), (3, .long a3), (5, .long a4), (7, .ref a5)]) (st' := [.ref a2, .int (3 : Int32), .ref (t + 1)]) rfl ?_
  refine tk_HJ me94 rfl rfl ha2 ?_
  refine tk_SJa me94 rfl rfl (lo1_1 ht) (by decide) ?_
  refine tk_Ps me94 1 (pc' := 68) (ls' := [(0, .ref t), (1, .ref a1), (2, .ref a2), (3, .long a3), (5, .long a4), (7, .ref a5)]) (st' := [.ref t]) rfl ?_
  refine tk_HR me94 rfl rfl ht (ro1_1 ht) ?_
  refine tk_Ps me94 2 (pc' := 73) (ls' := [(0, .ref t), (1, .ref a1), (2, .ref a2), (3, .long a3), (5, .long a4), (7, .ref a5)]) (st' := [.ref a2, .int (4 : Int32), .ref (t + 1)]) rfl ?_
  refine tk_HJ me94 rfl rfl ha2 ?_
  refine tk_SJa me94 rfl rfl (lo1_1 ht) (by decide) ?_
  refine tk_Ps me94 1 (pc' := 78) (ls' := [(0, .ref t), (1, .ref a1), (2, .ref a2), (3, .long a3), (5, .long a4), (7, .ref a5)]) (st' := [.ref t]) rfl ?_
  refine tk_HR me94 rfl rfl ht (ro1_1 ht) ?_
  refine tk_Ps me94 2 (pc' := 83) (ls' := [(0, .ref t), (1, .ref a1), (2, .ref a2), (3, .long a3), (5, .long a4), (7, .ref a5)]) (st' := [.ref a2, .int (5 : Int32), .ref (t + 1)]) rfl ?_
  refine tk_HJ me94 rfl rfl ha2 ?_
  refine tk_SJa me94 rfl rfl (lo1_1 ht) (by decide) ?_
  refine tk_Ps me94 1 (pc' := 88) (ls' := [(0, .ref t), (1, .ref a1), (2, .ref a2), (3, .long a3), (5, .long a4), (7, .ref a5)]) (st' := [.ref t]) rfl ?_
  refine tk_HR me94 rfl rfl ht (ro1_1 ht) ?_
  refine tk_Ps me94 2 (pc' := 95) (ls' := [(0, .ref t), (1, .ref a1), (2, .ref a2), (3, .long a3), (5, .long a4), (7, .ref a5)]) (st' := [.long a4, .int (6 : Int32), .ref (t + 1)]) rfl ?_
  refine tk_SJa me94 rfl rfl (lo1_1 ht) (by decide) ?_
  refine tk_Ps me94 2 (pc' := 98) (ls' := [(0, .ref t), (1, .ref a1), (2, .ref a2), (3, .long a3), (5, .long a4), (7, .ref a5)]) (st' := [.long a3, .ref t]) rfl ?_
  refine tk_SJ me94 rfl rfl ht ?_
  refine tk_Ps me94 1 (pc' := 102) (ls' := [(0, .ref t), (1, .ref a1), (2, .ref a2), (3, .long a3), (5, .long a4), (7, .ref a5)]) (st' := [.ref t]) rfl ?_
  refine tk_HR me94 rfl rfl ht (ro1_1 ht) ?_
  refine tk_Ps me94 1 (pc' := 107) (ls' := [(0, .ref t), (1, .ref a1), (2, .ref a2), (3, .long a3), (5, .long a4), (7, .ref a5)]) (st' := [.int (6 : Int32), .ref (t + 1)]) rfl ?_
  obtain ⟨o1, ho1, h⟩ := tk_bnd h
  refine tk_cS1 me94 rfl rfl (as := [.ref (t + 1), .int (6 : Int32)]) (rest := []) rfl rfl rfl (ok_fK_lower sc (t + 1) (6 : Int32) (m.1, tk_u2 (tk_u2 (tk_u2 (tk_u2 (tk_u2 (tk_u2 (tk_u2 (tk_u2 m.2.1 (t + 1) 0 ((m.2.1 a1 0) + ((m.2.1 a5 0) * a4))) (t + 1) 1 ((tk_u2 m.2.1 (t + 1) 0 ((m.2.1 a1 0) + ((m.2.1 a5 0) * a4)) a1 1) + ((tk_u2 m.2.1 (t + 1) 0 ((m.2.1 a1 0) + ((m.2.1 a5 0) * a4)) a5 1) * a4))) (t + 1) 2 ((tk_u2 (tk_u2 m.2.1 (t + 1) 0 ((m.2.1 a1 0) + ((m.2.1 a5 0) * a4))) (t + 1) 1 ((tk_u2 m.2.1 (t + 1) 0 ((m.2.1 a1 0) + ((m.2.1 a5 0) * a4)) a1 1) + ((tk_u2 m.2.1 (t + 1) 0 ((m.2.1 a1 0) + ((m.2.1 a5 0) * a4)) a5 1) * a4)) a1 2) + ((tk_u2 (tk_u2 m.2.1 (t + 1) 0 ((m.2.1 a1 0) + ((m.2.1 a5 0) * a4))) (t + 1) 1 ((tk_u2 m.2.1 (t + 1) 0 ((m.2.1 a1 0) + ((m.2.1 a5 0) * a4)) a1 1) + ((tk_u2 m.2.1 (t + 1) 0 ((m.2.1 a1 0) + ((m.2.1 a5 0) * a4)) a5 1) * a4)) a5 2) * a4))) (t + 1) 3 (tk_u2 (tk_u2 (tk_u2 m.2.1 (t + 1) 0 ((m.2.1 a1 0) + ((m.2.1 a5 0) * a4))) (t + 1) 1 ((tk_u2 m.2.1 (t + 1) 0 ((m.2.1 a1 0) + ((m.2.1 a5 0) * a4)) a1 1) + ((tk_u2 m.2.1 (t + 1) 0 ((m.2.1 a1 0) + ((m.2.1 a5 0) * a4)) a5 1) * a4))) (t + 1) 2 ((tk_u2 (tk_u2 m.2.1 (t + 1) 0 ((m.2.1 a1 0) + ((m.2.1 a5 0) * a4))) (t + 1) 1 ((tk_u2 m.2.1 (t + 1) 0 ((m.2.1 a1 0) + ((m.2.1 a5 0) * a4)) a1 1) + ((tk_u2 m.2.1 (t + 1) 0 ((m.2.1 a1 0) + ((m.2.1 a5 0) * a4)) a5 1) * a4)) a1 2) + ((tk_u2 (tk_u2 m.2.1 (t + 1) 0 ((m.2.1 a1 0) + ((m.2.1 a5 0) * a4))) (t + 1) 1 ((tk_u2 m.2.1 (t + 1) 0 ((m.2.1 a1 0) + ((m.2.1 a5 0) * a4)) a1 1) + ((tk_u2 m.2.1 (t + 1) 0 ((m.2.1 a1 0) + ((m.2.1 a5 0) * a4)) a5 1) * a4)) a5 2) * a4)) a2 0)) (t + 1) 4 (tk_u2 (tk_u2 (tk_u2 (tk_u2 m.2.1 (t + 1) 0 ((m.2.1 a1 0) + ((m.2.1 a5 0) * a4))) (t + 1) 1 ((tk_u2 m.2.1 (t + 1) 0 ((m.2.1 a1 0) + ((m.2.1 a5 0) * a4)) a1 1) + ((tk_u2 m.2.1 (t + 1) 0 ((m.2.1 a1 0) + ((m.2.1 a5 0) * a4)) a5 1) * a4))) (t + 1) 2 ((tk_u2 (tk_u2 m.2.1 (t + 1) 0 ((m.2.1 a1 0) + ((m.2.1 a5 0) * a4))) (t + 1) 1 ((tk_u2 m.2.1 (t + 1) 0 ((m.2.1 a1 0) + ((m.2.1 a5 0) * a4)) a1 1) + ((tk_u2 m.2.1 (t + 1) 0 ((m.2.1 a1 0) + ((m.2.1 a5 0) * a4)) a5 1) * a4)) a1 2) + ((tk_u2 (tk_u2 m.2.1 (t + 1) 0 ((m.2.1 a1 0) + ((m.2.1 a5 0) * a4))) (t + 1) 1 ((tk_u2 m.2.1 (t + 1) 0 ((m.2.1 a1 0) + ((m.2.1 a5 0) * a4)) a1 1) + ((tk_u2 m.2.1 (t + 1) 0 ((m.2.1 a1 0) + ((m.2.1 a5 0) * a4)) a5 1) * a4)) a5 2) * a4))) (t + 1) 3 (tk_u2 (tk_u2 (tk_u2 m.2.1 (t + 1) 0 ((m.2.1 a1 0) + ((m.2.1 a5 0) * a4))) (t + 1) 1 ((tk_u2 m.2.1 (t + 1) 0 ((m.2.1 a1 0) + ((m.2.1 a5 0) * a4)) a1 1) + ((tk_u2 m.2.1 (t + 1) 0 ((m.2.1 a1 0) + ((m.2.1 a5 0) * a4)) a5 1) * a4))) (t + 1) 2 ((tk_u2 (tk_u2 m.2.1 (t + 1) 0 ((m.2.1 a1 0) + ((m.2.1 a5 0) * a4))) (t + 1) 1 ((tk_u2 m.2.1 (t + 1) 0 ((m.2.1 a1 0) + ((m.2.1 a5 0) * a4)) a1 1) + ((tk_u2 m.2.1 (t + 1) 0 ((m.2.1 a1 0) + ((m.2.1 a5 0) * a4)) a5 1) * a4)) a1 2) + ((tk_u2 (tk_u2 m.2.1 (t + 1) 0 ((m.2.1 a1 0) + ((m.2.1 a5 0) * a4))) (t + 1) 1 ((tk_u2 m.2.1 (t + 1) 0 ((m.2.1 a1 0) + ((m.2.1 a5 0) * a4)) a1 1) + ((tk_u2 m.2.1 (t + 1) 0 ((m.2.1 a1 0) + ((m.2.1 a5 0) * a4)) a5 1) * a4)) a5 2) * a4)) a2 0) a2 1)) (t + 1) 5 (tk_u2 (tk_u2 (tk_u2 (tk_u2 (tk_u2 m.2.1 (t + 1) 0 ((m.2.1 a1 0) + ((m.2.1 a5 0) * a4))) (t + 1) 1 ((tk_u2 m.2.1 (t + 1) 0 ((m.2.1 a1 0) + ((m.2.1 a5 0) * a4)) a1 1) + ((tk_u2 m.2.1 (t + 1) 0 ((m.2.1 a1 0) + ((m.2.1 a5 0) * a4)) a5 1) * a4))) (t + 1) 2 ((tk_u2 (tk_u2 m.2.1 (t + 1) 0 ((m.2.1 a1 0) + ((m.2.1 a5 0) * a4))) (t + 1) 1 ((tk_u2 m.2.1 (t + 1) 0 ((m.2.1 a1 0) + ((m.2.1 a5 0) * a4)) a1 1) + ((tk_u2 m.2.1 (t + 1) 0 ((m.2.1 a1 0) + ((m.2.1 a5 0) * a4)) a5 1) * a4)) a1 2) + ((tk_u2 (tk_u2 m.2.1 (t + 1) 0 ((m.2.1 a1 0) + ((m.2.1 a5 0) * a4))) (t + 1) 1 ((tk_u2 m.2.1 (t + 1) 0 ((m.2.1 a1 0) + ((m.2.1 a5 0) * a4)) a1 1) + ((tk_u2 m.2.1 (t + 1) 0 ((m.2.1 a1 0) + ((m.2.1 a5 0) * a4)) a5 1) * a4)) a5 2) * a4))) (t + 1) 3 (tk_u2 (tk_u2 (tk_u2 m.2.1 (t + 1) 0 ((m.2.1 a1 0) + ((m.2.1 a5 0) * a4))) (t + 1) 1 ((tk_u2 m.2.1 (t + 1) 0 ((m.2.1 a1 0) + ((m.2.1 a5 0) * a4)) a1 1) + ((tk_u2 m.2.1 (t + 1) 0 ((m.2.1 a1 0) + ((m.2.1 a5 0) * a4)) a5 1) * a4))) (t + 1) 2 ((tk_u2 (tk_u2 m.2.1 (t + 1) 0 ((m.2.1 a1 0) + ((m.2.1 a5 0) * a4))) (t + 1) 1 ((tk_u2 m.2.1 (t + 1) 0 ((m.2.1 a1 0) + ((m.2.1 a5 0) * a4)) a1 1) + ((tk_u2 m.2.1 (t + 1) 0 ((m.2.1 a1 0) + ((m.2.1 a5 0) * a4)) a5 1) * a4)) a1 2) + ((tk_u2 (tk_u2 m.2.1 (t + 1) 0 ((m.2.1 a1 0) + ((m.2.1 a5 0) * a4))) (t + 1) 1 ((tk_u2 m.2.1 (t + 1) 0 ((m.2.1 a1 0) + ((m.2.1 a5 0) * a4)) a1 1) + ((tk_u2 m.2.1 (t + 1) 0 ((m.2.1 a1 0) + ((m.2.1 a5 0) * a4)) a5 1) * a4)) a5 2) * a4)) a2 0)) (t + 1) 4 (tk_u2 (tk_u2 (tk_u2 (tk_u2 m.2.1 (t + 1) 0 ((m.2.1 a1 0) + ((m.2.1 a5 0) * a4))) (t + 1) 1 ((tk_u2 m.2.1 (t + 1) 0 ((m.2.1 a1 0) + ((m.2.1 a5 0) * a4)) a1 1) + ((tk_u2 m.2.1 (t + 1) 0 ((m.2.1 a1 0) + ((m.2.1 a5 0) * a4)) a5 1) * a4))) (t + 1) 2 ((tk_u2 (tk_u2 m.2.1 (t + 1) 0 ((m.2.1 a1 0) + ((m.2.1 a5 0) * a4))) (t + 1) 1 ((tk_u2 m.2.1 (t + 1) 0 ((m.2.1 a1 0) + ((m.2.1 a5 0) * a4)) a1 1) + ((tk_u2 m.2.1 (t + 1) 0 ((m.2.1 a1 0) + ((m.2.1 a5 0) * a4)) a5 1) * a4)) a1 2) + ((tk_u2 (tk_u2 m.2.1 (t + 1) 0 ((m.2.1 a1 0) + ((m.2.1 a5 0) * a4))) (t + 1) 1 ((tk_u2 m.2.1 (t + 1) 0 ((m.2.1 a1 0) + ((m.2.1 a5 0) * a4)) a1 1) + ((tk_u2 m.2.1 (t + 1) 0 ((m.2.1 a1 0) + ((m.2.1 a5 0) * a4)) a5 1) * a4)) a5 2) * a4))) (t + 1) 3 (tk_u2 (tk_u2 (tk_u2 m.2.1 (t + 1) 0 ((m.2.1 a1 0) + ((m.2.1 a5 0) * a4))) (t + 1) 1 ((tk_u2 m.2.1 (t + 1) 0 ((m.2.1 a1 0) + ((m.2.1 a5 0) * a4)) a1 1) + ((tk_u2 m.2.1 (t + 1) 0 ((m.2.1 a1 0) + ((m.2.1 a5 0) * a4)) a5 1) * a4))) (t + 1) 2 ((tk_u2 (tk_u2 m.2.1 (t + 1) 0 ((m.2.1 a1 0) + ((m.2.1 a5 0) * a4))) (t + 1) 1 ((tk_u2 m.2.1 (t + 1) 0 ((m.2.1 a1 0) + ((m.2.1 a5 0) * a4)) a1 1) + ((tk_u2 m.2.1 (t + 1) 0 ((m.2.1 a1 0) + ((m.2.1 a5 0) * a4)) a5 1) * a4)) a1 2) + ((tk_u2 (tk_u2 m.2.1 (t + 1) 0 ((m.2.1 a1 0) + ((m.2.1 a5 0) * a4))) (t + 1) 1 ((tk_u2 m.2.1 (t + 1) 0 ((m.2.1 a1 0) + ((m.2.1 a5 0) * a4)) a1 1) + ((tk_u2 m.2.1 (t + 1) 0 ((m.2.1 a1 0) + ((m.2.1 a5 0) * a4)) a5 1) * a4)) a5 2) * a4)) a2 0) a2 1) a2 2)) (t + 1) 6 a4) t 2 a3, m.2.2.1, m.2.2.2) (tk_al_of (lo1_1 ht)) ho1) ?_
  refine tk_Ps me94 2 (pc' := 112) (ls' := [(0, .ref t), (1, .ref a1), (2, .ref a2), (3, .long a3), (5, .long a4), (7, .ref a5)]) (st' := [.ref t]) rfl ?_
  refine tk_HR me94 rfl rfl ht (ro1_3 ht) ?_
  refine tk_Ps me94 1 (pc' := 116) (ls' := [(0, .ref t), (1, .ref a1), (2, .ref a2), (3, .long a3), (5, .long a4), (7, .ref a5)]) (st' := [.ref t, .ref (t + 2)]) rfl ?_
  refine tk_HR me94 rfl rfl ht (ro1_1 ht) ?_
  refine tk_Ps me94 1 (pc' := 120) (ls' := [(0, .ref t), (1, .ref a1), (2, .ref a2), (3, .long a3), (5, .long a4), (7, .ref a5)]) (st' := [.int (0 : Int32), .ref (t + 1), .ref (t + 2)]) rfl ?_
  refine tk_HJa me94 rfl rfl (lo1_1 ht) (by decide) ?_
  refine tk_Ps me94 1 (pc' := 122) (ls' := [(0, .ref t), (1, .ref a1), (2, .ref a2), (3, .long a3), (5, .long a4), (7, .ref a5)]) (st' := [.ref t, .long (o1.2.2.1 (t + 1) 0), .ref (t + 2)]) rfl ?_
  refine tk_HR me94 rfl rfl ht (ro1_1 ht) ?_
  refine tk_Ps me94 1 (pc' := 126) (ls' := [(0, .ref t), (1, .ref a1), (2, .ref a2), (3, .long a3), (5, .long a4), (7, .ref a5)]) (st' := [.int (3 : Int32), .ref (t + 1), .long (o1.2.2.1 (t + 1) 0), .ref (t + 2)]) rfl ?_
  refine tk_HJa me94 rfl rfl (lo1_1 ht) (by decide) ?_
  refine tk_Ps me94 1 (pc' := 128) (ls' := [(0, .ref t), (1, .ref a1), (2, .ref a2), (3, .long a3), (5, .long a4), (7, .ref a5)]) (st' := [.ref t, .long (o1.2.2.1 (t + 1) 3), .long (o1.2.2.1 (t + 1) 0), .ref (t + 2)]) rfl ?_
  refine tk_HJ me94 rfl rfl ht ?_
  refine tk_Ps me94 1 (pc' := 132) (ls' := [(0, .ref t), (1, .ref a1), (2, .ref a2), (3, .long a3), (5, .long a4), (7, .ref a5)]) (st' := [.ref t, .long (o1.2.2.1 t 2), .long (o1.2.2.1 (t + 1) 3), .long (o1.2.2.1 (t + 1) 0), .ref (t + 2)]) rfl ?_
  refine tk_HR me94 rfl rfl ht (ro1_1 ht) ?_
  refine tk_Ps me94 1 (pc' := 137) (ls' := [(0, .ref t), (1, .ref a1), (2, .ref a2), (3, .long a3), (5, .long a4), (7, .ref a5)]) (st' := [.int (6 : Int32), .ref (t + 1), .long (o1.2.2.1 t 2), .long (o1.2.2.1 (t + 1) 3), .long (o1.2.2.1 (t + 1) 0), .ref (t + 2)]) rfl ?_
  refine tk_HJa me94 rfl rfl (lo1_1 ht) (by decide) ?_
  obtain ⟨o2, ho2, h⟩ := tk_bnd h
  refine tk_cV1 me94 rfl rfl (r := (t + 2)) (as := [.long (o1.2.2.1 (t + 1) 0), .long (o1.2.2.1 (t + 1) 3), .long (o1.2.2.1 t 2), .long (o1.2.2.1 (t + 1) 6)]) (rest := []) rfl (lo1_3 ht) rfl rfl (ok_fN_hold sc (t + 2) (o1.2.2.1 (t + 1) 0) (o1.2.2.1 (t + 1) 3) (o1.2.2.1 t 2) (o1.2.2.1 (t + 1) 6) o1.2 (lo1_3 ht) ho2) ?_
  refine tk_Ps me94 2 (pc' := 143) (ls' := [(0, .ref t), (1, .ref a1), (2, .ref a2), (3, .long a3), (5, .long a4), (7, .ref a5)]) (st' := [.ref t]) rfl ?_
  refine tk_HR me94 rfl rfl ht (ro1_4 ht) ?_
  refine tk_Ps me94 1 (pc' := 147) (ls' := [(0, .ref t), (1, .ref a1), (2, .ref a2), (3, .long a3), (5, .long a4), (7, .ref a5)]) (st' := [.ref t, .ref (t + 4)]) rfl ?_
  refine tk_HR me94 rfl rfl ht (ro1_1 ht) ?_
  refine tk_Ps me94 1 (pc' := 151) (ls' := [(0, .ref t), (1, .ref a1), (2, .ref a2), (3, .long a3), (5, .long a4), (7, .ref a5)]) (st' := [.int (1 : Int32), .ref (t + 1), .ref (t + 4)]) rfl ?_
  refine tk_HJa me94 rfl rfl (lo1_1 ht) (by decide) ?_
  refine tk_Ps me94 1 (pc' := 153) (ls' := [(0, .ref t), (1, .ref a1), (2, .ref a2), (3, .long a3), (5, .long a4), (7, .ref a5)]) (st' := [.ref t, .long (o2.2.2.1 (t + 1) 1), .ref (t + 4)]) rfl ?_
  refine tk_HR me94 rfl rfl ht (ro1_1 ht) ?_
  refine tk_Ps me94 1 (pc' := 157) (ls' := [(0, .ref t), (1, .ref a1), (2, .ref a2), (3, .long a3), (5, .long a4), (7, .ref a5)]) (st' := [.int (4 : Int32), .ref (t + 1), .long (o2.2.2.1 (t + 1) 1), .ref (t + 4)]) rfl ?_
  refine tk_HJa me94 rfl rfl (lo1_1 ht) (by decide) ?_
  refine tk_Ps me94 1 (pc' := 159) (ls' := [(0, .ref t), (1, .ref a1), (2, .ref a2), (3, .long a3), (5, .long a4), (7, .ref a5)]) (st' := [.ref t, .long (o2.2.2.1 (t + 1) 4), .long (o2.2.2.1 (t + 1) 1), .ref (t + 4)]) rfl ?_
  refine tk_HJ me94 rfl rfl ht ?_
  refine tk_Ps me94 1 (pc' := 163) (ls' := [(0, .ref t), (1, .ref a1), (2, .ref a2), (3, .long a3), (5, .long a4), (7, .ref a5)]) (st' := [.ref t, .long (o2.2.2.1 t 2), .long (o2.2.2.1 (t + 1) 4), .long (o2.2.2.1 (t + 1) 1), .ref (t + 4)]) rfl ?_
  refine tk_HR me94 rfl rfl ht (ro1_1 ht) ?_
  refine tk_Ps me94 1 (pc' := 168) (ls' := [(0, .ref t), (1, .ref a1), (2, .ref a2), (3, .long a3), (5, .long a4), (7, .ref a5)]) (st' := [.int (6 : Int32), .ref (t + 1), .long (o2.2.2.1 t 2), .long (o2.2.2.1 (t + 1) 4), .long (o2.2.2.1 (t + 1) 1), .ref (t + 4)]) rfl ?_
  refine tk_HJa me94 rfl rfl (lo1_1 ht) (by decide) ?_
  obtain ⟨o3, ho3, h⟩ := tk_bnd h
  refine tk_cV1 me94 rfl rfl (r := (t + 4)) (as := [.long (o2.2.2.1 (t + 1) 1), .long (o2.2.2.1 (t + 1) 4), .long (o2.2.2.1 t 2), .long (o2.2.2.1 (t + 1) 6)]) (rest := []) rfl (lo1_4 ht) rfl rfl (ok_fN_hold sc (t + 4) (o2.2.2.1 (t + 1) 1) (o2.2.2.1 (t + 1) 4) (o2.2.2.1 t 2) (o2.2.2.1 (t + 1) 6) o2.2 (lo1_4 ht) ho3) ?_
  refine tk_Ps me94 2 (pc' := 174) (ls' := [(0, .ref t), (1, .ref a1), (2, .ref a2), (3, .long a3), (5, .long a4), (7, .ref a5)]) (st' := [.ref t]) rfl ?_
  refine tk_HR me94 rfl rfl ht (ro1_5 ht) ?_
  refine tk_Ps me94 1 (pc' := 178) (ls' := [(0, .ref t), (1, .ref a1), (2, .ref a2), (3, .long a3), (5, .long a4), (7, .ref a5)]) (st' := [.ref t, .ref (t + 6)]) rfl ?_
  refine tk_HR me94 rfl rfl ht (ro1_1 ht) ?_
  refine tk_Ps me94 1 (pc' := 182) (ls' := [(0, .ref t), (1, .ref a1), (2, .ref a2), (3, .long a3), (5, .long a4), (7, .ref a5)]) (st' := [.int (2 : Int32), .ref (t + 1), .ref (t + 6)]) rfl ?_
  refine tk_HJa me94 rfl rfl (lo1_1 ht) (by decide) ?_
  refine tk_Ps me94 1 (pc' := 184) (ls' := [(0, .ref t), (1, .ref a1), (2, .ref a2), (3, .long a3), (5, .long a4), (7, .ref a5)]) (st' := [.ref t, .long (o3.2.2.1 (t + 1) 2), .ref (t + 6)]) rfl ?_
  refine tk_HR me94 rfl rfl ht (ro1_1 ht) ?_
  refine tk_Ps me94 1 (pc' := 188) (ls' := [(0, .ref t), (1, .ref a1), (2, .ref a2), (3, .long a3), (5, .long a4), (7, .ref a5)]) (st' := [.int (5 : Int32), .ref (t + 1), .long (o3.2.2.1 (t + 1) 2), .ref (t + 6)]) rfl ?_
  refine tk_HJa me94 rfl rfl (lo1_1 ht) (by decide) ?_
  refine tk_Ps me94 1 (pc' := 190) (ls' := [(0, .ref t), (1, .ref a1), (2, .ref a2), (3, .long a3), (5, .long a4), (7, .ref a5)]) (st' := [.ref t, .long (o3.2.2.1 (t + 1) 5), .long (o3.2.2.1 (t + 1) 2), .ref (t + 6)]) rfl ?_
  refine tk_HJ me94 rfl rfl ht ?_
  refine tk_Ps me94 1 (pc' := 194) (ls' := [(0, .ref t), (1, .ref a1), (2, .ref a2), (3, .long a3), (5, .long a4), (7, .ref a5)]) (st' := [.ref t, .long (o3.2.2.1 t 2), .long (o3.2.2.1 (t + 1) 5), .long (o3.2.2.1 (t + 1) 2), .ref (t + 6)]) rfl ?_
  refine tk_HR me94 rfl rfl ht (ro1_1 ht) ?_
  refine tk_Ps me94 1 (pc' := 199) (ls' := [(0, .ref t), (1, .ref a1), (2, .ref a2), (3, .long a3), (5, .long a4), (7, .ref a5)]) (st' := [.int (6 : Int32), .ref (t + 1), .long (o3.2.2.1 t 2), .long (o3.2.2.1 (t + 1) 5), .long (o3.2.2.1 (t + 1) 2), .ref (t + 6)]) rfl ?_
  refine tk_HJa me94 rfl rfl (lo1_1 ht) (by decide) ?_
  obtain ⟨o4, ho4, h⟩ := tk_bnd h
  refine tk_cV1 me94 rfl rfl (r := (t + 6)) (as := [.long (o3.2.2.1 (t + 1) 2), .long (o3.2.2.1 (t + 1) 5), .long (o3.2.2.1 t 2), .long (o3.2.2.1 (t + 1) 6)]) (rest := []) rfl (lo1_5 ht) rfl rfl (ok_fN_hold sc (t + 6) (o3.2.2.1 (t + 1) 2) (o3.2.2.1 (t + 1) 5) (o3.2.2.1 t 2) (o3.2.2.1 (t + 1) 6) o3.2 (lo1_5 ht) ho4) ?_
  refine tk_Ps me94 1 (pc' := 204) (ls' := [(0, .ref t), (1, .ref a1), (2, .ref a2), (3, .long a3), (5, .long a4), (7, .ref a5)]) (st' := []) rfl ?_
  replace h := Option.some.inj h
  subst h
  exact tk_RV me94 rfl rfl rfl
theorem ok_fZ_abs_J (sc : tk_X) (a1 : Int64) (m : tk_m) : tk_Ru sc 1 96 [.long a1] (tk_full m) (some (.long (fZ_abs_J a1)), tk_full m) := by
  obtain ⟨out, h⟩ : ∃ out, fZ_abs_J a1 = out := ⟨_, rfl⟩
  rw [h]
  unfold fZ_abs_J at h
  refine tk_Ru0 me96 (ls := [(0, .long a1)]) rfl rfl ?_
  refine tk_Ps me96 3 (pc' := 3) (ls' := [(0, .long a1)]) (st' := [.int (lg_cmp a1 (0 : Int64))]) rfl ?_
  by_cases hc1 : (0 : Int64) ≤ a1
  · replace h := tk_ifT hc1 h
    refine tk_bT me96 rfl rfl tk_eL_ge (c := (0 : Int64) ≤ a1) hc1 (pc' := 11) (ls' := [(0, .long a1)]) (st' := []) ?_
    refine tk_Ps me96 1 (pc' := 12) (ls' := [(0, .long a1)]) (st' := [.long a1]) rfl ?_
    subst h
    exact tk_RJ me96 rfl rfl rfl
  · replace h := tk_ifF hc1 h
    refine tk_bF me96 rfl rfl tk_eL_ge (c := (0 : Int64) ≤ a1) hc1 (pc' := 6) (ls' := [(0, .long a1)]) (st' := []) ?_
    refine tk_Ps me96 3 (pc' := 12) (ls' := [(0, .long a1)]) (st' := [.long (-a1)]) rfl ?_
    subst h
    exact tk_RJ me96 rfl rfl rfl
theorem ok_fC_hasRadius (sc : tk_X) (t : Nat) (m : tk_m) (ht : tk_lay[t]? = some (.inl 1)) : tk_Ru sc 2 95 [.ref t] (tk_full m) (some (.int (tk_b (fC_hasRadius t m))), tk_full m) := by
  obtain ⟨out, h⟩ : ∃ out, fC_hasRadius t m = out := ⟨_, rfl⟩
  rw [h]
  unfold fC_hasRadius at h
  refine tk_Ru0 me95 (ls := [(0, .ref t)]) rfl rfl ?_
  refine tk_Ps me95 1 (pc' := 1) (ls' := [(0, .ref t)]) (st' := [.ref t]) rfl ?_
  refine tk_HR me95 rfl rfl ht (ro1_1 ht) ?_
  refine tk_Ps me95 1 (pc' := 5) (ls' := [(0, .ref t)]) (st' := [.int (2 : Int32), .ref (t + 1)]) rfl ?_
  refine tk_HJa me95 rfl rfl (lo1_1 ht) (by decide) ?_
  refine tk_Ps me95 1 (pc' := 7) (ls' := [(0, .ref t)]) (st' := [.ref t, .long (m.2.1 (t + 1) 2)]) rfl ?_
  refine tk_HR me95 rfl rfl ht (ro1_1 ht) ?_
  refine tk_Ps me95 1 (pc' := 11) (ls' := [(0, .ref t)]) (st' := [.int (2 : Int32), .ref (t + 1), .long (m.2.1 (t + 1) 2)]) rfl ?_
  refine tk_HJa me95 rfl rfl (lo1_1 ht) (by decide) ?_
  refine tk_cS1 me95 rfl rfl (as := [.long (m.2.1 (t + 1) 2)]) (rest := [.long (m.2.1 (t + 1) 2)]) rfl rfl rfl (ok_fZ_abs_J sc (m.2.1 (t + 1) 2) m) ?_
  refine tk_Ps me95 2 (pc' := 17) (ls' := [(0, .ref t)]) (st' := [.ref t, .long ((m.2.1 (t + 1) 2) * (fZ_abs_J (m.2.1 (t + 1) 2)))]) rfl ?_
  refine tk_HR me95 rfl rfl ht (ro1_1 ht) ?_
  refine tk_Ps me95 1 (pc' := 21) (ls' := [(0, .ref t)]) (st' := [.int (5 : Int32), .ref (t + 1), .long ((m.2.1 (t + 1) 2) * (fZ_abs_J (m.2.1 (t + 1) 2)))]) rfl ?_
  refine tk_HJa me95 rfl rfl (lo1_1 ht) (by decide) ?_
  refine tk_Ps me95 1 (pc' := 23) (ls' := [(0, .ref t)]) (st' := [.ref t, .long (m.2.1 (t + 1) 5), .long ((m.2.1 (t + 1) 2) * (fZ_abs_J (m.2.1 (t + 1) 2)))]) rfl ?_
  refine tk_HR me95 rfl rfl ht (ro1_1 ht) ?_
  refine tk_Ps me95 1 (pc' := 27) (ls' := [(0, .ref t)]) (st' := [.int (5 : Int32), .ref (t + 1), .long (m.2.1 (t + 1) 5), .long ((m.2.1 (t + 1) 2) * (fZ_abs_J (m.2.1 (t + 1) 2)))]) rfl ?_
  refine tk_HJa me95 rfl rfl (lo1_1 ht) (by decide) ?_
  refine tk_cS1 me95 rfl rfl (as := [.long (m.2.1 (t + 1) 5)]) (rest := [.long (m.2.1 (t + 1) 5), .long ((m.2.1 (t + 1) 2) * (fZ_abs_J (m.2.1 (t + 1) 2)))]) rfl rfl rfl (ok_fZ_abs_J sc (m.2.1 (t + 1) 5) m) ?_
  refine tk_Ps me95 2 (pc' := 33) (ls' := [(0, .ref t)]) (st' := [.ref t, .long ((m.2.1 (t + 1) 5) * (fZ_abs_J (m.2.1 (t + 1) 5))), .long ((m.2.1 (t + 1) 2) * (fZ_abs_J (m.2.1 (t + 1) 2)))]) rfl ?_
  refine tk_HJ me95 rfl rfl ht ?_
  refine tk_Ps me95 4 (pc' := 40) (ls' := [(0, .ref t)]) (st' := [.int (lg_cmp (((m.2.1 (t + 1) 2) * (fZ_abs_J (m.2.1 (t + 1) 2))) + (((m.2.1 (t + 1) 5) * (fZ_abs_J (m.2.1 (t + 1) 5))) * (m.2.1 t 2))) (0 : Int64))]) rfl ?_
  by_cases hc1 : (((m.2.1 (t + 1) 2) * (fZ_abs_J (m.2.1 (t + 1) 2))) + (((m.2.1 (t + 1) 5) * (fZ_abs_J (m.2.1 (t + 1) 5))) * (m.2.1 t 2))) ≤ (0 : Int64)
  · replace h := tk_ifT hc1 h
    refine tk_bT me95 rfl rfl tk_eL_le (c := (((m.2.1 (t + 1) 2) * (fZ_abs_J (m.2.1 (t + 1) 2))) + (((m.2.1 (t + 1) 5) * (fZ_abs_J (m.2.1 (t + 1) 5))) * (m.2.1 t 2))) ≤ (0 : Int64)) hc1 (pc' := 47) (ls' := [(0, .ref t)]) (st' := []) ?_
    refine tk_Ps me95 1 (pc' := 48) (ls' := [(0, .ref t)]) (st' := [.int (0 : Int32)]) rfl ?_
    subst h
    exact tk_RB (b := false) me95 rfl rfl rfl
  · replace h := tk_ifF hc1 h
    refine tk_bF me95 rfl rfl tk_eL_le (c := (((m.2.1 (t + 1) 2) * (fZ_abs_J (m.2.1 (t + 1) 2))) + (((m.2.1 (t + 1) 5) * (fZ_abs_J (m.2.1 (t + 1) 5))) * (m.2.1 t 2))) ≤ (0 : Int64)) hc1 (pc' := 43) (ls' := [(0, .ref t)]) (st' := []) ?_
    refine tk_Ps me95 2 (pc' := 48) (ls' := [(0, .ref t)]) (st' := [.int (1 : Int32)]) rfl ?_
    subst h
    exact tk_RB (b := true) me95 rfl rfl rfl
theorem ok_fF_findBy_79 (sc : tk_X) : ∀ (n : Nat) (v2 : Int32) (v4 : Int32) (v5 : Int32) (v6 : Int32) (m : tk_m) (out : tk_m), fF_findBy_79 n v2 v4 v5 v6 m = some out → tk_Ex sc 4 66 79 [(0, .ref 39), (2, .int v2), (4, .int v4), (5, .int v5), (6, .int v6)] [] (tk_full m) (none, tk_full out) := by
  intro n
  induction n with
  | zero =>
    intro v2 v4 v5 v6 m out h
    cases h
  | succ n ih =>
    intro v2 v4 v5 v6 m out h
    unfold fF_findBy_79 at h
    refine tk_Ps me66 2 (pc' := 83) (ls' := [(0, .ref 39), (2, .int v2), (4, .int v4), (5, .int v5), (6, .int v6)]) (st' := [.int v4, .int v6]) rfl ?_
    by_cases hc1 : v4 ≤ v6
    · replace h := tk_ifT hc1 h
      refine tk_bT me66 rfl rfl rfl (c := v4 ≤ v6) hc1 (pc' := 197) (ls' := [(0, .ref 39), (2, .int v2), (4, .int v4), (5, .int v5), (6, .int v6)]) (st' := []) ?_
      replace h := Option.some.inj h
      subst h
      exact tk_RV me66 rfl rfl rfl
    · replace h := tk_ifF hc1 h
      refine tk_bF me66 rfl rfl rfl (c := v4 ≤ v6) hc1 (pc' := 86) (ls' := [(0, .ref 39), (2, .int v2), (4, .int v4), (5, .int v5), (6, .int v6)]) (st' := []) ?_
      refine tk_Ps me66 1 (pc' := 87) (ls' := [(0, .ref 39), (2, .int v2), (4, .int v4), (5, .int v5), (6, .int v6)]) (st' := [.ref 39]) rfl ?_
      refine tk_HI me66 rfl rfl ly39 ?_
      refine tk_Ps me66 1 (pc' := 92) (ls' := [(0, .ref 39), (2, .int v2), (4, .int v4), (5, .int v5), (6, .int v6)]) (st' := [.int (16 : Int32), .int (m.1 39 2)]) rfl ?_
      by_cases hc2 : (16 : Int32) ≤ (m.1 39 2)
      · replace h := tk_ifT hc2 h
        refine tk_bT me66 rfl rfl rfl (c := (16 : Int32) ≤ (m.1 39 2)) hc2 (pc' := 197) (ls' := [(0, .ref 39), (2, .int v2), (4, .int v4), (5, .int v5), (6, .int v6)]) (st' := []) ?_
        replace h := Option.some.inj h
        subst h
        exact tk_RV me66 rfl rfl rfl
      · replace h := tk_ifF hc2 h
        refine tk_bF me66 rfl rfl rfl (c := (16 : Int32) ≤ (m.1 39 2)) hc2 (pc' := 95) (ls' := [(0, .ref 39), (2, .int v2), (4, .int v4), (5, .int v5), (6, .int v6)]) (st' := []) ?_
        refine tk_Ps me66 2 (pc' := 98) (ls' := [(0, .ref 39), (2, .int v2), (4, .int v4), (5, .int v5), (6, .int v6)]) (st' := [.int v5, .ref 39]) rfl ?_
        obtain ⟨o3, ho3, h⟩ := tk_lete h
        refine tk_cV0 me66 rfl rfl (r := 39) (as := [.int v5]) (rest := []) rfl ly39 rfl rfl (ok_fF_takePlace sc v5 m ho3) ?_
        refine tk_Ps me66 1 (pc' := 102) (ls' := [(0, .ref 39), (2, .int v2), (4, .int v4), (5, .int v5), (6, .int v6)]) (st' := [.ref 39]) rfl ?_
        refine tk_HR me66 rfl rfl ly39 rt39_1 ?_
        refine tk_Ps me66 1 (pc' := 106) (ls' := [(0, .ref 39), (2, .int v2), (4, .int v4), (5, .int v5), (6, .int v6)]) (st' := [.ref 39, .ref 40]) rfl ?_
        refine tk_HI me66 rfl rfl ly39 ?_
        obtain ⟨hg4, h⟩ := tk_grd h
        refine tk_HQ me66 rfl rfl ly40 hg4 (la40 _ (hg4).2).1 ?_
        refine tk_Ps me66 1 (pc' := 111) (ls' := [(0, .ref 39), (2, .int v2), (4, .int v4), (5, .int v5), (6, .int v6)]) (st' := [.ref 39, .ref (50 + 8 * (tk_n (o3.1 39 2)))]) rfl ?_
        refine tk_HR me66 rfl rfl ly39 rt39_10 ?_
        refine tk_Ps me66 1 (pc' := 115) (ls' := [(0, .ref 39), (2, .int v2), (4, .int v4), (5, .int v5), (6, .int v6)]) (st' := [.ref 39, .ref 46, .ref (50 + 8 * (tk_n (o3.1 39 2)))]) rfl ?_
        refine tk_HR me66 rfl rfl ly39 rt39_11 ?_
        refine tk_Ps me66 1 (pc' := 119) (ls' := [(0, .ref 39), (2, .int v2), (4, .int v4), (5, .int v5), (6, .int v6)]) (st' := [.ref 39, .ref 47, .ref 46, .ref (50 + 8 * (tk_n (o3.1 39 2)))]) rfl ?_
        refine tk_HR me66 rfl rfl ly39 rt39_14 ?_
        refine tk_HJ me66 rfl rfl ly48 ?_
        refine tk_Ps me66 1 (pc' := 126) (ls' := [(0, .ref 39), (2, .int v2), (4, .int v4), (5, .int v5), (6, .int v6)]) (st' := [.ref 39, .long (o3.2.1 48 2), .ref 47, .ref 46, .ref (50 + 8 * (tk_n (o3.1 39 2)))]) rfl ?_
        refine tk_HJ me66 rfl rfl ly39 ?_
        refine tk_Ps me66 1 (pc' := 130) (ls' := [(0, .ref 39), (2, .int v2), (4, .int v4), (5, .int v5), (6, .int v6)]) (st' := [.ref 39, .long (o3.2.1 39 13), .long (o3.2.1 48 2), .ref 47, .ref 46, .ref (50 + 8 * (tk_n (o3.1 39 2)))]) rfl ?_
        refine tk_HR me66 rfl rfl ly39 rt39_5 ?_
        obtain ⟨o5, ho5, h⟩ := tk_bnd h
        refine tk_cV0 me66 rfl rfl (r := (50 + 8 * (tk_n (o3.1 39 2)))) (as := [.ref 46, .ref 47, .long (o3.2.1 48 2), .long (o3.2.1 39 13), .ref 41]) (rest := []) rfl ((la40 _ (hg4).2).2) rfl rfl (ok_fC_become sc (50 + 8 * (tk_n (o3.1 39 2))) 46 47 (o3.2.1 48 2) (o3.2.1 39 13) 41 o3 ((la40 _ (hg4).2).2) ly46 ly47 ly41 ho5) ?_
        refine tk_Ps me66 1 (pc' := 137) (ls' := [(0, .ref 39), (2, .int v2), (4, .int v4), (5, .int v5), (6, .int v6)]) (st' := [.ref 39]) rfl ?_
        refine tk_HR me66 rfl rfl ly39 rt39_1 ?_
        refine tk_Ps me66 1 (pc' := 141) (ls' := [(0, .ref 39), (2, .int v2), (4, .int v4), (5, .int v5), (6, .int v6)]) (st' := [.ref 39, .ref 40]) rfl ?_
        refine tk_HI me66 rfl rfl ly39 ?_
        obtain ⟨hg6, h⟩ := tk_grd h
        refine tk_HQ me66 rfl rfl ly40 hg6 (la40 _ (hg6).2).1 ?_
        refine tk_Ps me66 1 (pc' := 146) (ls' := [(0, .ref 39), (2, .int v2), (4, .int v4), (5, .int v5), (6, .int v6)]) (st' := [.int v2, .ref (50 + 8 * (tk_n (o5.1 39 2)))]) rfl ?_
        refine tk_SI me66 rfl rfl ((la40 _ (hg6).2).2) ?_
        refine tk_Ps me66 1 (pc' := 150) (ls' := [(0, .ref 39), (2, .int v2), (4, .int v4), (5, .int v5), (6, .int v6)]) (st' := [.ref 39]) rfl ?_
        refine tk_HR me66 rfl rfl ly39 rt39_1 ?_
        refine tk_Ps me66 1 (pc' := 154) (ls' := [(0, .ref 39), (2, .int v2), (4, .int v4), (5, .int v5), (6, .int v6)]) (st' := [.ref 39, .ref 40]) rfl ?_
        refine tk_HI me66 rfl rfl ly39 ?_
        obtain ⟨hg7, h⟩ := tk_grd h
        refine tk_HQ me66 rfl rfl ly40 hg7 (la40 _ (hg7).2).1 ?_
        refine tk_cV1 me66 rfl rfl (r := (50 + 8 * (tk_n (tk_u2 o5.1 (50 + 8 * (tk_n (o5.1 39 2))) 0 v2 39 2)))) (as := []) (rest := []) rfl ((la40 _ (hg7).2).2) rfl rfl (ok_fC_hasRadius sc (50 + 8 * (tk_n (tk_u2 o5.1 (50 + 8 * (tk_n (o5.1 39 2))) 0 v2 39 2))) (tk_u2 o5.1 (50 + 8 * (tk_n (o5.1 39 2))) 0 v2, o5.2.1, o5.2.2.1, o5.2.2.2) ((la40 _ (hg7).2).2)) ?_
        by_cases hc8 : (fC_hasRadius (50 + 8 * (tk_n (tk_u2 o5.1 (50 + 8 * (tk_n (o5.1 39 2))) 0 v2 39 2))) (tk_u2 o5.1 (50 + 8 * (tk_n (o5.1 39 2))) 0 v2, o5.2.1, o5.2.2.1, o5.2.2.2)) = true
        · replace h := tk_ifT hc8 h
          refine tk_bT me66 rfl rfl tk_eB_eq (c := (fC_hasRadius (50 + 8 * (tk_n (tk_u2 o5.1 (50 + 8 * (tk_n (o5.1 39 2))) 0 v2 39 2))) (tk_u2 o5.1 (50 + 8 * (tk_n (o5.1 39 2))) 0 v2, o5.2.1, o5.2.2.1, o5.2.2.2)) = true) hc8 (pc' := 164) (ls' := [(0, .ref 39), (2, .int v2), (4, .int v4), (5, .int v5), (6, .int v6)]) (st' := []) ?_
          refine tk_Ps me66 2 (pc' := 166) (ls' := [(0, .ref 39), (2, .int v2), (4, .int v4), (5, .int v5), (6, .int v6)]) (st' := [.ref 39, .ref 39]) rfl ?_
          refine tk_HI me66 rfl rfl ly39 ?_
          refine tk_Ps me66 2 (pc' := 171) (ls' := [(0, .ref 39), (2, .int v2), (4, .int v4), (5, .int v5), (6, .int v6)]) (st' := [.int ((tk_u2 o5.1 (50 + 8 * (tk_n (o5.1 39 2))) 0 v2 39 2) + (1 : Int32)), .ref 39]) rfl ?_
          refine tk_SI me66 rfl rfl ly39 ?_
          refine tk_Ps me66 2 (pc' := 176) (ls' := [(0, .ref 39), (2, .int v2), (4, .int v4), (5, .int v5), (6, .int v6)]) (st' := [.ref 39, .ref 39]) rfl ?_
          refine tk_HI me66 rfl rfl ly39 ?_
          refine tk_Ps me66 4 (pc' := 183) (ls' := [(0, .ref 39), (2, .int v2), (4, .int v4), (5, .int v5), (6, .int v6)]) (st' := [.int ((tk_u2 (tk_u2 o5.1 (50 + 8 * (tk_n (o5.1 39 2))) 0 v2) 39 2 ((tk_u2 o5.1 (50 + 8 * (tk_n (o5.1 39 2))) 0 v2 39 2) + (1 : Int32)) 39 4) ||| (tk_ishl (1 : Int32) v2)), .ref 39]) rfl ?_
          refine tk_SI me66 rfl rfl ly39 ?_
          refine tk_Ps me66 5 (pc' := 79) (ls' := [(6, .int (v6 + (1 : Int32))), (5, .int (-v5)), (0, .ref 39), (2, .int v2), (4, .int v4)]) (st' := []) rfl ?_
          refine tk_Kp me66 (ls' := [(0, .ref 39), (2, .int v2), (4, .int v4), (5, .int (-v5)), (6, .int (v6 + (1 : Int32)))]) rfl rfl ?_
          exact ih v2 v4 (-v5) (v6 + (1 : Int32)) (tk_u2 (tk_u2 (tk_u2 o5.1 (50 + 8 * (tk_n (o5.1 39 2))) 0 v2) 39 2 ((tk_u2 o5.1 (50 + 8 * (tk_n (o5.1 39 2))) 0 v2 39 2) + (1 : Int32))) 39 4 ((tk_u2 (tk_u2 o5.1 (50 + 8 * (tk_n (o5.1 39 2))) 0 v2) 39 2 ((tk_u2 o5.1 (50 + 8 * (tk_n (o5.1 39 2))) 0 v2 39 2) + (1 : Int32)) 39 4) ||| (tk_ishl (1 : Int32) v2)), o5.2.1, o5.2.2.1, o5.2.2.2) _ h
        · replace h := tk_ifF hc8 h
          refine tk_bF me66 rfl rfl tk_eB_eq (c := (fC_hasRadius (50 + 8 * (tk_n (tk_u2 o5.1 (50 + 8 * (tk_n (o5.1 39 2))) 0 v2 39 2))) (tk_u2 o5.1 (50 + 8 * (tk_n (o5.1 39 2))) 0 v2, o5.2.1, o5.2.2.1, o5.2.2.2)) = true) hc8 (pc' := 186) (ls' := [(0, .ref 39), (2, .int v2), (4, .int v4), (5, .int v5), (6, .int v6)]) (st' := []) ?_
          refine tk_Ps me66 5 (pc' := 79) (ls' := [(6, .int (v6 + (1 : Int32))), (5, .int (-v5)), (0, .ref 39), (2, .int v2), (4, .int v4)]) (st' := []) rfl ?_
          refine tk_Kp me66 (ls' := [(0, .ref 39), (2, .int v2), (4, .int v4), (5, .int (-v5)), (6, .int (v6 + (1 : Int32)))]) rfl rfl ?_
          exact ih v2 v4 (-v5) (v6 + (1 : Int32)) (tk_u2 o5.1 (50 + 8 * (tk_n (o5.1 39 2))) 0 v2, o5.2.1, o5.2.2.1, o5.2.2.2) _ h
theorem ok_fF_findBy_29 (sc : tk_X) (v2 : Int32) (s0 : Bool) (m : tk_m) (out : tk_m) (h : fF_findBy_29 v2 s0 m = some out) : tk_Ex sc 4 66 29 [(0, .ref 39), (2, .int v2)] [.int (tk_b s0)] (tk_full m) (none, tk_full out) := by
  unfold fF_findBy_29 at h
  refine tk_Ps me66 2 (pc' := 31) (ls' := [(3, .int (tk_b s0)), (0, .ref 39), (2, .int v2)]) (st' := [.int (tk_b s0)]) rfl ?_
  by_cases hc1 : s0 = true
  · replace h := tk_ifT hc1 h
    refine tk_bT me66 rfl rfl tk_eB_eq (c := s0 = true) hc1 (pc' := 34) (ls' := [(3, .int (tk_b s0)), (0, .ref 39), (2, .int v2)]) (st' := []) ?_
    refine tk_Ps me66 2 (pc' := 36) (ls' := [(3, .int (tk_b s0)), (0, .ref 39), (2, .int v2)]) (st' := [.ref 39, .ref 39]) rfl ?_
    refine tk_HI me66 rfl rfl ly39 ?_
    refine tk_Ps me66 4 (pc' := 43) (ls' := [(3, .int (tk_b s0)), (0, .ref 39), (2, .int v2)]) (st' := [.int ((m.1 39 3) ||| (tk_ishl (1 : Int32) v2)), .ref 39]) rfl ?_
    refine tk_SI me66 rfl rfl ly39 ?_
    replace h := Option.some.inj h
    subst h
    exact tk_RV me66 rfl rfl rfl
  · replace h := tk_ifF hc1 h
    refine tk_bF me66 rfl rfl tk_eB_eq (c := s0 = true) hc1 (pc' := 47) (ls' := [(3, .int (tk_b s0)), (0, .ref 39), (2, .int v2)]) (st' := []) ?_
    refine tk_Ps me66 1 (pc' := 48) (ls' := [(3, .int (tk_b s0)), (0, .ref 39), (2, .int v2)]) (st' := [.ref 39]) rfl ?_
    refine tk_HR me66 rfl rfl ly39 rt39_14 ?_
    refine tk_Ps me66 1 (pc' := 52) (ls' := [(3, .int (tk_b s0)), (0, .ref 39), (2, .int v2)]) (st' := [.ref 39, .ref 48]) rfl ?_
    refine tk_HJ me66 rfl rfl ly39 ?_
    obtain ⟨o2, ho2, h⟩ := tk_bnd h
    refine tk_cV0 me66 rfl rfl (r := 48) (as := [.long (m.2.1 39 12)]) (rest := []) rfl ly48 rfl rfl (ok_fN_holdRoot sc 48 (m.2.1 39 12) m ly48 ho2) ?_
    refine tk_Ps me66 1 (pc' := 59) (ls' := [(3, .int (tk_b s0)), (0, .ref 39), (2, .int v2)]) (st' := [.ref 39]) rfl ?_
    refine tk_HJ me66 rfl rfl ly39 ?_
    refine tk_Ps me66 1 (pc' := 63) (ls' := [(3, .int (tk_b s0)), (0, .ref 39), (2, .int v2)]) (st' := [.long (0 : Int64), .long (o2.2.1 39 12)]) rfl ?_
    refine tk_cS1 me66 rfl rfl (as := [.long (o2.2.1 39 12), .long (0 : Int64)]) (rest := []) rfl rfl rfl (ok_fZ_compare_J sc (o2.2.1 39 12) (0 : Int64) o2) ?_
    refine tk_Ps me66 4 (pc' := 71) (ls' := [(4, .int ((fZ_compare_J (o2.2.1 39 12) (0 : Int64)) + (1 : Int32))), (3, .int (tk_b s0)), (0, .ref 39), (2, .int v2)]) (st' := [.ref 39]) rfl ?_
    refine tk_cV1 me66 rfl rfl (r := 39) (as := []) (rest := []) rfl ly39 rfl rfl (ok_fF_lesserSide sc o2) ?_
    refine tk_Ps me66 3 (pc' := 79) (ls' := [(6, .int (0 : Int32)), (5, .int (fF_lesserSide o2)), (4, .int ((fZ_compare_J (o2.2.1 39 12) (0 : Int64)) + (1 : Int32))), (3, .int (tk_b s0)), (0, .ref 39), (2, .int v2)]) (st' := []) rfl ?_
    refine tk_Kp me66 (ls' := [(0, .ref 39), (2, .int v2), (4, .int ((fZ_compare_J (o2.2.1 39 12) (0 : Int64)) + (1 : Int32))), (5, .int (fF_lesserSide o2)), (6, .int (0 : Int32))]) rfl rfl ?_
    exact ok_fF_findBy_79 sc tk_F v2 ((fZ_compare_J (o2.2.1 39 12) (0 : Int64)) + (1 : Int32)) (fF_lesserSide o2) (0 : Int32) o2 _ h
theorem ok_fF_findBy (sc : tk_X) (a1 : Nat) (a2 : Int32) (m : tk_m) (ha1 : tk_lay[a1]? = some (.inl 5)) {out : tk_m} (h : fF_findBy a1 a2 m = some out) : tk_Ru sc 5 66 [.ref 39, .ref a1, .int a2] (tk_full m) (none, tk_full out) := by
  unfold fF_findBy at h
  refine tk_Ru0 me66 (ls := [(0, .ref 39), (1, .ref a1), (2, .int a2)]) rfl rfl ?_
  refine tk_Ps me66 2 (pc' := 2) (ls' := [(0, .ref 39), (1, .ref a1), (2, .int a2)]) (st' := [.int a2, .ref a1]) rfl ?_
  obtain ⟨o1, ho1, h⟩ := tk_bnd h
  refine tk_cS1 me66 rfl rfl (as := [.ref a1, .int a2]) (rest := []) rfl rfl rfl (ok_fF_doCount sc a1 a2 m ha1 ho1) ?_
  by_cases hc2 : o1 = true
  · replace h := tk_ifT hc2 h
    refine tk_bT me66 rfl rfl tk_eB_ne (c := o1 = true) hc2 (pc' := 9) (ls' := [(0, .ref 39), (1, .ref a1), (2, .int a2)]) (st' := []) ?_
    refine tk_Ps me66 3 (pc' := 12) (ls' := [(0, .ref 39), (1, .ref a1), (2, .int a2)]) (st' := [.int a2, .ref a1, .ref 39]) rfl ?_
    obtain ⟨o3, ho3, h⟩ := tk_bnd h
    refine tk_cV1 me66 rfl rfl (r := 39) (as := [.ref a1, .int a2]) (rest := []) rfl ly39 rfl rfl (ok_fF_layPlanes sc a1 a2 m ha1 ho3) ?_
    by_cases hc4 : o3.1 = true
    · replace h := tk_ifT hc4 h
      refine tk_bT me66 rfl rfl tk_eB_eq (c := o3.1 = true) hc4 (pc' := 18) (ls' := [(0, .ref 39), (1, .ref a1), (2, .int a2)]) (st' := []) ?_
      refine tk_Ps me66 1 (pc' := 19) (ls' := [(0, .ref 39), (1, .ref a1), (2, .int a2)]) (st' := [.ref 39]) rfl ?_
      obtain ⟨o5, ho5, h⟩ := tk_lete h
      refine tk_cV1 me66 rfl rfl (r := 39) (as := []) (rest := []) rfl ly39 rfl rfl (ok_fF_meetCone sc o3.2 ho5) ?_
      refine tk_Ps me66 1 (pc' := 29) (ls' := [(0, .ref 39), (1, .ref a1), (2, .int a2)]) (st' := [.int (tk_b o5.1)]) rfl ?_
      refine tk_Kp me66 (ls' := [(0, .ref 39), (2, .int a2)]) rfl rfl ?_
      exact ok_fF_findBy_29 sc a2 o5.1 o5.2 _ h
    · replace h := tk_ifF hc4 h
      refine tk_bF me66 rfl rfl tk_eB_eq (c := o3.1 = true) hc4 (pc' := 25) (ls' := [(0, .ref 39), (1, .ref a1), (2, .int a2)]) (st' := []) ?_
      refine tk_Ps me66 1 (pc' := 26) (ls' := [(0, .ref 39), (1, .ref a1), (2, .int a2)]) (st' := [.ref 39]) rfl ?_
      obtain ⟨o6, ho6, h⟩ := tk_lete h
      refine tk_cV1 me66 rfl rfl (r := 39) (as := []) (rest := []) rfl ly39 rfl rfl (ok_fF_meetPlanes sc o3.2 ho6) ?_
      refine tk_Kp me66 (ls' := [(0, .ref 39), (2, .int a2)]) rfl rfl ?_
      exact ok_fF_findBy_29 sc a2 o6.1 o6.2 _ h
  · replace h := tk_ifF hc2 h
    refine tk_bF me66 rfl rfl tk_eB_ne (c := o1 = true) hc2 (pc' := 8) (ls' := [(0, .ref 39), (1, .ref a1), (2, .int a2)]) (st' := []) ?_
    replace h := Option.some.inj h
    subst h
    exact tk_RV me66 rfl rfl rfl
theorem ok_fX_missesAnswer_55 (sc : tk_X) (v1 : Int32) (m : tk_m) (out : Int32 × tk_m) (h : fX_missesAnswer_55 v1 m = some out) : tk_Ex sc 5 63 55 [(0, .ref 0), (1, .int v1)] [] (tk_full m) (some (.int out.1), tk_full out.2) := by
  unfold fX_missesAnswer_55 at h
  refine tk_Ps me63 1 (pc' := 56) (ls' := [(0, .ref 0), (1, .int v1)]) (st' := [.ref 0]) rfl ?_
  refine tk_HR me63 rfl rfl ly0 rt0_0 ?_
  refine tk_Ps me63 1 (pc' := 60) (ls' := [(0, .ref 0), (1, .int v1)]) (st' := [.int (0 : Int32), .ref 1]) rfl ?_
  refine tk_SB (b := false) me63 rfl rfl ly1 ?_
  refine tk_Ps me63 1 (pc' := 64) (ls' := [(0, .ref 0), (1, .int v1)]) (st' := [.int v1]) rfl ?_
  by_cases hc1 : v1 < 0
  · replace h := tk_ifT hc1 h
    refine tk_bT me63 rfl rfl rfl (c := v1 < 0) hc1 (pc' := 82) (ls' := [(0, .ref 0), (1, .int v1)]) (st' := []) ?_
    refine tk_Ps me63 1 (pc' := 83) (ls' := [(0, .ref 0), (1, .int v1)]) (st' := [.int (3 : Int32)]) rfl ?_
    replace h := Option.some.inj h
    subst h
    exact tk_RI me63 rfl rfl rfl
  · replace h := tk_ifF hc1 h
    refine tk_bF me63 rfl rfl rfl (c := v1 < 0) hc1 (pc' := 67) (ls' := [(0, .ref 0), (1, .int v1)]) (st' := []) ?_
    refine tk_Ps me63 2 (pc' := 69) (ls' := [(0, .ref 0), (1, .int v1)]) (st' := [.ref 0, .int v1]) rfl ?_
    refine tk_HR me63 rfl rfl ly0 rt0_7 ?_
    refine tk_HI me63 rfl rfl ly39 ?_
    by_cases hc2 : (m.1 39 2) ≤ v1
    · replace h := tk_ifT hc2 h
      refine tk_bT me63 rfl rfl rfl (c := (m.1 39 2) ≤ v1) hc2 (pc' := 82) (ls' := [(0, .ref 0), (1, .int v1)]) (st' := []) ?_
      refine tk_Ps me63 1 (pc' := 83) (ls' := [(0, .ref 0), (1, .int v1)]) (st' := [.int (3 : Int32)]) rfl ?_
      replace h := Option.some.inj h
      subst h
      exact tk_RI me63 rfl rfl rfl
    · replace h := tk_ifF hc2 h
      refine tk_bF me63 rfl rfl rfl (c := (m.1 39 2) ≤ v1) hc2 (pc' := 78) (ls' := [(0, .ref 0), (1, .int v1)]) (st' := []) ?_
      refine tk_Ps me63 2 (pc' := 83) (ls' := [(0, .ref 0), (1, .int v1)]) (st' := [.int (-1 : Int32)]) rfl ?_
      replace h := Option.some.inj h
      subst h
      exact tk_RI me63 rfl rfl rfl
theorem ok_fX_missesAnswer_31 (sc : tk_X) : ∀ (n : Nat) (v1 : Int32) (v2 : Int32) (m : tk_m) (out : Int32 × tk_m), fX_missesAnswer_31 n v1 v2 m = some out → tk_Ex sc 5 63 31 [(0, .ref 0), (1, .int v1), (2, .int v2)] [] (tk_full m) (some (.int out.1), tk_full out.2) := by
  intro n
  induction n with
  | zero =>
    intro v1 v2 m out h
    cases h
  | succ n ih =>
    intro v1 v2 m out h
    unfold fX_missesAnswer_31 at h
    refine tk_Ps me63 2 (pc' := 34) (ls' := [(0, .ref 0), (1, .int v1), (2, .int v2)]) (st' := [.int (8 : Int32), .int v2]) rfl ?_
    by_cases hc1 : (8 : Int32) ≤ v2
    · replace h := tk_ifT hc1 h
      refine tk_bT me63 rfl rfl rfl (c := (8 : Int32) ≤ v2) hc1 (pc' := 55) (ls' := [(0, .ref 0), (1, .int v1), (2, .int v2)]) (st' := []) ?_
      refine tk_Kp me63 (ls' := [(0, .ref 0), (1, .int v1)]) rfl rfl ?_
      exact ok_fX_missesAnswer_55 sc v1 m _ h
    · replace h := tk_ifF hc1 h
      refine tk_bF me63 rfl rfl rfl (c := (8 : Int32) ≤ v2) hc1 (pc' := 37) (ls' := [(0, .ref 0), (1, .int v1), (2, .int v2)]) (st' := []) ?_
      refine tk_Ps me63 1 (pc' := 38) (ls' := [(0, .ref 0), (1, .int v1), (2, .int v2)]) (st' := [.ref 0]) rfl ?_
      refine tk_HR me63 rfl rfl ly0 rt0_7 ?_
      refine tk_Ps me63 1 (pc' := 42) (ls' := [(0, .ref 0), (1, .int v1), (2, .int v2)]) (st' := [.ref 0, .ref 39]) rfl ?_
      refine tk_HR me63 rfl rfl ly0 rt0_0 ?_
      refine tk_Ps me63 1 (pc' := 46) (ls' := [(0, .ref 0), (1, .int v1), (2, .int v2)]) (st' := [.int v2, .ref 1, .ref 39]) rfl ?_
      obtain ⟨o2, ho2, h⟩ := tk_bnd h
      refine tk_cV0 me63 rfl rfl (r := 39) (as := [.ref 1, .int v2]) (rest := []) rfl ly39 rfl rfl (ok_fF_findBy sc 1 v2 m ly1 ho2) ?_
      refine tk_Ps me63 2 (pc' := 31) (ls' := [(2, .int (v2 + (1 : Int32))), (0, .ref 0), (1, .int v1)]) (st' := []) rfl ?_
      refine tk_Kp me63 (ls' := [(0, .ref 0), (1, .int v1), (2, .int (v2 + (1 : Int32)))]) rfl rfl ?_
      exact ih v1 (v2 + (1 : Int32)) o2 _ h
theorem ok_fX_missesAnswer (sc : tk_X) (a1 : Int32) (m : tk_m) {out : Int32 × tk_m} (h : fX_missesAnswer a1 m = some out) : tk_Ru sc 6 63 [.ref 0, .int a1] (tk_full m) (some (.int out.1), tk_full out.2) := by
  unfold fX_missesAnswer at h
  refine tk_Ru0 me63 (ls := [(0, .ref 0), (1, .int a1)]) rfl rfl ?_
  refine tk_Ps me63 1 (pc' := 1) (ls' := [(0, .ref 0), (1, .int a1)]) (st' := [.ref 0]) rfl ?_
  refine tk_HR me63 rfl rfl ly0 rt0_0 ?_
  refine tk_cV1 me63 rfl rfl (r := 1) (as := []) (rest := []) rfl ly1 rfl rfl (ok_fS_hasThree sc 1 m ly1) ?_
  by_cases hc1 : (fS_hasThree 1 m) = true
  · replace h := tk_ifT hc1 h
    refine tk_bT me63 rfl rfl tk_eB_ne (c := (fS_hasThree 1 m) = true) hc1 (pc' := 12) (ls' := [(0, .ref 0), (1, .int a1)]) (st' := []) ?_
    refine tk_Ps me63 1 (pc' := 13) (ls' := [(0, .ref 0), (1, .int a1)]) (st' := [.ref 0]) rfl ?_
    refine tk_HR me63 rfl rfl ly0 rt0_0 ?_
    refine tk_HB me63 rfl rfl ly1 ?_
    by_cases hc2 : (m.2.2.1 1 4) = true
    · replace h := tk_ifT hc2 h
      refine tk_bT me63 rfl rfl tk_eB_eq (c := (m.2.2.1 1 4) = true) hc2 (pc' := 22) (ls' := [(0, .ref 0), (1, .int a1)]) (st' := []) ?_
      refine tk_Ps me63 1 (pc' := 23) (ls' := [(0, .ref 0), (1, .int a1)]) (st' := [.ref 0]) rfl ?_
      refine tk_HR me63 rfl rfl ly0 rt0_7 ?_
      obtain ⟨o3, ho3, h⟩ := tk_lete h
      refine tk_cV0 me63 rfl rfl (r := 39) (as := []) (rest := []) rfl ly39 rfl rfl (ok_fF_forget sc m ho3) ?_
      refine tk_Ps me63 2 (pc' := 31) (ls' := [(2, .int (0 : Int32)), (0, .ref 0), (1, .int a1)]) (st' := []) rfl ?_
      refine tk_Kp me63 (ls' := [(0, .ref 0), (1, .int a1), (2, .int (0 : Int32))]) rfl rfl ?_
      exact ok_fX_missesAnswer_31 sc tk_F a1 (0 : Int32) o3 _ h
    · replace h := tk_ifF hc2 h
      refine tk_bF me63 rfl rfl tk_eB_eq (c := (m.2.2.1 1 4) = true) hc2 (pc' := 63) (ls' := [(0, .ref 0), (1, .int a1)]) (st' := []) ?_
      refine tk_Ps me63 1 (pc' := 64) (ls' := [(0, .ref 0), (1, .int a1)]) (st' := [.int a1]) rfl ?_
      by_cases hc4 : a1 < 0
      · replace h := tk_ifT hc4 h
        refine tk_bT me63 rfl rfl rfl (c := a1 < 0) hc4 (pc' := 82) (ls' := [(0, .ref 0), (1, .int a1)]) (st' := []) ?_
        refine tk_Ps me63 1 (pc' := 83) (ls' := [(0, .ref 0), (1, .int a1)]) (st' := [.int (3 : Int32)]) rfl ?_
        replace h := Option.some.inj h
        subst h
        exact tk_RI me63 rfl rfl rfl
      · replace h := tk_ifF hc4 h
        refine tk_bF me63 rfl rfl rfl (c := a1 < 0) hc4 (pc' := 67) (ls' := [(0, .ref 0), (1, .int a1)]) (st' := []) ?_
        refine tk_Ps me63 2 (pc' := 69) (ls' := [(0, .ref 0), (1, .int a1)]) (st' := [.ref 0, .int a1]) rfl ?_
        refine tk_HR me63 rfl rfl ly0 rt0_7 ?_
        refine tk_HI me63 rfl rfl ly39 ?_
        by_cases hc5 : (m.1 39 2) ≤ a1
        · replace h := tk_ifT hc5 h
          refine tk_bT me63 rfl rfl rfl (c := (m.1 39 2) ≤ a1) hc5 (pc' := 82) (ls' := [(0, .ref 0), (1, .int a1)]) (st' := []) ?_
          refine tk_Ps me63 1 (pc' := 83) (ls' := [(0, .ref 0), (1, .int a1)]) (st' := [.int (3 : Int32)]) rfl ?_
          replace h := Option.some.inj h
          subst h
          exact tk_RI me63 rfl rfl rfl
        · replace h := tk_ifF hc5 h
          refine tk_bF me63 rfl rfl rfl (c := (m.1 39 2) ≤ a1) hc5 (pc' := 78) (ls' := [(0, .ref 0), (1, .int a1)]) (st' := []) ?_
          refine tk_Ps me63 2 (pc' := 83) (ls' := [(0, .ref 0), (1, .int a1)]) (st' := [.int (-1 : Int32)]) rfl ?_
          replace h := Option.some.inj h
          subst h
          exact tk_RI me63 rfl rfl rfl
  · replace h := tk_ifF hc1 h
    refine tk_bF me63 rfl rfl tk_eB_ne (c := (fS_hasThree 1 m) = true) hc1 (pc' := 10) (ls' := [(0, .ref 0), (1, .int a1)]) (st' := []) ?_
    refine tk_Ps me63 1 (pc' := 11) (ls' := [(0, .ref 0), (1, .int a1)]) (st' := [.int (4 : Int32)]) rfl ?_
    replace h := Option.some.inj h
    subst h
    exact tk_RI me63 rfl rfl rfl
theorem ok_fX_answers (sc : tk_X) (a1 : Int32) (m : tk_m) {out : Int32 × tk_m} (h : fX_answers a1 m = some out) : tk_Ru sc 7 62 [.ref 0, .int a1] (tk_full m) (some (.int out.1), tk_full out.2) := by
  unfold fX_answers at h
  refine tk_Ru0 me62 (ls := [(0, .ref 0), (1, .int a1)]) rfl rfl ?_
  refine tk_Ps me62 3 (pc' := 3) (ls' := [(0, .ref 0), (1, .int a1)]) (st' := [.int (2 : Int32), .int (0 : Int32), .int a1]) rfl ?_
  refine tk_cS1 me62 rfl rfl (as := [.int a1, .int (0 : Int32), .int (2 : Int32)]) (rest := []) rfl rfl rfl (ok_fX_isWithin sc a1 (0 : Int32) (2 : Int32) m) ?_
  by_cases hc1 : (fX_isWithin a1 (0 : Int32) (2 : Int32)) = true
  · replace h := tk_ifT hc1 h
    refine tk_bT me62 rfl rfl tk_eB_ne (c := (fX_isWithin a1 (0 : Int32) (2 : Int32)) = true) hc1 (pc' := 15) (ls' := [(0, .ref 0), (1, .int a1)]) (st' := []) ?_
    refine tk_Ps me62 2 (pc' := 17) (ls' := [(0, .ref 0), (1, .int a1)]) (st' := [.int (0 : Int32), .ref 0]) rfl ?_
    obtain ⟨o2, ho2, h⟩ := tk_bnd h
    refine tk_cV1 me62 rfl rfl (r := 0) (as := [.int (0 : Int32)]) (rest := []) rfl ly0 rfl rfl (ok_fX_missesAnswer sc (0 : Int32) m ho2) ?_
    refine tk_Ps me62 1 (pc' := 21) (ls' := [(0, .ref 0), (1, .int a1)]) (st' := [.int (4 : Int32), .int o2.1]) rfl ?_
    by_cases hc3 : o2.1 = (4 : Int32)
    · replace h := tk_ifT hc3 h
      refine tk_bT me62 rfl rfl rfl (c := o2.1 = (4 : Int32)) hc3 (pc' := 24) (ls' := [(0, .ref 0), (1, .int a1)]) (st' := []) ?_
      refine tk_Ps me62 2 (pc' := 26) (ls' := [(0, .ref 0), (1, .int a1)]) (st' := [.int (4 : Int32), .ref 0]) rfl ?_
      obtain ⟨o4, ho4, h⟩ := tk_bnd h
      refine tk_cV1 me62 rfl rfl (r := 0) (as := [.int (4 : Int32)]) (rest := []) rfl ly0 rfl rfl (ok_fX_finding sc (4 : Int32) o2.2 ho4) ?_
      replace h := Option.some.inj h
      subst h
      exact tk_RI me62 rfl rfl rfl
    · replace h := tk_ifF hc3 h
      refine tk_bF me62 rfl rfl rfl (c := o2.1 = (4 : Int32)) hc3 (pc' := 30) (ls' := [(0, .ref 0), (1, .int a1)]) (st' := []) ?_
      refine tk_Ps me62 1 (pc' := 31) (ls' := [(0, .ref 0), (1, .int a1)]) (st' := [.int a1]) rfl ?_
      by_cases hc5 : a1 = 0
      · replace h := tk_ifT hc5 h
        refine tk_bT me62 rfl rfl rfl (c := a1 = 0) hc5 (pc' := 34) (ls' := [(0, .ref 0), (1, .int a1)]) (st' := []) ?_
        refine tk_Ps me62 1 (pc' := 35) (ls' := [(0, .ref 0), (1, .int a1)]) (st' := [.ref 0]) rfl ?_
        refine tk_HR me62 rfl rfl ly0 rt0_7 ?_
        refine tk_HI me62 rfl rfl ly39 ?_
        replace h := Option.some.inj h
        subst h
        exact tk_RI me62 rfl rfl rfl
      · replace h := tk_ifF hc5 h
        refine tk_bF me62 rfl rfl rfl (c := a1 = 0) hc5 (pc' := 42) (ls' := [(0, .ref 0), (1, .int a1)]) (st' := []) ?_
        refine tk_Ps me62 2 (pc' := 44) (ls' := [(0, .ref 0), (1, .int a1)]) (st' := [.int (1 : Int32), .int a1]) rfl ?_
        by_cases hc6 : a1 = (1 : Int32)
        · replace h := tk_ifT hc6 h
          refine tk_bT me62 rfl rfl rfl (c := a1 = (1 : Int32)) hc6 (pc' := 47) (ls' := [(0, .ref 0), (1, .int a1)]) (st' := []) ?_
          refine tk_Ps me62 1 (pc' := 48) (ls' := [(0, .ref 0), (1, .int a1)]) (st' := [.ref 0]) rfl ?_
          refine tk_HR me62 rfl rfl ly0 rt0_7 ?_
          refine tk_HI me62 rfl rfl ly39 ?_
          refine tk_Ps me62 1 (pc' := 64) (ls' := [(0, .ref 0), (1, .int a1)]) (st' := [.int (o2.2.1 39 3)]) rfl ?_
          replace h := Option.some.inj h
          subst h
          exact tk_RI me62 rfl rfl rfl
        · replace h := tk_ifF hc6 h
          refine tk_bF me62 rfl rfl rfl (c := a1 = (1 : Int32)) hc6 (pc' := 57) (ls' := [(0, .ref 0), (1, .int a1)]) (st' := []) ?_
          refine tk_Ps me62 1 (pc' := 58) (ls' := [(0, .ref 0), (1, .int a1)]) (st' := [.ref 0]) rfl ?_
          refine tk_HR me62 rfl rfl ly0 rt0_7 ?_
          refine tk_HI me62 rfl rfl ly39 ?_
          replace h := Option.some.inj h
          subst h
          exact tk_RI me62 rfl rfl rfl
  · replace h := tk_ifF hc1 h
    refine tk_bF me62 rfl rfl tk_eB_ne (c := (fX_isWithin a1 (0 : Int32) (2 : Int32)) = true) hc1 (pc' := 9) (ls' := [(0, .ref 0), (1, .int a1)]) (st' := []) ?_
    refine tk_Ps me62 2 (pc' := 11) (ls' := [(0, .ref 0), (1, .int a1)]) (st' := [.int (0 : Int32), .ref 0]) rfl ?_
    obtain ⟨o7, ho7, h⟩ := tk_bnd h
    refine tk_cV1 me62 rfl rfl (r := 0) (as := [.int (0 : Int32)]) (rest := []) rfl ly0 rfl rfl (ok_fX_finding sc (0 : Int32) m ho7) ?_
    replace h := Option.some.inj h
    subst h
    exact tk_RI me62 rfl rfl rfl
theorem ok_fX_signs (sc : tk_X) (a1 : Int32) (m : tk_m) {out : Int32 × tk_m} (h : fX_signs a1 m = some out) : tk_Ru sc 7 97 [.ref 0, .int a1] (tk_full m) (some (.int out.1), tk_full out.2) := by
  unfold fX_signs at h
  refine tk_Ru0 me97 (ls := [(0, .ref 0), (1, .int a1)]) rfl rfl ?_
  refine tk_Ps me97 2 (pc' := 2) (ls' := [(0, .ref 0), (1, .int a1)]) (st' := [.int a1, .ref 0]) rfl ?_
  obtain ⟨o1, ho1, h⟩ := tk_bnd h
  refine tk_cV1 me97 rfl rfl (r := 0) (as := [.int a1]) (rest := []) rfl ly0 rfl rfl (ok_fX_missesAnswer sc a1 m ho1) ?_
  refine tk_Ps me97 2 (pc' := 7) (ls' := [(2, .int o1.1), (0, .ref 0), (1, .int a1)]) (st' := [.int o1.1]) rfl ?_
  by_cases hc2 : o1.1 < 0
  · replace h := tk_ifT hc2 h
    refine tk_bT me97 rfl rfl rfl (c := o1.1 < 0) hc2 (pc' := 16) (ls' := [(2, .int o1.1), (0, .ref 0), (1, .int a1)]) (st' := []) ?_
    refine tk_Ps me97 1 (pc' := 17) (ls' := [(2, .int o1.1), (0, .ref 0), (1, .int a1)]) (st' := [.ref 0]) rfl ?_
    refine tk_HR me97 rfl rfl ly0 rt0_7 ?_
    refine tk_HR me97 rfl rfl ly39 rt39_1 ?_
    refine tk_Ps me97 1 (pc' := 24) (ls' := [(2, .int o1.1), (0, .ref 0), (1, .int a1)]) (st' := [.int a1, .ref 40]) rfl ?_
    obtain ⟨hg3, h⟩ := tk_grd h
    refine tk_HQ me97 rfl rfl ly40 hg3 (la40 _ (hg3).2).1 ?_
    refine tk_HI me97 rfl rfl ((la40 _ (hg3).2).2) ?_
    replace h := Option.some.inj h
    subst h
    exact tk_RI me97 rfl rfl rfl
  · replace h := tk_ifF hc2 h
    refine tk_bF me97 rfl rfl rfl (c := o1.1 < 0) hc2 (pc' := 10) (ls' := [(2, .int o1.1), (0, .ref 0), (1, .int a1)]) (st' := []) ?_
    refine tk_Ps me97 2 (pc' := 12) (ls' := [(2, .int o1.1), (0, .ref 0), (1, .int a1)]) (st' := [.int o1.1, .ref 0]) rfl ?_
    obtain ⟨o4, ho4, h⟩ := tk_bnd h
    refine tk_cV1 me97 rfl rfl (r := 0) (as := [.int o1.1]) (rest := []) rfl ly0 rfl rfl (ok_fX_finding sc o1.1 o1.2 ho4) ?_
    replace h := Option.some.inj h
    subst h
    exact tk_RI me97 rfl rfl rfl
theorem ok_fX_longFinding (sc : tk_X) (a1 : Int32) (m : tk_m) {out : Int64 × tk_m} (h : fX_longFinding a1 m = some out) : tk_Ru sc 3 99 [.ref 0, .int a1] (tk_full m) (some (.long out.1), tk_full out.2) := by
  unfold fX_longFinding at h
  refine tk_Ru0 me99 (ls := [(0, .ref 0), (1, .int a1)]) rfl rfl ?_
  refine tk_Ps me99 2 (pc' := 2) (ls' := [(0, .ref 0), (1, .int a1)]) (st' := [.int a1, .ref 0]) rfl ?_
  obtain ⟨o1, ho1, h⟩ := tk_bnd h
  refine tk_cV1 me99 rfl rfl (r := 0) (as := [.int a1]) (rest := []) rfl ly0 rfl rfl (ok_fX_finding sc a1 m ho1) ?_
  refine tk_Ps me99 5 (pc' := 12) (ls' := [(0, .ref 0), (1, .int a1)]) (st' := [.long ((-4000000000000000001 : Int64) - (Int32.toInt64 a1))]) rfl ?_
  replace h := Option.some.inj h
  subst h
  exact tk_RJ me99 rfl rfl rfl
theorem ok_fC_part (sc : tk_X) (t : Nat) (a1 : Int32) (m : tk_m) (ht : tk_lay[t]? = some (.inl 1)) : tk_Ru sc 1 100 [.ref t, .int a1] (tk_full m) (some (.ref (fC_part t a1)), tk_full m) := by
  obtain ⟨out, h⟩ : ∃ out, fC_part t a1 = out := ⟨_, rfl⟩
  rw [h]
  unfold fC_part at h
  refine tk_Ru0 me100 (ls := [(0, .ref t), (1, .int a1)]) rfl rfl ?_
  refine tk_Ps me100 1 (pc' := 1) (ls' := [(0, .ref t), (1, .int a1)]) (st' := [.int a1]) rfl ?_
  by_cases hc1 : a1 = 0
  · replace h := tk_ifT hc1 h
    refine tk_bT me100 rfl rfl rfl (c := a1 = 0) hc1 (pc' := 4) (ls' := [(0, .ref t), (1, .int a1)]) (st' := []) ?_
    refine tk_Ps me100 1 (pc' := 5) (ls' := [(0, .ref t), (1, .int a1)]) (st' := [.ref t]) rfl ?_
    refine tk_HR me100 rfl rfl ht (ro1_3 ht) ?_
    refine tk_Ps me100 1 (pc' := 27) (ls' := [(0, .ref t), (1, .int a1)]) (st' := [.ref (t + 2)]) rfl ?_
    subst h
    exact tk_RA me100 rfl rfl rfl rfl
  · replace h := tk_ifF hc1 h
    refine tk_bF me100 rfl rfl rfl (c := a1 = 0) hc1 (pc' := 11) (ls' := [(0, .ref t), (1, .int a1)]) (st' := []) ?_
    refine tk_Ps me100 2 (pc' := 13) (ls' := [(0, .ref t), (1, .int a1)]) (st' := [.int (1 : Int32), .int a1]) rfl ?_
    by_cases hc2 : a1 = (1 : Int32)
    · replace h := tk_ifT hc2 h
      refine tk_bT me100 rfl rfl rfl (c := a1 = (1 : Int32)) hc2 (pc' := 16) (ls' := [(0, .ref t), (1, .int a1)]) (st' := []) ?_
      refine tk_Ps me100 1 (pc' := 17) (ls' := [(0, .ref t), (1, .int a1)]) (st' := [.ref t]) rfl ?_
      refine tk_HR me100 rfl rfl ht (ro1_4 ht) ?_
      refine tk_Ps me100 1 (pc' := 27) (ls' := [(0, .ref t), (1, .int a1)]) (st' := [.ref (t + 4)]) rfl ?_
      subst h
      exact tk_RA me100 rfl rfl rfl rfl
    · replace h := tk_ifF hc2 h
      refine tk_bF me100 rfl rfl rfl (c := a1 = (1 : Int32)) hc2 (pc' := 23) (ls' := [(0, .ref t), (1, .int a1)]) (st' := []) ?_
      refine tk_Ps me100 1 (pc' := 24) (ls' := [(0, .ref t), (1, .int a1)]) (st' := [.ref t]) rfl ?_
      refine tk_HR me100 rfl rfl ht (ro1_5 ht) ?_
      subst h
      exact tk_RA me100 rfl rfl rfl rfl
theorem lay_fC_part (sc : tk_X) (t : Nat) (a1 : Int32) (m : tk_m) (ht : tk_lay[t]? = some (.inl 1)) : tk_lay[fC_part t a1]? = some (.inl 4) := by
  obtain ⟨out, h⟩ : ∃ out, fC_part t a1 = out := ⟨_, rfl⟩
  rw [h]
  unfold fC_part at h
  by_cases hc1 : a1 = 0
  · replace h := tk_ifT hc1 h
    subst h
    exact lo1_3 ht
  · replace h := tk_ifF hc1 h
    by_cases hc2 : a1 = (1 : Int32)
    · replace h := tk_ifT hc2 h
      subst h
      exact lo1_4 ht
    · replace h := tk_ifF hc2 h
      subst h
      exact lo1_5 ht
theorem ok_fN_m (sc : tk_X) (t : Nat) (m : tk_m) (ht : tk_lay[t]? = some (.inl 4)) : tk_Ru sc 1 102 [.ref t] (tk_full m) (some (.long (fN_m t m)), tk_full m) := by
  obtain ⟨out, h⟩ : ∃ out, fN_m t m = out := ⟨_, rfl⟩
  rw [h]
  unfold fN_m at h
  refine tk_Ru0 me102 (ls := [(0, .ref t)]) rfl rfl ?_
  refine tk_Ps me102 1 (pc' := 1) (ls' := [(0, .ref t)]) (st' := [.ref t]) rfl ?_
  refine tk_HR me102 rfl rfl ht (ro4_1 ht) ?_
  refine tk_Ps me102 1 (pc' := 5) (ls' := [(0, .ref t)]) (st' := [.int (2 : Int32), .ref (t + 1)]) rfl ?_
  refine tk_HJa me102 rfl rfl (lo4_1 ht) (by decide) ?_
  subst h
  exact tk_RJ me102 rfl rfl rfl
theorem ok_fN_part (sc : tk_X) (t : Nat) (a1 : Int32) (m : tk_m) (ht : tk_lay[t]? = some (.inl 4)) : tk_Ru sc 2 101 [.ref t, .int a1] (tk_full m) (some (.long (fN_part t a1 m)), tk_full m) := by
  obtain ⟨out, h⟩ : ∃ out, fN_part t a1 m = out := ⟨_, rfl⟩
  rw [h]
  unfold fN_part at h
  refine tk_Ru0 me101 (ls := [(0, .ref t), (1, .int a1)]) rfl rfl ?_
  refine tk_Ps me101 1 (pc' := 1) (ls' := [(0, .ref t), (1, .int a1)]) (st' := [.int a1]) rfl ?_
  by_cases hs1 : a1 = 0
  · replace h := tk_ifT hs1 h
    refine tk_sw me101 rfl rfl hs1 rfl (pc' := 28) (ls' := [(0, .ref t), (1, .int a1)]) (st' := []) ?_
    refine tk_Ps me101 1 (pc' := 29) (ls' := [(0, .ref t), (1, .int a1)]) (st' := [.ref t]) rfl ?_
    refine tk_cV1 me101 rfl rfl (r := t) (as := []) (rest := []) rfl ht rfl rfl (ok_fN_p sc t m ht) ?_
    subst h
    exact tk_RJ me101 rfl rfl rfl
  replace h := tk_ifF hs1 h
  by_cases hs2 : a1 = 1
  · replace h := tk_ifT hs2 h
    refine tk_sw me101 rfl rfl hs2 rfl (pc' := 33) (ls' := [(0, .ref t), (1, .int a1)]) (st' := []) ?_
    refine tk_Ps me101 1 (pc' := 34) (ls' := [(0, .ref t), (1, .int a1)]) (st' := [.ref t]) rfl ?_
    refine tk_cV1 me101 rfl rfl (r := t) (as := []) (rest := []) rfl ht rfl rfl (ok_fN_q sc t m ht) ?_
    subst h
    exact tk_RJ me101 rfl rfl rfl
  replace h := tk_ifF hs2 h
  by_cases hs3 : a1 = 2
  · replace h := tk_ifT hs3 h
    refine tk_sw me101 rfl rfl hs3 rfl (pc' := 38) (ls' := [(0, .ref t), (1, .int a1)]) (st' := []) ?_
    refine tk_Ps me101 1 (pc' := 39) (ls' := [(0, .ref t), (1, .int a1)]) (st' := [.ref t]) rfl ?_
    refine tk_HJ me101 rfl rfl ht ?_
    subst h
    exact tk_RJ me101 rfl rfl rfl
  replace h := tk_ifF hs3 h
  refine tk_swD me101 rfl rfl (tk_swo_0_2 hs1 hs2 hs3) rfl rfl (pc' := 43) (ls' := [(0, .ref t), (1, .int a1)]) (st' := []) ?_
  refine tk_Ps me101 1 (pc' := 44) (ls' := [(0, .ref t), (1, .int a1)]) (st' := [.ref t]) rfl ?_
  refine tk_cV1 me101 rfl rfl (r := t) (as := []) (rest := []) rfl ht rfl rfl (ok_fN_m sc t m ht) ?_
  subst h
  exact tk_RJ me101 rfl rfl rfl
theorem ok_fX_answer (sc : tk_X) (a1 : Int32) (a2 : Int32) (a3 : Int32) (m : tk_m) {out : Int64 × tk_m} (h : fX_answer a1 a2 a3 m = some out) : tk_Ru sc 7 98 [.ref 0, .int a1, .int a2, .int a3] (tk_full m) (some (.long out.1), tk_full out.2) := by
  unfold fX_answer at h
  refine tk_Ru0 me98 (ls := [(0, .ref 0), (1, .int a1), (2, .int a2), (3, .int a3)]) rfl rfl ?_
  refine tk_Ps me98 3 (pc' := 3) (ls' := [(0, .ref 0), (1, .int a1), (2, .int a2), (3, .int a3)]) (st' := [.int (2 : Int32), .int (0 : Int32), .int a2]) rfl ?_
  refine tk_cS1 me98 rfl rfl (as := [.int a2, .int (0 : Int32), .int (2 : Int32)]) (rest := []) rfl rfl rfl (ok_fX_isWithin sc a2 (0 : Int32) (2 : Int32) m) ?_
  by_cases hc1 : (fX_isWithin a2 (0 : Int32) (2 : Int32)) = true
  · replace h := tk_ifT hc1 h
    refine tk_bT me98 rfl rfl tk_eB_eq (c := (fX_isWithin a2 (0 : Int32) (2 : Int32)) = true) hc1 (pc' := 9) (ls' := [(0, .ref 0), (1, .int a1), (2, .int a2), (3, .int a3)]) (st' := []) ?_
    refine tk_Ps me98 3 (pc' := 12) (ls' := [(0, .ref 0), (1, .int a1), (2, .int a2), (3, .int a3)]) (st' := [.int (3 : Int32), .int (0 : Int32), .int a3]) rfl ?_
    refine tk_cS1 me98 rfl rfl (as := [.int a3, .int (0 : Int32), .int (3 : Int32)]) (rest := []) rfl rfl rfl (ok_fX_isWithin sc a3 (0 : Int32) (3 : Int32) m) ?_
    by_cases hc2 : (fX_isWithin a3 (0 : Int32) (3 : Int32)) = true
    · replace h := tk_ifT hc2 h
      refine tk_bT me98 rfl rfl tk_eB_ne (c := (fX_isWithin a3 (0 : Int32) (3 : Int32)) = true) hc2 (pc' := 24) (ls' := [(0, .ref 0), (1, .int a1), (2, .int a2), (3, .int a3)]) (st' := []) ?_
      refine tk_Ps me98 2 (pc' := 26) (ls' := [(0, .ref 0), (1, .int a1), (2, .int a2), (3, .int a3)]) (st' := [.int a1, .ref 0]) rfl ?_
      obtain ⟨o3, ho3, h⟩ := tk_bnd h
      refine tk_cV1 me98 rfl rfl (r := 0) (as := [.int a1]) (rest := []) rfl ly0 rfl rfl (ok_fX_missesAnswer sc a1 m ho3) ?_
      refine tk_Ps me98 2 (pc' := 33) (ls' := [(4, .int o3.1), (0, .ref 0), (1, .int a1), (2, .int a2), (3, .int a3)]) (st' := [.int o3.1]) rfl ?_
      by_cases hc4 : o3.1 < 0
      · replace h := tk_ifT hc4 h
        refine tk_bT me98 rfl rfl rfl (c := o3.1 < 0) hc4 (pc' := 43) (ls' := [(4, .int o3.1), (0, .ref 0), (1, .int a1), (2, .int a2), (3, .int a3)]) (st' := []) ?_
        refine tk_Ps me98 1 (pc' := 44) (ls' := [(4, .int o3.1), (0, .ref 0), (1, .int a1), (2, .int a2), (3, .int a3)]) (st' := [.ref 0]) rfl ?_
        refine tk_HR me98 rfl rfl ly0 rt0_7 ?_
        refine tk_HR me98 rfl rfl ly39 rt39_1 ?_
        refine tk_Ps me98 1 (pc' := 51) (ls' := [(4, .int o3.1), (0, .ref 0), (1, .int a1), (2, .int a2), (3, .int a3)]) (st' := [.int a1, .ref 40]) rfl ?_
        obtain ⟨hg5, h⟩ := tk_grd h
        refine tk_HQ me98 rfl rfl ly40 hg5 (la40 _ (hg5).2).1 ?_
        refine tk_Ps me98 1 (pc' := 53) (ls' := [(4, .int o3.1), (0, .ref 0), (1, .int a1), (2, .int a2), (3, .int a3)]) (st' := [.int a2, .ref (50 + 8 * (tk_n a1))]) rfl ?_
        refine tk_cV1 me98 rfl rfl (r := (50 + 8 * (tk_n a1))) (as := [.int a2]) (rest := []) rfl ((la40 _ (hg5).2).2) rfl rfl (ok_fC_part sc (50 + 8 * (tk_n a1)) a2 o3.2 ((la40 _ (hg5).2).2)) ?_
        refine tk_Ps me98 1 (pc' := 57) (ls' := [(4, .int o3.1), (0, .ref 0), (1, .int a1), (2, .int a2), (3, .int a3)]) (st' := [.int a3, .ref (fC_part (50 + 8 * (tk_n a1)) a2)]) rfl ?_
        refine tk_cV1 me98 rfl rfl (r := (fC_part (50 + 8 * (tk_n a1)) a2)) (as := [.int a3]) (rest := []) rfl (lay_fC_part sc (50 + 8 * (tk_n a1)) a2 o3.2 ((la40 _ (hg5).2).2)) rfl rfl (ok_fN_part sc (fC_part (50 + 8 * (tk_n a1)) a2) a3 o3.2 (lay_fC_part sc (50 + 8 * (tk_n a1)) a2 o3.2 ((la40 _ (hg5).2).2))) ?_
        replace h := Option.some.inj h
        subst h
        exact tk_RJ me98 rfl rfl rfl
      · replace h := tk_ifF hc4 h
        refine tk_bF me98 rfl rfl rfl (c := o3.1 < 0) hc4 (pc' := 36) (ls' := [(4, .int o3.1), (0, .ref 0), (1, .int a1), (2, .int a2), (3, .int a3)]) (st' := []) ?_
        refine tk_Ps me98 2 (pc' := 39) (ls' := [(4, .int o3.1), (0, .ref 0), (1, .int a1), (2, .int a2), (3, .int a3)]) (st' := [.int o3.1, .ref 0]) rfl ?_
        obtain ⟨o6, ho6, h⟩ := tk_bnd h
        refine tk_cV1 me98 rfl rfl (r := 0) (as := [.int o3.1]) (rest := []) rfl ly0 rfl rfl (ok_fX_longFinding sc o3.1 o3.2 ho6) ?_
        replace h := Option.some.inj h
        subst h
        exact tk_RJ me98 rfl rfl rfl
    · replace h := tk_ifF hc2 h
      refine tk_bF me98 rfl rfl tk_eB_ne (c := (fX_isWithin a3 (0 : Int32) (3 : Int32)) = true) hc2 (pc' := 18) (ls' := [(0, .ref 0), (1, .int a1), (2, .int a2), (3, .int a3)]) (st' := []) ?_
      refine tk_Ps me98 2 (pc' := 20) (ls' := [(0, .ref 0), (1, .int a1), (2, .int a2), (3, .int a3)]) (st' := [.int (0 : Int32), .ref 0]) rfl ?_
      obtain ⟨o7, ho7, h⟩ := tk_bnd h
      refine tk_cV1 me98 rfl rfl (r := 0) (as := [.int (0 : Int32)]) (rest := []) rfl ly0 rfl rfl (ok_fX_longFinding sc (0 : Int32) m ho7) ?_
      replace h := Option.some.inj h
      subst h
      exact tk_RJ me98 rfl rfl rfl
  · replace h := tk_ifF hc1 h
    refine tk_bF me98 rfl rfl tk_eB_eq (c := (fX_isWithin a2 (0 : Int32) (2 : Int32)) = true) hc1 (pc' := 18) (ls' := [(0, .ref 0), (1, .int a1), (2, .int a2), (3, .int a3)]) (st' := []) ?_
    refine tk_Ps me98 2 (pc' := 20) (ls' := [(0, .ref 0), (1, .int a1), (2, .int a2), (3, .int a3)]) (st' := [.int (0 : Int32), .ref 0]) rfl ?_
    obtain ⟨o8, ho8, h⟩ := tk_bnd h
    refine tk_cV1 me98 rfl rfl (r := 0) (as := [.int (0 : Int32)]) (rest := []) rfl ly0 rfl rfl (ok_fX_longFinding sc (0 : Int32) m ho8) ?_
    replace h := Option.some.inj h
    subst h
    exact tk_RJ me98 rfl rfl rfl
theorem ok_fB_trim_39 (sc : tk_X) (v0 : Nat) (m : tk_m) (hv0 : tk_lay[v0]? = some (.inl 0)) (out : tk_m) (h : fB_trim_39 v0 m = some out) : tk_Ex sc 0 108 39 [(0, .ref v0)] [] (tk_full m) (none, tk_full out) := by
  unfold fB_trim_39 at h
  refine tk_Ps me108 1 (pc' := 40) (ls' := [(0, .ref v0)]) (st' := [.ref v0]) rfl ?_
  refine tk_HI me108 rfl rfl hv0 ?_
  by_cases hc1 : (m.1 v0 1) = 0
  · replace h := tk_ifT hc1 h
    refine tk_bT me108 rfl rfl rfl (c := (m.1 v0 1) = 0) hc1 (pc' := 46) (ls' := [(0, .ref v0)]) (st' := []) ?_
    refine tk_Ps me108 2 (pc' := 48) (ls' := [(0, .ref v0)]) (st' := [.int (0 : Int32), .ref v0]) rfl ?_
    refine tk_SI me108 rfl rfl hv0 ?_
    replace h := Option.some.inj h
    subst h
    exact tk_RV me108 rfl rfl rfl
  · replace h := tk_ifF hc1 h
    refine tk_bF me108 rfl rfl rfl (c := (m.1 v0 1) = 0) hc1 (pc' := 51) (ls' := [(0, .ref v0)]) (st' := []) ?_
    replace h := Option.some.inj h
    subst h
    exact tk_RV me108 rfl rfl rfl
theorem ok_fB_trim_5 (sc : tk_X) : ∀ (n : Nat) (v0 : Nat) (m : tk_m) (hv0 : tk_lay[v0]? = some (.inl 0)) (out : tk_m), fB_trim_5 n v0 m = some out → tk_Ex sc 0 108 5 [(0, .ref v0)] [] (tk_full m) (none, tk_full out) := by
  intro n
  induction n with
  | zero =>
    intro v0 m hv0 out h
    cases h
  | succ n ih =>
    intro v0 m hv0 out h
    unfold fB_trim_5 at h
    refine tk_Ps me108 1 (pc' := 6) (ls' := [(0, .ref v0)]) (st' := [.ref v0]) rfl ?_
    refine tk_HI me108 rfl rfl hv0 ?_
    by_cases hc1 : (m.1 v0 1) ≤ 0
    · replace h := tk_ifT hc1 h
      refine tk_bT me108 rfl rfl rfl (c := (m.1 v0 1) ≤ 0) hc1 (pc' := 39) (ls' := [(0, .ref v0)]) (st' := []) ?_
      refine tk_Kp me108 (ls' := [(0, .ref v0)]) rfl rfl ?_
      exact ok_fB_trim_39 sc v0 m hv0 _ h
    · replace h := tk_ifF hc1 h
      refine tk_bF me108 rfl rfl rfl (c := (m.1 v0 1) ≤ 0) hc1 (pc' := 12) (ls' := [(0, .ref v0)]) (st' := []) ?_
      refine tk_Ps me108 1 (pc' := 13) (ls' := [(0, .ref v0)]) (st' := [.ref v0]) rfl ?_
      refine tk_HR me108 rfl rfl hv0 (ro0_2 hv0) ?_
      refine tk_Ps me108 1 (pc' := 17) (ls' := [(0, .ref v0)]) (st' := [.ref v0, .ref (v0 + 1)]) rfl ?_
      refine tk_HI me108 rfl rfl hv0 ?_
      refine tk_Ps me108 2 (pc' := 22) (ls' := [(0, .ref v0)]) (st' := [.int ((m.1 v0 1) - (1 : Int32)), .ref (v0 + 1)]) rfl ?_
      obtain ⟨hg2, h⟩ := tk_grd h
      refine tk_HIa me108 rfl rfl (lo0_2 hv0) hg2 ?_
      by_cases hc3 : (m.1 (v0 + 1) (tk_n ((m.1 v0 1) - (1 : Int32)))) = 0
      · replace h := tk_ifT hc3 h
        refine tk_bT me108 rfl rfl rfl (c := (m.1 (v0 + 1) (tk_n ((m.1 v0 1) - (1 : Int32)))) = 0) hc3 (pc' := 26) (ls' := [(0, .ref v0)]) (st' := []) ?_
        refine tk_Ps me108 2 (pc' := 28) (ls' := [(0, .ref v0)]) (st' := [.ref v0, .ref v0]) rfl ?_
        refine tk_HI me108 rfl rfl hv0 ?_
        refine tk_Ps me108 2 (pc' := 33) (ls' := [(0, .ref v0)]) (st' := [.int ((m.1 v0 1) - (1 : Int32)), .ref v0]) rfl ?_
        refine tk_SI me108 rfl rfl hv0 ?_
        refine tk_Ps me108 1 (pc' := 5) (ls' := [(0, .ref v0)]) (st' := []) rfl ?_
        refine tk_Kp me108 (ls' := [(0, .ref v0)]) rfl rfl ?_
        exact ih v0 (tk_u2 m.1 v0 1 ((m.1 v0 1) - (1 : Int32)), m.2.1, m.2.2.1, m.2.2.2) hv0 _ h
      · replace h := tk_ifF hc3 h
        refine tk_bF me108 rfl rfl rfl (c := (m.1 (v0 + 1) (tk_n ((m.1 v0 1) - (1 : Int32)))) = 0) hc3 (pc' := 39) (ls' := [(0, .ref v0)]) (st' := []) ?_
        refine tk_Kp me108 (ls' := [(0, .ref v0)]) rfl rfl ?_
        exact ok_fB_trim_39 sc v0 m hv0 _ h
theorem ok_fB_trim (sc : tk_X) (t : Nat) (a1 : Int32) (m : tk_m) (ht : tk_lay[t]? = some (.inl 0)) {out : tk_m} (h : fB_trim t a1 m = some out) : tk_Ru sc 1 108 [.ref t, .int a1] (tk_full m) (none, tk_full out) := by
  unfold fB_trim at h
  refine tk_Ru0 me108 (ls := [(0, .ref t), (1, .int a1)]) rfl rfl ?_
  refine tk_Ps me108 2 (pc' := 2) (ls' := [(0, .ref t), (1, .int a1)]) (st' := [.int a1, .ref t]) rfl ?_
  refine tk_SI me108 rfl rfl ht ?_
  refine tk_Kp me108 (ls' := [(0, .ref t)]) rfl rfl ?_
  exact ok_fB_trim_5 sc tk_F t (tk_u2 m.1 t 1 a1, m.2.1, m.2.2.1, m.2.2.2) ht _ h
theorem ok_fB_take_12 (sc : tk_X) (v0 : Nat) (v1 : Int64) (s0 : Int64) (m : tk_m) (hv0 : tk_lay[v0]? = some (.inl 0)) (out : tk_m) (h : fB_take_12 v0 v1 s0 m = some out) : tk_Ex sc 1 107 12 [(0, .ref v0), (1, .long v1)] [.long s0] (tk_full m) (none, tk_full out) := by
  unfold fB_take_12 at h
  refine tk_Ps me107 2 (pc' := 14) (ls' := [(3, .long s0), (0, .ref v0), (1, .long v1)]) (st' := [.ref v0]) rfl ?_
  refine tk_HR me107 rfl rfl hv0 (ro0_2 hv0) ?_
  refine tk_Ps me107 3 (pc' := 20) (ls' := [(3, .long s0), (0, .ref v0), (1, .long v1)]) (st' := [.int (Int64.toInt32 s0), .int (0 : Int32), .ref (v0 + 1)]) rfl ?_
  refine tk_SIa me107 rfl rfl (lo0_2 hv0) (by decide) ?_
  refine tk_Ps me107 1 (pc' := 22) (ls' := [(3, .long s0), (0, .ref v0), (1, .long v1)]) (st' := [.ref v0]) rfl ?_
  refine tk_HR me107 rfl rfl hv0 (ro0_2 hv0) ?_
  refine tk_Ps me107 5 (pc' := 31) (ls' := [(3, .long s0), (0, .ref v0), (1, .long v1)]) (st' := [.int (Int64.toInt32 (tk_lushr s0 (32 : Int32))), .int (1 : Int32), .ref (v0 + 1)]) rfl ?_
  refine tk_SIa me107 rfl rfl (lo0_2 hv0) (by decide) ?_
  refine tk_Ps me107 4 (pc' := 36) (ls' := [(3, .long s0), (0, .ref v0), (1, .long v1)]) (st' := [.int (lg_cmp v1 (0 : Int64)), .ref v0]) rfl ?_
  by_cases hc1 : (0 : Int64) ≤ v1
  · replace h := tk_ifT hc1 h
    refine tk_bT me107 rfl rfl tk_eL_ge (c := (0 : Int64) ≤ v1) hc1 (pc' := 43) (ls' := [(3, .long s0), (0, .ref v0), (1, .long v1)]) (st' := [.ref v0]) ?_
    refine tk_Ps me107 1 (pc' := 44) (ls' := [(3, .long s0), (0, .ref v0), (1, .long v1)]) (st' := [.int (1 : Int32), .ref v0]) rfl ?_
    refine tk_SI me107 rfl rfl hv0 ?_
    refine tk_Ps me107 2 (pc' := 49) (ls' := [(3, .long s0), (0, .ref v0), (1, .long v1)]) (st' := [.int (2 : Int32), .ref v0]) rfl ?_
    obtain ⟨o2, ho2, h⟩ := tk_bnd h
    refine tk_cV0 me107 rfl rfl (r := v0) (as := [.int (2 : Int32)]) (rest := []) rfl hv0 rfl rfl (ok_fB_trim sc v0 (2 : Int32) (tk_u2 (tk_u2 (tk_u2 m.1 (v0 + 1) 0 (Int64.toInt32 s0)) (v0 + 1) 1 (Int64.toInt32 (tk_lushr s0 (32 : Int32)))) v0 0 (1 : Int32), m.2.1, m.2.2.1, m.2.2.2) hv0 ho2) ?_
    replace h := Option.some.inj h
    subst h
    exact tk_RV me107 rfl rfl rfl
  · replace h := tk_ifF hc1 h
    refine tk_bF me107 rfl rfl tk_eL_ge (c := (0 : Int64) ≤ v1) hc1 (pc' := 39) (ls' := [(3, .long s0), (0, .ref v0), (1, .long v1)]) (st' := [.ref v0]) ?_
    refine tk_Ps me107 2 (pc' := 44) (ls' := [(3, .long s0), (0, .ref v0), (1, .long v1)]) (st' := [.int (-1 : Int32), .ref v0]) rfl ?_
    refine tk_SI me107 rfl rfl hv0 ?_
    refine tk_Ps me107 2 (pc' := 49) (ls' := [(3, .long s0), (0, .ref v0), (1, .long v1)]) (st' := [.int (2 : Int32), .ref v0]) rfl ?_
    obtain ⟨o3, ho3, h⟩ := tk_bnd h
    refine tk_cV0 me107 rfl rfl (r := v0) (as := [.int (2 : Int32)]) (rest := []) rfl hv0 rfl rfl (ok_fB_trim sc v0 (2 : Int32) (tk_u2 (tk_u2 (tk_u2 m.1 (v0 + 1) 0 (Int64.toInt32 s0)) (v0 + 1) 1 (Int64.toInt32 (tk_lushr s0 (32 : Int32)))) v0 0 (-1 : Int32), m.2.1, m.2.2.1, m.2.2.2) hv0 ho3) ?_
    replace h := Option.some.inj h
    subst h
    exact tk_RV me107 rfl rfl rfl
theorem ok_fB_take (sc : tk_X) (t : Nat) (a1 : Int64) (m : tk_m) (ht : tk_lay[t]? = some (.inl 0)) {out : tk_m} (h : fB_take t a1 m = some out) : tk_Ru sc 2 107 [.ref t, .long a1] (tk_full m) (none, tk_full out) := by
  unfold fB_take at h
  refine tk_Ru0 me107 (ls := [(0, .ref t), (1, .long a1)]) rfl rfl ?_
  refine tk_Ps me107 3 (pc' := 3) (ls' := [(0, .ref t), (1, .long a1)]) (st' := [.int (lg_cmp a1 (0 : Int64))]) rfl ?_
  by_cases hc1 : (0 : Int64) ≤ a1
  · replace h := tk_ifT hc1 h
    refine tk_bT me107 rfl rfl tk_eL_ge (c := (0 : Int64) ≤ a1) hc1 (pc' := 11) (ls' := [(0, .ref t), (1, .long a1)]) (st' := []) ?_
    refine tk_Ps me107 1 (pc' := 12) (ls' := [(0, .ref t), (1, .long a1)]) (st' := [.long a1]) rfl ?_
    refine tk_Kp me107 (ls' := [(0, .ref t), (1, .long a1)]) rfl rfl ?_
    exact ok_fB_take_12 sc t a1 a1 m ht _ h
  · replace h := tk_ifF hc1 h
    refine tk_bF me107 rfl rfl tk_eL_ge (c := (0 : Int64) ≤ a1) hc1 (pc' := 6) (ls' := [(0, .ref t), (1, .long a1)]) (st' := []) ?_
    refine tk_Ps me107 3 (pc' := 12) (ls' := [(0, .ref t), (1, .long a1)]) (st' := [.long (-a1)]) rfl ?_
    refine tk_Kp me107 (ls' := [(0, .ref t), (1, .long a1)]) rfl rfl ?_
    exact ok_fB_take_12 sc t a1 (-a1) m ht _ h
theorem ok_fZ_min_I (sc : tk_X) (a1 : Int32) (a2 : Int32) (m : tk_m) : tk_Ru sc 1 110 [.int a1, .int a2] (tk_full m) (some (.int (fZ_min_I a1 a2)), tk_full m) := by
  obtain ⟨out, h⟩ : ∃ out, fZ_min_I a1 a2 = out := ⟨_, rfl⟩
  rw [h]
  unfold fZ_min_I at h
  refine tk_Ru0 me110 (ls := [(0, .int a1), (1, .int a2)]) rfl rfl ?_
  refine tk_Ps me110 2 (pc' := 2) (ls' := [(0, .int a1), (1, .int a2)]) (st' := [.int a2, .int a1]) rfl ?_
  by_cases hc1 : a2 < a1
  · replace h := tk_ifT hc1 h
    refine tk_bT me110 rfl rfl rfl (c := a2 < a1) hc1 (pc' := 9) (ls' := [(0, .int a1), (1, .int a2)]) (st' := []) ?_
    refine tk_Ps me110 1 (pc' := 10) (ls' := [(0, .int a1), (1, .int a2)]) (st' := [.int a2]) rfl ?_
    subst h
    exact tk_RI me110 rfl rfl rfl
  · replace h := tk_ifF hc1 h
    refine tk_bF me110 rfl rfl rfl (c := a2 < a1) hc1 (pc' := 5) (ls' := [(0, .int a1), (1, .int a2)]) (st' := []) ?_
    refine tk_Ps me110 2 (pc' := 10) (ls' := [(0, .int a1), (1, .int a2)]) (st' := [.int a1]) rfl ?_
    subst h
    exact tk_RI me110 rfl rfl rfl
theorem ok_fB_limb (sc : tk_X) (t : Nat) (a1 : Int32) (m : tk_m) (ht : tk_lay[t]? = some (.inl 0)) {out : Int64} (h : fB_limb t a1 m = some out) : tk_Ru sc 1 111 [.ref t, .int a1] (tk_full m) (some (.long out), tk_full m) := by
  unfold fB_limb at h
  refine tk_Ru0 me111 (ls := [(0, .ref t), (1, .int a1)]) rfl rfl ?_
  refine tk_Ps me111 1 (pc' := 1) (ls' := [(0, .ref t), (1, .int a1)]) (st' := [.int a1]) rfl ?_
  by_cases hc1 : a1 < 0
  · replace h := tk_ifT hc1 h
    refine tk_bT me111 rfl rfl rfl (c := a1 < 0) hc1 (pc' := 26) (ls' := [(0, .ref t), (1, .int a1)]) (st' := []) ?_
    refine tk_Ps me111 1 (pc' := 27) (ls' := [(0, .ref t), (1, .int a1)]) (st' := [.long (0 : Int64)]) rfl ?_
    replace h := Option.some.inj h
    subst h
    exact tk_RJ me111 rfl rfl rfl
  · replace h := tk_ifF hc1 h
    refine tk_bF me111 rfl rfl rfl (c := a1 < 0) hc1 (pc' := 4) (ls' := [(0, .ref t), (1, .int a1)]) (st' := []) ?_
    refine tk_Ps me111 2 (pc' := 6) (ls' := [(0, .ref t), (1, .int a1)]) (st' := [.ref t, .int a1]) rfl ?_
    refine tk_HI me111 rfl rfl ht ?_
    by_cases hc2 : (m.1 t 1) ≤ a1
    · replace h := tk_ifT hc2 h
      refine tk_bT me111 rfl rfl rfl (c := (m.1 t 1) ≤ a1) hc2 (pc' := 26) (ls' := [(0, .ref t), (1, .int a1)]) (st' := []) ?_
      refine tk_Ps me111 1 (pc' := 27) (ls' := [(0, .ref t), (1, .int a1)]) (st' := [.long (0 : Int64)]) rfl ?_
      replace h := Option.some.inj h
      subst h
      exact tk_RJ me111 rfl rfl rfl
    · replace h := tk_ifF hc2 h
      refine tk_bF me111 rfl rfl rfl (c := (m.1 t 1) ≤ a1) hc2 (pc' := 12) (ls' := [(0, .ref t), (1, .int a1)]) (st' := []) ?_
      refine tk_Ps me111 1 (pc' := 13) (ls' := [(0, .ref t), (1, .int a1)]) (st' := [.ref t]) rfl ?_
      refine tk_HR me111 rfl rfl ht (ro0_2 ht) ?_
      refine tk_Ps me111 1 (pc' := 17) (ls' := [(0, .ref t), (1, .int a1)]) (st' := [.int a1, .ref (t + 1)]) rfl ?_
      obtain ⟨hg3, h⟩ := tk_grd h
      refine tk_HIa me111 rfl rfl (lo0_2 ht) hg3 ?_
      refine tk_Ps me111 4 (pc' := 27) (ls' := [(0, .ref t), (1, .int a1)]) (st' := [.long ((Int32.toInt64 (m.1 (t + 1) (tk_n a1))) &&& (4294967295 : Int64))]) rfl ?_
      replace h := Option.some.inj h
      subst h
      exact tk_RJ me111 rfl rfl rfl
theorem ok_fB_takeProduct_140 (sc : tk_X) (v0 : Nat) (v1 : Nat) (v2 : Nat) (v3 : Int32) (m : tk_m) (hv0 : tk_lay[v0]? = some (.inl 0)) (hv1 : tk_lay[v1]? = some (.inl 0)) (hv2 : tk_lay[v2]? = some (.inl 0)) (out : tk_m) (h : fB_takeProduct_140 v0 v1 v2 v3 m = some out) : tk_Ex sc 1 109 140 [(0, .ref v0), (1, .ref v1), (2, .ref v2), (3, .int v3)] [] (tk_full m) (none, tk_full out) := by
  unfold fB_takeProduct_140 at h
  refine tk_Ps me109 2 (pc' := 142) (ls' := [(0, .ref v0), (1, .ref v1), (2, .ref v2), (3, .int v3)]) (st' := [.ref v1, .ref v0]) rfl ?_
  refine tk_HI me109 rfl rfl hv1 ?_
  refine tk_Ps me109 1 (pc' := 146) (ls' := [(0, .ref v0), (1, .ref v1), (2, .ref v2), (3, .int v3)]) (st' := [.ref v2, .int (m.1 v1 0), .ref v0]) rfl ?_
  refine tk_HI me109 rfl rfl hv2 ?_
  refine tk_Ps me109 1 (pc' := 150) (ls' := [(0, .ref v0), (1, .ref v1), (2, .ref v2), (3, .int v3)]) (st' := [.int ((m.1 v1 0) * (m.1 v2 0)), .ref v0]) rfl ?_
  refine tk_SI me109 rfl rfl hv0 ?_
  refine tk_Ps me109 2 (pc' := 155) (ls' := [(0, .ref v0), (1, .ref v1), (2, .ref v2), (3, .int v3)]) (st' := [.int v3, .ref v0]) rfl ?_
  obtain ⟨o1, ho1, h⟩ := tk_bnd h
  refine tk_cV0 me109 rfl rfl (r := v0) (as := [.int v3]) (rest := []) rfl hv0 rfl rfl (ok_fB_trim sc v0 v3 (tk_u2 m.1 v0 0 ((m.1 v1 0) * (m.1 v2 0)), m.2.1, m.2.2.1, m.2.2.2) hv0 ho1) ?_
  replace h := Option.some.inj h
  subst h
  exact tk_RV me109 rfl rfl rfl
theorem ok_fB_takeProduct_56 (sc : tk_X) (r41 : Nat → Nat → Nat → Int32 → Int32 → tk_m → Option tk_m) (H41 : ∀ (v0 : Nat) (v1 : Nat) (v2 : Nat) (v3 : Int32) (v4 : Int32) (m : tk_m) (hv0 : tk_lay[v0]? = some (.inl 0)) (hv1 : tk_lay[v1]? = some (.inl 0)) (hv2 : tk_lay[v2]? = some (.inl 0)) (out : tk_m), r41 v0 v1 v2 v3 v4 m = some out → tk_Ex sc 1 109 41 [(0, .ref v0), (1, .ref v1), (2, .ref v2), (3, .int v3), (4, .int v4)] [] (tk_full m) (none, tk_full out)) : ∀ (n : Nat) (v0 : Nat) (v1 : Nat) (v2 : Nat) (v3 : Int32) (v4 : Int32) (v5 : Int64) (v7 : Int32) (m : tk_m) (hv0 : tk_lay[v0]? = some (.inl 0)) (hv1 : tk_lay[v1]? = some (.inl 0)) (hv2 : tk_lay[v2]? = some (.inl 0)) (out : tk_m), fB_takeProduct_56 r41 n v0 v1 v2 v3 v4 v5 v7 m = some out → tk_Ex sc 1 109 56 [(0, .ref v0), (1, .ref v1), (2, .ref v2), (3, .int v3), (4, .int v4), (5, .long v5), (7, .int v7)] [] (tk_full m) (none, tk_full out) := by
  intro n
  induction n with
  | zero =>
    intro v0 v1 v2 v3 v4 v5 v7 m hv0 hv1 hv2 out h
    cases h
  | succ n ih =>
    intro v0 v1 v2 v3 v4 v5 v7 m hv0 hv1 hv2 out h
    unfold fB_takeProduct_56 at h
    refine tk_Ps me109 2 (pc' := 59) (ls' := [(0, .ref v0), (1, .ref v1), (2, .ref v2), (3, .int v3), (4, .int v4), (5, .long v5), (7, .int v7)]) (st' := [.ref v2, .int v7]) rfl ?_
    refine tk_HI me109 rfl rfl hv2 ?_
    by_cases hc1 : (m.1 v2 1) < v7
    · replace h := tk_ifT hc1 h
      refine tk_bT me109 rfl rfl rfl (c := (m.1 v2 1) < v7) hc1 (pc' := 134) (ls' := [(0, .ref v0), (1, .ref v1), (2, .ref v2), (3, .int v3), (4, .int v4), (5, .long v5), (7, .int v7)]) (st' := []) ?_
      refine tk_Ps me109 2 (pc' := 41) (ls' := [(4, .int (v4 + (1 : Int32))), (0, .ref v0), (1, .ref v1), (2, .ref v2), (3, .int v3), (5, .long v5), (7, .int v7)]) (st' := []) rfl ?_
      refine tk_Kp me109 (ls' := [(0, .ref v0), (1, .ref v1), (2, .ref v2), (3, .int v3), (4, .int (v4 + (1 : Int32)))]) rfl rfl ?_
      exact H41 v0 v1 v2 v3 (v4 + (1 : Int32)) m hv0 hv1 hv2 _ h
    · replace h := tk_ifF hc1 h
      refine tk_bF me109 rfl rfl rfl (c := (m.1 v2 1) < v7) hc1 (pc' := 65) (ls' := [(0, .ref v0), (1, .ref v1), (2, .ref v2), (3, .int v3), (4, .int v4), (5, .long v5), (7, .int v7)]) (st' := []) ?_
      refine tk_Ps me109 4 (pc' := 71) (ls' := [(0, .ref v0), (1, .ref v1), (2, .ref v2), (3, .int v3), (4, .int v4), (5, .long v5), (7, .int v7)]) (st' := [.int v3, .int (v4 + v7)]) rfl ?_
      by_cases hc2 : v3 ≤ (v4 + v7)
      · replace h := tk_ifT hc2 h
        refine tk_bT me109 rfl rfl rfl (c := v3 ≤ (v4 + v7)) hc2 (pc' := 134) (ls' := [(0, .ref v0), (1, .ref v1), (2, .ref v2), (3, .int v3), (4, .int v4), (5, .long v5), (7, .int v7)]) (st' := []) ?_
        refine tk_Ps me109 2 (pc' := 41) (ls' := [(4, .int (v4 + (1 : Int32))), (0, .ref v0), (1, .ref v1), (2, .ref v2), (3, .int v3), (5, .long v5), (7, .int v7)]) (st' := []) rfl ?_
        refine tk_Kp me109 (ls' := [(0, .ref v0), (1, .ref v1), (2, .ref v2), (3, .int v3), (4, .int (v4 + (1 : Int32)))]) rfl rfl ?_
        exact H41 v0 v1 v2 v3 (v4 + (1 : Int32)) m hv0 hv1 hv2 _ h
      · replace h := tk_ifF hc2 h
        refine tk_bF me109 rfl rfl rfl (c := v3 ≤ (v4 + v7)) hc2 (pc' := 74) (ls' := [(0, .ref v0), (1, .ref v1), (2, .ref v2), (3, .int v3), (4, .int v4), (5, .long v5), (7, .int v7)]) (st' := []) ?_
        refine tk_Ps me109 3 (pc' := 79) (ls' := [(0, .ref v0), (1, .ref v1), (2, .ref v2), (3, .int v3), (4, .int v4), (5, .long v5), (7, .int v7)]) (st' := [.int v4, .ref v1, .long v5]) rfl ?_
        obtain ⟨o3, ho3, h⟩ := tk_bnd h
        refine tk_cV1 me109 rfl rfl (r := v1) (as := [.int v4]) (rest := [.long v5]) rfl hv1 rfl rfl (ok_fB_limb sc v1 v4 m hv1 ho3) ?_
        refine tk_Ps me109 2 (pc' := 85) (ls' := [(0, .ref v0), (1, .ref v1), (2, .ref v2), (3, .int v3), (4, .int v4), (5, .long v5), (7, .int v7)]) (st' := [.int v7, .ref v2, .long o3, .long v5]) rfl ?_
        obtain ⟨o4, ho4, h⟩ := tk_bnd h
        refine tk_cV1 me109 rfl rfl (r := v2) (as := [.int v7]) (rest := [.long o3, .long v5]) rfl hv2 rfl rfl (ok_fB_limb sc v2 v7 m hv2 ho4) ?_
        refine tk_Ps me109 2 (pc' := 90) (ls' := [(0, .ref v0), (1, .ref v1), (2, .ref v2), (3, .int v3), (4, .int v4), (5, .long v5), (7, .int v7)]) (st' := [.ref v0, .long (o3 * o4), .long v5]) rfl ?_
        refine tk_HR me109 rfl rfl hv0 (ro0_2 hv0) ?_
        refine tk_Ps me109 3 (pc' := 98) (ls' := [(0, .ref v0), (1, .ref v1), (2, .ref v2), (3, .int v3), (4, .int v4), (5, .long v5), (7, .int v7)]) (st' := [.int (v4 + v7), .ref (v0 + 1), .long (o3 * o4), .long v5]) rfl ?_
        obtain ⟨hg5, h⟩ := tk_grd h
        refine tk_HIa me109 rfl rfl (lo0_2 hv0) hg5 ?_
        refine tk_Ps me109 7 (pc' := 109) (ls' := [(5, .long (v5 + ((o3 * o4) + ((Int32.toInt64 (m.1 (v0 + 1) (tk_n (v4 + v7)))) &&& (4294967295 : Int64))))), (0, .ref v0), (1, .ref v1), (2, .ref v2), (3, .int v3), (4, .int v4), (7, .int v7)]) (st' := [.ref v0]) rfl ?_
        refine tk_HR me109 rfl rfl hv0 (ro0_2 hv0) ?_
        refine tk_Ps me109 5 (pc' := 120) (ls' := [(5, .long (v5 + ((o3 * o4) + ((Int32.toInt64 (m.1 (v0 + 1) (tk_n (v4 + v7)))) &&& (4294967295 : Int64))))), (0, .ref v0), (1, .ref v1), (2, .ref v2), (3, .int v3), (4, .int v4), (7, .int v7)]) (st' := [.int (Int64.toInt32 (v5 + ((o3 * o4) + ((Int32.toInt64 (m.1 (v0 + 1) (tk_n (v4 + v7)))) &&& (4294967295 : Int64))))), .int (v4 + v7), .ref (v0 + 1)]) rfl ?_
        refine tk_SIa me109 rfl rfl (lo0_2 hv0) hg5 ?_
        refine tk_Ps me109 6 (pc' := 56) (ls' := [(7, .int (v7 + (1 : Int32))), (5, .long (tk_lushr (v5 + ((o3 * o4) + ((Int32.toInt64 (m.1 (v0 + 1) (tk_n (v4 + v7)))) &&& (4294967295 : Int64)))) (32 : Int32))), (0, .ref v0), (1, .ref v1), (2, .ref v2), (3, .int v3), (4, .int v4)]) (st' := []) rfl ?_
        refine tk_Kp me109 (ls' := [(0, .ref v0), (1, .ref v1), (2, .ref v2), (3, .int v3), (4, .int v4), (5, .long (tk_lushr (v5 + ((o3 * o4) + ((Int32.toInt64 (m.1 (v0 + 1) (tk_n (v4 + v7)))) &&& (4294967295 : Int64)))) (32 : Int32))), (7, .int (v7 + (1 : Int32)))]) rfl rfl ?_
        exact ih v0 v1 v2 v3 v4 (tk_lushr (v5 + ((o3 * o4) + ((Int32.toInt64 (m.1 (v0 + 1) (tk_n (v4 + v7)))) &&& (4294967295 : Int64)))) (32 : Int32)) (v7 + (1 : Int32)) (tk_u2 m.1 (v0 + 1) (tk_n (v4 + v7)) (Int64.toInt32 (v5 + ((o3 * o4) + ((Int32.toInt64 (m.1 (v0 + 1) (tk_n (v4 + v7)))) &&& (4294967295 : Int64))))), m.2.1, m.2.2.1, m.2.2.2) hv0 hv1 hv2 _ h
theorem ok_fB_takeProduct_41 (sc : tk_X) : ∀ (n : Nat) (v0 : Nat) (v1 : Nat) (v2 : Nat) (v3 : Int32) (v4 : Int32) (m : tk_m) (hv0 : tk_lay[v0]? = some (.inl 0)) (hv1 : tk_lay[v1]? = some (.inl 0)) (hv2 : tk_lay[v2]? = some (.inl 0)) (out : tk_m), fB_takeProduct_41 n v0 v1 v2 v3 v4 m = some out → tk_Ex sc 1 109 41 [(0, .ref v0), (1, .ref v1), (2, .ref v2), (3, .int v3), (4, .int v4)] [] (tk_full m) (none, tk_full out) := by
  intro n
  induction n with
  | zero =>
    intro v0 v1 v2 v3 v4 m hv0 hv1 hv2 out h
    cases h
  | succ n ih =>
    intro v0 v1 v2 v3 v4 m hv0 hv1 hv2 out h
    unfold fB_takeProduct_41 at h
    refine tk_Ps me109 2 (pc' := 44) (ls' := [(0, .ref v0), (1, .ref v1), (2, .ref v2), (3, .int v3), (4, .int v4)]) (st' := [.ref v1, .int v4]) rfl ?_
    refine tk_HI me109 rfl rfl hv1 ?_
    by_cases hc1 : (m.1 v1 1) ≤ v4
    · replace h := tk_ifT hc1 h
      refine tk_bT me109 rfl rfl rfl (c := (m.1 v1 1) ≤ v4) hc1 (pc' := 140) (ls' := [(0, .ref v0), (1, .ref v1), (2, .ref v2), (3, .int v3), (4, .int v4)]) (st' := []) ?_
      refine tk_Kp me109 (ls' := [(0, .ref v0), (1, .ref v1), (2, .ref v2), (3, .int v3)]) rfl rfl ?_
      exact ok_fB_takeProduct_140 sc v0 v1 v2 v3 m hv0 hv1 hv2 _ h
    · replace h := tk_ifF hc1 h
      refine tk_bF me109 rfl rfl rfl (c := (m.1 v1 1) ≤ v4) hc1 (pc' := 50) (ls' := [(0, .ref v0), (1, .ref v1), (2, .ref v2), (3, .int v3), (4, .int v4)]) (st' := []) ?_
      refine tk_Ps me109 4 (pc' := 56) (ls' := [(7, .int (0 : Int32)), (5, .long (0 : Int64)), (0, .ref v0), (1, .ref v1), (2, .ref v2), (3, .int v3), (4, .int v4)]) (st' := []) rfl ?_
      refine tk_Kp me109 (ls' := [(0, .ref v0), (1, .ref v1), (2, .ref v2), (3, .int v3), (4, .int v4), (5, .long (0 : Int64)), (7, .int (0 : Int32))]) rfl rfl ?_
      exact ok_fB_takeProduct_56 sc (fB_takeProduct_41 n) ih tk_F v0 v1 v2 v3 v4 (0 : Int64) (0 : Int32) m hv0 hv1 hv2 _ h
theorem ok_fB_takeProduct_18 (sc : tk_X) : ∀ (n : Nat) (v0 : Nat) (v1 : Nat) (v2 : Nat) (v3 : Int32) (v4 : Int32) (m : tk_m) (hv0 : tk_lay[v0]? = some (.inl 0)) (hv1 : tk_lay[v1]? = some (.inl 0)) (hv2 : tk_lay[v2]? = some (.inl 0)) (out : tk_m), fB_takeProduct_18 n v0 v1 v2 v3 v4 m = some out → tk_Ex sc 1 109 18 [(0, .ref v0), (1, .ref v1), (2, .ref v2), (3, .int v3), (4, .int v4)] [] (tk_full m) (none, tk_full out) := by
  intro n
  induction n with
  | zero =>
    intro v0 v1 v2 v3 v4 m hv0 hv1 hv2 out h
    cases h
  | succ n ih =>
    intro v0 v1 v2 v3 v4 m hv0 hv1 hv2 out h
    unfold fB_takeProduct_18 at h
    refine tk_Ps me109 2 (pc' := 21) (ls' := [(0, .ref v0), (1, .ref v1), (2, .ref v2), (3, .int v3), (4, .int v4)]) (st' := [.int v3, .int v4]) rfl ?_
    by_cases hc1 : v3 ≤ v4
    · replace h := tk_ifT hc1 h
      refine tk_bT me109 rfl rfl rfl (c := v3 ≤ v4) hc1 (pc' := 38) (ls' := [(0, .ref v0), (1, .ref v1), (2, .ref v2), (3, .int v3), (4, .int v4)]) (st' := []) ?_
      refine tk_Ps me109 2 (pc' := 41) (ls' := [(4, .int (0 : Int32)), (0, .ref v0), (1, .ref v1), (2, .ref v2), (3, .int v3)]) (st' := []) rfl ?_
      refine tk_Kp me109 (ls' := [(0, .ref v0), (1, .ref v1), (2, .ref v2), (3, .int v3), (4, .int (0 : Int32))]) rfl rfl ?_
      exact ok_fB_takeProduct_41 sc tk_F v0 v1 v2 v3 (0 : Int32) m hv0 hv1 hv2 _ h
    · replace h := tk_ifF hc1 h
      refine tk_bF me109 rfl rfl rfl (c := v3 ≤ v4) hc1 (pc' := 24) (ls' := [(0, .ref v0), (1, .ref v1), (2, .ref v2), (3, .int v3), (4, .int v4)]) (st' := []) ?_
      refine tk_Ps me109 1 (pc' := 25) (ls' := [(0, .ref v0), (1, .ref v1), (2, .ref v2), (3, .int v3), (4, .int v4)]) (st' := [.ref v0]) rfl ?_
      refine tk_HR me109 rfl rfl hv0 (ro0_2 hv0) ?_
      refine tk_Ps me109 2 (pc' := 31) (ls' := [(0, .ref v0), (1, .ref v1), (2, .ref v2), (3, .int v3), (4, .int v4)]) (st' := [.int (0 : Int32), .int v4, .ref (v0 + 1)]) rfl ?_
      obtain ⟨hg2, h⟩ := tk_grd h
      refine tk_SIa me109 rfl rfl (lo0_2 hv0) hg2 ?_
      refine tk_Ps me109 2 (pc' := 18) (ls' := [(4, .int (v4 + (1 : Int32))), (0, .ref v0), (1, .ref v1), (2, .ref v2), (3, .int v3)]) (st' := []) rfl ?_
      refine tk_Kp me109 (ls' := [(0, .ref v0), (1, .ref v1), (2, .ref v2), (3, .int v3), (4, .int (v4 + (1 : Int32)))]) rfl rfl ?_
      exact ih v0 v1 v2 v3 (v4 + (1 : Int32)) (tk_u2 m.1 (v0 + 1) (tk_n v4) (0 : Int32), m.2.1, m.2.2.1, m.2.2.2) hv0 hv1 hv2 _ h
theorem ok_fB_takeProduct (sc : tk_X) (t : Nat) (a1 : Nat) (a2 : Nat) (m : tk_m) (ht : tk_lay[t]? = some (.inl 0)) (ha1 : tk_lay[a1]? = some (.inl 0)) (ha2 : tk_lay[a2]? = some (.inl 0)) {out : tk_m} (h : fB_takeProduct t a1 a2 m = some out) : tk_Ru sc 2 109 [.ref t, .ref a1, .ref a2] (tk_full m) (none, tk_full out) := by
  unfold fB_takeProduct at h
  refine tk_Ru0 me109 (ls := [(0, .ref t), (1, .ref a1), (2, .ref a2)]) rfl rfl ?_
  refine tk_Ps me109 1 (pc' := 1) (ls' := [(0, .ref t), (1, .ref a1), (2, .ref a2)]) (st' := [.ref a1]) rfl ?_
  refine tk_HI me109 rfl rfl ha1 ?_
  refine tk_Ps me109 1 (pc' := 5) (ls' := [(0, .ref t), (1, .ref a1), (2, .ref a2)]) (st' := [.ref a2, .int (m.1 a1 1)]) rfl ?_
  refine tk_HI me109 rfl rfl ha2 ?_
  refine tk_Ps me109 2 (pc' := 11) (ls' := [(0, .ref t), (1, .ref a1), (2, .ref a2)]) (st' := [.int (24 : Int32), .int ((m.1 a1 1) + (m.1 a2 1))]) rfl ?_
  refine tk_cS1 me109 rfl rfl (as := [.int ((m.1 a1 1) + (m.1 a2 1)), .int (24 : Int32)]) (rest := []) rfl rfl rfl (ok_fZ_min_I sc ((m.1 a1 1) + (m.1 a2 1)) (24 : Int32) m) ?_
  refine tk_Ps me109 3 (pc' := 18) (ls' := [(4, .int (0 : Int32)), (3, .int (fZ_min_I ((m.1 a1 1) + (m.1 a2 1)) (24 : Int32))), (0, .ref t), (1, .ref a1), (2, .ref a2)]) (st' := []) rfl ?_
  refine tk_Kp me109 (ls' := [(0, .ref t), (1, .ref a1), (2, .ref a2), (3, .int (fZ_min_I ((m.1 a1 1) + (m.1 a2 1)) (24 : Int32))), (4, .int (0 : Int32))]) rfl rfl ?_
  exact ok_fB_takeProduct_18 sc tk_F t a1 a2 (fZ_min_I ((m.1 a1 1) + (m.1 a2 1)) (24 : Int32)) (0 : Int32) m ht ha1 ha2 _ h
theorem ok_fJ_takeProduct (sc : tk_X) (a1 : Nat) (a2 : Int64) (a3 : Int64) (m : tk_m) (ha1 : tk_lay[a1]? = some (.inl 0)) {out : tk_m} (h : fJ_takeProduct a1 a2 a3 m = some out) : tk_Ru sc 3 106 [.ref 13, .ref a1, .long a2, .long a3] (tk_full m) (none, tk_full out) := by
  unfold fJ_takeProduct at h
  refine tk_Ru0 me106 (ls := [(0, .ref 13), (1, .ref a1), (2, .long a2), (4, .long a3)]) rfl rfl ?_
  refine tk_Ps me106 1 (pc' := 1) (ls' := [(0, .ref 13), (1, .ref a1), (2, .long a2), (4, .long a3)]) (st' := [.ref 13]) rfl ?_
  refine tk_HR me106 rfl rfl ly13 rt13_7 ?_
  refine tk_Ps me106 1 (pc' := 5) (ls' := [(0, .ref 13), (1, .ref a1), (2, .long a2), (4, .long a3)]) (st' := [.long a2, .ref 28]) rfl ?_
  obtain ⟨o1, ho1, h⟩ := tk_bnd h
  refine tk_cV0 me106 rfl rfl (r := 28) (as := [.long a2]) (rest := []) rfl ly28 rfl rfl (ok_fB_take sc 28 a2 m ly28 ho1) ?_
  refine tk_Ps me106 1 (pc' := 9) (ls' := [(0, .ref 13), (1, .ref a1), (2, .long a2), (4, .long a3)]) (st' := [.ref 13]) rfl ?_
  refine tk_HR me106 rfl rfl ly13 rt13_8 ?_
  refine tk_Ps me106 1 (pc' := 14) (ls' := [(0, .ref 13), (1, .ref a1), (2, .long a2), (4, .long a3)]) (st' := [.long a3, .ref 30]) rfl ?_
  obtain ⟨o2, ho2, h⟩ := tk_bnd h
  refine tk_cV0 me106 rfl rfl (r := 30) (as := [.long a3]) (rest := []) rfl ly30 rfl rfl (ok_fB_take sc 30 a3 o1 ly30 ho2) ?_
  refine tk_Ps me106 2 (pc' := 19) (ls' := [(0, .ref 13), (1, .ref a1), (2, .long a2), (4, .long a3)]) (st' := [.ref 13, .ref a1]) rfl ?_
  refine tk_HR me106 rfl rfl ly13 rt13_7 ?_
  refine tk_Ps me106 1 (pc' := 23) (ls' := [(0, .ref 13), (1, .ref a1), (2, .long a2), (4, .long a3)]) (st' := [.ref 13, .ref 28, .ref a1]) rfl ?_
  refine tk_HR me106 rfl rfl ly13 rt13_8 ?_
  obtain ⟨o3, ho3, h⟩ := tk_bnd h
  refine tk_cV0 me106 rfl rfl (r := a1) (as := [.ref 28, .ref 30]) (rest := []) rfl ha1 rfl rfl (ok_fB_takeProduct sc a1 28 30 o2 ha1 ly28 ly30 ho3) ?_
  replace h := Option.some.inj h
  subst h
  exact tk_RV me106 rfl rfl rfl
theorem ok_fZ_max_I (sc : tk_X) (a1 : Int32) (a2 : Int32) (m : tk_m) : tk_Ru sc 1 114 [.int a1, .int a2] (tk_full m) (some (.int (fZ_max_I a1 a2)), tk_full m) := by
  obtain ⟨out, h⟩ : ∃ out, fZ_max_I a1 a2 = out := ⟨_, rfl⟩
  rw [h]
  unfold fZ_max_I at h
  refine tk_Ru0 me114 (ls := [(0, .int a1), (1, .int a2)]) rfl rfl ?_
  refine tk_Ps me114 2 (pc' := 2) (ls' := [(0, .int a1), (1, .int a2)]) (st' := [.int a2, .int a1]) rfl ?_
  by_cases hc1 : a1 < a2
  · replace h := tk_ifT hc1 h
    refine tk_bT me114 rfl rfl rfl (c := a1 < a2) hc1 (pc' := 9) (ls' := [(0, .int a1), (1, .int a2)]) (st' := []) ?_
    refine tk_Ps me114 1 (pc' := 10) (ls' := [(0, .int a1), (1, .int a2)]) (st' := [.int a2]) rfl ?_
    subst h
    exact tk_RI me114 rfl rfl rfl
  · replace h := tk_ifF hc1 h
    refine tk_bF me114 rfl rfl rfl (c := a1 < a2) hc1 (pc' := 5) (ls' := [(0, .int a1), (1, .int a2)]) (st' := []) ?_
    refine tk_Ps me114 2 (pc' := 10) (ls' := [(0, .int a1), (1, .int a2)]) (st' := [.int a1]) rfl ?_
    subst h
    exact tk_RI me114 rfl rfl rfl
theorem ok_fB_addLimbs_25 (sc : tk_X) : ∀ (n : Nat) (v0 : Nat) (v1 : Nat) (v2 : Nat) (v3 : Int32) (v4 : Int64) (v6 : Int32) (m : tk_m) (hv0 : tk_lay[v0]? = some (.inl 0)) (hv1 : tk_lay[v1]? = some (.inl 0)) (hv2 : tk_lay[v2]? = some (.inl 0)) (out : tk_m), fB_addLimbs_25 n v0 v1 v2 v3 v4 v6 m = some out → tk_Ex sc 1 113 25 [(0, .ref v0), (1, .ref v1), (2, .ref v2), (3, .int v3), (4, .long v4), (6, .int v6)] [] (tk_full m) (none, tk_full out) := by
  intro n
  induction n with
  | zero =>
    intro v0 v1 v2 v3 v4 v6 m hv0 hv1 hv2 out h
    cases h
  | succ n ih =>
    intro v0 v1 v2 v3 v4 v6 m hv0 hv1 hv2 out h
    unfold fB_addLimbs_25 at h
    refine tk_Ps me113 2 (pc' := 28) (ls' := [(0, .ref v0), (1, .ref v1), (2, .ref v2), (3, .int v3), (4, .long v4), (6, .int v6)]) (st' := [.int v3, .int v6]) rfl ?_
    by_cases hc1 : v3 ≤ v6
    · replace h := tk_ifT hc1 h
      refine tk_bT me113 rfl rfl rfl (c := v3 ≤ v6) hc1 (pc' := 72) (ls' := [(0, .ref v0), (1, .ref v1), (2, .ref v2), (3, .int v3), (4, .long v4), (6, .int v6)]) (st' := []) ?_
      refine tk_Ps me113 2 (pc' := 74) (ls' := [(0, .ref v0), (1, .ref v1), (2, .ref v2), (3, .int v3), (4, .long v4), (6, .int v6)]) (st' := [.int v3, .ref v0]) rfl ?_
      obtain ⟨o2, ho2, h⟩ := tk_bnd h
      refine tk_cV0 me113 rfl rfl (r := v0) (as := [.int v3]) (rest := []) rfl hv0 rfl rfl (ok_fB_trim sc v0 v3 m hv0 ho2) ?_
      replace h := Option.some.inj h
      subst h
      exact tk_RV me113 rfl rfl rfl
    · replace h := tk_ifF hc1 h
      refine tk_bF me113 rfl rfl rfl (c := v3 ≤ v6) hc1 (pc' := 31) (ls' := [(0, .ref v0), (1, .ref v1), (2, .ref v2), (3, .int v3), (4, .long v4), (6, .int v6)]) (st' := []) ?_
      refine tk_Ps me113 3 (pc' := 36) (ls' := [(0, .ref v0), (1, .ref v1), (2, .ref v2), (3, .int v3), (4, .long v4), (6, .int v6)]) (st' := [.int v6, .ref v1, .long v4]) rfl ?_
      obtain ⟨o3, ho3, h⟩ := tk_bnd h
      refine tk_cV1 me113 rfl rfl (r := v1) (as := [.int v6]) (rest := [.long v4]) rfl hv1 rfl rfl (ok_fB_limb sc v1 v6 m hv1 ho3) ?_
      refine tk_Ps me113 2 (pc' := 42) (ls' := [(0, .ref v0), (1, .ref v1), (2, .ref v2), (3, .int v3), (4, .long v4), (6, .int v6)]) (st' := [.int v6, .ref v2, .long o3, .long v4]) rfl ?_
      obtain ⟨o4, ho4, h⟩ := tk_bnd h
      refine tk_cV1 me113 rfl rfl (r := v2) (as := [.int v6]) (rest := [.long o3, .long v4]) rfl hv2 rfl rfl (ok_fB_limb sc v2 v6 m hv2 ho4) ?_
      refine tk_Ps me113 4 (pc' := 50) (ls' := [(4, .long (v4 + (o3 + o4))), (0, .ref v0), (1, .ref v1), (2, .ref v2), (3, .int v3), (6, .int v6)]) (st' := [.ref v0]) rfl ?_
      refine tk_HR me113 rfl rfl hv0 (ro0_2 hv0) ?_
      refine tk_Ps me113 3 (pc' := 58) (ls' := [(4, .long (v4 + (o3 + o4))), (0, .ref v0), (1, .ref v1), (2, .ref v2), (3, .int v3), (6, .int v6)]) (st' := [.int (Int64.toInt32 (v4 + (o3 + o4))), .int v6, .ref (v0 + 1)]) rfl ?_
      obtain ⟨hg5, h⟩ := tk_grd h
      refine tk_SIa me113 rfl rfl (lo0_2 hv0) hg5 ?_
      refine tk_Ps me113 6 (pc' := 25) (ls' := [(6, .int (v6 + (1 : Int32))), (4, .long (tk_lushr (v4 + (o3 + o4)) (32 : Int32))), (0, .ref v0), (1, .ref v1), (2, .ref v2), (3, .int v3)]) (st' := []) rfl ?_
      refine tk_Kp me113 (ls' := [(0, .ref v0), (1, .ref v1), (2, .ref v2), (3, .int v3), (4, .long (tk_lushr (v4 + (o3 + o4)) (32 : Int32))), (6, .int (v6 + (1 : Int32)))]) rfl rfl ?_
      exact ih v0 v1 v2 v3 (tk_lushr (v4 + (o3 + o4)) (32 : Int32)) (v6 + (1 : Int32)) (tk_u2 m.1 (v0 + 1) (tk_n v6) (Int64.toInt32 (v4 + (o3 + o4))), m.2.1, m.2.2.1, m.2.2.2) hv0 hv1 hv2 _ h
theorem ok_fB_addLimbs (sc : tk_X) (t : Nat) (a1 : Nat) (a2 : Nat) (m : tk_m) (ht : tk_lay[t]? = some (.inl 0)) (ha1 : tk_lay[a1]? = some (.inl 0)) (ha2 : tk_lay[a2]? = some (.inl 0)) {out : tk_m} (h : fB_addLimbs t a1 a2 m = some out) : tk_Ru sc 2 113 [.ref t, .ref a1, .ref a2] (tk_full m) (none, tk_full out) := by
  unfold fB_addLimbs at h
  refine tk_Ru0 me113 (ls := [(0, .ref t), (1, .ref a1), (2, .ref a2)]) rfl rfl ?_
  refine tk_Ps me113 1 (pc' := 1) (ls' := [(0, .ref t), (1, .ref a1), (2, .ref a2)]) (st' := [.ref a1]) rfl ?_
  refine tk_HI me113 rfl rfl ha1 ?_
  refine tk_Ps me113 1 (pc' := 5) (ls' := [(0, .ref t), (1, .ref a1), (2, .ref a2)]) (st' := [.ref a2, .int (m.1 a1 1)]) rfl ?_
  refine tk_HI me113 rfl rfl ha2 ?_
  refine tk_cS1 me113 rfl rfl (as := [.int (m.1 a1 1), .int (m.1 a2 1)]) (rest := []) rfl rfl rfl (ok_fZ_max_I sc (m.1 a1 1) (m.1 a2 1) m) ?_
  refine tk_Ps me113 3 (pc' := 15) (ls' := [(0, .ref t), (1, .ref a1), (2, .ref a2)]) (st' := [.int (24 : Int32), .int ((fZ_max_I (m.1 a1 1) (m.1 a2 1)) + (1 : Int32))]) rfl ?_
  refine tk_cS1 me113 rfl rfl (as := [.int ((fZ_max_I (m.1 a1 1) (m.1 a2 1)) + (1 : Int32)), .int (24 : Int32)]) (rest := []) rfl rfl rfl (ok_fZ_min_I sc ((fZ_max_I (m.1 a1 1) (m.1 a2 1)) + (1 : Int32)) (24 : Int32) m) ?_
  refine tk_Ps me113 5 (pc' := 25) (ls' := [(6, .int (0 : Int32)), (4, .long (0 : Int64)), (3, .int (fZ_min_I ((fZ_max_I (m.1 a1 1) (m.1 a2 1)) + (1 : Int32)) (24 : Int32))), (0, .ref t), (1, .ref a1), (2, .ref a2)]) (st' := []) rfl ?_
  refine tk_Kp me113 (ls' := [(0, .ref t), (1, .ref a1), (2, .ref a2), (3, .int (fZ_min_I ((fZ_max_I (m.1 a1 1) (m.1 a2 1)) + (1 : Int32)) (24 : Int32))), (4, .long (0 : Int64)), (6, .int (0 : Int32))]) rfl rfl ?_
  exact ok_fB_addLimbs_25 sc tk_F t a1 a2 (fZ_min_I ((fZ_max_I (m.1 a1 1) (m.1 a2 1)) + (1 : Int32)) (24 : Int32)) (0 : Int64) (0 : Int32) m ht ha1 ha2 _ h
theorem ok_fB_sizeAgainst_14 (sc : tk_X) : ∀ (n : Nat) (v0 : Nat) (v1 : Nat) (v2 : Int32) (m : tk_m) (hv0 : tk_lay[v0]? = some (.inl 0)) (hv1 : tk_lay[v1]? = some (.inl 0)) (out : Int32), fB_sizeAgainst_14 n v0 v1 v2 m = some out → tk_Ex sc 1 115 14 [(0, .ref v0), (1, .ref v1), (2, .int v2)] [] (tk_full m) (some (.int out), tk_full m) := by
  intro n
  induction n with
  | zero =>
    intro v0 v1 v2 m hv0 hv1 out h
    cases h
  | succ n ih =>
    intro v0 v1 v2 m hv0 hv1 out h
    unfold fB_sizeAgainst_14 at h
    refine tk_Ps me115 1 (pc' := 15) (ls' := [(0, .ref v0), (1, .ref v1), (2, .int v2)]) (st' := [.int v2]) rfl ?_
    by_cases hc1 : v2 < 0
    · replace h := tk_ifT hc1 h
      refine tk_bT me115 rfl rfl rfl (c := v2 < 0) hc1 (pc' := 44) (ls' := [(0, .ref v0), (1, .ref v1), (2, .int v2)]) (st' := []) ?_
      refine tk_Ps me115 1 (pc' := 45) (ls' := [(0, .ref v0), (1, .ref v1), (2, .int v2)]) (st' := [.int (0 : Int32)]) rfl ?_
      replace h := Option.some.inj h
      subst h
      exact tk_RI me115 rfl rfl rfl
    · replace h := tk_ifF hc1 h
      refine tk_bF me115 rfl rfl rfl (c := v2 < 0) hc1 (pc' := 18) (ls' := [(0, .ref v0), (1, .ref v1), (2, .int v2)]) (st' := []) ?_
      refine tk_Ps me115 2 (pc' := 20) (ls' := [(0, .ref v0), (1, .ref v1), (2, .int v2)]) (st' := [.int v2, .ref v0]) rfl ?_
      obtain ⟨o2, ho2, h⟩ := tk_bnd h
      refine tk_cV1 me115 rfl rfl (r := v0) (as := [.int v2]) (rest := []) rfl hv0 rfl rfl (ok_fB_limb sc v0 v2 m hv0 ho2) ?_
      refine tk_Ps me115 2 (pc' := 25) (ls' := [(0, .ref v0), (1, .ref v1), (2, .int v2)]) (st' := [.int v2, .ref v1, .long o2]) rfl ?_
      obtain ⟨o3, ho3, h⟩ := tk_bnd h
      refine tk_cV1 me115 rfl rfl (r := v1) (as := [.int v2]) (rest := [.long o2]) rfl hv1 rfl rfl (ok_fB_limb sc v1 v2 m hv1 ho3) ?_
      refine tk_cS1 me115 rfl rfl (as := [.long o2, .long o3]) (rest := []) rfl rfl rfl (ok_fZ_compare_J sc o2 o3 m) ?_
      refine tk_Ps me115 2 (pc' := 33) (ls' := [(3, .int (fZ_compare_J o2 o3)), (0, .ref v0), (1, .ref v1), (2, .int v2)]) (st' := [.int (fZ_compare_J o2 o3)]) rfl ?_
      by_cases hc4 : (fZ_compare_J o2 o3) = 0
      · replace h := tk_ifT hc4 h
        refine tk_bT me115 rfl rfl rfl (c := (fZ_compare_J o2 o3) = 0) hc4 (pc' := 38) (ls' := [(3, .int (fZ_compare_J o2 o3)), (0, .ref v0), (1, .ref v1), (2, .int v2)]) (st' := []) ?_
        refine tk_Ps me115 2 (pc' := 14) (ls' := [(2, .int (v2 + (-1 : Int32))), (3, .int (fZ_compare_J o2 o3)), (0, .ref v0), (1, .ref v1)]) (st' := []) rfl ?_
        refine tk_Kp me115 (ls' := [(0, .ref v0), (1, .ref v1), (2, .int (v2 + (-1 : Int32)))]) rfl rfl ?_
        exact ih v0 v1 (v2 + (-1 : Int32)) m hv0 hv1 _ h
      · replace h := tk_ifF hc4 h
        refine tk_bF me115 rfl rfl rfl (c := (fZ_compare_J o2 o3) = 0) hc4 (pc' := 36) (ls' := [(3, .int (fZ_compare_J o2 o3)), (0, .ref v0), (1, .ref v1), (2, .int v2)]) (st' := []) ?_
        refine tk_Ps me115 1 (pc' := 37) (ls' := [(3, .int (fZ_compare_J o2 o3)), (0, .ref v0), (1, .ref v1), (2, .int v2)]) (st' := [.int (fZ_compare_J o2 o3)]) rfl ?_
        replace h := Option.some.inj h
        subst h
        exact tk_RI me115 rfl rfl rfl
theorem ok_fB_sizeAgainst (sc : tk_X) (t : Nat) (a1 : Nat) (m : tk_m) (ht : tk_lay[t]? = some (.inl 0)) (ha1 : tk_lay[a1]? = some (.inl 0)) {out : Int32} (h : fB_sizeAgainst t a1 m = some out) : tk_Ru sc 2 115 [.ref t, .ref a1] (tk_full m) (some (.int out), tk_full m) := by
  unfold fB_sizeAgainst at h
  refine tk_Ru0 me115 (ls := [(0, .ref t), (1, .ref a1)]) rfl rfl ?_
  refine tk_Ps me115 1 (pc' := 1) (ls' := [(0, .ref t), (1, .ref a1)]) (st' := [.ref t]) rfl ?_
  refine tk_HI me115 rfl rfl ht ?_
  refine tk_Ps me115 1 (pc' := 5) (ls' := [(0, .ref t), (1, .ref a1)]) (st' := [.ref a1, .int (m.1 t 1)]) rfl ?_
  refine tk_HI me115 rfl rfl ha1 ?_
  refine tk_cS1 me115 rfl rfl (as := [.int (m.1 t 1), .int (m.1 a1 1)]) (rest := []) rfl rfl rfl (ok_fZ_max_I sc (m.1 t 1) (m.1 a1 1) m) ?_
  refine tk_Ps me115 3 (pc' := 14) (ls' := [(2, .int ((fZ_max_I (m.1 t 1) (m.1 a1 1)) - (1 : Int32))), (0, .ref t), (1, .ref a1)]) (st' := []) rfl ?_
  refine tk_Kp me115 (ls' := [(0, .ref t), (1, .ref a1), (2, .int ((fZ_max_I (m.1 t 1) (m.1 a1 1)) - (1 : Int32)))]) rfl rfl ?_
  exact ok_fB_sizeAgainst_14 sc tk_F t a1 ((fZ_max_I (m.1 t 1) (m.1 a1 1)) - (1 : Int32)) m ht ha1 _ h
theorem ok_fB_subtractLimbs_11 (sc : tk_X) : ∀ (n : Nat) (v0 : Nat) (v1 : Nat) (v2 : Nat) (v3 : Int32) (v4 : Int64) (v6 : Int32) (m : tk_m) (hv0 : tk_lay[v0]? = some (.inl 0)) (hv1 : tk_lay[v1]? = some (.inl 0)) (hv2 : tk_lay[v2]? = some (.inl 0)) (out : tk_m), fB_subtractLimbs_11 n v0 v1 v2 v3 v4 v6 m = some out → tk_Ex sc 1 116 11 [(0, .ref v0), (1, .ref v1), (2, .ref v2), (3, .int v3), (4, .long v4), (6, .int v6)] [] (tk_full m) (none, tk_full out) := by
  intro n
  induction n with
  | zero =>
    intro v0 v1 v2 v3 v4 v6 m hv0 hv1 hv2 out h
    cases h
  | succ n ih =>
    intro v0 v1 v2 v3 v4 v6 m hv0 hv1 hv2 out h
    unfold fB_subtractLimbs_11 at h
    refine tk_Ps me116 2 (pc' := 14) (ls' := [(0, .ref v0), (1, .ref v1), (2, .ref v2), (3, .int v3), (4, .long v4), (6, .int v6)]) (st' := [.int v3, .int v6]) rfl ?_
    by_cases hc1 : v3 ≤ v6
    · replace h := tk_ifT hc1 h
      refine tk_bT me116 rfl rfl rfl (c := v3 ≤ v6) hc1 (pc' := 65) (ls' := [(0, .ref v0), (1, .ref v1), (2, .ref v2), (3, .int v3), (4, .long v4), (6, .int v6)]) (st' := []) ?_
      refine tk_Ps me116 2 (pc' := 67) (ls' := [(0, .ref v0), (1, .ref v1), (2, .ref v2), (3, .int v3), (4, .long v4), (6, .int v6)]) (st' := [.int v3, .ref v0]) rfl ?_
      obtain ⟨o2, ho2, h⟩ := tk_bnd h
      refine tk_cV0 me116 rfl rfl (r := v0) (as := [.int v3]) (rest := []) rfl hv0 rfl rfl (ok_fB_trim sc v0 v3 m hv0 ho2) ?_
      replace h := Option.some.inj h
      subst h
      exact tk_RV me116 rfl rfl rfl
    · replace h := tk_ifF hc1 h
      refine tk_bF me116 rfl rfl rfl (c := v3 ≤ v6) hc1 (pc' := 17) (ls' := [(0, .ref v0), (1, .ref v1), (2, .ref v2), (3, .int v3), (4, .long v4), (6, .int v6)]) (st' := []) ?_
      refine tk_Ps me116 2 (pc' := 20) (ls' := [(0, .ref v0), (1, .ref v1), (2, .ref v2), (3, .int v3), (4, .long v4), (6, .int v6)]) (st' := [.int v6, .ref v1]) rfl ?_
      obtain ⟨o3, ho3, h⟩ := tk_bnd h
      refine tk_cV1 me116 rfl rfl (r := v1) (as := [.int v6]) (rest := []) rfl hv1 rfl rfl (ok_fB_limb sc v1 v6 m hv1 ho3) ?_
      refine tk_Ps me116 2 (pc' := 26) (ls' := [(0, .ref v0), (1, .ref v1), (2, .ref v2), (3, .int v3), (4, .long v4), (6, .int v6)]) (st' := [.int v6, .ref v2, .long o3]) rfl ?_
      obtain ⟨o4, ho4, h⟩ := tk_bnd h
      refine tk_cV1 me116 rfl rfl (r := v2) (as := [.int v6]) (rest := [.long o3]) rfl hv2 rfl rfl (ok_fB_limb sc v2 v6 m hv2 ho4) ?_
      refine tk_Ps me116 5 (pc' := 36) (ls' := [(7, .long ((o3 - o4) - v4)), (0, .ref v0), (1, .ref v1), (2, .ref v2), (3, .int v3), (4, .long v4), (6, .int v6)]) (st' := [.ref v0]) rfl ?_
      refine tk_HR me116 rfl rfl hv0 (ro0_2 hv0) ?_
      refine tk_Ps me116 3 (pc' := 44) (ls' := [(7, .long ((o3 - o4) - v4)), (0, .ref v0), (1, .ref v1), (2, .ref v2), (3, .int v3), (4, .long v4), (6, .int v6)]) (st' := [.int (Int64.toInt32 ((o3 - o4) - v4)), .int v6, .ref (v0 + 1)]) rfl ?_
      obtain ⟨hg5, h⟩ := tk_grd h
      refine tk_SIa me116 rfl rfl (lo0_2 hv0) hg5 ?_
      refine tk_Ps me116 3 (pc' := 49) (ls' := [(7, .long ((o3 - o4) - v4)), (0, .ref v0), (1, .ref v1), (2, .ref v2), (3, .int v3), (4, .long v4), (6, .int v6)]) (st' := [.int (lg_cmp ((o3 - o4) - v4) (0 : Int64))]) rfl ?_
      by_cases hc6 : (0 : Int64) ≤ ((o3 - o4) - v4)
      · replace h := tk_ifT hc6 h
        refine tk_bT me116 rfl rfl tk_eL_ge (c := (0 : Int64) ≤ ((o3 - o4) - v4)) hc6 (pc' := 56) (ls' := [(7, .long ((o3 - o4) - v4)), (0, .ref v0), (1, .ref v1), (2, .ref v2), (3, .int v3), (4, .long v4), (6, .int v6)]) (st' := []) ?_
        refine tk_Ps me116 4 (pc' := 11) (ls' := [(6, .int (v6 + (1 : Int32))), (4, .long (0 : Int64)), (7, .long ((o3 - o4) - v4)), (0, .ref v0), (1, .ref v1), (2, .ref v2), (3, .int v3)]) (st' := []) rfl ?_
        refine tk_Kp me116 (ls' := [(0, .ref v0), (1, .ref v1), (2, .ref v2), (3, .int v3), (4, .long (0 : Int64)), (6, .int (v6 + (1 : Int32)))]) rfl rfl ?_
        exact ih v0 v1 v2 v3 (0 : Int64) (v6 + (1 : Int32)) (tk_u2 m.1 (v0 + 1) (tk_n v6) (Int64.toInt32 ((o3 - o4) - v4)), m.2.1, m.2.2.1, m.2.2.2) hv0 hv1 hv2 _ h
      · replace h := tk_ifF hc6 h
        refine tk_bF me116 rfl rfl tk_eL_ge (c := (0 : Int64) ≤ ((o3 - o4) - v4)) hc6 (pc' := 52) (ls' := [(7, .long ((o3 - o4) - v4)), (0, .ref v0), (1, .ref v1), (2, .ref v2), (3, .int v3), (4, .long v4), (6, .int v6)]) (st' := []) ?_
        refine tk_Ps me116 5 (pc' := 11) (ls' := [(6, .int (v6 + (1 : Int32))), (4, .long (1 : Int64)), (7, .long ((o3 - o4) - v4)), (0, .ref v0), (1, .ref v1), (2, .ref v2), (3, .int v3)]) (st' := []) rfl ?_
        refine tk_Kp me116 (ls' := [(0, .ref v0), (1, .ref v1), (2, .ref v2), (3, .int v3), (4, .long (1 : Int64)), (6, .int (v6 + (1 : Int32)))]) rfl rfl ?_
        exact ih v0 v1 v2 v3 (1 : Int64) (v6 + (1 : Int32)) (tk_u2 m.1 (v0 + 1) (tk_n v6) (Int64.toInt32 ((o3 - o4) - v4)), m.2.1, m.2.2.1, m.2.2.2) hv0 hv1 hv2 _ h
theorem ok_fB_subtractLimbs (sc : tk_X) (t : Nat) (a1 : Nat) (a2 : Nat) (m : tk_m) (ht : tk_lay[t]? = some (.inl 0)) (ha1 : tk_lay[a1]? = some (.inl 0)) (ha2 : tk_lay[a2]? = some (.inl 0)) {out : tk_m} (h : fB_subtractLimbs t a1 a2 m = some out) : tk_Ru sc 2 116 [.ref t, .ref a1, .ref a2] (tk_full m) (none, tk_full out) := by
  unfold fB_subtractLimbs at h
  refine tk_Ru0 me116 (ls := [(0, .ref t), (1, .ref a1), (2, .ref a2)]) rfl rfl ?_
  refine tk_Ps me116 1 (pc' := 1) (ls' := [(0, .ref t), (1, .ref a1), (2, .ref a2)]) (st' := [.ref a1]) rfl ?_
  refine tk_HI me116 rfl rfl ha1 ?_
  refine tk_Ps me116 5 (pc' := 11) (ls' := [(6, .int (0 : Int32)), (4, .long (0 : Int64)), (3, .int (m.1 a1 1)), (0, .ref t), (1, .ref a1), (2, .ref a2)]) (st' := []) rfl ?_
  refine tk_Kp me116 (ls' := [(0, .ref t), (1, .ref a1), (2, .ref a2), (3, .int (m.1 a1 1)), (4, .long (0 : Int64)), (6, .int (0 : Int32))]) rfl rfl ?_
  exact ok_fB_subtractLimbs_11 sc tk_F t a1 a2 (m.1 a1 1) (0 : Int64) (0 : Int32) m ht ha1 ha2 _ h

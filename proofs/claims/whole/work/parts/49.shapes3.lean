/-! ===== shapes: changed, exchanged, turned, pruned ===== -/
section
variable {K : List s_sh → Int32 × Int32 × Int32 → tk_m → Prop} {a : s_as} {m m' : tk_m} {α : Type}
def s_setM (s : s_sh) (w v : Int32) : s_sh := if w = 1 then (s.1, v, s.2.2.1, s.2.2.2) else if w = 2 then (s.1, s.2.1, v, s.2.2.2) else if w = 3 then (s.1, s.2.1, s.2.2.1, v) else if w = 4 then (s.1, v, s.2.2.1, s.2.2.2) else (s.1, s.2.1, v, s.2.2.2)
def o_change (i w v : Int32) (a : s_as) : Int32 × s_as := if (s_at a.1.1 i).isSome = true then (if fX_isWithin w 1 5 = true then (if (s_get a.1.1 i).1 = decide (¬ w < 4) then (if fH_mayMeasure w v = true then (s_meas (s_get a.1.1 i) w, ((a.1.1.set (tk_n i) (s_setM (s_get a.1.1 i) w v), a.1.2), a.2)) else s_fd a 0) else s_fd a 2) else s_fd a 0) else s_fd a 0
theorem x_S_set {c : s_sn} {k : Nat} {s : s_sh} (h : x_S c 1 m) (hl : c.1.length ≤ 6) (hk : k < c.1.length) (e1 : m'.1 1 1 = m.1 1 1) (e2 : m'.1 1 3 = m.1 1 3) (e3 : m'.1 3 = m.1 3) (e4 : m'.2.2.2 = m.2.2.2) (e5 : ∀ r, 4 ≤ r → r ≠ 4 + (m.2.2.2 2 k).val → m'.1 r = m.1 r ∧ m'.2.2.1 r = m.2.2.1 r) (e6 : x_H s (4 + (m.2.2.2 2 k).val) m') : x_S (c.1.set k s, c.2) 1 m' := by
  obtain ⟨h1, h2, h3, h4, h5⟩ := h
  refine ⟨by rw [e1, List.length_set]; exact h1, by rw [e2]; exact h2, by show m'.1 3 0 = _ ∧ m'.1 3 1 = _ ∧ m'.1 3 2 = _; rw [e3]; exact h3, fun i u hu => ?_, by rw [e4]; exact h5⟩
  rw [e4]
  by_cases hi : i = k
  · subst hi
    have : s = u := by
      rw [List.getElem?_set_self hk] at hu
      exact Option.some.inj hu
    subst this
    exact e6
  · have hu2 : c.1[i]? = some u := by rw [← hu]; exact (List.getElem?_set_ne (fun q => hi q.symm)).symm
    have hil := (List.getElem?_eq_some_iff.mp hu2).1
    have hne : 4 + (m.2.2.2 2 i).val ≠ 4 + (m.2.2.2 2 k).val := by
      intro q
      exact hi (h5 i k (by omega) (by omega) (Fin.ext (show (m.2.2.2 2 i).val = (m.2.2.2 2 k).val by omega)))
    have hx := h4 i u hu2
    obtain ⟨q1, q2⟩ := e5 (4 + (m.2.2.2 2 i).val) (by omega) hne
    show x_H u (4 + (m.2.2.2 2 i).val) m'
    unfold x_H
    rw [q1, q2]
    exact hx
theorem y_S_set {c : s_sn} {k : Nat} {s : s_sh} (h : y_S c 296 m) (hk : k < c.1.length) (e2 : ∀ j, ¬ (5 + 4 * k ≤ j ∧ j < 9 + 4 * k) → m'.1 296 j = m.1 296 j) (e6 : y_H s 296 k m') : y_S (c.1.set k s, c.2) 296 m' := by
  obtain ⟨h1, h2, ⟨h3, h3b, h3c⟩, h4⟩ := h
  refine ⟨by rw [e2 0 (by omega), List.length_set]; exact h1, by rw [e2 4 (by omega)]; exact h2, ⟨by rw [e2 1 (by omega)]; exact h3, by rw [e2 2 (by omega)]; exact h3b, by rw [e2 3 (by omega)]; exact h3c⟩, fun i u hu => ?_⟩
  by_cases hi : i = k
  · subst hi
    have : s = u := by
      rw [List.getElem?_set_self hk] at hu
      exact Option.some.inj hu
    subst this
    exact e6
  · have hu2 : c.1[i]? = some u := by rw [← hu]; exact (List.getElem?_set_ne (fun q => hi q.symm)).symm
    obtain ⟨q1, q2, q3, q4⟩ := h4 i u hu2
    exact ⟨by rw [e2 _ (by omega)]; exact q1, by rw [e2 _ (by omega)]; exact q2, by rw [e2 _ (by omega)]; exact q3, by rw [e2 _ (by omega)]; exact q4⟩
theorem s_w5 {w : Int32} (hw : 1 ≤ w.toInt ∧ w.toInt ≤ 5) : w = 1 ∨ w = 2 ∨ w = 3 ∨ w = 4 ∨ w = 5 := by
  have eqv : ∀ k : Int32, w.toInt = k.toInt → w = k := fun k => i_ext
  rcases (show w.toInt = 1 ∨ w.toInt = 2 ∨ w.toInt = 3 ∨ w.toInt = 4 ∨ w.toInt = 5 by omega) with q | q | q | q | q
  · exact .inl (eqv 1 q)
  · exact .inr (.inl (eqv 2 q))
  · exact .inr (.inr (.inl (eqv 3 q)))
  · exact .inr (.inr (.inr (.inl (eqv 4 q))))
  · exact .inr (.inr (.inr (.inr (eqv 5 q))))
theorem s_may {w v : Int32} (hw : 1 ≤ w.toInt ∧ w.toInt ≤ 5) (h : fH_mayMeasure w v = true) : (w.toInt ≤ 2 → -5 ≤ v.toInt ∧ v.toInt ≤ 5) ∧ (w.toInt = 3 ∨ w.toInt = 4 → 0 ≤ v.toInt ∧ v.toInt ≤ 5) ∧ (w.toInt = 5 → -30 ≤ v.toInt ∧ v.toInt ≤ 30) := by
  have r5 : fX_isWithin v (-5) 5 = true → -5 ≤ v.toInt ∧ v.toInt ≤ 5 := w_i
  have r0 : fX_isWithin v 0 5 = true → 0 ≤ v.toInt ∧ v.toInt ≤ 5 := w_i
  have r30 : fX_isWithin v (-30) 30 = true → -30 ≤ v.toInt ∧ v.toInt ≤ 30 := w_i
  rcases s_w5 hw with q | q | q | q | q <;> subst q
  · exact ⟨fun _ => r5 h, fun q => absurd q (by decide), fun q => absurd q (by decide)⟩
  · exact ⟨fun _ => r5 h, fun q => absurd q (by decide), fun q => absurd q (by decide)⟩
  · exact ⟨fun q => absurd q (by decide), fun _ => r0 h, fun q => absurd q (by decide)⟩
  · exact ⟨fun q => absurd q (by decide), fun _ => r0 h, fun q => absurd q (by decide)⟩
  · exact ⟨fun q => absurd q (by decide), fun q => absurd q (by decide), fun _ => r30 h⟩
theorem s_setM_ok {s : s_sh} {w v : Int32} (hs : s_shOk s) (hw : 1 ≤ w.toInt ∧ w.toInt ≤ 5) (e : s.1 = decide (¬ w < 4)) (hm : fH_mayMeasure w v = true) : s_shOk (s_setM s w v) := by
  obtain ⟨m1, m2, m3⟩ := s_may hw hm
  obtain ⟨b, x, y, r⟩ := s
  rcases s_w5 hw with q | q | q | q | q <;> subst q
  · have : b = false := e
    subst this
    exact ⟨m1 (by decide), hs.2⟩
  · have : b = false := e
    subst this
    exact ⟨hs.1, m1 (by decide), hs.2.2⟩
  · have : b = false := e
    subst this
    exact ⟨hs.1, hs.2.1, m2 (by decide)⟩
  · have : b = true := e
    subst this
    exact ⟨m2 (by decide), hs.2⟩
  · have : b = true := e
    subst this
    exact ⟨hs.1, m3 (by decide)⟩
theorem x_setM {s : s_sh} {h : Nat} {w v : Int32} (hh : x_H s h m) (hw : 1 ≤ w.toInt ∧ w.toInt ≤ 5) (e : s.1 = decide (¬ w < 4)) (hm : fH_mayMeasure w v = true) : ∃ I, fH_setMeasure h w v m = some (I, m.2.1, m.2.2.1, m.2.2.2) ∧ (∀ r, r ≠ h → I r = m.1 r) ∧ x_H (s_setM s w v) h (I, m.2.1, m.2.2.1, m.2.2.2) := by
  obtain ⟨b, x, y, r⟩ := s
  obtain ⟨h1, h2, h3⟩ := hh
  obtain ⟨m1, m2, m3⟩ := s_may hw hm
  unfold fH_setMeasure
  rcases s_w5 hw with q | q | q | q | q <;> subst q
  · have : b = false := e
    subst this
    obtain ⟨a1, a2, a3⟩ := h2 rfl
    refine ⟨_, rfl, fun r hr => tk_u2_ne hr, h1, fun _ => ⟨tk_u2_eq, ?_, ?_⟩, fun q => by cases q⟩
    · dsimp only; rw [tk_u2_nk (by decide)]; exact a2
    · dsimp only; rw [tk_u2_nk (by decide)]; exact a3
  · have : b = false := e
    subst this
    obtain ⟨a1, a2, a3⟩ := h2 rfl
    refine ⟨_, rfl, fun r hr => tk_u2_ne hr, h1, fun _ => ⟨?_, tk_u2_eq, ?_⟩, fun q => by cases q⟩
    · dsimp only; rw [tk_u2_nk (by decide)]; exact a1
    · dsimp only; rw [tk_u2_nk (by decide)]; exact a3
  · have : b = false := e
    subst this
    obtain ⟨a1, a2, a3⟩ := h2 rfl
    refine ⟨_, rfl, fun r hr => tk_u2_ne hr, h1, fun _ => ⟨?_, ?_, tk_u2_eq⟩, fun q => by cases q⟩
    · dsimp only; rw [tk_u2_nk (by decide)]; exact a1
    · dsimp only; rw [tk_u2_nk (by decide)]; exact a2
  · have : b = true := e
    subst this
    obtain ⟨a1, a2, a3, a4, a5⟩ := h3 rfl
    have hv := m2 (by decide)
    have g1 : fX_isWithin v 0 (6 - 1) = true := by
      rw [w_in, Int32.lt_iff_toInt_lt, Int32.lt_iff_toInt_lt, show (0 : Int32).toInt = 0 from rfl, show ((6 : Int32) - 1).toInt = 5 from rfl]; omega
    have hxk : tk_ok v 6 := ⟨by rw [Int32.lt_iff_toInt_lt]; have : (0 : Int32).toInt = 0 := rfl; omega, by show v.toInt.toNat < 6; omega⟩
    rw [if_neg (by decide), if_neg (by decide), if_neg (by decide), if_pos rfl]
    unfold fH_setSlant
    rw [if_pos g1, if_pos hxk, Option.bind_some]
    refine ⟨_, rfl, fun r hr => by rw [tk_u2_ne hr, tk_u2_ne hr, tk_u2_ne hr, tk_u2_ne hr], h1, (fun q => by cases q), fun _ => ⟨?_, ?_, ?_, ?_, ?_⟩⟩
    · dsimp only; rw [tk_u2_nk (by decide), tk_u2_nk (by decide), tk_u2_nk (by decide), tk_u2_eq]; rfl
    · dsimp only; rw [tk_u2_nk (by decide), tk_u2_nk (by decide), tk_u2_nk (by decide), tk_u2_nk (by decide)]; exact a2
    · dsimp only; rw [tk_u2_nk (by decide), tk_u2_nk (by decide), tk_u2_eq]; rfl
    · dsimp only; rw [tk_u2_nk (by decide), tk_u2_eq]; rfl
    · dsimp only; rw [tk_u2_eq]; rfl
  · have : b = true := e
    subst this
    obtain ⟨a1, a2, a3, a4, a5⟩ := h3 rfl
    rw [if_neg (by decide), if_neg (by decide), if_neg (by decide), if_neg (by decide)]
    refine ⟨_, rfl, fun r hr => tk_u2_ne hr, h1, (fun q => by cases q), fun _ => ⟨?_, tk_u2_eq, ?_, ?_, ?_⟩⟩
    · dsimp only; rw [tk_u2_nk (by decide)]; exact a1
    · dsimp only; rw [tk_u2_nk (by decide)]; exact a3
    · dsimp only; rw [tk_u2_nk (by decide)]; exact a4
    · dsimp only; rw [tk_u2_nk (by decide)]; exact a5
theorem x_change (HK : x_K K) (ha : s_Ok a) (h : x_X K a m) (i w v : Int32) : x_does K m (fX_change i w v m) (o_change i w v a) := by
  unfold fX_change o_change
  refine x_ite (x_hasI ha h i) (fun g1 => x_ite Iff.rfl (fun g2 => ?_) (fun _ => x_bt (x_find HK ha h 0 (by decide)))) (fun _ => x_bt (x_find HK ha h 0 (by decide)))
  obtain ⟨s, hs⟩ := s_isS g1
  obtain ⟨hk, hH⟩ := x_at h.2.1 (s_len ha) hs
  have hw : 1 ≤ w.toInt ∧ w.toInt ≤ 5 := w_i g2
  rw [s_get_of hs]
  refine x_grd hk ?_
  have hb : ∀ b : Bool, (tk_b b = 0 ↔ b = false) ∧ (tk_b b = 1 ↔ b = true) := by decide
  have key : ∀ f : Int32, ((tk_b (m.2.2.1 (2 + 2 + (m.2.2.2 2 (tk_n i)).val) 0) = f) ↔ s.1 = decide (¬ w < 4)) → x_does K m (fX_change_48 i w v f (m.2.2.1 (2 + 2 + (m.2.2.2 2 (tk_n i)).val) 0) m) (if s.1 = decide (¬ w < 4) then (if fH_mayMeasure w v = true then (s_meas s w, ((a.1.1.set (tk_n i) (s_setM s w v), a.1.2), a.2)) else s_fd a 0) else s_fd a 2) := by
    intro f hf
    unfold fX_change_48
    refine x_ite hf (fun e => x_ite Iff.rfl (fun hm => x_bt ?_) (fun _ => x_bt (x_find HK ha h 0 (by decide)))) (fun _ => x_bt (x_find HK ha h 2 (by decide)))
    unfold fS_setMeasure
    rw [if_pos hk]
    obtain ⟨I, e1, e2, e3⟩ := x_setM hH hw e hm
    have hmm := x_meas hH e hw
    obtain ⟨k, rfl, hkl, hkk⟩ := s_at_some hs
    have hl := s_len ha
    rw [i_nn (by omega)] at e1 e2 e3 hmm ⊢
    rw [e1, Option.bind_some, hmm]
    have hb9 : 4 ≤ 1 + 1 + 2 + (m.2.2.2 (1 + 1) k).val ∧ 1 + 1 + 2 + (m.2.2.2 (1 + 1) k).val ≤ 9 := by have := (m.2.2.2 (1 + 1) k).isLt; omega
    refine x_put1 HK ha h ?_ ?_ (.inl (by dsimp only; exact tk_u2_eq)) _
    · intro r hr
      exact ⟨e2 r (by omega), rfl, by dsimp only; rw [tk_u2_ne (by omega)], rfl⟩
    · refine x_S_set h.2.1 hl hkl (by dsimp only; rw [e2 1 (by omega)]) (by dsimp only; rw [e2 1 (by omega)]) (e2 3 (by omega)) rfl (fun r q1 q2 => ⟨e2 r q2, by dsimp only; rw [tk_u2_ne (by omega)]⟩) ?_
      refine ⟨?_, e3.2.1, e3.2.2⟩
      dsimp only
      rw [tk_u2_ne (by omega)]
      exact e3.1
  by_cases g : w < 4
  · rw [if_pos g]
    refine key 0 ?_
    rw [hH.1, (hb s.1).1, decide_eq_false (fun q => q g)]
  · rw [if_neg g]
    refine key 1 ?_
    rw [hH.1, (hb s.1).2, decide_eq_true g]
theorem y_change97 (ha : s_Ok a) (h : y_Y a m) {i w v : Int32} {s : s_sh} (hs : s_at a.1.1 i = some s) (hw : 1 ≤ w.toInt ∧ w.toInt ≤ 5) (e : s.1 = decide (¬ w < 4)) (b : Bool) (hb : b = fH_mayMeasure w v) : y_does m (fM_change_97 i w v b m) (if fH_mayMeasure w v = true then (s_meas s w, ((a.1.1.set (tk_n i) (s_setM s w v), a.1.2), a.2)) else s_fd a 0) := by
  obtain ⟨k, rfl, hkl, hkk⟩ := s_at_some hs
  have hl := s_len ha
  unfold fM_change_97
  refine y_ite (by rw [hb]) (fun _ => ?_) (fun _ => y_bt (y_find ha h 0 (by decide)))
  rw [i_nn (by omega)]
  obtain ⟨q1, q2, q3, q4⟩ := h.2.1.2.2.2 k s hkk
  have go : ∀ (j : Nat) (u : Int32) (s' : s_sh), j < 4 → m.1 296 (5 + 4 * k + j) = u → y_H s' 296 k (tk_u2 m.1 296 (5 + 4 * k + j) v, m.2.1, m.2.2.1, m.2.2.2) → y_does m (some (u, (tk_u2 m.1 296 (5 + 4 * k + j) v, m.2.1, m.2.2.1, m.2.2.2))) (u, ((a.1.1.set k s', a.1.2), a.2)) := by
    intro j u s' hj hu hy
    refine y_put1 ha h ?_ ?_ _
    · intro r hr
      exact ⟨by dsimp only; rw [tk_u2_ne hr], rfl, rfl, rfl⟩
    exact y_S_set h.2.1 hkl (fun j' hj' => by dsimp only; rw [tk_u2_nk (by omega)]) hy
  obtain ⟨bb, x, y, r⟩ := s
  dsimp only at q1 q2 q3 q4
  rcases s_w5 hw with q | q | q | q | q <;> subst q
  · rw [if_neg (by decide), show (1 : Int32) = Int32.ofNat 1 from rfl, i_at, if_pos (i_ok (show 5 + 4 * k + 1 < 29 by omega) (by omega)), i_nn (by omega)]
    rw [q2]
    refine go 1 x _ (by decide) q2 ⟨?_, tk_u2_eq, ?_, ?_⟩
    · dsimp only; rw [tk_u2_nk (by omega)]; exact q1
    · dsimp only; rw [tk_u2_nk (by omega)]; exact q3
    · dsimp only; rw [tk_u2_nk (by omega)]; exact q4
  · rw [if_neg (by decide), show (2 : Int32) = Int32.ofNat 2 from rfl, i_at, if_pos (i_ok (show 5 + 4 * k + 2 < 29 by omega) (by omega)), i_nn (by omega)]
    rw [q3]
    refine go 2 y _ (by decide) q3 ⟨?_, ?_, tk_u2_eq, ?_⟩
    · dsimp only; rw [tk_u2_nk (by omega)]; exact q1
    · dsimp only; rw [tk_u2_nk (by omega)]; exact q2
    · dsimp only; rw [tk_u2_nk (by omega)]; exact q4
  · rw [if_neg (by decide), show (3 : Int32) = Int32.ofNat 3 from rfl, i_at, if_pos (i_ok (show 5 + 4 * k + 3 < 29 by omega) (by omega)), i_nn (by omega)]
    rw [q4]
    refine go 3 r _ (by decide) q4 ⟨?_, ?_, ?_, tk_u2_eq⟩
    · dsimp only; rw [tk_u2_nk (by omega)]; exact q1
    · dsimp only; rw [tk_u2_nk (by omega)]; exact q2
    · dsimp only; rw [tk_u2_nk (by omega)]; exact q3
  · rw [if_pos (by decide), show (4 : Int32) - 3 = Int32.ofNat 1 from rfl, i_at, if_pos (i_ok (show 5 + 4 * k + 1 < 29 by omega) (by omega)), i_nn (by omega)]
    rw [q2]
    refine go 1 x _ (by decide) q2 ⟨?_, tk_u2_eq, ?_, ?_⟩
    · dsimp only; rw [tk_u2_nk (by omega)]; exact q1
    · dsimp only; rw [tk_u2_nk (by omega)]; exact q3
    · dsimp only; rw [tk_u2_nk (by omega)]; exact q4
  · rw [if_pos (by decide), show (5 : Int32) - 3 = Int32.ofNat 2 from rfl, i_at, if_pos (i_ok (show 5 + 4 * k + 2 < 29 by omega) (by omega)), i_nn (by omega)]
    rw [q3]
    refine go 2 y _ (by decide) q3 ⟨?_, ?_, tk_u2_eq, ?_⟩
    · dsimp only; rw [tk_u2_nk (by omega)]; exact q1
    · dsimp only; rw [tk_u2_nk (by omega)]; exact q2
    · dsimp only; rw [tk_u2_nk (by omega)]; exact q4
theorem y_change (ha : s_Ok a) (h : y_Y a m) (i w v : Int32) : y_does m (fM_change i w v m) (o_change i w v a) := by
  unfold fM_change o_change
  refine y_ite (y_hasI ha h i) (fun g1 => y_ite (by rw [← w_eq (v := w) (a := 1) (b := 5)]; rfl) (fun g2 => ?_) (fun _ => y_bt (y_find ha h 0 (by decide)))) (fun _ => y_bt (y_find ha h 0 (by decide)))
  obtain ⟨s, hs⟩ := s_isS g1
  have hw : 1 ≤ w.toInt ∧ w.toInt ≤ 5 := w_i g2
  rw [s_get_of hs]
  obtain ⟨h0, h1, h2, h3⟩ := y_at h.2.1 (s_len ha) hs
  have hle : ((4 : Int32) ≤ w) ↔ ¬ w < 4 := by rw [Int32.le_iff_toInt_le, Int32.lt_iff_toInt_lt]; omega
  have key : ∀ f : Int32, (f = if (4 : Int32) ≤ w then 0 else 1) → y_does m (fM_change_36 i w v f m) (if s.1 = decide (¬ w < 4) then (if fH_mayMeasure w v = true then (s_meas s w, ((a.1.1.set (tk_n i) (s_setM s w v), a.1.2), a.2)) else s_fd a 0) else s_fd a 2) := by
    intro f hf
    unfold fM_change_36
    rw [y_round h0, Option.bind_some]
    refine y_ite ?_ (fun e => ?_) (fun _ => y_bt (y_find ha h 2 (by decide)))
    · rw [hf]
      by_cases g : w < 4
      · rw [if_neg (by rw [hle]; exact fun q => q g), decide_eq_false (fun q => q g)]
        cases s.1 <;> decide
      · rw [if_pos (hle.mpr g), decide_eq_true g]
        cases s.1 <;> decide
    · have w5 : fM_in v.toInt64 (-5) 5 = fX_isWithin v (-5) 5 := w_eq (a := -5) (b := 5)
      have w0 : fM_in v.toInt64 0 5 = fX_isWithin v 0 5 := w_eq (a := 0) (b := 5)
      have w30 : fM_in v.toInt64 (-30) 30 = fX_isWithin v (-30) 30 := w_eq (a := -30) (b := 30)
      rcases s_w5 hw with q | q | q | q | q <;> subst q
      · rw [if_neg (by decide)]; exact y_change97 ha h hs hw e _ (by rw [w5]; rfl)
      · rw [if_neg (by decide)]; exact y_change97 ha h hs hw e _ (by rw [w5]; rfl)
      · rw [if_pos (by decide), if_neg (by decide)]; exact y_change97 ha h hs hw e _ (by rw [w0]; rfl)
      · rw [if_pos (by decide), if_neg (by decide)]; exact y_change97 ha h hs hw e _ (by rw [w0]; rfl)
      · rw [if_pos (by decide), if_pos (by decide)]; exact y_change97 ha h hs hw e _ (by rw [w30]; rfl)
  by_cases g : (4 : Int32) ≤ w
  · rw [if_pos g]; exact key 0 (by rw [if_pos g])
  · rw [if_neg g]; exact key 1 (by rw [if_neg g])
theorem o_change_ok (ha : s_Ok a) (i w v : Int32) : s_Ok (o_change i w v a).2 := by
  unfold o_change
  by_cases g1 : (s_at a.1.1 i).isSome = true
  · rw [if_pos g1]
    by_cases g2 : fX_isWithin w 1 5 = true
    · rw [if_pos g2]
      obtain ⟨s, hs⟩ := s_isS g1
      rw [s_get_of hs]
      by_cases g3 : s.1 = decide (¬ w < 4)
      · rw [if_pos g3]
        by_cases g4 : fH_mayMeasure w v = true
        · rw [if_pos g4]
          refine ⟨⟨by show (a.1.1.set _ _).length ≤ 6; rw [List.length_set]; exact s_len ha, fun u hu => ?_⟩, ha.2⟩
          rcases List.mem_or_eq_of_mem_set hu with q | q
          · exact ha.1.2 u q
          · rw [q]; exact s_setM_ok (s_at_ok ha.1 hs) (w_i g2) g3 g4
        · rw [if_neg g4]; exact ha
      · rw [if_neg g3]; exact ha
    · rw [if_neg g2]; exact ha
  · rw [if_neg g1]; exact ha
end

/-! ===== invert: the call ===== -/
def iv_R (f : Nat → Int64) (x y k : Int32) : Nat → Int64 := iv_r 2 (f 0) (f 1) (f 2) (f 3) x.toInt64 y.toInt64 k.toInt64
def iv_O (f : Nat → Int64) (x y k : Int32) : Bool := iv_o 2 (f 0) (f 1) (f 2) (f 3) x.toInt64 y.toInt64 k.toInt64
theorem iv_cg {f g : Nat → Int64} (h : ∀ i, i < 4 → f i = g i) : iv_z f = iv_z g ∧ iv_b f = iv_b g ∧ (∀ i, i < 4 → iv_w f i = iv_w g i) ∧ ∀ c, iv_c c f = iv_c c g := by
  have h0 := h 0 (by decide)
  have h1 := h 1 (by decide)
  have h2 := h 2 (by decide)
  have h3 := h 3 (by decide)
  have hl : iv_ld f = iv_ld g := by unfold iv_ld; rw [h0, h1, h2]
  have hlt : iv_ld g < 4 := by
    unfold iv_ld
    split
    · split
      · split <;> decide
      · decide
    · decide
  have hD : iv_D f = iv_D g := by
    unfold iv_D
    rw [hl, h _ hlt, lo_g_ext (f := iv_f f) (f' := iv_f g) 4 (fun k hk => congrArg Int64.toInt (h k hk))]
  refine ⟨?_, ?_, fun i hi => ?_, fun c => ?_⟩
  · unfold iv_z; rw [h0, h1, h2, h3]
  · unfold iv_b; rw [h0, h1, h2, h3, hD]
  · unfold iv_w; rw [h i hi, hD]
  · unfold iv_c; rw [h0, h1, h2, h3]
theorem iv_L_at (L : Nat → Nat → Int64) (r : Nat) (f : Nat → Int64) : ∀ i, i < 4 → iv_L L r f r i = f i := by
  intro i hi
  unfold iv_L
  rcases (show i = 0 ∨ i = 1 ∨ i = 2 ∨ i = 3 by omega) with rfl | rfl | rfl | rfl
  · rw [tk_u2_nk (by decide), tk_u2_nk (by decide), tk_u2_nk (by decide), tk_u2_eq]
  · rw [tk_u2_nk (by decide), tk_u2_nk (by decide), tk_u2_eq]
  · rw [tk_u2_nk (by decide), tk_u2_eq]
  · rw [tk_u2_eq]
theorem iv_L_ne (L : Nat → Nat → Int64) {r j : Nat} (f : Nat → Int64) (h : j ≠ r) : iv_L L r f j = L j := by
  unfold iv_L
  rw [tk_u2_ne h, tk_u2_ne h, tk_u2_ne h, tk_u2_ne h]
theorem iv_zz {f : Nat → Int64} : iv_z f = true ↔ ∀ i, i < 4 → f i = 0 := by
  unfold iv_z
  simp only [Bool.and_eq_true, decide_eq_true_eq]
  constructor
  · rintro ⟨h0, h1, h2, h3⟩ i hi
    rcases (show i = 0 ∨ i = 1 ∨ i = 2 ∨ i = 3 by omega) with rfl | rfl | rfl | rfl
    · exact h0
    · exact h1
    · exact h2
    · exact h3
  · intro h
    exact ⟨h 0 (by decide), h 1 (by decide), h 2 (by decide), h 3 (by decide)⟩
theorem iv_nz {f : Nat → Int64} {x y k : Int32} (hk : fX_isWithin k 1 99 = true) (hz : ¬ iv_z f = true) (ho : iv_O f x y k = false) : iv_z (iv_R f x y k) = false := by
  cases e : iv_z (iv_R f x y k) with
  | false => rfl
  | true =>
    have hw := w_i hk
    rw [show (1 : Int32).toInt = 1 from rfl, show (99 : Int32).toInt = 99 from rfl] at hw
    have e1 : k.toInt64.toInt = k.toInt := Int32.toInt_toInt64 k
    have hb : 0 < k.toInt * k.toInt ∧ k.toInt * k.toInt ≤ 99 * 99 := ⟨Int.mul_pos (by omega) (by omega), Int.mul_le_mul hw.2 hw.2 (by omega) (by omega)⟩
    have e2 : (k.toInt64 * k.toInt64).toInt = k.toInt * k.toInt := by
      rw [Int64.toInt_mul, e1]
      exact Int.bmod_eq_of_le (by omega) (by omega)
    obtain ⟨a1, a2, a3, a4⟩ := iv_ne (by rw [e1]; omega) (by rw [e2]; omega) ho (iv_zz.mp e)
    exact absurd (iv_zz.mpr (fun i hi => by
      rcases (show i = 0 ∨ i = 1 ∨ i = 2 ∨ i = 3 by omega) with rfl | rfl | rfl | rfl
      · exact a1
      · exact a2
      · exact a3
      · exact a4)) hz
theorem tk_al266 : ∀ k, k < 4 → tk_al (287 + 2 * k + 1) = 40 := by decide +kernel
theorem tk_al424 : ∀ k, k < 4 → tk_al (445 + k) = 40 := by decide +kernel
def o_inv (s : Nat) (x y k : Int32) (a : s_as) : Int32 × s_as := if iv_z (a.2.2.2.1 s).2.2 = true then s_fd a 4 else if (iv_O (a.2.2.2.1 s).2.2 x y k || iv_b (iv_R (a.2.2.2.1 s).2.2 x y k) || !iv_c (a.2.2.2.1 s).1 (iv_w (iv_R (a.2.2.2.1 s).2.2 x y k))) = true then s_fd a 7 else (1, (a.1, a.2.1, a.2.2.1, iv_T a.2.2.2.1 s (iv_w (iv_R (a.2.2.2.1 s).2.2 x y k)) 4, a.2.2.2.2))
def o_invert (s x y k : Int32) (a : s_as) : Int32 × s_as := if fX_isSheet s = true then (if fX_isWithin x (-9) 9 = true then (if fX_isWithin y (-9) 9 = true then (if fX_isWithin k 1 99 = true then (if (a.2.2.2.1 (tk_n s)).1 = -1 then s_fd a 5 else (if 4 ≤ Int32.ofNat (a.2.2.2.1 (tk_n s)).2.1 then o_inv (tk_n s) x y k a else s_fd a 6)) else s_fd a 0) else s_fd a 0) else s_fd a 0) else s_fd a 0
section
variable {K : List s_sh → Int32 × Int32 × Int32 → tk_m → Prop} {a : s_as} {m m' : tk_m} {α : Type}
theorem x_inv (HK : x_K K) (ha : s_Ok a) (h : x_X K a m) {s : Nat} (hs : s < 4) {x y k : Int32} (hk : fX_isWithin k 1 99 = true) : x_does K m ((fT_isFormZero (287 + 2 * s) m).bind fun o9 =>
              if o9 = true then
                (fX_finding (4 : Int32) m).bind fun o11 =>
                some (o11.1, o11.2)
              else
                (fK_turnInsideOut ((287 + 2 * s) + 1) x y k m).bind fun o12 =>
                if o12.1 = true then
                  (fT_mayHold (287 + 2 * s) 37 o12.2).bind fun o14 =>
                  if o14 = true then
                    fX_invert_142 tk_F (287 + 2 * s) (0 : Int32) o12.2
                  else
                    (fX_finding (7 : Int32) o12.2).bind fun o16 =>
                    some (o16.1, o16.2)
                else
                  (fX_finding (7 : Int32) o12.2).bind fun o17 =>
                  some (o17.1, o17.2)) (o_inv s x y k a) := by
  obtain ⟨t1, t2, t3⟩ := h.2.2.2.2.1 s hs
  have hX : ∀ {m1 : tk_m}, x_scr m m1 → x_does K m ((fX_finding (7 : Int32) m1).bind fun o5 => some (o5.1, o5.2)) (s_fd a 7) := fun q => x_chain q (x_bt (x_find HK ha (x_scr_X HK ha h q) 7 (by decide)))
  have ec := iv_cg (f := m.2.1 (287 + 2 * s + 1)) (g := (a.2.2.2.1 s).2.2) (fun i hi => t3 i (by omega))
  rw [iv_fz, ec.1, Option.bind_some]
  unfold o_inv
  refine x_ite Iff.rfl (fun _ => x_bt (x_find HK ha h 4 (by decide))) (fun hz => ?_)
  rw [iv_X (tk_al266 s hs), t3 0 (by decide), t3 1 (by decide), t3 2 (by decide), t3 3 (by decide)]
  rw [show iv_o 2 ((a.2.2.2.1 s).2.2 0) ((a.2.2.2.1 s).2.2 1) ((a.2.2.2.1 s).2.2 2) ((a.2.2.2.1 s).2.2 3) x.toInt64 y.toInt64 k.toInt64 = iv_O (a.2.2.2.1 s).2.2 x y k from rfl, show iv_r 2 ((a.2.2.2.1 s).2.2 0) ((a.2.2.2.1 s).2.2 1) ((a.2.2.2.1 s).2.2 2) ((a.2.2.2.1 s).2.2 3) x.toInt64 y.toInt64 k.toInt64 = iv_R (a.2.2.2.1 s).2.2 x y k from rfl]
  have hnz := iv_nz (x := x) (y := y) hk hz
  generalize iv_O (a.2.2.2.1 s).2.2 x y k = B at *
  generalize iv_R (a.2.2.2.1 s).2.2 x y k = R at *
  have hL : ∀ j, j ≠ 37 → iv_L m.2.1 37 R j = m.2.1 j := fun j hj => iv_L_ne _ _ hj
  have hA : ∀ i, i < 4 → iv_L m.2.1 37 R 37 i = R i := iv_L_at m.2.1 37 R
  generalize iv_L m.2.1 37 R = L at *
  have hs1 : ∀ (L2 : Nat → Nat → Int64) (b : Bool), (∀ j, j ≠ 37 → L2 j = m.2.1 j) → x_scr m (ov_X (m.1, L2, m.2.2.1, m.2.2.2) b) := fun L2 b hL2 r hr => ⟨rfl, hL2 r (by omega), tk_u2_ne (by omega), rfl⟩
  cases B with
  | true =>
    rw [if_pos rfl, Option.bind_some, if_neg (fun z => Bool.noConfusion z), if_pos (by rw [Bool.true_or, Bool.true_or])]
    exact hX (hs1 L true hL)
  | false =>
    rw [if_neg (fun z => Bool.noConfusion z)]
    have er : (ov_X (m.1, L, m.2.2.1, m.2.2.2) false).2.1 37 = L 37 := rfl
    have ecR := iv_cg hA
    rw [iv_xl (by rw [er, ecR.1]; exact hnz rfl), er, ecR.2.1, Bool.false_or]
    by_cases c : iv_b R = true
    · rw [if_pos c, Option.bind_some, if_neg (fun z => Bool.noConfusion z), if_pos (by rw [c, Bool.true_or])]
      exact hX (hs1 L false hL)
    · have cf : iv_b R = false := by
        cases e : iv_b R with
        | false => rfl
        | true => exact absurd e c
      rw [if_neg c, Option.bind_some, if_pos rfl, cf, Bool.false_or]
      dsimp only
      have eq : lo_up (ov_X (m.1, L, m.2.2.1, m.2.2.2) false) 37 4 (iv_w (L 37)) = ov_X (m.1, (lo_up (ov_X (m.1, L, m.2.2.1, m.2.2.2) false) 37 4 (iv_w (L 37))).2.1, m.2.2.1, m.2.2.2) false := rfl
      have eL : ∀ j, j ≠ 37 → (lo_up (ov_X (m.1, L, m.2.2.1, m.2.2.2) false) 37 4 (iv_w (L 37))).2.1 j = m.2.1 j := fun j hj => by
        funext b
        unfold lo_up
        dsimp only
        rw [if_neg (fun z => hj z.1)]
        exact congrFun (hL j hj) b
      have eW : ∀ i, i < 4 → (lo_up (ov_X (m.1, L, m.2.2.1, m.2.2.2) false) 37 4 (iv_w (L 37))).2.1 37 i = iv_w R i := fun i hi => by
        unfold lo_up
        dsimp only
        rw [if_pos ⟨rfl, hi⟩]
        exact ecR.2.2.1 i hi
      rw [eq]
      generalize (lo_up (ov_X (m.1, L, m.2.2.1, m.2.2.2) false) 37 4 (iv_w (L 37))).2.1 = L2 at *
      have hs2 := hs1 L2 false eL
      have hT2 : x_T a.2.2.2.1 (ov_X (m.1, L2, m.2.2.1, m.2.2.2) false) := (x_scr_X HK ha h hs2).2.2.2.2.1
      have er2 : (ov_X (m.1, L2, m.2.2.1, m.2.2.2) false).2.1 37 = L2 37 := rfl
      rw [iv_mh tk_al37 (fun v => x_nar hT2 hs v), Option.bind_some, er2, (iv_cg eW).2.2.2]
      by_cases d : iv_c (a.2.2.2.1 s).1 (iv_w R) = true
      · rw [if_pos d, if_neg (by rw [d]; exact fun z => Bool.noConfusion z)]
        have hc : ∀ p, p < 4 → fM_cut (a.2.2.2.1 s).1 (iv_w R p) = iv_w R p := by
          unfold iv_c at d
          simp only [Bool.and_eq_true, decide_eq_true_eq] at d
          intro p hp
          rcases (show p = 0 ∨ p = 1 ∨ p = 2 ∨ p = 3 by omega) with rfl | rfl | rfl | rfl
          · exact d.1
          · exact d.2.1
          · exact d.2.2.1
          · exact d.2.2.2
        obtain ⟨m2, e1, e2, e3⟩ := iv_x142 (m := ov_X (m.1, L2, m.2.2.1, m.2.2.2) false) (t := a.2.2.2.1) hs hc 4 0 tk_F (ov_X (m.1, L2, m.2.2.1, m.2.2.2) false) rfl (by unfold tk_F; omega) (fun r _ => tk_row_rf _ r) eW hT2
        rw [show (0 : Int32) = Int32.ofNat 0 from rfl, e1]
        refine x_putT HK ha h (fun r q1 q2 => tk_row_tr (hs2 r q2) (e2 r (by omega))) e3 _
      · have df : iv_c (a.2.2.2.1 s).1 (iv_w R) = false := by
          cases e : iv_c (a.2.2.2.1 s).1 (iv_w R) with
          | false => rfl
          | true => exact absurd e d
        rw [if_neg d, if_pos (by rw [df]; rfl)]
        exact hX hs2
theorem x_invert (HK : x_K K) (ha : s_Ok a) (h : x_X K a m) (s x y k : Int32) : x_does K m (fX_invert s x y k m) (o_invert s x y k a) := by
  have f0 := x_bt (x_find HK ha h 0 (by decide))
  unfold fX_invert o_invert
  refine x_ite Iff.rfl (fun g1 => x_ite Iff.rfl (fun g2 => x_ite Iff.rfl (fun g3 => x_ite Iff.rfl (fun g4 => ?_) (fun _ => f0)) (fun _ => f0)) (fun _ => f0)) (fun _ => f0)
  obtain ⟨i, hi, rfl⟩ := s_sheetI g1
  refine x_grd (i_ok hi (by omega)) ?_
  rw [i_nn (show i < 2147483648 by omega), x_miss h.2.2.2.2.1 hi, (h.2.2.2.2.1 i hi).2.1]
  exact x_ite decide_eq_true_iff (fun _ => x_bt (x_find HK ha h 5 (by decide))) (fun _ => x_ite Iff.rfl (fun _ => x_inv HK ha h hi g4) (fun _ => x_bt (x_find HK ha h 6 (by decide))))
theorem y_inv (ha : s_Ok a) (h : y_Y a m) {s : Nat} (hs : s < 4) {x y k : Int32} (hk : fX_isWithin k 1 99 = true) : y_does m (fM_invert_92 tk_F (Int32.ofNat s) x y k 1 0 m) (o_inv s x y k a) := by
  obtain ⟨t1, t2, t3⟩ := h.2.2.2.2 s hs
  have ec := iv_cg (f := m.2.1 (445 + s)) (g := (a.2.2.2.1 s).2.2) (fun i hi => t3 i (by omega))
  have hY : ∀ {L : Nat → Nat → Int64} (b : Bool), (∀ j, j ≠ 449 → L j = m.2.1 j) → y_Y a (ov_Y m L b) ∧ tk_lo m (ov_Y m L b) := by
    intro L b hL
    have hT : y_T a.2.2.2.1 (ov_Y m L b) := by
      intro i hi
      rw [show (ov_Y m L b).2.1 (445 + i) = m.2.1 (445 + i) from hL _ (by omega)]
      exact h.2.2.2.2 i hi
    obtain ⟨m1, e1, e2, e3⟩ := y_putT (m' := ov_Y m L b) ha h (fun r hr => ⟨fun _ => rfl, fun e => ⟨rfl, hL r (by omega), tk_u2_ne e, rfl⟩⟩) hT (0 : Int32)
    have : m1 = ov_Y m L b := ((Prod.mk.inj (Option.some.inj e1)).2).symm
    subst this
    exact ⟨e2, e3⟩
  have hF : ∀ {L : Nat → Nat → Int64} (b : Bool), (∀ j, j ≠ 449 → L j = m.2.1 j) → y_does m ((fM_finds (7 : Int32) (ov_Y m L b)).bind fun o5 => some (o5.1, o5.2)) (s_fd a 7) := fun b q => y_chain (hY b q).2 (y_bt (y_find ha (hY b q).1 7 (by decide)))
  rw [iv_92 hs, ec.1]
  unfold o_inv fM_invert_128
  by_cases hz : iv_z (a.2.2.2.1 s).2.2 = true
  · rw [if_pos hz, if_pos hz, if_neg (by decide)]
    exact y_bt (y_find ha h 4 (by decide))
  · rw [if_neg hz, if_neg hz, if_pos rfl, if_pos (i_ok hs (by omega)), i_nn (show s < 2147483648 by omega), ov_Y0, iv_Y (tk_al424 s hs), t3 0 (by decide), t3 1 (by decide), t3 2 (by decide), t3 3 (by decide), Option.bind_some]
    rw [show iv_o 2 ((a.2.2.2.1 s).2.2 0) ((a.2.2.2.1 s).2.2 1) ((a.2.2.2.1 s).2.2 2) ((a.2.2.2.1 s).2.2 3) x.toInt64 y.toInt64 k.toInt64 = iv_O (a.2.2.2.1 s).2.2 x y k from rfl, show iv_r 2 ((a.2.2.2.1 s).2.2 0) ((a.2.2.2.1 s).2.2 1) ((a.2.2.2.1 s).2.2 2) ((a.2.2.2.1 s).2.2 3) x.toInt64 y.toInt64 k.toInt64 = iv_R (a.2.2.2.1 s).2.2 x y k from rfl]
    have hnz := iv_nz (x := x) (y := y) hk hz
    generalize iv_O (a.2.2.2.1 s).2.2 x y k = B at *
    generalize iv_R (a.2.2.2.1 s).2.2 x y k = R at *
    have hL : ∀ j, j ≠ 449 → iv_L m.2.1 449 R j = m.2.1 j := fun j hj => iv_L_ne _ _ hj
    have hA : ∀ i, i < 4 → iv_L m.2.1 449 R 449 i = R i := iv_L_at m.2.1 449 R
    generalize iv_L m.2.1 449 R = L at *
    rw [ov_Y274]
    cases B with
    | true =>
      rw [if_pos rfl, if_pos (by rw [Bool.true_or, Bool.true_or])]
      exact hF true hL
    | false =>
      have ecR := iv_cg hA
      obtain ⟨L2, e1, e2, e3⟩ := iv_49 (m := m) L false (by rw [ecR.1]; exact hnz rfl)
      rw [if_neg (fun z => Bool.noConfusion z), e1, Option.bind_some, iv_182 hs, ecR.2.1, Bool.false_or]
      have hL2 : ∀ j, j ≠ 449 → L2 j = m.2.1 j := fun j hj => (e2 j hj).trans (hL j hj)
      unfold fM_invert_235
      rw [ov_Y274, t1]
      by_cases c : iv_b R = true
      · rw [c, Bool.true_or, Bool.true_or, if_pos rfl, if_pos rfl]
        exact hF true hL2
      · have cf : iv_b R = false := by
          cases e : iv_b R with
          | false => rfl
          | true => exact absurd e c
        have eW : ∀ i, i < 4 → L2 449 i = iv_w R i := fun i hi => (e3 (by rw [ecR.2.1]; exact cf) i hi).trans (ecR.2.2.1 i hi)
        rw [cf, Bool.false_or, Bool.false_or, (iv_cg eW).2.2.2]
        by_cases d : (!iv_c (a.2.2.2.1 s).1 (iv_w R)) = true
        · rw [if_pos d, if_pos d]
          exact hF _ hL2
        · rw [if_neg d, if_neg d]
          obtain ⟨m2, g1, g2, g3⟩ := iv_y252 (m := ov_Y m L2 (!iv_c (a.2.2.2.1 s).1 (iv_w R))) (t := a.2.2.2.1) hs 4 0 tk_F (ov_Y m L2 (!iv_c (a.2.2.2.1 s).1 (iv_w R))) rfl (by unfold tk_F; omega) (fun r _ => tk_row_rf _ r) eW (hY _ hL2).1.2.2.2.2
          rw [show (0 : Int32) = Int32.ofNat 0 from rfl, g1]
          refine y_putT ha h (fun r hr => ?_) g3 _
          have hq := g2 r (by omega)
          refine ⟨fun e => ?_, fun e => ⟨hq.1, hq.2.1.trans (hL2 r (by omega)), hq.2.2.1.trans (tk_u2_ne e), hq.2.2.2⟩⟩
          subst e
          exact congrFun hq.1 2
theorem y_invert (ha : s_Ok a) (h : y_Y a m) (s x y k : Int32) : y_does m (fM_invert s x y k m) (o_invert s x y k a) := by
  have f0 := y_bt (y_find ha h 0 (by decide))
  unfold fM_invert o_invert
  refine y_ite (by rw [y_isSheet]) (fun g1 => y_ite (by rw [← w_eq (v := x) (a := -9) (b := 9)]; rfl) (fun g2 => y_ite (by rw [← w_eq (v := y) (a := -9) (b := 9)]; rfl) (fun g3 => y_ite (by rw [← w_eq (v := k) (a := 1) (b := 99)]; rfl) (fun g4 => ?_) (fun _ => f0)) (fun _ => f0)) (fun _ => f0)) (fun _ => f0)
  obtain ⟨i, hi, rfl⟩ := s_sheetI g1
  refine y_grd (i_ok hi (by omega)) ?_
  have hs := s_srt (ha.2.2.2.2 i).2
  rw [i_nn (show i < 2147483648 by omega), (h.2.2.2.2 i hi).1, (h.2.2.2.2 i hi).2.1]
  by_cases c : (a.2.2.2.1 i).1 = -1
  · rw [if_neg (fun z => (hs.1.mp z) c), if_pos c]
    exact y_bt (y_find ha h 5 (by decide))
  · rw [if_pos (hs.1.mpr c), if_neg c]
    exact y_ite Iff.rfl (fun _ => y_inv ha h hi g4) (fun _ => y_bt (y_find ha h 6 (by decide)))
theorem o_inv_ok (ha : s_Ok a) (s : Nat) (x y k : Int32) : s_Ok (o_inv s x y k a).2 := by
  unfold o_inv
  split
  · exact ha
  · split
    · exact ha
    · exact ⟨ha.1, ha.2.1, ha.2.2.1, ha.2.2.2.1, iv_T_ok ha.2.2.2.2 4⟩
theorem o_invert_ok (ha : s_Ok a) (s x y k : Int32) : s_Ok (o_invert s x y k a).2 := by
  unfold o_invert
  split
  · split
    · split
      · split
        · split
          · exact ha
          · split
            · exact o_inv_ok ha _ x y k
            · exact ha
        · exact ha
      · exact ha
    · exact ha
  · exact ha
end

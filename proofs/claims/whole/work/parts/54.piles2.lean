/-! ===== images ===== -/
section
variable {K : List s_sh → Int32 × Int32 × Int32 → tk_m → Prop} {a : s_as} {m m' : tk_m} {α : Type}
theorem x_becomeH (t u : Nat) (hne : t ≠ u) (m : tk_m) : ∃ m', fH_become t u m = some m' ∧ (∀ r, r ≠ t → tk_row m m' r) ∧ m'.2.2.2 = m.2.2.2 ∧ (∀ s, x_H s u m → s_shOk s → x_H s t m') := by
  have nu : u ≠ t := fun q => hne q.symm
  have ru : tk_u2 (tk_u2 (tk_u2 m.1 t 1 (m.1 u 1)) t 2 (tk_u2 m.1 t 1 (m.1 u 1) u 2)) t 3 (tk_u2 (tk_u2 m.1 t 1 (m.1 u 1)) t 2 (tk_u2 m.1 t 1 (m.1 u 1) u 2) u 3) = tk_u2 (tk_u2 (tk_u2 m.1 t 1 (m.1 u 1)) t 2 (m.1 u 2)) t 3 (m.1 u 3) := by
    rw [tk_u2_ne nu, tk_u2_ne nu, tk_u2_ne nu]
  unfold fH_become
  rw [ru, tk_u2_ne nu, tk_u2_ne nu, tk_u2_ne nu]
  unfold fH_setSlant
  by_cases g : fX_isWithin (m.1 u 4) 0 (6 - 1) = true
  · have hw := w_i g
    have hk : tk_ok (m.1 u 4) 6 := by
      have t5 : ((6 : Int32) - 1).toInt = 5 := rfl
      have t0 : (0 : Int32).toInt = 0 := rfl
      exact ⟨by rw [Int32.lt_iff_toInt_lt]; omega, by show (m.1 u 4).toInt.toNat < 6; omega⟩
    rw [if_pos g, if_pos hk, Option.bind_some]
    dsimp only
    refine ⟨_, rfl, ?_, rfl, ?_⟩
    · intro r hr
      exact ⟨by dsimp only; rw [tk_u2_ne hr, tk_u2_ne hr, tk_u2_ne hr, tk_u2_ne hr, tk_u2_ne hr, tk_u2_ne hr, tk_u2_ne hr, tk_u2_ne hr], rfl, by dsimp only; rw [tk_u2_ne hr], rfl⟩
    · intro s hs ho
      obtain ⟨h1, h2, h3⟩ := hs
      refine ⟨by dsimp only; rw [tk_u2_eq]; exact h1, fun e => ?_, fun e => ?_⟩
      · obtain ⟨a1, a2, a3⟩ := h2 e
        refine ⟨?_, ?_, ?_⟩
        · dsimp only; rw [tk_u2_nk (by decide), tk_u2_nk (by decide), tk_u2_nk (by decide), tk_u2_nk (by decide), tk_u2_nk (by decide), tk_u2_nk (by decide), tk_u2_nk (by decide), tk_u2_eq]; exact a1
        · dsimp only; rw [tk_u2_nk (by decide), tk_u2_nk (by decide), tk_u2_nk (by decide), tk_u2_nk (by decide), tk_u2_nk (by decide), tk_u2_nk (by decide), tk_u2_eq]; exact a2
        · dsimp only; rw [tk_u2_nk (by decide), tk_u2_nk (by decide), tk_u2_nk (by decide), tk_u2_nk (by decide), tk_u2_nk (by decide), tk_u2_eq]; exact a3
      · obtain ⟨a1, a2, a3, a4, a5⟩ := h3 e
        refine ⟨?_, ?_, ?_, ?_, ?_⟩
        · dsimp only; rw [tk_u2_nk (by decide), tk_u2_nk (by decide), tk_u2_nk (by decide), tk_u2_nk (by decide), tk_u2_eq]; exact a1
        · dsimp only; rw [tk_u2_eq, tk_u2_ne nu, tk_u2_ne nu, tk_u2_ne nu, tk_u2_ne nu, tk_u2_ne nu, tk_u2_ne nu, tk_u2_ne nu]; exact a2
        · dsimp only; rw [tk_u2_nk (by decide), tk_u2_nk (by decide), tk_u2_nk (by decide), tk_u2_eq, a1]; rfl
        · dsimp only; rw [tk_u2_nk (by decide), tk_u2_nk (by decide), tk_u2_eq, a1]; rfl
        · dsimp only; rw [tk_u2_nk (by decide), tk_u2_eq, a1]; rfl
  · rw [if_neg g, Option.bind_some]
    dsimp only
    refine ⟨_, rfl, ?_, rfl, ?_⟩
    · intro r hr
      exact ⟨by dsimp only; rw [tk_u2_ne hr, tk_u2_ne hr, tk_u2_ne hr, tk_u2_ne hr], rfl, by dsimp only; rw [tk_u2_ne hr], rfl⟩
    · intro s hs ho
      obtain ⟨h1, h2, h3⟩ := hs
      refine ⟨by dsimp only; rw [tk_u2_eq]; exact h1, fun e => ?_, fun e => ?_⟩
      · obtain ⟨a1, a2, a3⟩ := h2 e
        refine ⟨?_, ?_, ?_⟩
        · dsimp only; rw [tk_u2_nk (by decide), tk_u2_nk (by decide), tk_u2_nk (by decide), tk_u2_eq]; exact a1
        · dsimp only; rw [tk_u2_nk (by decide), tk_u2_nk (by decide), tk_u2_eq]; exact a2
        · dsimp only; rw [tk_u2_nk (by decide), tk_u2_eq]; exact a3
      · exfalso
        apply g
        unfold s_shOk at ho
        rw [if_pos e] at ho
        have := ho.1
        unfold s_in at this
        rw [w_in, Int32.lt_iff_toInt_lt, Int32.lt_iff_toInt_lt, (h3 e).1, show (0 : Int32).toInt = 0 from rfl, show ((6 : Int32) - 1).toInt = 5 from rfl]
        omega
theorem x_bec2 (t u : Nat) (l : List s_sh) (hl : ∀ s ∈ l, s_shOk s) (disj : t + 9 ≤ u ∨ u + 9 ≤ t) : ∀ (j i n : Nat) (m : tk_m), i + j = 6 → j < n → (∀ p q, p < 6 → q < 6 → m.2.2.2 (t + 1) p = m.2.2.2 (t + 1) q → p = q) → (∀ k s, l[k]? = some s → x_H s (u + 1 + 2 + (m.2.2.2 (u + 1) k).val) m) → (∀ k s, k < i → l[k]? = some s → x_H s (t + 1 + 2 + (m.2.2.2 (t + 1) k).val) m) → ∃ m', fS_become_2 n t u (Int32.ofNat i) m = fS_become_29 t u m' ∧ (∀ r, ¬ (t + 3 ≤ r ∧ r < t + 9) → tk_row m m' r) ∧ m'.2.2.2 = m.2.2.2 ∧ (∀ k s, k < 6 → l[k]? = some s → x_H s (t + 1 + 2 + (m.2.2.2 (t + 1) k).val) m') := by
  intro j
  induction j with
  | zero =>
    intro i n m h1 h2 h3 h4 h5
    obtain ⟨n, rfl⟩ : ∃ k, n = k + 1 := ⟨n - 1, by omega⟩
    have hi : i = 6 := by omega
    subst hi
    unfold fS_become_2
    rw [if_pos (by decide)]
    exact ⟨m, rfl, fun r _ => tk_row_rf m r, rfl, h5⟩
  | succ j ih =>
    intro i n m h1 h2 h3 h4 h5
    obtain ⟨n, rfl⟩ : ∃ k, n = k + 1 := ⟨n - 1, by omega⟩
    have p1 := (m.2.2.2 (t + 1) i).isLt
    have p2 := (m.2.2.2 (u + 1) i).isLt
    unfold fS_become_2
    rw [if_neg (show ¬ (6 : Int32) ≤ Int32.ofNat i from fun z => absurd ((i_le (a := 6) (by omega) (by omega)).mp z) (by omega)), if_pos (i_ok (show i < 6 by omega) (by omega)), i_nn (by omega), show Int32.ofNat i + 1 = Int32.ofNat (i + 1) from i_add i 1]
    obtain ⟨m1, e1, e2, e3, e4⟩ := x_becomeH (t + 1 + 2 + (m.2.2.2 (t + 1) i).val) (u + 1 + 2 + (m.2.2.2 (u + 1) i).val) (by omega) m
    rw [e1, Option.bind_some]
    obtain ⟨m', g1, g2, g3, g4⟩ := ih (i + 1) n m1 (by omega) (by omega) (by rw [e3]; exact h3) (by
      intro k s hk
      rw [e3]
      have := (m.2.2.2 (u + 1) k).isLt
      exact x_H_k (h4 k s hk) (e2 _ (by omega))) (by
      intro k s hk hs
      rw [e3]
      by_cases e : k = i
      · subst e
        exact e4 s (h4 k s hs) (hl s (List.mem_of_getElem? hs))
      · refine x_H_k (h5 k s (by omega) hs) (e2 _ ?_)
        intro q
        exact e (h3 k i (by omega) (by omega) (Fin.ext (show (m.2.2.2 (t + 1) k).val = (m.2.2.2 (t + 1) i).val by omega))))
    refine ⟨m', g1, fun r hr => tk_row_tr (e2 r (by omega)) (g2 r hr), by rw [g3, e3], ?_⟩
    rw [e3] at g4
    exact g4
theorem x_becS {t u : Nat} {c : s_sn} (h : x_S c u m) (hc : s_snOk c) (hp : ∀ p q, p < 6 → q < 6 → m.2.2.2 (t + 1) p = m.2.2.2 (t + 1) q → p = q) (disj : t + 9 ≤ u ∨ u + 9 ≤ t) : ∃ m', fS_become t u m = some m' ∧ x_S c t m' ∧ (∀ r, ¬ (t ≤ r ∧ r < t + 9) → tk_row m m' r) ∧ m'.2.2.1 t 4 = true ∧ m'.2.2.2 = m.2.2.2 := by
  obtain ⟨h1, h2, ⟨h3, h3b, h3c⟩, h4, h5⟩ := h
  obtain ⟨m1, e1, e2, e3, e4⟩ := x_bec2 t u c.1 hc.2 disj 6 0 tk_F m (by omega) (by unfold tk_F; omega) hp h4 (fun k s hk => by omega)
  unfold fS_become
  rw [show (0 : Int32) = Int32.ofNat 0 from rfl, e1]
  have n1 : u ≠ t := by omega
  have n2 : u + 2 ≠ t := by omega
  have n3 : u ≠ t + 2 := by omega
  have n4 : u + 2 ≠ t + 2 := by omega
  have r1 := (e2 u (by omega)).1
  have r2 := (e2 (u + 2) (by omega)).1
  unfold fS_become_29 tk_let fS_choose
  dsimp only
  rw [tk_u2_ne n2, tk_u2_ne n3, tk_u2_ne n3, tk_u2_ne n3, tk_u2_ne n1, r1, r2, h1, h2, h3, h3b, h3c]
  refine ⟨_, rfl, ⟨?_, ?_, ⟨?_, ?_, ?_⟩, ?_, ?_⟩, ?_, ?_, ?_⟩
  · dsimp only; rw [tk_u2_nk (by decide), tk_u2_ne (by omega), tk_u2_ne (by omega), tk_u2_ne (by omega), tk_u2_eq]
  · dsimp only; rw [tk_u2_eq]
  · dsimp only; rw [tk_u2_ne (by omega), tk_u2_nk (by decide), tk_u2_nk (by decide), tk_u2_eq]
  · dsimp only; rw [tk_u2_ne (by omega), tk_u2_nk (by decide), tk_u2_eq]
  · dsimp only; rw [tk_u2_ne (by omega), tk_u2_eq]
  · intro i s hs
    dsimp only
    rw [e3]
    have hi : i < 6 := by
      have := (List.getElem?_eq_some_iff.mp hs).1
      have := hc.1
      omega
    have hx := e4 i s hi hs
    have := (m.2.2.2 (t + 1) i).isLt
    unfold x_H at hx ⊢
    dsimp only
    rw [tk_u2_ne (by omega), tk_u2_ne (by omega), tk_u2_ne (by omega), tk_u2_ne (by omega), tk_u2_ne (by omega), tk_u2_ne (by omega)]
    exact hx
  · dsimp only; rw [e3]; exact hp
  · intro r hr
    obtain ⟨q1, q2, q3, q4⟩ := e2 r (by omega)
    exact ⟨by dsimp only; rw [tk_u2_ne (by omega), tk_u2_ne (by omega), tk_u2_ne (by omega), tk_u2_ne (by omega), tk_u2_ne (by omega)]; exact q1, q2, by dsimp only; rw [tk_u2_ne (by omega)]; exact q3, q4⟩
  · dsimp only; exact tk_u2_eq
  · dsimp only; exact e3
def o_image (a : s_as) : Int32 × s_as := if a.2.1.length < 8 then (Int32.ofNat (a.2.1.length + 1), (a.1, a.2.1 ++ [a.1], a.2.2)) else s_fd a 1
def o_back (a : s_as) : Int32 × s_as := match a.2.1.getLast? with
  | none => s_fd a 3
  | some c => (Int32.ofNat c.1.length, (c, a.2.1.dropLast, a.2.2))
theorem x_image (HK : x_K K) (ha : s_Ok a) (h : x_X K a m) : x_does K m (fX_image m) (o_image a) := by
  have hp := ha.2.1
  obtain ⟨b1, b2, b3, b4, b5, b6, b7⟩ := h
  have hn := b3.1
  unfold fX_image o_image
  rw [hn]
  refine x_ite (i_lt (b := 8) (by omega) (by omega)) (fun g => ?_) (fun _ => x_bt (x_find HK ha ⟨b1, b2, b3, b4, b5, b6, b7⟩ 1 (by decide)))
  refine x_grd (i_ok g (by omega)) ?_
  rw [i_nn (by omega)]
  obtain ⟨m1, e1, e2, e3, e4, e5⟩ := x_becS (t := 203 + 9 * a.2.1.length) b2 ha.1 (by rw [show 203 + 9 * a.2.1.length + 1 = 204 + 9 * a.2.1.length by omega]; exact b3.2.2 _ g) (by omega)
  rw [e1, Option.bind_some]
  have r0 : m1.1 0 2 = Int32.ofNat a.2.1.length := by rw [(e3 0 (by omega)).1]; exact hn
  rw [tk_u2_eq, r0, show Int32.ofNat a.2.1.length + 1 = Int32.ofNat (a.2.1.length + 1) from i_add _ 1]
  have fr : ∀ r, r ≠ 0 → ¬ (203 + 9 * a.2.1.length ≤ r ∧ r < 203 + 9 * a.2.1.length + 9) → tk_row m (tk_u2 m1.1 0 2 (Int32.ofNat (a.2.1.length + 1)), m1.2.1, m1.2.2.1, m1.2.2.2) r := fun r h0 h1 => by
    obtain ⟨q1, q2, q3, q4⟩ := e3 r h1
    exact ⟨by dsimp only; rw [tk_u2_ne h0]; exact q1, q2, q3, q4⟩
  refine ⟨_, rfl, ⟨x_F_k b1 (fr 202 (by omega) (by omega)), x_S_k b2 (fun r h1 h2 => fr r (by omega) (by omega)), ⟨?_, ?_, ?_⟩, x_N_k b4 (fun r h1 h2 => fr r (by omega) (by omega)), x_T_k b5 (fun r h1 h2 => fr r (by omega) (by omega)), x_Z_k b6 (fr 14 (by omega) (by omega)) (fr 15 (by omega) (by omega)), fun hc => ?_⟩, fun r hr => fr r (by omega) (by omega)⟩
  · dsimp only; rw [tk_u2_eq, List.length_append]; rfl
  · intro i c hc
    dsimp only at hc
    by_cases hi : i < a.2.1.length
    · rw [List.getElem?_append_left hi] at hc
      exact x_S_k (b3.2.1 i c hc) (fun r h1 h2 => fr r (by omega) (by omega))
    · have hi2 := (List.getElem?_eq_some_iff.mp hc).1
      rw [List.length_append] at hi2
      have hi3 : i = a.2.1.length := by simp at hi2; omega
      subst hi3
      rw [List.getElem?_append_right (Nat.le_refl _), Nat.sub_self] at hc
      have : a.1 = c := Option.some.inj hc
      subst this
      refine x_S_k e2 (fun r h1 h2 => ⟨?_, rfl, rfl, rfl⟩)
      dsimp only
      rw [tk_u2_ne (by omega)]
  · intro i hi
    dsimp only
    rw [e5]
    exact b3.2.2 i hi
  · rw [(fr 1 (by omega) (by omega)).2.2.1] at hc
    exact HK _ _ _ _ (fun r h1 h2 => fr r (by omega) (by omega)) (b7 hc)
theorem x_back (HK : x_K K) (ha : s_Ok a) (h : x_X K a m) : x_does K m (fX_back m) (o_back a) := by
  have hp := ha.2.1
  obtain ⟨b1, b2, b3, b4, b5, b6, b7⟩ := h
  have hn := b3.1
  unfold fX_back o_back
  rw [hn]
  cases hlast : a.2.1.getLast? with
  | none =>
    have h0 : a.2.1.length = 0 := by rw [List.getLast?_eq_none_iff] at hlast; rw [hlast]; rfl
    rw [h0, if_neg (by decide)]
    exact x_bt (x_find HK ha ⟨b1, b2, b3, b4, b5, b6, b7⟩ 3 (by decide))
  | some c =>
    obtain ⟨l, hl⟩ := List.getLast?_eq_some_iff.mp hlast
    have hlen : a.2.1.length = l.length + 1 := by rw [hl, List.length_append]; rfl
    have hdl : a.2.1.dropLast = l := by rw [hl, List.dropLast_concat]
    have hget : a.2.1[l.length]? = some c := by rw [hl, List.getElem?_append_right (Nat.le_refl _), Nat.sub_self]; rfl
    have hcok : s_snOk c := ha.2.2.1 c (List.mem_of_getElem? hget)
    dsimp only
    rw [hlen, if_pos (show (0 : Int32) < Int32.ofNat (l.length + 1) from (i_lt (a := 0) (by omega) (by omega)).mpr (by omega)), tk_u2_eq, i_suc (by omega), if_pos (i_ok (show l.length < 8 by omega) (by omega)), i_nn (by omega), hdl]
    have hS := b3.2.1 l.length c hget
    have fr0 : ∀ r, r ≠ 0 → tk_row m (tk_u2 m.1 0 2 (Int32.ofNat l.length), m.2.1, m.2.2.1, m.2.2.2) r := fun r hr => tk_row_u hr
    obtain ⟨m1, e1, e2, e3, e4, e5⟩ := x_becS (t := 1) (m := (tk_u2 m.1 0 2 (Int32.ofNat l.length), m.2.1, m.2.2.1, m.2.2.2)) (x_S_k hS (fun r h1 h2 => fr0 r (by omega))) hcok b2.2.2.2.2 (by omega)
    rw [e1, Option.bind_some]
    have fr : ∀ r, r ≠ 0 → ¬ (1 ≤ r ∧ r < 10) → tk_row m m1 r := fun r h0 h1 => tk_row_tr (fr0 r h0) (e3 r (by omega))
    rw [e2.1]
    refine ⟨_, rfl, ⟨x_F_k b1 (fr 202 (by omega) (by omega)), e2, ⟨?_, ?_, ?_⟩, x_N_k b4 (fun r h1 h2 => fr r (by omega) (by omega)), x_T_k b5 (fun r h1 h2 => fr r (by omega) (by omega)), x_Z_k b6 (fr 14 (by omega) (by omega)) (fr 15 (by omega) (by omega)), fun hc => ?_⟩, fun r hr => fr r (by omega) (by omega)⟩
    · rw [(e3 0 (by omega)).1]
      dsimp only
      rw [tk_u2_eq]
    · intro i c' hc'
      dsimp only at hc'
      have hi := (List.getElem?_eq_some_iff.mp hc').1
      refine x_S_k (b3.2.1 i c' ?_) (fun r h1 h2 => fr r (by omega) (by omega))
      rw [hl, List.getElem?_append_left hi]
      exact hc'
    · intro i hi
      rw [e5]
      exact b3.2.2 i hi
    · rw [e4] at hc; cases hc
theorem o_image_ok (ha : s_Ok a) : s_Ok (o_image a).2 := by
  unfold o_image
  by_cases g : a.2.1.length < 8
  · rw [if_pos g]
    refine ⟨ha.1, by show (a.2.1 ++ [a.1]).length ≤ 8; rw [List.length_append]; simp; omega, fun c hc => ?_, ha.2.2.2⟩
    rcases List.mem_append.mp hc with q | q
    · exact ha.2.2.1 c q
    · rw [List.mem_singleton.mp q]; exact ha.1
  · rw [if_neg g]; exact ha
theorem o_back_ok (ha : s_Ok a) : s_Ok (o_back a).2 := by
  unfold o_back
  cases hlast : a.2.1.getLast? with
  | none => exact ha
  | some c =>
    obtain ⟨l, hl⟩ := List.getLast?_eq_some_iff.mp hlast
    have hp := ha.2.1
    have hdl : a.2.1.dropLast = l := by rw [hl, List.dropLast_concat]
    dsimp only
    rw [hdl]
    rw [hl, List.length_append] at hp
    refine ⟨ha.2.2.1 c (by rw [hl]; simp), by show l.length ≤ 8; simp at hp; omega, fun c' hc' => ha.2.2.1 c' (by rw [hl]; simp [hc']), ha.2.2.2⟩
/-! the reference's images -/
theorem y_S_row {c : s_sn} {r r' : Nat} (h : y_S c r m) (hc : c.1.length ≤ 6) (e : ∀ k, k < 29 → m'.1 r' k = m.1 r k) : y_S c r' m' := by
  obtain ⟨h1, h2, ⟨h3, h3b, h3c⟩, h4⟩ := h
  refine ⟨by rw [e 0 (by decide)]; exact h1, by rw [e 4 (by decide)]; exact h2, ⟨by rw [e 1 (by decide)]; exact h3, by rw [e 2 (by decide)]; exact h3b, by rw [e 3 (by decide)]; exact h3c⟩, fun i s hs => ?_⟩
  have hi := (List.getElem?_eq_some_iff.mp hs).1
  obtain ⟨q1, q2, q3, q4⟩ := h4 i s hs
  exact ⟨by rw [e _ (by omega)]; exact q1, by rw [e _ (by omega)]; exact q2, by rw [e _ (by omega)]; exact q3, by rw [e _ (by omega)]; exact q4⟩
theorem y_im17 (p : Nat) (hp : p < 8) : ∀ (j i n : Nat) (m : tk_m), i + j = 29 → j < n → m.1 295 2 = Int32.ofNat p → (∀ k, k < i → m.1 (298 + p) k = m.1 296 k) → ∃ I, fM_image_17 n (Int32.ofNat i) m = fM_image_46 (I, m.2.1, m.2.2.1, m.2.2.2) ∧ (∀ r, r ≠ 298 + p → I r = m.1 r) ∧ (∀ k, k < 29 → I (298 + p) k = m.1 296 k) := by
  intro j
  induction j with
  | zero =>
    intro i n m h1 h2 h3 h4
    obtain ⟨n, rfl⟩ : ∃ k, n = k + 1 := ⟨n - 1, by omega⟩
    have hi : i = 29 := by omega
    subst hi
    unfold fM_image_17
    rw [if_pos (by decide)]
    exact ⟨m.1, rfl, fun _ _ => rfl, h4⟩
  | succ j ih =>
    intro i n m h1 h2 h3 h4
    obtain ⟨n, rfl⟩ : ∃ k, n = k + 1 := ⟨n - 1, by omega⟩
    unfold fM_image_17
    rw [if_neg (show ¬ (29 : Int32) ≤ Int32.ofNat i from fun z => absurd ((i_le (a := 29) (by omega) (by omega)).mp z) (by omega)), h3, if_pos (i_ok hp (by omega)), if_pos (i_ok (show i < 29 by omega) (by omega)), i_nn (by omega), i_nn (by omega), show Int32.ofNat i + 1 = Int32.ofNat (i + 1) from i_add i 1]
    obtain ⟨I, e1, e2, e3⟩ := ih (i + 1) n (tk_u2 m.1 (298 + p) i (m.1 296 i), m.2.1, m.2.2.1, m.2.2.2) (by omega) (by omega) (by dsimp only; rw [tk_u2_ne (by omega)]; exact h3) (by
      intro k hk
      dsimp only
      rw [tk_u2_ne (show 296 ≠ 298 + p by omega)]
      by_cases e : k = i
      · rw [e, tk_u2_eq]
      · rw [tk_u2_nk e]; exact h4 k (by omega))
    refine ⟨I, e1, fun r hr => by rw [e2 r hr]; exact tk_u2_ne hr, fun k hk => ?_⟩
    rw [e3 k hk]
    dsimp only
    rw [tk_u2_ne (by omega)]
theorem y_bk25 (p : Nat) (hp : p < 8) : ∀ (j i n : Nat) (m : tk_m), i + j = 29 → j < n → m.1 295 2 = Int32.ofNat p → (∀ k, k < i → m.1 296 k = m.1 (298 + p) k) → ∃ I, fM_back_25 n (Int32.ofNat i) m = some (I 296 0, (I, m.2.1, m.2.2.1, m.2.2.2)) ∧ (∀ r, r ≠ 296 → I r = m.1 r) ∧ (∀ k, k < 29 → I 296 k = m.1 (298 + p) k) := by
  intro j
  induction j with
  | zero =>
    intro i n m h1 h2 h3 h4
    obtain ⟨n, rfl⟩ : ∃ k, n = k + 1 := ⟨n - 1, by omega⟩
    have hi : i = 29 := by omega
    subst hi
    unfold fM_back_25
    rw [if_pos (by decide)]
    exact ⟨m.1, rfl, fun _ _ => rfl, h4⟩
  | succ j ih =>
    intro i n m h1 h2 h3 h4
    obtain ⟨n, rfl⟩ : ∃ k, n = k + 1 := ⟨n - 1, by omega⟩
    unfold fM_back_25
    rw [if_neg (show ¬ (29 : Int32) ≤ Int32.ofNat i from fun z => absurd ((i_le (a := 29) (by omega) (by omega)).mp z) (by omega)), h3, if_pos (i_ok hp (by omega)), if_pos (i_ok (show i < 29 by omega) (by omega)), i_nn (by omega), i_nn (by omega), show Int32.ofNat i + 1 = Int32.ofNat (i + 1) from i_add i 1]
    obtain ⟨I, e1, e2, e3⟩ := ih (i + 1) n (tk_u2 m.1 296 i (m.1 (298 + p) i), m.2.1, m.2.2.1, m.2.2.2) (by omega) (by omega) (by dsimp only; rw [tk_u2_ne (by omega)]; exact h3) (by
      intro k hk
      dsimp only
      rw [tk_u2_ne (show 298 + p ≠ 296 by omega)]
      by_cases e : k = i
      · rw [e, tk_u2_eq]
      · rw [tk_u2_nk e]; exact h4 k (by omega))
    refine ⟨I, e1, fun r hr => by rw [e2 r hr]; exact tk_u2_ne hr, fun k hk => ?_⟩
    rw [e3 k hk]
    dsimp only
    rw [tk_u2_ne (by omega)]
theorem y_image (ha : s_Ok a) (h : y_Y a m) : y_does m (fM_image m) (o_image a) := by
  have hp := ha.2.1
  obtain ⟨b1, b2, b3, b4, b5⟩ := h
  have hn := b3.1
  unfold fM_image o_image
  rw [hn]
  by_cases g : a.2.1.length < 8
  · rw [if_neg (show ¬ Int32.ofNat a.2.1.length = 8 from fun q => absurd ((i_eq (b := 8) (by omega) (by omega)).mp q) (by omega)), if_pos g]
    obtain ⟨I, e1, e2, e3⟩ := y_im17 a.2.1.length g 29 0 tk_F m (by omega) (by unfold tk_F; omega) hn (fun k hk => by omega)
    rw [show (0 : Int32) = Int32.ofNat 0 from rfl, e1]
    unfold fM_image_46
    dsimp only
    rw [tk_u2_eq, e2 295 (by omega), hn, show Int32.ofNat a.2.1.length + 1 = Int32.ofNat (a.2.1.length + 1) from i_add _ 1]
    have fr : ∀ r, r ≠ 295 → r ≠ 298 + a.2.1.length → tk_row m (tk_u2 I 295 2 (Int32.ofNat (a.2.1.length + 1)), m.2.1, m.2.2.1, m.2.2.2) r := fun r h0 h1 => ⟨by dsimp only; rw [tk_u2_ne h0]; exact e2 r h1, rfl, rfl, rfl⟩
    refine ⟨_, rfl, ⟨y_F_k b1 (fr 306 (by omega) (by omega)), y_S_k b2 (fr 296 (by omega) (by omega)), ⟨?_, ?_⟩, y_N_k b4 (fun r h1 h2 => fr r (by omega) (by omega)), y_T_k b5 (fun r h1 h2 => fr r (by omega) (by omega))⟩, fun r hr => fr r (by omega) (by omega)⟩
    · dsimp only; rw [tk_u2_eq, List.length_append]; rfl
    · intro i c hc
      dsimp only at hc
      by_cases hi : i < a.2.1.length
      · rw [List.getElem?_append_left hi] at hc
        exact y_S_k (b3.2 i c hc) (fr _ (by omega) (by omega))
      · have hi2 := (List.getElem?_eq_some_iff.mp hc).1
        rw [List.length_append] at hi2
        have hi3 : i = a.2.1.length := by simp at hi2; omega
        subst hi3
        rw [List.getElem?_append_right (Nat.le_refl _), Nat.sub_self] at hc
        have : a.1 = c := Option.some.inj hc
        subst this
        refine y_S_row b2 (s_len ha) (fun k hk => ?_)
        dsimp only
        rw [tk_u2_ne (by omega)]
        exact e3 k hk
  · rw [if_pos (show Int32.ofNat a.2.1.length = 8 from (i_eq (b := 8) (by omega) (by omega)).mpr (by omega)), if_neg g]
    exact y_bt (y_find ha ⟨b1, b2, b3, b4, b5⟩ 1 (by decide))
theorem y_back (ha : s_Ok a) (h : y_Y a m) : y_does m (fM_back m) (o_back a) := by
  have hp := ha.2.1
  obtain ⟨b1, b2, b3, b4, b5⟩ := h
  have hn := b3.1
  unfold fM_back o_back
  rw [hn]
  cases hlast : a.2.1.getLast? with
  | none =>
    have h0 : a.2.1.length = 0 := by rw [List.getLast?_eq_none_iff] at hlast; rw [hlast]; rfl
    rw [h0, if_pos (by decide)]
    exact y_bt (y_find ha ⟨b1, b2, b3, b4, b5⟩ 3 (by decide))
  | some c =>
    obtain ⟨l, hl⟩ := List.getLast?_eq_some_iff.mp hlast
    have hlen : a.2.1.length = l.length + 1 := by rw [hl, List.length_append]; rfl
    have hdl : a.2.1.dropLast = l := by rw [hl, List.dropLast_concat]
    have hget : a.2.1[l.length]? = some c := by rw [hl, List.getElem?_append_right (Nat.le_refl _), Nat.sub_self]; rfl
    have hcok : s_snOk c := ha.2.2.1 c (List.mem_of_getElem? hget)
    dsimp only
    rw [hlen, if_neg (show ¬ Int32.ofNat (l.length + 1) = 0 from fun q => absurd ((i_eq (b := 0) (by omega) (by omega)).mp q) (by omega)), i_suc (by omega), hdl]
    obtain ⟨I, e1, e2, e3⟩ := y_bk25 l.length (by omega) 29 0 tk_F (tk_u2 m.1 295 2 (Int32.ofNat l.length), m.2.1, m.2.2.1, m.2.2.2) (by omega) (by unfold tk_F; omega) (by dsimp only; rw [tk_u2_eq]) (fun k hk => by omega)
    dsimp only at e1 e2 e3
    rw [show (0 : Int32) = Int32.ofNat 0 from rfl, e1]
    have fr : ∀ r, r ≠ 295 → r ≠ 296 → tk_row m (I, m.2.1, m.2.2.1, m.2.2.2) r := fun r h0 h1 => ⟨by dsimp only; rw [e2 r h1, tk_u2_ne h0], rfl, rfl, rfl⟩
    have hS := b3.2 l.length c hget
    have hS2 : y_S c 296 (I, m.2.1, m.2.2.1, m.2.2.2) := y_S_row hS hcok.1 (fun k hk => by dsimp only; rw [e3 k hk, tk_u2_ne (by omega)])
    rw [show I 296 0 = Int32.ofNat c.1.length from hS2.1]
    refine ⟨_, rfl, ⟨y_F_k b1 (fr 306 (by omega) (by omega)), hS2, ⟨?_, ?_⟩, y_N_k b4 (fun r h1 h2 => fr r (by omega) (by omega)), y_T_k b5 (fun r h1 h2 => fr r (by omega) (by omega))⟩, fun r hr => fr r (by omega) (by omega)⟩
    · dsimp only; rw [e2 295 (by omega), tk_u2_eq]
    · intro i c' hc'
      dsimp only at hc'
      have hi := (List.getElem?_eq_some_iff.mp hc').1
      refine y_S_k (b3.2 i c' ?_) (fr _ (by omega) (by omega))
      rw [hl, List.getElem?_append_left hi]
      exact hc'
end

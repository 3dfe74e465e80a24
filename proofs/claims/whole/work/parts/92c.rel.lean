/-! ===== both sides hold the same at the start ===== -/
def tk_chk (M : tk_M) : Bool := (List.range 8).all (fun k => decide (M.2.1 202 k = 0) && decide (M.2.1 306 k = 0)) && decide (M.2.1 1 1 = 0) && decide (M.2.1 1 3 = 1) && decide (M.2.1 3 0 = 0) && decide (M.2.1 3 1 = 1) && decide (M.2.1 3 2 = 2) && decide (M.2.1 0 2 = 0) && (List.range 6).all (fun i => decide (M.2.2.2.1 (275 + 2 * i) 0 = false) && decide (M.2.2.2.1 450 i = false)) && (List.range 4).all (fun i => decide (M.2.1 (287 + 2 * i) 0 = -1) && decide (M.2.1 (287 + 2 * i) 1 = 0) && decide (M.2.1 442 i = -1) && decide (M.2.1 443 i = 0) && (List.range 40).all (fun k => decide (M.2.2.1 (287 + 2 * i + 1) k = 0) && decide (M.2.2.1 (445 + i) k = 0))) && decide (M.2.2.1 15 0 = 0) && decide (M.2.2.1 15 1 = 0) && decide (M.2.2.1 15 2 = 1) && decide (M.2.2.1 14 2 = 0) && decide (M.2.2.2.1 1 4 = true) && decide (M.2.1 296 0 = 0) && decide (M.2.1 296 1 = 0) && decide (M.2.1 296 2 = 1) && decide (M.2.1 296 3 = 2) && decide (M.2.1 296 4 = 1) && decide (M.2.1 295 2 = 0)
def tk_c0ok : Bool := match tk_u0 with
  | some (_, _, M) => tk_chk M
  | none => false
set_option maxRecDepth 100000 in
theorem tk_c0_ok : tk_c0ok = true := by decide +kernel
theorem tk_c0_is : tk_chk tk_M2 = true := by
  have h := tk_c0_ok
  unfold tk_c0ok at h
  split at h
  · rename_i ls st M hu
    have e : tk_M2 = M := by
      unfold tk_M2
      rw [hu]
      rfl
    rw [e]
    exact h
  · cases h
def tk_a0 : s_as := (([], (0, 1, 2), 1), [], (fun _ => none), (fun _ => (-1, 0, fun _ => 0)), fun _ => 0)
theorem tk_P0inj : ∀ i j k, j < 6 → k < 6 → tk_P0 i j = tk_P0 i k → j = k := by
  intro i j k hj hk h
  have h2 := congrArg Fin.val h
  have e : ∀ n, n < 6 → (tk_P0 i n).val = n := fun n hn => by
    show n % 6 = n
    exact Nat.mod_eq_of_lt hn
  rw [e j hj, e k hk] at h2
  exact h2
theorem tk_a0ok : s_Ok tk_a0 := by
  refine ⟨⟨by decide, fun s hs => ?_⟩, by decide, fun c hc => ?_, fun i n hn => ?_, fun i => ⟨?_, ?_⟩⟩
  · cases hs
  · cases hc
  · cases hn
  · show 0 ≤ 40; decide
  · show s_in (-1) (-1) 2; exact ⟨by decide, by decide⟩
theorem tk_RRg {M : tk_M} (h : tk_chk M = true) : tk_RR (M.2.1, M.2.2.1, M.2.2.2.1, tk_P0) := by
  unfold tk_chk at h
  simp only [Bool.and_eq_true, decide_eq_true_eq, List.all_eq_true, List.mem_range] at h
  obtain ⟨⟨⟨⟨⟨⟨⟨⟨⟨⟨⟨⟨⟨⟨⟨⟨⟨⟨⟨h1, h2⟩, h3⟩, h4⟩, h5⟩, h6⟩, h7⟩, h8⟩, h9⟩, h10⟩, h11⟩, h12⟩, h13⟩, h14⟩, h15⟩, h16⟩, h17⟩, h18⟩, h19⟩, h20⟩ := h
  refine ⟨tk_a0, tk_a0ok, ⟨?_, ?_, ?_, ?_, ?_, ?_, ?_⟩, ?_, ?_, ?_, ?_, ?_⟩
  · exact fun k hk => (h1 k hk).1
  · exact ⟨h2, h3, ⟨h4, h5, h6⟩, fun i s hs => by simp [tk_a0] at hs, fun i j hi hj hq => tk_P0inj 2 i j hi hj hq⟩
  · exact ⟨h7, fun i c hc => by simp [tk_a0] at hc, fun i _ j k hj hk hq => tk_P0inj (204 + 9 * i) j k hj hk hq⟩
  · exact fun i hi => ⟨(h8 i hi).1, fun v hv => by cases hv⟩
  · exact fun i hi => ⟨(h9 i hi).1.1.1.1, (h9 i hi).1.1.1.2, fun k hk => ((h9 i hi).2 k hk).1⟩
  · exact ⟨h10, h11, h12, h13⟩
  · intro hf
    have hf' : M.2.2.2.1 1 4 = false := hf
    rw [h14] at hf'
    cases hf'
  · exact fun k hk => (h1 k hk).2
  · exact ⟨h15, h19, ⟨h16, h17, h18⟩, fun i s hs => by simp [tk_a0] at hs⟩
  · exact ⟨h20, fun i c hc => by simp [tk_a0] at hc⟩
  · exact fun i hi => ⟨(h8 i hi).2, fun v hv => by cases hv⟩
  · exact fun i hi => ⟨(h9 i hi).1.1.2, (h9 i hi).1.2, fun k hk => ((h9 i hi).2 k hk).2⟩
theorem tk_RR0 : tk_RR tk_s0 := by
  have e : tk_s0 = (tk_M2.2.1, tk_M2.2.2.1, tk_M2.2.2.2.1, tk_P0) := by unfold tk_s0; exact Eq.refl _
  rw [e]
  exact tk_RRg tk_c0_is
theorem tk_math : ∀ sc : tk_X, sc.1 ≤ 3072 → ∃ m' : tk_m, fL_law_18 sc tk_F 0 tk_s0 = some (true, m') := fun sc hsc => tk_law_true tk_ops_RR sc hsc tk_F 0 tk_s0 tk_RR0 (by unfold tk_F; omega) (by omega)

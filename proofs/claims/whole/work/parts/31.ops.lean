/-! ===== calls: what they do, and that both sides do it ===== -/
def s_nmOk (n : s_nm) : Prop := 0 < n.2.2.2.toInt ∧ (n.2.1 = 0 → n.2.2.1 = 0) ∧ (n.2.1 ≠ 0 → 1 < n.2.2.1.toInt ∧ n.2.2.1.toInt ≤ 100000000 ∧ ∀ k : Int, k * k ∣ n.2.2.1.toInt → k * k = 1)
def s_Ok (a : s_as) : Prop := s_snOk a.1 ∧ a.2.1.length ≤ 8 ∧ (∀ c ∈ a.2.1, s_snOk c) ∧ (∀ i n, a.2.2.1 i = some n → s_nmOk n) ∧ ∀ i, (a.2.2.2.1 i).2.1 ≤ 40 ∧ s_in (a.2.2.2.1 i).1 (-1) 2
/-- the class holds a; K: what the finder's rows hold while nothing has changed -/
def x_X (K : List s_sh → Int32 × Int32 × Int32 → tk_m → Prop) (a : s_as) (m : tk_m) : Prop := x_F a.2.2.2.2 m ∧ x_S a.1 1 m ∧ x_P a.2.1 m ∧ x_N a.2.2.1 m ∧ x_T a.2.2.2.1 m ∧ x_Z m ∧ (m.2.2.1 1 4 = false → K a.1.1 a.1.2.1 m)
def y_Y (a : s_as) (m : tk_m) : Prop := y_F a.2.2.2.2 m ∧ y_S a.1 296 m ∧ y_P a.2.1 m ∧ y_N a.2.2.1 m ∧ y_T a.2.2.2.1 m
def x_K (K : List s_sh → Int32 × Int32 × Int32 → tk_m → Prop) : Prop := ∀ l t m m', (∀ r, (r = 39 ∨ 61 ≤ r) → r ≤ 201 → tk_row m m' r) → K l t m → K l t m'
def x_does {α : Type} (K : List s_sh → Int32 × Int32 × Int32 → tk_m → Prop) (m : tk_m) (res : Option (α × tk_m)) (o : α × s_as) : Prop := ∃ m1, res = some (o.1, m1) ∧ x_X K o.2 m1 ∧ tk_hi m m1
def y_does {α : Type} (m : tk_m) (res : Option (α × tk_m)) (o : α × s_as) : Prop := ∃ m1, res = some (o.1, m1) ∧ y_Y o.2 m1 ∧ tk_lo m m1
theorem tk_beta {α : Type} (x : Option (α × tk_m)) : (x.bind fun o => some (o.1, o.2)) = x := by cases x <;> rfl
def s_found (a : s_as) (k : Nat) : s_as := (a.1, a.2.1, a.2.2.1, a.2.2.2.1, fun j => if j = k then a.2.2.2.2 j + 1 else a.2.2.2.2 j)
def s_fd (a : s_as) (k : Nat) : Int32 × s_as := ((-1000001 : Int32) - Int32.ofNat k, s_found a k)
def s_fdl (a : s_as) (k : Nat) : Int64 × s_as := ((-4000000000000000001 : Int64) - (Int32.ofNat k).toInt64, s_found a k)
section X1
variable {K : List s_sh → Int32 × Int32 × Int32 → tk_m → Prop} {a : s_as} {m : tk_m}
theorem tk_hi_u {m : tk_m} {i k : Nat} {v : Int32} (h : i < 295) : tk_hi m (tk_u2 m.1 i k v, m.2.1, m.2.2.1, m.2.2.2) := fun r hr => tk_row_u (by omega)
theorem tk_lo_u {m : tk_m} {i k : Nat} {v : Int32} (h : 295 ≤ i) : tk_lo m (tk_u2 m.1 i k v, m.2.1, m.2.2.1, m.2.2.2) := fun r hr => tk_row_u (by omega)
theorem x_find (HK : x_K K) (ha : s_Ok a) (h : x_X K a m) (k : Nat) (hk : k < 8) : x_does K m (fX_finding (Int32.ofNat k) m) (s_fd a k) := by
  have h1 : fX_isWithin (Int32.ofNat k) 0 7 = true := w_in.mpr ⟨i_neg (by omega), fun q => absurd ((i_lt (a := 7) (b := k) (by omega) (by omega)).mp q) (by omega)⟩
  have hn := i_nn (k := k) (by omega)
  obtain ⟨b1, b2, b3, b4, b5, b6, b7⟩ := h
  refine ⟨(tk_u2 m.1 202 k (m.1 202 k + 1), m.2.1, m.2.2.1, m.2.2.2), ?_, ⟨?_, ?_, ?_, ?_, ?_, ?_, ?_⟩, tk_hi_u (by omega)⟩
  · unfold fX_finding
    rw [if_pos h1, if_pos (i_ok hk (by omega)), hn]
    rfl
  · intro j hj
    show tk_u2 m.1 202 k (m.1 202 k + 1) 202 j = if j = k then a.2.2.2.2 j + 1 else a.2.2.2.2 j
    by_cases e : j = k
    · subst e
      rw [tk_u2_eq, if_pos rfl, b1 j hj]
    · rw [tk_u2_nk e, if_neg e, b1 j hj]
  · exact x_S_k b2 (fun r h1 h2 => tk_row_u (by omega))
  · exact x_P_k ha.2.1 b3 (tk_rowi (tk_row_u (by decide))) (fun r h1 h2 => tk_row_u (by omega))
  · exact x_N_k b4 (fun r h1 h2 => tk_row_u (by omega))
  · exact x_T_k b5 (fun r h1 h2 => tk_row_u (by omega))
  · exact x_Z_k b6 (tk_row_u (by decide)) (tk_row_u (by decide))
  · exact fun q => HK _ _ _ _ (fun r h1 h2 => tk_row_u (by omega)) (b7 q)
theorem y_find (ha : s_Ok a) (h : y_Y a m) (k : Nat) (hk : k < 8) : y_does m (fM_finds (Int32.ofNat k) m) (s_fd a k) := by
  have hn := i_nn (k := k) (by omega)
  obtain ⟨b1, b2, b3, b4, b5⟩ := h
  refine ⟨(tk_u2 m.1 306 k (m.1 306 k + 1), m.2.1, m.2.2.1, m.2.2.2), ?_, ⟨?_, ?_, ?_, ?_, ?_⟩, tk_lo_u (by omega)⟩
  · unfold fM_finds
    rw [if_pos (i_ok hk (by omega)), hn]
    rfl
  · intro j hj
    show tk_u2 m.1 306 k (m.1 306 k + 1) 306 j = if j = k then a.2.2.2.2 j + 1 else a.2.2.2.2 j
    by_cases e : j = k
    · subst e
      rw [tk_u2_eq, if_pos rfl, b1 j hj]
    · rw [tk_u2_nk e, if_neg e, b1 j hj]
  · exact y_S_k b2 (tk_row_u (by decide))
  · exact y_P_k ha.2.1 b3 (tk_rowi (tk_row_u (by decide))) (fun r h1 h2 => tk_row_u (by omega))
  · exact y_N_k b4 (fun r h1 h2 => tk_row_u (by omega))
  · exact y_T_k b5 (fun r h1 h2 => tk_row_u (by omega))
theorem s_found_ok (ha : s_Ok a) (k : Nat) : s_Ok (s_found a k) := ha
theorem x_findl (HK : x_K K) (ha : s_Ok a) (h : x_X K a m) (k : Nat) (hk : k < 8) : x_does K m (fX_longFinding (Int32.ofNat k) m) (s_fdl a k) := by
  obtain ⟨m1, e, h1, h2⟩ := x_find HK ha h k hk
  refine ⟨m1, ?_, h1, h2⟩
  unfold fX_longFinding
  rw [e]
  rfl
theorem y_findl (ha : s_Ok a) (h : y_Y a m) (k : Nat) (hk : k < 8) : y_does m (fM_findsLong (Int32.ofNat k) m) (s_fdl a k) := by
  obtain ⟨m1, e, h1, h2⟩ := y_find ha h k hk
  refine ⟨m1, ?_, h1, h2⟩
  unfold fM_finds at e
  obtain ⟨g, e⟩ := tk_grd e
  have e2 := congrArg Prod.snd (Option.some.inj e)
  unfold fM_findsLong
  rw [if_pos g]
  dsimp only at e2
  rw [e2]
  rfl
end X1

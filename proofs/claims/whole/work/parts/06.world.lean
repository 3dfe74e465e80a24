/-! ===== the abstract memory and the heap ===== -/
def tk_nf (ci : Nat) : Nat := (tk_kd.getD ci []).length
def tk_kk (ci k : Nat) : Nat := (tk_kd.getD ci []).getD k 9
def tk_C (ci : Nat) : vw_C := vwCl.getD ci (RX0, TX0, 0)
def tk_kty (t : FieldType) : Nat := match t with
  | .int => 0
  | .long => 1
  | .boolean => 2
  | .object _ => 3
  | .array _ => 3
  | _ => 9
def tk_isNest (w : Cond) : Bool := match w with
  | .fieldLinkNest .. => true
  | .methodLinkNest .. => true
  | _ => false
def tk_isAO (w : Cond) : Bool := match w with
  | .arrayOver (.object _) => true
  | _ => false
def tk_useful (w : Cond) : Bool := goodWord w || (tk_isNest w || tk_isAO w)
/-- the words that a method's proof may use; those of them that a contract may carry as words -/
def tk_tbl : List Cond := lw_tbl.filter tk_useful
def tk_tb : List Cond := lw_tbl.filter goodWord
theorem tk_in_of {ws : List Cond} (ps : List Nat) (h : ws = ps.filterMap (fun i => lw_tbl[i]?)) (hu : ws.all tk_useful = true) : ∀ w ∈ ws, w ∈ tk_tbl := by
  intro w hw
  have h1 := List.all_eq_true.mp hu w hw
  rw [h] at hw
  obtain ⟨i, -, hi⟩ := List.mem_filterMap.mp hw
  exact List.mem_filter.mpr ⟨List.mem_of_getElem? hi, h1⟩
theorem inX0 : ∀ w ∈ wsX00, w ∈ tk_tbl := tk_in_of [241, 243, 245] (by decide +kernel) (by decide +kernel)
theorem inX1 : ∀ w ∈ wsX10, w ∈ tk_tbl := tk_in_of [356, 358, 360, 362, 364, 366] (by decide +kernel) (by decide +kernel)
theorem inX2 : ∀ w ∈ wsX20, w ∈ tk_tbl := tk_in_of [388, 390, 392, 394, 396, 398, 400, 402, 404, 406, 408, 410, 412, 414, 416] (by decide +kernel) (by decide +kernel)
theorem inX3 : ∀ w ∈ wsX30, w ∈ tk_tbl := tk_in_of [258, 260, 262, 264, 266, 268, 270, 272, 274, 276] (by decide +kernel) (by decide +kernel)
theorem inX4 : ∀ w ∈ wsX40, w ∈ tk_tbl := tk_in_of [223, 225, 227] (by decide +kernel) (by decide +kernel)
theorem inX5 : ∀ w ∈ wsX50, w ∈ tk_tbl := tk_in_of [187, 189, 191, 193, 195] (by decide +kernel) (by decide +kernel)
theorem inX6 : ∀ w ∈ wsX60, w ∈ tk_tbl := tk_in_of [157, 159, 161, 163, 165, 167, 169, 171, 173] (by decide +kernel) (by decide +kernel)
theorem inX7 : ∀ w ∈ wsX70, w ∈ tk_tbl := tk_in_of [431, 433, 435] (by decide +kernel) (by decide +kernel)
theorem inX8 : ∀ w ∈ wsX80, w ∈ tk_tbl := tk_in_of [328, 330, 332, 334] (by decide +kernel) (by decide +kernel)
theorem inX9 : ∀ w ∈ wsX90, w ∈ tk_tbl := tk_in_of [293, 295, 297, 299] (by decide +kernel) (by decide +kernel)
theorem inX10 : ∀ w ∈ wsX100, w ∈ tk_tbl := tk_in_of [447, 449, 451, 453, 455, 457, 459, 461, 463] (by decide +kernel) (by decide +kernel)
theorem inX11 : ∀ w ∈ wsX110, w ∈ tk_tbl := tk_in_of [1216, 1218, 1220, 1222, 1224, 1226, 1228, 1230, 1232, 1234, 1236, 1238, 1240, 1242, 1244, 1246, 1248, 1250, 1252, 1254, 1256, 1258, 1260, 1262, 1264, 1266, 1268, 1270, 1272, 1274, 1276] (by decide +kernel) (by decide +kernel)
theorem tk_cls (ci : Nat) (h : ci < 12) : vwCl[ci]? = some (tk_C ci) ∧ (∀ w ∈ u_ws (tk_C ci).1 (tk_C ci).2.1 (tk_C ci).2.2, w ∈ tk_tbl) ∧ (∀ k, k < (tk_C ci).2.2 → parseFieldDescriptor ((tk_C ci).2.1 k).2.2.1 = some (tk_ty0 ci k)) ∧
    (∀ a, a < (tk_C ci).2.2 → ∀ b, b < (tk_C ci).2.2 → a ≠ b → ((tk_C ci).2.1 a).2.1 ≠ ((tk_C ci).2.1 b).2.1) ∧ tk_nf ci = (tk_C ci).2.2 ∧ (∀ k, k < (tk_C ci).2.2 → tk_kty (tk_ty0 ci k) = tk_kk ci k) := by
  match ci, h with
  | 0, _ => exact ⟨rfl, inX0, tyX0_ok, nmX0, rfl, by decide⟩
  | 1, _ => exact ⟨rfl, inX1, tyX1_ok, nmX1, rfl, by decide⟩
  | 2, _ => exact ⟨rfl, inX2, tyX2_ok, nmX2, rfl, by decide⟩
  | 3, _ => exact ⟨rfl, inX3, tyX3_ok, nmX3, rfl, by decide⟩
  | 4, _ => exact ⟨rfl, inX4, tyX4_ok, nmX4, rfl, by decide⟩
  | 5, _ => exact ⟨rfl, inX5, tyX5_ok, nmX5, rfl, by decide⟩
  | 6, _ => exact ⟨rfl, inX6, tyX6_ok, nmX6, rfl, by decide⟩
  | 7, _ => exact ⟨rfl, inX7, tyX7_ok, nmX7, rfl, by decide⟩
  | 8, _ => exact ⟨rfl, inX8, tyX8_ok, nmX8, rfl, by decide⟩
  | 9, _ => exact ⟨rfl, inX9, tyX9_ok, nmX9, rfl, by decide⟩
  | 10, _ => exact ⟨rfl, inX10, tyX10_ok, nmX10, rfl, by decide⟩
  | 11, _ => exact ⟨rfl, inX11, tyX11_ok, nmX11, rfl, by decide⟩
  | n + 12, h => exact absurd h (by omega)
def tk_arr (ad : Nat → Nat) (M : tk_M) (t i : Nat) : (Nat → Int32) ⊕ (Nat → Int64) ⊕ (Nat → UInt32) ⊕ (Nat → UInt64) ⊕ (Nat → Option Nat) := match t with
  | 0 => .inl (M.2.1 i)
  | 1 => .inr (.inl (M.2.2.1 i))
  | 2 => .inl (fun j => tk_b (M.2.2.2.1 i j))
  | _ => .inr (.inr (.inr (.inr (fun j => (M.2.2.2.2 i j).map ad))))
def tk_fs (ad : Nat → Nat) (M : tk_M) (ci i : Nat) : List Value := (List.range (tk_nf ci)).map (fun k => tk_cv ad (tk_gf (tk_kk ci k) M i k))
def tk_cell (ad : Nat → Nat) (dA : Nat → ClassId) (M : tk_M) (i : Nat) : va_E := match tk_lay[i]? with
  | some (.inl ci) => .inr (ci, tk_fs ad M ci i)
  | some (.inr (t, n)) => .inl (dA t, n, tk_arr ad M t i)
  | none => .inr (0, [])
def tk_rep (B0 : Nat) (ad : Nat → Nat) (dA dC : Nat → ClassId) (dI : Nat → Nat → Nat) (M : tk_M) (H : Heap) : Prop :=
  (∀ i, i < M.1 → va_at (dC, dI) vwCl (B0 + i, tk_cell ad dA M i) H) ∧ (M.1 < tk_lay.length → H.size = B0 + M.1) ∧ M.1 ≤ tk_lay.length
def tk_tys (dA : Nat → ClassId) : List (ClassId × FieldType) := (List.range 12).map (fun t => (dA t, tk_at.getD t .int))
theorem tk_tys_get (dA : Nat → ClassId) {t : Nat} (h : t < 12) : (tk_tys dA)[t]? = some (dA t, tk_at.getD t .int) := by
  unfold tk_tys
  rw [List.getElem?_map, List.getElem?_range h]
  rfl
/-- the arrays that nobody writes: the classes' static ones (0 to 5), the script (6) -/
def tk_exs (B0 : Nat) (ex : Nat → Nat) (sc : tk_X) (U : State) (H : Heap) : Prop :=
  (∀ k, k < 7 → va_X (ex k) (tk_ext sc k).1 (tk_ext sc k).2 U H ∧ ex k < B0) ∧ ∀ k, k < 6 → va_Z (tk_stn k).1 (tk_stn k).2 "[I" (.ref (ex k)) (fun q => B0 ≤ q) U H
theorem tk_laylen : tk_lay.length = 460 := by decide +kernel
theorem tk_tags : tk_lay.all (fun c => match c with | .inl ci => decide (ci < 12) | .inr (t, n) => decide (t < 12) && decide (n ≤ 100000)) = true := by decide +kernel
theorem tk_tag {i t n : Nat} (h : tk_lay[i]? = some (.inr (t, n))) : t < 12 ∧ n ≤ 100000 := by
  have h1 := List.all_eq_true.mp tk_tags _ (List.mem_of_getElem? h)
  simp only [Bool.and_eq_true, decide_eq_true_eq] at h1
  exact h1
theorem tk_tagO {i ci : Nat} (h : tk_lay[i]? = some (.inl ci)) : ci < 12 := by
  have h1 := List.all_eq_true.mp tk_tags _ (List.mem_of_getElem? h)
  simpa using h1
theorem tk_cell_o {ad : Nat → Nat} {dA : Nat → ClassId} {M : tk_M} {i ci : Nat} (h : tk_lay[i]? = some (.inl ci)) : tk_cell ad dA M i = .inr (ci, tk_fs ad M ci i) := by
  unfold tk_cell
  rw [h]
theorem tk_cell_a {ad : Nat → Nat} {dA : Nat → ClassId} {M : tk_M} {i t n : Nat} (h : tk_lay[i]? = some (.inr (t, n))) : tk_cell ad dA M i = .inl (dA t, n, tk_arr ad M t i) := by
  unfold tk_cell
  rw [h]
theorem tk_gf_congr {M M' : tk_M} {i : Nat} (h1 : M'.2.1 i = M.2.1 i) (h2 : M'.2.2.1 i = M.2.2.1 i) (h3 : M'.2.2.2.1 i = M.2.2.2.1 i) (h4 : M'.2.2.2.2 i = M.2.2.2.2 i) (kd k : Nat) : tk_gf kd M' i k = tk_gf kd M i k := by
  unfold tk_gf
  rw [h1, h2, h3, h4]
theorem tk_cell_congr {ad : Nat → Nat} {dA : Nat → ClassId} {M M' : tk_M} {i : Nat} (h1 : M'.2.1 i = M.2.1 i) (h2 : M'.2.2.1 i = M.2.2.1 i) (h3 : M'.2.2.2.1 i = M.2.2.2.1 i) (h4 : M'.2.2.2.2 i = M.2.2.2.2 i) : tk_cell ad dA M' i = tk_cell ad dA M i := by
  unfold tk_cell
  split
  · simp only [tk_fs, tk_gf_congr h1 h2 h3 h4]
  · simp only [tk_arr, h1, h2, h3, h4]
  · rfl
theorem tk_u2_ne {α : Type} {f : Nat → Nat → α} {i k j : Nat} {v : α} (h : j ≠ i) : tk_u2 f i k v j = f j := by
  funext b
  simp [tk_u2, h]
theorem tk_u2_eq {α : Type} {f : Nat → Nat → α} {i k : Nat} {v : α} : tk_u2 f i k v i k = v := by simp [tk_u2]
theorem tk_u2_nk {α : Type} {f : Nat → Nat → α} {i k b : Nat} {v : α} (h : b ≠ k) : tk_u2 f i k v i b = f i b := by simp [tk_u2, h]
theorem tk_pf_np {kd i k : Nat} {M M' : tk_M} {v : Value} (h : tk_pf kd M i k v = some M') : M'.1 = M.1 := by
  unfold tk_pf at h
  repeat' split at h
  all_goals first
    | (cases h; rfl)
    | cases h
theorem tk_pf_other {kd i k : Nat} {M M' : tk_M} {v : Value} (h : tk_pf kd M i k v = some M') {j : Nat} (hj : j ≠ i) : M'.2.1 j = M.2.1 j ∧ M'.2.2.1 j = M.2.2.1 j ∧ M'.2.2.2.1 j = M.2.2.2.1 j ∧ M'.2.2.2.2 j = M.2.2.2.2 j := by
  unfold tk_pf at h
  repeat' split at h
  all_goals first
    | (cases h; exact ⟨by first | rfl | exact tk_u2_ne hj, by first | rfl | exact tk_u2_ne hj, by first | rfl | exact tk_u2_ne hj, by first | rfl | exact tk_u2_ne hj⟩)
    | cases h
/-- what stands at the written place, and beside it -/
theorem tk_pf_self {kd i k : Nat} {M M' : tk_M} {v : Value} (h : tk_pf kd M i k v = some M') : tk_gf kd M' i k = v := by
  unfold tk_pf at h
  repeat' split at h
  all_goals first
    | cases h
    | skip
  all_goals first
    | (simp only [tk_gf, tk_u2_eq, va_rf]; done)
    | (simp only [tk_gf, tk_u2_eq, tk_b, cond_false, cond_true]; simp_all)
theorem tk_pf_beside {kd i k : Nat} {M M' : tk_M} {v : Value} (h : tk_pf kd M i k v = some M') {b : Nat} (hb : b ≠ k) (kd' : Nat) : tk_gf kd' M' i b = tk_gf kd' M i b := by
  unfold tk_pf at h
  repeat' split at h
  all_goals first
    | cases h
    | skip
  all_goals (unfold tk_gf; simp only [tk_u2_nk hb])
theorem tk_fs_set {ad : Nat → Nat} {kd ci i k : Nat} {M M' : tk_M} {v : Value} (h : tk_pf kd M i k v = some M') (hk : k < tk_nf ci) (hkd : kd = tk_kk ci k) : tk_fs ad M' ci i = (tk_fs ad M ci i).set k (tk_cv ad v) := by
  apply List.ext_getElem?
  intro j
  unfold tk_fs
  rw [List.getElem?_set, List.getElem?_map, List.getElem?_map, List.length_map, List.length_range]
  by_cases hj : k = j
  · subst hj
    rw [if_pos rfl, if_pos hk, List.getElem?_range hk]
    simp only [Option.map_some]
    rw [← hkd, tk_pf_self h]
  · rw [if_neg hj]
    rcases Nat.lt_or_ge j (tk_nf ci) with hl | hl
    · rw [List.getElem?_range hl]
      simp only [Option.map_some]
      rw [tk_pf_beside h (fun q => hj q.symm)]
    · rw [List.getElem?_eq_none (by simpa using hl)]
      rfl
theorem tk_fit {ad : Nat → Nat} {kd i k : Nat} {M M' : tk_M} {v : Value} {ty : FieldType} (h : tk_pf kd M i k v = some M') (hty : tk_kty ty = kd) : narrow ty (tk_cv ad v) = tk_cv ad v ∧ fits ty (tk_cv ad v) = true := by
  unfold tk_pf at h
  repeat' split at h
  all_goals first
    | cases h
    | skip
  all_goals (cases ty <;> first | (cases hty; done) | skip)
  all_goals first
    | exact ⟨rfl, rfl⟩
    | (subst_vars; exact ⟨rfl, rfl⟩)
theorem tk_rep_set {B0 i : Nat} {ad : Nat → Nat} {dA dC : Nat → ClassId} {dI : Nat → Nat → Nat} {M M' : tk_M} {H H' : Heap} (h : tk_rep B0 ad dA dC dI M H) (hnp : M'.1 = M.1)
    (hs : ∀ j, j ≠ i → tk_cell ad dA M' j = tk_cell ad dA M j) (hi : i < M.1 → va_at (dC, dI) vwCl (B0 + i, tk_cell ad dA M' i) H') (ho : ∀ q : Nat, q ≠ B0 + i → H'[q]? = H[q]?) (hz : M.1 < tk_lay.length → H'.size = H.size) : tk_rep B0 ad dA dC dI M' H' := by
  refine ⟨fun j hj => ?_, fun hl => ?_, by rw [hnp]; exact h.2.2⟩
  · rw [hnp] at hj
    by_cases e : j = i
    · subst e
      exact hi hj
    · rw [hs j e]
      exact (h.1 j hj).kept (ho _ (by show B0 + j ≠ B0 + i; omega))
  · rw [hnp] at hl ⊢
    rw [hz hl]
    exact h.2.1 hl
theorem tk_z1_ne {α : Type} {f : Nat → Nat → α} {i j : Nat} {d : α} (h : j ≠ i) : tk_z1 f i d j = f j := by
  funext b
  simp [tk_z1, h]
theorem tk_rep_new {B0 : Nat} {ad : Nat → Nat} {dA dC : Nat → ClassId} {dI : Nat → Nat → Nat} {M : tk_M} {H H' : Heap} (h : tk_rep B0 ad dA dC dI M H) (hlt : M.1 < tk_lay.length)
    (hi : va_at (dC, dI) vwCl (B0 + M.1, tk_cell ad dA (tk_new M) M.1) H') (ho : ∀ q : Nat, q < B0 + M.1 → H'[q]? = H[q]?) (hz : H'.size = B0 + M.1 + 1) : tk_rep B0 ad dA dC dI (tk_new M) H' := by
  refine ⟨fun j hj => ?_, fun hl => ?_, hlt⟩
  · by_cases e : j = M.1
    · subst e
      exact hi
    · have hj' : j < M.1 := by
        have : j < M.1 + 1 := hj
        omega
      rw [tk_cell_congr (M := M) (tk_z1_ne e) (tk_z1_ne e) (tk_z1_ne e) (tk_z1_ne e)]
      exact (h.1 j hj').kept (ho _ (by show B0 + j < _; omega))
  · show H'.size = B0 + (M.1 + 1)
    omega
/-- how many slots the first n cells have -/
def tk_sz (c : tk_L) : Nat := match c with
  | .inl ci => tk_nf ci
  | .inr (_, n) => n
def tk_ss (n : Nat) : Nat := ((tk_lay.take n).map tk_sz).sum
theorem tk_ss_succ {n : Nat} {c : tk_L} (h : tk_lay[n]? = some c) : tk_ss (n + 1) = tk_ss n + tk_sz c := by
  unfold tk_ss
  rw [List.take_add_one, h]
  simp
theorem tk_isO_iff {M : tk_M} {r ci : Nat} (h : tk_isO M r ci = true) : r < M.1 ∧ tk_lay[r]? = some (.inl ci) := by
  unfold tk_isO at h
  simp only [Bool.and_eq_true, decide_eq_true_eq] at h
  exact h
theorem tk_inA_iff {M : tk_M} {r kd : Nat} {j : Int32} (h : tk_inA M r kd j = true) : ∃ t n : Nat, tk_lay[r]? = some (.inr (t, n)) ∧ r < M.1 ∧ (if t < 3 then t else 3) = kd ∧ ¬ j < 0 ∧ j.toNatClampNeg < n := by
  unfold tk_inA at h
  split at h
  · rename_i t n e
    simp only [Bool.and_eq_true, decide_eq_true_eq] at h
    exact ⟨t, n, e, h.1.1.1, h.1.1.2, h.1.2, h.2⟩
  · cases h

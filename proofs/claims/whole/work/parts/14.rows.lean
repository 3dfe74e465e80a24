/-! ===== the made heap: memory, rows of walks ===== -/
def tk_F : Nat := 1000000
abbrev tk_m : Type := (Nat → Nat → Int32) × (Nat → Nat → Int64) × (Nat → Nat → Bool) × (Nat → Nat → Fin 6)
def tk_n (j : Int32) : Nat := j.toNatClampNeg
abbrev tk_ok (j : Int32) (n : Nat) : Prop := ¬ j < 0 ∧ tk_n j < n
def tk_irem (x y : Int32) : Int32 := x - x / y * y
def tk_lrem (x y : Int64) : Int64 := x - x / y * y
def tk_ishl (x y : Int32) : Int32 := x <<< (y &&& 31)
def tk_ishr (x y : Int32) : Int32 := x >>> (y &&& 31)
def tk_iushr (x y : Int32) : Int32 := (x.toUInt32 >>> (y.toUInt32 &&& Int32.toUInt32 31)).toInt32
def tk_lshl (x : Int64) (y : Int32) : Int64 := x <<< (y.toInt64 &&& 63)
def tk_lshr (x : Int64) (y : Int32) : Int64 := x >>> (y.toInt64 &&& 63)
def tk_lushr (x : Int64) (y : Int32) : Int64 := (x.toUInt64 >>> (y.toInt64.toUInt64 &&& Int64.toUInt64 63)).toInt64
def tk_i2b (x : Int32) : Int32 := x.toInt8.toInt32
def tk_let {α β : Type} (e : α) (f : α → β) : β := f e
def tk_al (r : Nat) : Nat := match tk_lay[r]? with
  | some (.inr (_, n)) => n
  | _ => 0
theorem tk_al_of {r t n : Nat} (h : tk_lay[r]? = some (.inr (t, n))) : tk_lay[r]? = some (.inr (t, tk_al r)) := by
  unfold tk_al
  rw [h]
theorem tk_al_eq {r t n : Nat} (h : tk_lay[r]? = some (.inr (t, n))) : tk_al r = n := by
  unfold tk_al
  rw [h]
def tk_rto (i k : Nat) : Option Nat := (tk_rtl.getD i []).getD k none
def tk_R2 (P : Nat → Nat → Fin 6) (i k : Nat) : Option Nat := if tk_lay[i]? = some (.inr (6, 6)) then (if k < 6 then some (i + 2 + (P i k).val) else none) else tk_rto i k
def tk_full (m : tk_m) : tk_M := (460, m.1, m.2.1, m.2.2.1, tk_R2 m.2.2.2)
def tk_Me (j : Nat) (mr : tk_R) (kf : Nat → Option (List Nat)) : Prop := tk_mt[j]? = some mr ∧ tk_kp j = kf
def tk_Ex (sc : tk_X) (d : Nat) (mr : tk_R) (kf : Nat → Option (List Nat)) (pc : Nat) (ls : tk_V) (st : List Value) (M : tk_M) (o : Option Value × tk_M) : Prop := ∃ n : Nat, tk_exec sc (tk_run sc tk_kp d n) kf mr n pc ls st M = some o
def tk_Ru (sc : tk_X) (d j : Nat) (as : List Value) (M : tk_M) (o : Option Value × tk_M) : Prop := ∃ n : Nat, tk_run sc tk_kp d n j as M = some o
theorem tk_ifT {α : Type} {c : Prop} [Decidable c] {a b x : α} (hc : c) (h : (if c then a else b) = x) : a = x := by rw [if_pos hc] at h; exact h
theorem tk_ifF {α : Type} {c : Prop} [Decidable c] {a b x : α} (hc : ¬ c) (h : (if c then a else b) = x) : b = x := by rw [if_neg hc] at h; exact h
theorem tk_grd {α : Type} {c : Prop} [Decidable c] {a : Option α} {x : α} (h : (if c then a else none) = some x) : c ∧ a = some x := by
  by_cases hc : c
  · rw [if_pos hc] at h; exact ⟨hc, h⟩
  · rw [if_neg hc] at h; cases h
theorem tk_grn {α : Type} {c : Prop} [Decidable c] {a : Option α} {x : α} (h : (if c then none else a) = some x) : ¬ c ∧ a = some x := by
  by_cases hc : c
  · rw [if_pos hc] at h; cases h
  · rw [if_neg hc] at h; exact ⟨hc, h⟩
theorem tk_bnd {α β : Type} {f : Option α} {g : α → Option β} {x : β} (h : f.bind g = some x) : ∃ o, f = some o ∧ g o = some x := by
  cases f with
  | none => cases h
  | some o => exact ⟨o, rfl, h⟩
theorem tk_lete {α β : Type} {e : α} {f : α → β} {x : β} (h : tk_let e f = x) : ∃ o, e = o ∧ f o = x := ⟨e, rfl, h⟩
/-! fuel and depth -/
theorem tk_exec_fuel {sc : tk_X} {call call' : Nat → List Value → tk_M → Option (Option Value × tk_M)} {kf : Nat → Option (List Nat)} {mr : tk_R} (hc : ∀ j as M o, call j as M = some o → call' j as M = some o) : ∀ (n n' pc : Nat) (ls : tk_V) (st : List Value) (M : tk_M) (o : Option Value × tk_M), n ≤ n' → tk_exec sc call kf mr n pc ls st M = some o → tk_exec sc call' kf mr n' pc ls st M = some o := by
  intro n
  induction n with
  | zero => intro n' pc ls st M o _ h; cases h
  | succ n ih =>
    intro n' pc ls st M o hle h
    obtain ⟨n', rfl⟩ : ∃ k, n' = k + 1 := ⟨n' - 1, by omega⟩
    have hle' : n ≤ n' := by omega
    unfold tk_exec at h ⊢
    split at h
    · cases h
    · rename_i E hE
      try simp only [hE]
      split at h
      · rename_i hs
        try simp only [hs]
        split at h
        · cases h
        · rename_i s2 h2
          try simp only [h2]
          exact ih _ _ _ _ _ _ hle' h
      · rename_i hs
        try simp only [hs]
        split at h
        · cases h
        · rename_i s2 h2
          try simp only [h2]
          exact ih _ _ _ _ _ _ hle' h
      · rename_i hs
        try simp only [hs]
        split at h
        · cases h
        · rename_i q hq
          try simp only [hq]
          split at h
          · rename_i hsum
            try rw [if_pos hsum]
            split at h
            · cases h
            · rename_i o2 ho2
              try simp only [hc _ _ _ _ ho2]
              exact ih _ _ _ _ _ _ hle' h
          · cases h
      · rename_i hs
        try simp only [hs]
        split at h
        · cases h
        · rename_i s2 h2
          try simp only [h2]
          exact ih _ _ _ _ _ _ hle' h
      · rename_i h0 h1 h2 h7
        exact h
theorem tk_run_fuel {sc : tk_X} {kp : Nat → Nat → Option (List Nat)} : ∀ (d d' n n' j : Nat) (as : List Value) (M : tk_M) (o : Option Value × tk_M), d ≤ d' → n ≤ n' → tk_run sc kp d n j as M = some o → tk_run sc kp d' n' j as M = some o := by
  intro d
  induction d with
  | zero => intro d' n n' j as M o _ _ h; cases h
  | succ d ih =>
    intro d' n n' j as M o hd hn h
    obtain ⟨d', rfl⟩ : ∃ k, d' = k + 1 := ⟨d' - 1, by omega⟩
    unfold tk_run at h ⊢
    split at h
    · cases h
    · rename_i mr hmr
      try simp only [hmr]
      split at h
      · rename_i hl
        try rw [if_pos hl]
        exact tk_exec_fuel (fun j as M o h => ih d' n n' j as M o (by omega) hn h) n n' 0 _ _ _ _ hn h
      · cases h
section ROWS
variable {sc : tk_X} {d j pc pc' : Nat} {ls ls' : tk_V} {st st' : List Value} {M M1 : tk_M} {o : Option Value × tk_M} {mr : tk_R} {kf : Nat → Option (List Nat)} {E : tk_E} {m : tk_m}
theorem tk_Ru0 {as : List Value} (hM : tk_Me j mr kf) (hl : lv_args 0 as = ls) (hlen : Nat.ble (lg_sl as).length mr.2.2.1 = true) (k : tk_Ex sc d mr kf 0 ls [] M o) : tk_Ru sc (d + 1) j as M o := by
  obtain ⟨n, h2⟩ := k
  refine ⟨n, ?_⟩
  unfold tk_run
  simp only [hM.1]
  rw [if_pos (Nat.le_of_ble_eq_true hlen), hl, hM.2]
  exact h2
theorem tk_Kp (hk1 : tk_keep (kf pc) ls = ls') (hk2 : tk_keep (kf pc) ls' = ls') (k : tk_Ex sc d mr kf pc ls' st M o) : tk_Ex sc d mr kf pc ls st M o := by
  have hk : tk_keep (kf pc) ls = tk_keep (kf pc) ls' := hk1.trans hk2.symm
  obtain ⟨n, h2⟩ := k
  refine ⟨n, ?_⟩
  cases n with
  | zero => cases h2
  | succ n =>
    unfold tk_exec at h2 ⊢
    rw [hk]
    exact h2
/-- one step without a call -/
theorem tk_1P (hE : tk_code mr.2.2.2.2.2.2 pc = some E) (hs : tk_sort E = 0) (h : tk_stepP E pc (tk_keep (kf pc) ls) st = some (pc', ls', st')) (k : tk_Ex sc d mr kf pc' ls' st' M o) : tk_Ex sc d mr kf pc ls st M o := by
  obtain ⟨n, h2⟩ := k
  refine ⟨n + 1, ?_⟩
  have h3 := tk_exec_fuel (call' := tk_run sc tk_kp d (n + 1)) (fun j as M o h => tk_run_fuel d d n (n + 1) j as M o (Nat.le_refl _) (Nat.le_succ _) h) n n _ _ _ _ _ (Nat.le_refl _) h2
  unfold tk_exec
  simp only [hE, hs, h]
  exact h3
theorem tk_1H {st2 : List Value} (hE : tk_code mr.2.2.2.2.2.2 pc = some E) (hs : tk_sort E = 1) (hk : tk_keep (kf pc) ls = ls) (h : tk_stepH sc E st M = some (st2, M1)) (k : tk_Ex sc d mr kf E.2.1 ls st2 M1 o) : tk_Ex sc d mr kf pc ls st M o := by
  obtain ⟨n, h2⟩ := k
  refine ⟨n + 1, ?_⟩
  have h3 := tk_exec_fuel (call' := tk_run sc tk_kp d (n + 1)) (fun j as M o h => tk_run_fuel d d n (n + 1) j as M o (Nat.le_refl _) (Nat.le_succ _) h) n n _ _ _ _ _ (Nat.le_refl _) h2
  unfold tk_exec
  simp only [hE, hs, h]
  rw [hk]
  exact h3
theorem tk_1C {as rest : List Value} {v : Option Value} {dc : Nat} (hE : tk_code mr.2.2.2.2.2.2 pc = some E) (hs : tk_sort E = 2) (hk : tk_keep (kf pc) ls = ls) (h : tk_inv E st M = some (as, rest)) (hsum : (rest.map fun v => v.category).sum ≤ 24) (hd : dc ≤ d) (hr : tk_Ru sc dc E.2.2.1 as M (v, M1)) (k : tk_Ex sc d mr kf E.2.1 ls (v.toList ++ rest) M1 o) : tk_Ex sc d mr kf pc ls st M o := by
  obtain ⟨n, h2⟩ := k
  obtain ⟨n2, h4⟩ := hr
  refine ⟨n + n2 + 1, ?_⟩
  have h3 := tk_exec_fuel (call' := tk_run sc tk_kp d (n + n2 + 1)) (fun j as M o h => tk_run_fuel d d n (n + n2 + 1) j as M o (Nat.le_refl _) (by omega) h) n (n + n2) _ _ _ _ _ (by omega) h2
  have h5 := tk_run_fuel dc d n2 (n + n2 + 1) _ _ _ _ hd (by omega) h4
  unfold tk_exec
  simp only [hE, hs, h, h5]
  rw [if_pos hsum, hk]
  exact h3
theorem tk_1R {v : Option Value} (hE : tk_code mr.2.2.2.2.2.2 pc = some E) (hs : 3 ≤ tk_sort E ∧ tk_sort E ≤ 6) (h : tk_ret (tk_sort E) mr.2.2.2.1 st = some v) : tk_Ex sc d mr kf pc ls st M (v, M) := by
  refine ⟨1, ?_⟩
  unfold tk_exec
  simp only [hE]
  split
  · rename_i q; omega
  · rename_i q; omega
  · rename_i q; omega
  · rename_i q; omega
  · rw [h]; rfl
def tk_steps (cd : List (Nat × tk_E)) (kf : Nat → Option (List Nat)) : Nat → Nat → tk_V → List Value → Option (Nat × tk_V × List Value)
  | 0, pc, ls, st => some (pc, ls, st)
  | n + 1, pc, ls, st => match tk_code cd pc with
    | none => none
    | some E => match tk_sort E with
      | 0 => match tk_stepP E pc (tk_keep (kf pc) ls) st with
        | none => none
        | some s => tk_steps cd kf n s.1 s.2.1 s.2.2
      | _ => none
theorem tk_Ps (k : Nat) (h : tk_steps mr.2.2.2.2.2.2 kf k pc ls st = some (pc', ls', st')) (kk : tk_Ex sc d mr kf pc' ls' st' M o) : tk_Ex sc d mr kf pc ls st M o := by
  induction k generalizing pc ls st with
  | zero => cases h; exact kk
  | succ k ih =>
    unfold tk_steps at h
    split at h
    · cases h
    · rename_i E hE
      split at h
      · rename_i hs
        split at h
        · cases h
        · rename_i s h2
          obtain ⟨a, b, c⟩ := s
          exact tk_1P hE hs h2 (ih h)
      · cases h
/-! branches -/
theorem tk_bT {c : Prop} [Decidable c] {B : Nat × tk_V × List Value} (hE : tk_code mr.2.2.2.2.2.2 pc = some E) (hk : tk_keep (kf pc) ls = ls) (he : tk_stepP E pc ls st = if c then some (pc', ls', st') else some B) (hc : c) (k : tk_Ex sc d mr kf pc' ls' st' M o) (hs : tk_sort E = 0 := by rfl) : tk_Ex sc d mr kf pc ls st M o :=
  tk_1P hE hs (by rw [hk, he, if_pos hc]) k
theorem tk_bF {c : Prop} [Decidable c] {A : Nat × tk_V × List Value} (hE : tk_code mr.2.2.2.2.2.2 pc = some E) (hk : tk_keep (kf pc) ls = ls) (he : tk_stepP E pc ls st = if c then some A else some (pc', ls', st')) (hc : ¬ c) (k : tk_Ex sc d mr kf pc' ls' st' M o) (hs : tk_sort E = 0 := by rfl) : tk_Ex sc d mr kf pc ls st M o :=
  tk_1P hE hs (by rw [hk, he, if_neg hc]) k
theorem tk_b0 (b : Bool) : tk_b b = 0 ↔ b = false := by cases b <;> decide
theorem tk_eB_eq {off : Int} {nx a b k : Nat} {z : Int} {kp : Option (List Nat)} {x : Bool} : tk_stepP (.ifCond .eq off, nx, a, b, k, z, kp) pc ls (.int (tk_b x) :: st) = if x = true then some (nx, ls, st) else some (a, ls, st) := by cases x <;> rfl
theorem tk_eB_ne {off : Int} {nx a b k : Nat} {z : Int} {kp : Option (List Nat)} {x : Bool} : tk_stepP (.ifCond .ne off, nx, a, b, k, z, kp) pc ls (.int (tk_b x) :: st) = if x = true then some (a, ls, st) else some (nx, ls, st) := by cases x <;> rfl
theorem tk_cmp3 (x y : Int64) : (x < y ∧ lg_cmp x y = -1 ∧ ¬ y ≤ x ∧ ¬ x = y ∧ ¬ y < x ∧ x ≤ y) ∨ (x = y ∧ lg_cmp x y = 0 ∧ y ≤ x ∧ ¬ x < y ∧ ¬ y < x ∧ x ≤ y) ∨ (y < x ∧ lg_cmp x y = 1 ∧ y ≤ x ∧ ¬ x = y ∧ ¬ x < y ∧ ¬ x ≤ y) := by
  unfold lg_cmp
  simp only [Int64.lt_iff_toInt_lt, Int64.le_iff_toInt_le, gt_iff_lt, ← Int64.toInt_inj]
  rcases Int.lt_trichotomy x.toInt y.toInt with h | h | h
  · left
    rw [if_neg (by omega), if_neg (by omega)]
    refine ⟨h, ?_, by omega, by omega, by omega, by omega⟩
    first | rfl | decide
  · right; left
    rw [if_neg (by omega), if_pos h]
    refine ⟨h, ?_, by omega, by omega, by omega, by omega⟩
    first | rfl | decide
  · right; right
    rw [if_pos h]
    refine ⟨h, ?_, by omega, by omega, by omega, by omega⟩
    first | rfl | decide
theorem tk_eL_eq {off : Int} {nx a b k : Nat} {z : Int} {kp : Option (List Nat)} {x y : Int64} : tk_stepP (.ifCond .eq off, nx, a, b, k, z, kp) pc ls (.int (lg_cmp x y) :: st) = if x = y then some (a, ls, st) else some (nx, ls, st) := by
  simp only [tk_stepP]
  rcases tk_cmp3 x y with ⟨q1, q2, q3, q4, q5, q6⟩ | ⟨q1, q2, q3, q4, q5, q6⟩ | ⟨q1, q2, q3, q4, q5, q6⟩
  · rw [q2, if_neg (by decide), if_neg q4]
  · rw [q2, if_pos (by decide), if_pos q1]
  · rw [q2, if_neg (by decide), if_neg q4]
theorem tk_eL_ne {off : Int} {nx a b k : Nat} {z : Int} {kp : Option (List Nat)} {x y : Int64} : tk_stepP (.ifCond .ne off, nx, a, b, k, z, kp) pc ls (.int (lg_cmp x y) :: st) = if x = y then some (nx, ls, st) else some (a, ls, st) := by
  simp only [tk_stepP]
  rcases tk_cmp3 x y with ⟨q1, q2, q3, q4, q5, q6⟩ | ⟨q1, q2, q3, q4, q5, q6⟩ | ⟨q1, q2, q3, q4, q5, q6⟩
  · rw [q2, if_neg (by decide), if_neg q4]
  · rw [q2, if_pos (by decide), if_pos q1]
  · rw [q2, if_neg (by decide), if_neg q4]
theorem tk_eL_lt {off : Int} {nx a b k : Nat} {z : Int} {kp : Option (List Nat)} {x y : Int64} : tk_stepP (.ifCond .lt off, nx, a, b, k, z, kp) pc ls (.int (lg_cmp x y) :: st) = if x < y then some (a, ls, st) else some (nx, ls, st) := by
  simp only [tk_stepP]
  rcases tk_cmp3 x y with ⟨q1, q2, q3, q4, q5, q6⟩ | ⟨q1, q2, q3, q4, q5, q6⟩ | ⟨q1, q2, q3, q4, q5, q6⟩
  · rw [q2, if_pos (by decide), if_pos q1]
  · rw [q2, if_neg (by decide), if_neg q4]
  · rw [q2, if_neg (by decide), if_neg q5]
theorem tk_eL_ge {off : Int} {nx a b k : Nat} {z : Int} {kp : Option (List Nat)} {x y : Int64} : tk_stepP (.ifCond .ge off, nx, a, b, k, z, kp) pc ls (.int (lg_cmp x y) :: st) = if y ≤ x then some (a, ls, st) else some (nx, ls, st) := by
  simp only [tk_stepP]
  rcases tk_cmp3 x y with ⟨q1, q2, q3, q4, q5, q6⟩ | ⟨q1, q2, q3, q4, q5, q6⟩ | ⟨q1, q2, q3, q4, q5, q6⟩
  · rw [q2, if_neg (by decide), if_neg q3]
  · rw [q2, if_pos (by decide), if_pos q3]
  · rw [q2, if_pos (by decide), if_pos q3]
theorem tk_eL_gt {off : Int} {nx a b k : Nat} {z : Int} {kp : Option (List Nat)} {x y : Int64} : tk_stepP (.ifCond .gt off, nx, a, b, k, z, kp) pc ls (.int (lg_cmp x y) :: st) = if y < x then some (a, ls, st) else some (nx, ls, st) := by
  simp only [tk_stepP]
  rcases tk_cmp3 x y with ⟨q1, q2, q3, q4, q5, q6⟩ | ⟨q1, q2, q3, q4, q5, q6⟩ | ⟨q1, q2, q3, q4, q5, q6⟩
  · rw [q2, if_neg (by decide), if_neg q5]
  · rw [q2, if_neg (by decide), if_neg q5]
  · rw [q2, if_pos (by decide), if_pos q1]
theorem tk_eL_le {off : Int} {nx a b k : Nat} {z : Int} {kp : Option (List Nat)} {x y : Int64} : tk_stepP (.ifCond .le off, nx, a, b, k, z, kp) pc ls (.int (lg_cmp x y) :: st) = if x ≤ y then some (a, ls, st) else some (nx, ls, st) := by
  simp only [tk_stepP]
  rcases tk_cmp3 x y with ⟨q1, q2, q3, q4, q5, q6⟩ | ⟨q1, q2, q3, q4, q5, q6⟩ | ⟨q1, q2, q3, q4, q5, q6⟩
  · rw [q2, if_pos (by decide), if_pos q6]
  · rw [q2, if_pos (by decide), if_pos q6]
  · rw [q2, if_neg (by decide), if_neg q6]
/-! the heap -/
theorem tk_np {r : Nat} {c : tk_L} (h : tk_lay[r]? = some c) : r < (tk_full m).1 := by
  have h1 : r < tk_lay.length := (List.getElem?_eq_some_iff.mp h).1
  rw [tk_laylen] at h1
  exact h1
theorem tk_isO_of {r ci : Nat} (h : tk_lay[r]? = some (.inl ci)) : tk_isO (tk_full m) r ci = true := by
  unfold tk_isO
  simp only [Bool.and_eq_true, decide_eq_true_eq]
  exact ⟨tk_np h, h⟩
theorem tk_inA_of {r t n kd : Nat} {i : Int32} (h : tk_lay[r]? = some (.inr (t, n))) (hkd : (if t < 3 then t else 3) = kd) (hi : tk_ok i n) : tk_inA (tk_full m) r kd i = true := by
  unfold tk_inA
  rw [h]
  simp only [Bool.and_eq_true, decide_eq_true_eq]
  exact ⟨⟨⟨tk_np h, hkd⟩, hi.1⟩, hi.2⟩
theorem tk_R2o {P : Nat → Nat → Fin 6} {r k r' ci : Nat} (h : tk_lay[r]? = some (.inl ci)) (h2 : tk_rto r k = some r') : tk_R2 P r k = some r' := by
  unfold tk_R2
  rw [h, if_neg (fun q => by cases q)]
  exact h2
theorem tk_R2a {P : Nat → Nat → Fin 6} {r k r' t n : Nat} (h : tk_lay[r]? = some (.inr (t, n))) (ht : t ≠ 6) (h2 : tk_rto r k = some r') : tk_R2 P r k = some r' := by
  unfold tk_R2
  rw [h, if_neg (fun q => by cases q; exact ht rfl)]
  exact h2
theorem tk_HI {ci k i nx : Nat} {z : Int} {kp : Option (List Nat)} {r : Nat} (hE : tk_code mr.2.2.2.2.2.2 pc = some (.getfield i, nx, ci, k, 0, z, kp)) (hk : tk_keep (kf pc) ls = ls) (hl : tk_lay[r]? = some (.inl ci)) (kk : tk_Ex sc d mr kf nx ls (.int (m.1 r k) :: st) (tk_full m) o) : tk_Ex sc d mr kf pc ls (.ref r :: st) (tk_full m) o :=
  tk_1H hE rfl hk (by simp only [tk_stepH]; rw [if_pos (tk_isO_of hl)]; rfl) kk
theorem tk_HJ {ci k i nx : Nat} {z : Int} {kp : Option (List Nat)} {r : Nat} (hE : tk_code mr.2.2.2.2.2.2 pc = some (.getfield i, nx, ci, k, 1, z, kp)) (hk : tk_keep (kf pc) ls = ls) (hl : tk_lay[r]? = some (.inl ci)) (kk : tk_Ex sc d mr kf nx ls (.long (m.2.1 r k) :: st) (tk_full m) o) : tk_Ex sc d mr kf pc ls (.ref r :: st) (tk_full m) o :=
  tk_1H hE rfl hk (by simp only [tk_stepH]; rw [if_pos (tk_isO_of hl)]; rfl) kk
theorem tk_HB {ci k i nx : Nat} {z : Int} {kp : Option (List Nat)} {r : Nat} (hE : tk_code mr.2.2.2.2.2.2 pc = some (.getfield i, nx, ci, k, 2, z, kp)) (hk : tk_keep (kf pc) ls = ls) (hl : tk_lay[r]? = some (.inl ci)) (kk : tk_Ex sc d mr kf nx ls (.int (tk_b (m.2.2.1 r k)) :: st) (tk_full m) o) : tk_Ex sc d mr kf pc ls (.ref r :: st) (tk_full m) o :=
  tk_1H hE rfl hk (by simp only [tk_stepH]; rw [if_pos (tk_isO_of hl)]; rfl) kk
theorem tk_HR {ci k i nx : Nat} {z : Int} {kp : Option (List Nat)} {r r' : Nat} (hE : tk_code mr.2.2.2.2.2.2 pc = some (.getfield i, nx, ci, k, 3, z, kp)) (hk : tk_keep (kf pc) ls = ls) (hl : tk_lay[r]? = some (.inl ci)) (hr : tk_rto r k = some r') (kk : tk_Ex sc d mr kf nx ls (.ref r' :: st) (tk_full m) o) : tk_Ex sc d mr kf pc ls (.ref r :: st) (tk_full m) o :=
  tk_1H hE rfl hk (by simp only [tk_stepH]; rw [if_pos (tk_isO_of hl)]; show some (va_rf (tk_R2 m.2.2.2 r k) :: st, tk_full m) = _; rw [tk_R2o hl hr]; rfl) kk
theorem tk_SI {ci k i nx : Nat} {z : Int} {kp : Option (List Nat)} {r : Nat} {v : Int32} (hE : tk_code mr.2.2.2.2.2.2 pc = some (.putfield i, nx, ci, k, 0, z, kp)) (hk : tk_keep (kf pc) ls = ls) (hl : tk_lay[r]? = some (.inl ci)) (kk : tk_Ex sc d mr kf nx ls st (tk_full (tk_u2 m.1 r k v, m.2)) o) : tk_Ex sc d mr kf pc ls (.int v :: .ref r :: st) (tk_full m) o :=
  tk_1H hE rfl hk (by simp only [tk_stepH]; rw [if_pos (tk_isO_of hl)]; rfl) kk
theorem tk_SJ {ci k i nx : Nat} {z : Int} {kp : Option (List Nat)} {r : Nat} {v : Int64} (hE : tk_code mr.2.2.2.2.2.2 pc = some (.putfield i, nx, ci, k, 1, z, kp)) (hk : tk_keep (kf pc) ls = ls) (hl : tk_lay[r]? = some (.inl ci)) (kk : tk_Ex sc d mr kf nx ls st (tk_full (m.1, tk_u2 m.2.1 r k v, m.2.2)) o) : tk_Ex sc d mr kf pc ls (.long v :: .ref r :: st) (tk_full m) o :=
  tk_1H hE rfl hk (by simp only [tk_stepH]; rw [if_pos (tk_isO_of hl)]; rfl) kk
theorem tk_SB {ci k i nx : Nat} {z : Int} {kp : Option (List Nat)} {r : Nat} {b : Bool} (hE : tk_code mr.2.2.2.2.2.2 pc = some (.putfield i, nx, ci, k, 2, z, kp)) (hk : tk_keep (kf pc) ls = ls) (hl : tk_lay[r]? = some (.inl ci)) (kk : tk_Ex sc d mr kf nx ls st (tk_full (m.1, m.2.1, tk_u2 m.2.2.1 r k b, m.2.2.2)) o) : tk_Ex sc d mr kf pc ls (.int (tk_b b) :: .ref r :: st) (tk_full m) o :=
  tk_1H hE rfl hk (by simp only [tk_stepH]; rw [if_pos (tk_isO_of hl)]; cases b <;> rfl) kk
theorem tk_HIa {nx a b k n : Nat} {z : Int} {kp : Option (List Nat)} {r : Nat} {i : Int32} (hE : tk_code mr.2.2.2.2.2.2 pc = some (.iaload, nx, a, b, k, z, kp)) (hk : tk_keep (kf pc) ls = ls) (hl : tk_lay[r]? = some (.inr (0, n))) (hi : tk_ok i n) (kk : tk_Ex sc d mr kf nx ls (.int (m.1 r (tk_n i)) :: st) (tk_full m) o) : tk_Ex sc d mr kf pc ls (.int i :: .ref r :: st) (tk_full m) o :=
  tk_1H hE rfl hk (by
    have h1 : ¬ 1000 ≤ r := by
      have : r < 460 := tk_np (m := m) hl
      omega
    simp only [tk_stepH]
    rw [if_neg h1, if_pos (tk_inA_of (kd := 0) hl rfl hi)]; rfl) kk
theorem tk_HJa {nx a b k n : Nat} {z : Int} {kp : Option (List Nat)} {r : Nat} {i : Int32} (hE : tk_code mr.2.2.2.2.2.2 pc = some (.laload, nx, a, b, k, z, kp)) (hk : tk_keep (kf pc) ls = ls) (hl : tk_lay[r]? = some (.inr (1, n))) (hi : tk_ok i n) (kk : tk_Ex sc d mr kf nx ls (.long (m.2.1 r (tk_n i)) :: st) (tk_full m) o) : tk_Ex sc d mr kf pc ls (.int i :: .ref r :: st) (tk_full m) o :=
  tk_1H hE rfl hk (by simp only [tk_stepH]; rw [if_pos (tk_inA_of (kd := 1) hl rfl hi)]; rfl) kk
theorem tk_HBa {nx a b k n : Nat} {z : Int} {kp : Option (List Nat)} {r : Nat} {i : Int32} (hE : tk_code mr.2.2.2.2.2.2 pc = some (.baload, nx, a, b, k, z, kp)) (hk : tk_keep (kf pc) ls = ls) (hl : tk_lay[r]? = some (.inr (2, n))) (hi : tk_ok i n) (kk : tk_Ex sc d mr kf nx ls (.int (tk_b (m.2.2.1 r (tk_n i))) :: st) (tk_full m) o) : tk_Ex sc d mr kf pc ls (.int i :: .ref r :: st) (tk_full m) o :=
  tk_1H hE rfl hk (by simp only [tk_stepH]; rw [if_pos (tk_inA_of (kd := 2) hl rfl hi)]; rfl) kk
theorem tk_HP {nx a b k : Nat} {z : Int} {kp : Option (List Nat)} {r : Nat} {i : Int32} (hE : tk_code mr.2.2.2.2.2.2 pc = some (.aaload, nx, a, b, k, z, kp)) (hk : tk_keep (kf pc) ls = ls) (hl : tk_lay[r]? = some (.inr (6, 6))) (hi : tk_ok i 6) (kk : tk_Ex sc d mr kf nx ls (.ref (r + 2 + (m.2.2.2 r (tk_n i)).val) :: st) (tk_full m) o) : tk_Ex sc d mr kf pc ls (.int i :: .ref r :: st) (tk_full m) o :=
  tk_1H hE rfl hk (by
    simp only [tk_stepH]
    rw [if_pos (tk_inA_of (kd := 3) hl rfl hi)]
    show some (va_rf (tk_R2 m.2.2.2 r (tk_n i)) :: st, tk_full m) = _
    unfold tk_R2
    rw [if_pos hl, if_pos hi.2]; rfl) kk
theorem tk_HQ {nx a b k n t : Nat} {z : Int} {kp : Option (List Nat)} {r r' : Nat} {i : Int32} (hE : tk_code mr.2.2.2.2.2.2 pc = some (.aaload, nx, a, b, k, z, kp)) (hk : tk_keep (kf pc) ls = ls) (hl : tk_lay[r]? = some (.inr (t, n))) (hi : tk_ok i n) (hr : tk_rto r (tk_n i) = some r') (kk : tk_Ex sc d mr kf nx ls (.ref r' :: st) (tk_full m) o) (ht : Nat.ble 3 t = true := by rfl) (ht6 : Nat.beq t 6 = false := by rfl) : tk_Ex sc d mr kf pc ls (.int i :: .ref r :: st) (tk_full m) o :=
  tk_1H hE rfl hk (by
    have h3 : 3 ≤ t := Nat.le_of_ble_eq_true ht
    simp only [tk_stepH]
    rw [if_pos (tk_inA_of (kd := 3) hl (if_neg (by omega)) hi)]
    show some (va_rf (tk_R2 m.2.2.2 r (tk_n i)) :: st, tk_full m) = _
    rw [tk_R2a hl (Nat.ne_of_beq_eq_false ht6) hr]; rfl) kk
theorem tk_SIa {nx a b k n : Nat} {z : Int} {kp : Option (List Nat)} {r : Nat} {i v : Int32} (hE : tk_code mr.2.2.2.2.2.2 pc = some (.iastore, nx, a, b, k, z, kp)) (hk : tk_keep (kf pc) ls = ls) (hl : tk_lay[r]? = some (.inr (0, n))) (hi : tk_ok i n) (kk : tk_Ex sc d mr kf nx ls st (tk_full (tk_u2 m.1 r (tk_n i) v, m.2)) o) : tk_Ex sc d mr kf pc ls (.int v :: .int i :: .ref r :: st) (tk_full m) o :=
  tk_1H hE rfl hk (by simp only [tk_stepH]; rw [if_pos (tk_inA_of (kd := 0) hl rfl hi)]; rfl) kk
theorem tk_SJa {nx a b k n : Nat} {z : Int} {kp : Option (List Nat)} {r : Nat} {i : Int32} {v : Int64} (hE : tk_code mr.2.2.2.2.2.2 pc = some (.lastore, nx, a, b, k, z, kp)) (hk : tk_keep (kf pc) ls = ls) (hl : tk_lay[r]? = some (.inr (1, n))) (hi : tk_ok i n) (kk : tk_Ex sc d mr kf nx ls st (tk_full (m.1, tk_u2 m.2.1 r (tk_n i) v, m.2.2)) o) : tk_Ex sc d mr kf pc ls (.long v :: .int i :: .ref r :: st) (tk_full m) o :=
  tk_1H hE rfl hk (by simp only [tk_stepH]; rw [if_pos (tk_inA_of (kd := 1) hl rfl hi)]; rfl) kk
theorem tk_SBa {nx a b' k n : Nat} {z : Int} {kp : Option (List Nat)} {r : Nat} {i : Int32} {b : Bool} (hE : tk_code mr.2.2.2.2.2.2 pc = some (.bastore, nx, a, b', k, z, kp)) (hk : tk_keep (kf pc) ls = ls) (hl : tk_lay[r]? = some (.inr (2, n))) (hi : tk_ok i n) (kk : tk_Ex sc d mr kf nx ls st (tk_full (m.1, m.2.1, tk_u2 m.2.2.1 r (tk_n i) b, m.2.2.2)) o) : tk_Ex sc d mr kf pc ls (.int (tk_b b) :: .int i :: .ref r :: st) (tk_full m) o :=
  tk_1H hE rfl hk (by simp only [tk_stepH]; rw [if_pos (tk_inA_of (kd := 2) hl rfl hi)]; cases b <;> rfl) kk
theorem tk_shs : ∀ r, r < 460 → tk_lay[r]? = some (.inr (6, 6)) → ∀ f : Fin 6, tk_lay[r + 2 + f.val]? = some (.inl 6) := by decide +kernel
theorem tk_sh {r : Nat} (h : tk_lay[r]? = some (.inr (6, 6))) (f : Fin 6) : tk_lay[r + 2 + f.val]? = some (.inl 6) := tk_shs r (tk_np (m := (fun _ _ => 0, fun _ _ => 0, fun _ _ => false, fun _ _ => 0)) h) h f
theorem tk_SP {nx a b k : Nat} {z : Int} {kp : Option (List Nat)} {r : Nat} {i : Int32} {f : Fin 6} (hE : tk_code mr.2.2.2.2.2.2 pc = some (.aastore, nx, a, b, k, z, kp)) (hk : tk_keep (kf pc) ls = ls) (hl : tk_lay[r]? = some (.inr (6, 6))) (hi : tk_ok i 6) (kk : tk_Ex sc d mr kf nx ls st (tk_full (m.1, m.2.1, m.2.2.1, tk_u2 m.2.2.2 r (tk_n i) f)) o) : tk_Ex sc d mr kf pc ls (.ref (r + 2 + f.val) :: .int i :: .ref r :: st) (tk_full m) o :=
  tk_1H hE rfl hk (by
    simp only [tk_stepH]
    have h2 : tk_may (tk_full m) r (r + 2 + f.val) = true := by
      unfold tk_may
      rw [hl]
      exact tk_isO_of (tk_sh hl f)
    rw [if_pos ⟨tk_inA_of (kd := 3) hl rfl hi, h2⟩]
    show some (st, ((460, m.1, m.2.1, m.2.2.1, tk_u2 (tk_R2 m.2.2.2) r (tk_n i) (some (r + 2 + f.val))) : tk_M)) = some (st, ((460, m.1, m.2.1, m.2.2.1, tk_R2 (tk_u2 m.2.2.2 r (tk_n i) f)) : tk_M))
    have e : tk_u2 (tk_R2 m.2.2.2) r (tk_n i) (some (r + 2 + f.val)) = tk_R2 (tk_u2 m.2.2.2 r (tk_n i) f) := by
      funext x y
      by_cases hx : x = r ∧ y = tk_n i
      · obtain ⟨rfl, rfl⟩ := hx
        rw [tk_u2_eq]
        unfold tk_R2
        rw [if_pos hl, if_pos hi.2, tk_u2_eq]
      · have e1 : tk_u2 (tk_R2 m.2.2.2) r (tk_n i) (some (r + 2 + f.val)) x y = tk_R2 m.2.2.2 x y := if_neg hx
        have e2 : tk_u2 m.2.2.2 r (tk_n i) f x y = m.2.2.2 x y := if_neg hx
        rw [e1]
        unfold tk_R2
        rw [e2]
    rw [e]) kk
theorem tk_HL {nx a b k n t : Nat} {z : Int} {kp : Option (List Nat)} {r : Nat} (hE : tk_code mr.2.2.2.2.2.2 pc = some (.arraylength, nx, a, b, k, z, kp)) (hk : tk_keep (kf pc) ls = ls) (hl : tk_lay[r]? = some (.inr (t, n))) (kk : tk_Ex sc d mr kf nx ls (.int (Int32.ofNat n) :: st) (tk_full m) o) : tk_Ex sc d mr kf pc ls (.ref r :: st) (tk_full m) o :=
  tk_1H hE rfl hk (by
    have h1 : ¬ 1000 ≤ r := by
      have : r < 460 := tk_np (m := m) hl
      omega
    simp only [tk_stepH]
    rw [if_neg h1]
    simp only [hl]
    rw [if_pos (tk_np hl)]) kk
theorem tk_Hlx {nx a b k : Nat} {z : Int} {kp : Option (List Nat)} (hE : tk_code mr.2.2.2.2.2.2 pc = some (.arraylength, nx, a, b, k, z, kp)) (hk : tk_keep (kf pc) ls = ls) (kk : tk_Ex sc d mr kf nx ls (.int (Int32.ofNat sc.1) :: st) (tk_full m) o) : tk_Ex sc d mr kf pc ls (.ref 1006 :: st) (tk_full m) o :=
  tk_1H hE rfl hk (by
    simp only [tk_stepH]
    rw [if_pos (by decide), if_pos (by decide)]
    rfl) kk
theorem tk_Hlk {nx a b k' k : Nat} {z : Int} {kp : Option (List Nat)} (hE : tk_code mr.2.2.2.2.2.2 pc = some (.arraylength, nx, a, b, k', z, kp)) (hk : tk_keep (kf pc) ls = ls) (hk6 : k < 6) (kk : tk_Ex sc d mr kf nx ls (.int 6 :: st) (tk_full m) o) : tk_Ex sc d mr kf pc ls (.ref (1000 + k) :: st) (tk_full m) o :=
  tk_1H hE rfl hk (by
    have h2 : tk_ext sc k = (6, fun j => (tk_stv k).getD j 0) := if_neg (by omega)
    simp only [tk_stepH]
    rw [if_pos (Nat.le_add_right _ _), if_pos (show 1000 + k < 1007 from by have := hk6; omega), Nat.add_sub_cancel_left, h2]
    rfl) kk
theorem tk_Hst {nx a b k i : Nat} {z : Int} {kp : Option (List Nat)} (hE : tk_code mr.2.2.2.2.2.2 pc = some (.getstatic i, nx, a, b, k, z, kp)) (hk : tk_keep (kf pc) ls = ls) (kk : tk_Ex sc d mr kf nx ls (.ref (1000 + a) :: st) (tk_full m) o) : tk_Ex sc d mr kf pc ls st (tk_full m) o :=
  tk_1H hE rfl hk rfl kk
theorem tk_Hx6 {nx a b k : Nat} {z : Int} {kp : Option (List Nat)} {i : Int32} (hE : tk_code mr.2.2.2.2.2.2 pc = some (.iaload, nx, a, b, k, z, kp)) (hk : tk_keep (kf pc) ls = ls) (hi : tk_ok i sc.1) (kk : tk_Ex sc d mr kf nx ls (.int (sc.2 (tk_n i)) :: st) (tk_full m) o) : tk_Ex sc d mr kf pc ls (.int i :: .ref 1006 :: st) (tk_full m) o :=
  tk_1H hE rfl hk (by
    simp only [tk_stepH]
    rw [if_pos (by decide), if_pos ⟨by decide, hi⟩]
    rfl) kk
theorem tk_ext_k {k : Nat} (h : k < 6) : tk_ext sc k = (6, fun j => (tk_stv k).getD j 0) := if_neg (by omega)
theorem tk_Hxv {nx a b k : Nat} {z : Int} {kp : Option (List Nat)} {i : Int32} {r : Nat} (hE : tk_code mr.2.2.2.2.2.2 pc = some (.iaload, nx, a, b, k, z, kp)) (hk : tk_keep (kf pc) ls = ls) (hr : 1000 ≤ r ∧ r < 1006) (hi : tk_ok i 6) (kk : tk_Ex sc d mr kf nx ls (.int ((tk_stv (r - 1000)).getD (tk_n i) 0) :: st) (tk_full m) o) : tk_Ex sc d mr kf pc ls (.int i :: .ref r :: st) (tk_full m) o :=
  tk_1H hE rfl hk (by
    have h1 : r < 1007 := by omega
    have h2 : tk_ext sc (r - 1000) = (6, fun j => (tk_stv (r - 1000)).getD j 0) := tk_ext_k (by omega)
    simp only [tk_stepH]
    rw [if_pos hr.1, if_pos ⟨h1, hi.1, by rw [h2]; exact hi.2⟩, h2]
    dsimp only [tk_n]) kk
theorem tk_Hx {nx a b k' k : Nat} {z : Int} {kp : Option (List Nat)} {i : Int32} (hE : tk_code mr.2.2.2.2.2.2 pc = some (.iaload, nx, a, b, k', z, kp)) (hk : tk_keep (kf pc) ls = ls) (hk6 : k < 6) (hi : tk_ok i 6) (kk : tk_Ex sc d mr kf nx ls (.int ((tk_stv k).getD (tk_n i) 0) :: st) (tk_full m) o) : tk_Ex sc d mr kf pc ls (.int i :: .ref (1000 + k) :: st) (tk_full m) o :=
  tk_Hxv hE hk ⟨Nat.le_add_right _ _, by omega⟩ hi (by rw [Nat.add_sub_cancel_left]; exact kk)
abbrev tk_cpok (n dp sp : Int32) (na nb : Nat) : Prop := ¬ n < 0 ∧ ¬ dp < 0 ∧ ¬ sp < 0 ∧ tk_n sp + tk_n n ≤ na ∧ tk_n dp + tk_n n ≤ nb
def tk_cpy (L : Nat → Nat → Int64) (a b sp dp n : Nat) : Nat → Nat → Int64 := fun i k => if i = b then va_cpy (L a) (L b) sp dp n k else L i k
theorem tk_Hcp {nx a b i na nb : Nat} {z : Int} {kp : Option (List Nat)} {ra rb : Nat} {n dp sp : Int32} (hE : tk_code mr.2.2.2.2.2.2 pc = some (.invokestatic i, nx, a, b, 9, z, kp)) (hk : tk_keep (kf pc) ls = ls) (ha : tk_lay[ra]? = some (.inr (1, na))) (hb : tk_lay[rb]? = some (.inr (1, nb))) (hi : tk_cpok n dp sp na nb) (kk : tk_Ex sc d mr kf nx ls [] (tk_full (m.1, tk_cpy m.2.1 ra rb (tk_n sp) (tk_n dp) (tk_n n), m.2.2)) o) : tk_Ex sc d mr kf pc ls [.int n, .int dp, .ref rb, .int sp, .ref ra] (tk_full m) o :=
  tk_1H hE rfl hk (by
    simp only [tk_stepH]
    rw [if_pos ⟨Nat.zero_le _, hi.1, hi.2.1, hi.2.2.1⟩]
    simp only [ha, hb]
    rw [if_pos ⟨tk_np ha, tk_np hb, hi.2.2.2.1, hi.2.2.2.2, tk_laylen.symm⟩]
    rfl) kk
/-! small arithmetic that may fail -/
theorem tk_idiv {nx a b k : Nat} {z : Int} {kp : Option (List Nat)} {x y : Int32} (hE : tk_code mr.2.2.2.2.2.2 pc = some (.idiv, nx, a, b, k, z, kp)) (hk : tk_keep (kf pc) ls = ls) (hy : ¬ y = 0) (kk : tk_Ex sc d mr kf nx ls (.int (x / y) :: st) M o) : tk_Ex sc d mr kf pc ls (.int y :: .int x :: st) M o :=
  tk_1P hE rfl (by rw [hk]; simp only [tk_stepP]; rw [if_neg hy]) kk
theorem tk_ldiv {nx a b k : Nat} {z : Int} {kp : Option (List Nat)} {x y : Int64} (hE : tk_code mr.2.2.2.2.2.2 pc = some (.ldiv, nx, a, b, k, z, kp)) (hk : tk_keep (kf pc) ls = ls) (hy : ¬ y = 0) (kk : tk_Ex sc d mr kf nx ls (.long (x / y) :: st) M o) : tk_Ex sc d mr kf pc ls (.long y :: .long x :: st) M o :=
  tk_1P hE rfl (by rw [hk]; simp only [tk_stepP]; rw [if_neg hy]) kk
theorem tk_iremR {nx a b k : Nat} {z : Int} {kp : Option (List Nat)} {x y : Int32} (hE : tk_code mr.2.2.2.2.2.2 pc = some (.irem, nx, a, b, k, z, kp)) (hk : tk_keep (kf pc) ls = ls) (hy : ¬ y = 0) (kk : tk_Ex sc d mr kf nx ls (.int (tk_irem x y) :: st) M o) : tk_Ex sc d mr kf pc ls (.int y :: .int x :: st) M o :=
  tk_1P hE rfl (by rw [hk]; simp only [tk_stepP]; rw [if_neg hy]; rfl) kk
theorem tk_lremR {nx a b k : Nat} {z : Int} {kp : Option (List Nat)} {x y : Int64} (hE : tk_code mr.2.2.2.2.2.2 pc = some (.lrem, nx, a, b, k, z, kp)) (hk : tk_keep (kf pc) ls = ls) (hy : ¬ y = 0) (kk : tk_Ex sc d mr kf nx ls (.long (tk_lrem x y) :: st) M o) : tk_Ex sc d mr kf pc ls (.long y :: .long x :: st) M o :=
  tk_1P hE rfl (by rw [hk]; simp only [tk_stepP]; rw [if_neg hy]; rfl) kk
theorem tk_iorB {nx a b' k : Nat} {z : Int} {kp : Option (List Nat)} {b b2 : Bool} (hE : tk_code mr.2.2.2.2.2.2 pc = some (.ior, nx, a, b', k, z, kp)) (hk : tk_keep (kf pc) ls = ls) (kk : tk_Ex sc d mr kf nx ls (.int (tk_b (b || b2)) :: st) M o) : tk_Ex sc d mr kf pc ls (.int (tk_b b2) :: .int (tk_b b) :: st) M o :=
  tk_1P hE rfl (by rw [hk]; cases b <;> cases b2 <;> rfl) kk
theorem tk_iandB {nx a b' k : Nat} {z : Int} {kp : Option (List Nat)} {b b2 : Bool} (hE : tk_code mr.2.2.2.2.2.2 pc = some (.iand, nx, a, b', k, z, kp)) (hk : tk_keep (kf pc) ls = ls) (kk : tk_Ex sc d mr kf nx ls (.int (tk_b (b && b2)) :: st) M o) : tk_Ex sc d mr kf pc ls (.int (tk_b b2) :: .int (tk_b b) :: st) M o :=
  tk_1P hE rfl (by rw [hk]; cases b <;> cases b2 <;> rfl) kk
/-! switches -/
theorem tk_sw {x c : Int32} (hE : tk_code mr.2.2.2.2.2.2 pc = some E) (hk : tk_keep (kf pc) ls = ls) (hx : x = c) (h : tk_stepP E pc ls (.int c :: st) = some (pc', ls', st')) (k : tk_Ex sc d mr kf pc' ls' st' M o) (hs : tk_sort E = 0 := by rfl) : tk_Ex sc d mr kf pc ls (.int x :: st) M o :=
  tk_1P hE hs (by rw [hk, hx]; exact h) k
theorem tk_swD {x : Int32} {dd lo hi : Int} {offs : Array Int} {nx a b k : Nat} {z : Int} {kp : Option (List Nat)} (hE : tk_code mr.2.2.2.2.2.2 pc = some (.tableswitch dd lo hi offs, nx, a, b, k, z, kp)) (hk : tk_keep (kf pc) ls = ls) (hx : x.toInt < lo ∨ hi < x.toInt) (h0 : (decide (0 ≤ (pc : Int) + dd)) = true) (h : ((((pc : Int) + dd).toNat, ls, st) : Nat × tk_V × List Value) = (pc', ls', st')) (kk : tk_Ex sc d mr kf pc' ls' st' M o) : tk_Ex sc d mr kf pc ls (.int x :: st) M o :=
  tk_1P hE rfl (by rw [hk]; simp only [tk_stepP]; rw [if_pos hx, if_pos (of_decide_eq_true h0), h]) kk
/-! calls -/
theorem tk_cV0 {dc i nx ca n ck r : Nat} {z : Int} {kp : Option (List Nat)} {as rest : List Value} (hE : tk_code mr.2.2.2.2.2.2 pc = some (.invokevirtual i, nx, ca, n, ck, z, kp)) (hk : tk_keep (kf pc) ls = ls) (hst : (Nat.ble n st.length, (st.take n).reverse, st.drop n) = (true, as, .ref r :: rest)) (hl : tk_lay[r]? = some (.inl z.toNat)) (hsum : Nat.ble (rest.map fun v => v.category).sum 24 = true) (hd : Nat.ble dc d = true) (hr : tk_Ru sc dc ca (.ref r :: as) (tk_full m) (none, M1)) (k : tk_Ex sc d mr kf nx ls rest M1 o) : tk_Ex sc d mr kf pc ls st (tk_full m) o := by
  have e1 := congrArg (fun q => q.1) hst
  have e2 := congrArg (fun q => q.2.1) hst
  have e3 := congrArg (fun q => q.2.2) hst
  dsimp only at e1 e2 e3
  exact tk_1C hE rfl hk (by simp only [tk_inv]; rw [if_pos (Nat.le_of_ble_eq_true e1)]; simp only [e3]; rw [if_pos (tk_isO_of hl), e2]) (Nat.le_of_ble_eq_true hsum) (Nat.le_of_ble_eq_true hd) hr k
theorem tk_cV1 {dc i nx ca n ck r : Nat} {z : Int} {kp : Option (List Nat)} {as rest : List Value} {v : Value} (hE : tk_code mr.2.2.2.2.2.2 pc = some (.invokevirtual i, nx, ca, n, ck, z, kp)) (hk : tk_keep (kf pc) ls = ls) (hst : (Nat.ble n st.length, (st.take n).reverse, st.drop n) = (true, as, .ref r :: rest)) (hl : tk_lay[r]? = some (.inl z.toNat)) (hsum : Nat.ble (rest.map fun v => v.category).sum 24 = true) (hd : Nat.ble dc d = true) (hr : tk_Ru sc dc ca (.ref r :: as) (tk_full m) (some v, M1)) (k : tk_Ex sc d mr kf nx ls (v :: rest) M1 o) : tk_Ex sc d mr kf pc ls st (tk_full m) o := by
  have e1 := congrArg (fun q => q.1) hst
  have e2 := congrArg (fun q => q.2.1) hst
  have e3 := congrArg (fun q => q.2.2) hst
  dsimp only at e1 e2 e3
  exact tk_1C hE rfl hk (by simp only [tk_inv]; rw [if_pos (Nat.le_of_ble_eq_true e1)]; simp only [e3]; rw [if_pos (tk_isO_of hl), e2]) (Nat.le_of_ble_eq_true hsum) (Nat.le_of_ble_eq_true hd) hr k
theorem tk_cS0 {dc i nx ca n ck : Nat} {z : Int} {kp : Option (List Nat)} {as rest : List Value} (hE : tk_code mr.2.2.2.2.2.2 pc = some (.invokestatic i, nx, ca, n, ck, z, kp)) (hk : tk_keep (kf pc) ls = ls) (hst : (Nat.ble n st.length, (st.take n).reverse, st.drop n) = (true, as, rest)) (hsum : Nat.ble (rest.map fun v => v.category).sum 24 = true) (hd : Nat.ble dc d = true) (hr : tk_Ru sc dc ca as M (none, M1)) (k : tk_Ex sc d mr kf nx ls rest M1 o) (h9 : Nat.beq ck 9 = false := by rfl) : tk_Ex sc d mr kf pc ls st M o := by
  have e1 := congrArg (fun q => q.1) hst
  have e2 := congrArg (fun q => q.2.1) hst
  have e3 := congrArg (fun q => q.2.2) hst
  dsimp only at e1 e2 e3
  exact tk_1C hE (if_neg (Nat.ne_of_beq_eq_false h9)) hk (by simp only [tk_inv]; rw [if_pos (Nat.le_of_ble_eq_true e1), e2, e3]) (Nat.le_of_ble_eq_true hsum) (Nat.le_of_ble_eq_true hd) hr k
theorem tk_cS1 {dc i nx ca n ck : Nat} {z : Int} {kp : Option (List Nat)} {as rest : List Value} {v : Value} (hE : tk_code mr.2.2.2.2.2.2 pc = some (.invokestatic i, nx, ca, n, ck, z, kp)) (hk : tk_keep (kf pc) ls = ls) (hst : (Nat.ble n st.length, (st.take n).reverse, st.drop n) = (true, as, rest)) (hsum : Nat.ble (rest.map fun v => v.category).sum 24 = true) (hd : Nat.ble dc d = true) (hr : tk_Ru sc dc ca as M (some v, M1)) (k : tk_Ex sc d mr kf nx ls (v :: rest) M1 o) (h9 : Nat.beq ck 9 = false := by rfl) : tk_Ex sc d mr kf pc ls st M o := by
  have e1 := congrArg (fun q => q.1) hst
  have e2 := congrArg (fun q => q.2.1) hst
  have e3 := congrArg (fun q => q.2.2) hst
  dsimp only at e1 e2 e3
  exact tk_1C hE (if_neg (Nat.ne_of_beq_eq_false h9)) hk (by simp only [tk_inv]; rw [if_pos (Nat.le_of_ble_eq_true e1), e2, e3]) (Nat.le_of_ble_eq_true hsum) (Nat.le_of_ble_eq_true hd) hr k
/-! ends -/
theorem tk_RI {nx a b k : Nat} {z : Int} {kp : Option (List Nat)} {v : Int32} (hE : tk_code mr.2.2.2.2.2.2 pc = some (.ireturn, nx, a, b, k, z, kp)) (hr : mr.2.2.2.1 = some .int) (_ : tk_keep none ls = ls) : tk_Ex sc d mr kf pc ls [.int v] M (some (.int v), M) :=
  tk_1R hE ⟨Nat.le_refl 3, (by decide : (3 : Nat) ≤ 6)⟩ (by rw [hr]; rfl)
theorem tk_RB {nx a b' k : Nat} {z : Int} {kp : Option (List Nat)} {b : Bool} (hE : tk_code mr.2.2.2.2.2.2 pc = some (.ireturn, nx, a, b', k, z, kp)) (hr : mr.2.2.2.1 = some .boolean) (_ : tk_keep none ls = ls) : tk_Ex sc d mr kf pc ls [.int (tk_b b)] M (some (.int (tk_b b)), M) :=
  tk_1R hE ⟨Nat.le_refl 3, (by decide : (3 : Nat) ≤ 6)⟩ (by rw [hr]; cases b <;> rfl)
theorem tk_RJ {nx a b k : Nat} {z : Int} {kp : Option (List Nat)} {v : Int64} (hE : tk_code mr.2.2.2.2.2.2 pc = some (.lreturn, nx, a, b, k, z, kp)) (hr : mr.2.2.2.1 = some .long) (_ : tk_keep none ls = ls) : tk_Ex sc d mr kf pc ls [.long v] M (some (.long v), M) :=
  tk_1R hE ⟨(by decide : (3 : Nat) ≤ 4), (by decide : (4 : Nat) ≤ 6)⟩ (by rw [hr]; rfl)
theorem tk_RA {nx a b k r : Nat} {z : Int} {kp : Option (List Nat)} {C : String} (hE : tk_code mr.2.2.2.2.2.2 pc = some (.areturn, nx, a, b, k, z, kp)) (hr : mr.2.2.2.1 = some (.object C)) (_ : tk_keep none ls = ls) (_ : tk_keep none ls = ls) : tk_Ex sc d mr kf pc ls [.ref r] M (some (.ref r), M) :=
  tk_1R hE ⟨(by decide : (3 : Nat) ≤ 5), (by decide : (5 : Nat) ≤ 6)⟩ (by rw [hr]; rfl)
theorem tk_RV {nx a b k : Nat} {z : Int} {kp : Option (List Nat)} (hE : tk_code mr.2.2.2.2.2.2 pc = some (.return_, nx, a, b, k, z, kp)) (hr : mr.2.2.2.1 = none) (_ : tk_keep none ls = ls) : tk_Ex sc d mr kf pc ls [] M (none, M) :=
  tk_1R hE ⟨(by decide : (3 : Nat) ≤ 6), Nat.le_refl 6⟩ (by rw [hr]; rfl)
end ROWS
theorem tk_swo {lo hi : Int} {x : Int32} (h : ∀ k : Int, lo ≤ k → k ≤ hi → x ≠ Int32.ofInt k) : x.toInt < lo ∨ hi < x.toInt := by
  rcases Int.lt_or_le x.toInt lo with q | q
  · exact Or.inl q
  · rcases Int.lt_or_le hi x.toInt with q2 | q2
    · exact Or.inr q2
    · exact absurd (Int32.ofInt_toInt x).symm (h x.toInt q q2)

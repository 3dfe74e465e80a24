/-! ===== soundness of the steps that touch no heap ===== -/
def tk_ln (pc : Nat) (i : Instr) : Nat := match i with
  | .tableswitch _ _ _ offs => (pc / 4 + 1) * 4 - pc + 12 + 4 * offs.size
  | i => tk_len i
def tk_okP (nL pc : Nat) (E : tk_E) : Bool := match E.1 with
  | .istore_n k => decide (k.val < nL)
  | .istore k => decide (k < nL)
  | .lstore_n k => decide (k.val + 1 < nL)
  | .lstore k => decide (k + 1 < nL)
  | .astore_n k => decide (k.val < nL)
  | .astore k => decide (k < nL)
  | .iinc k _ => decide (k < nL)
  | .ifCond _ off => decide ((pc : Int) + off = (E.2.2.1 : Int))
  | .if_icmp _ off => decide ((pc : Int) + off = (E.2.2.1 : Int))
  | .goto off => decide ((pc : Int) + off = (E.2.2.1 : Int))
  | _ => true
def tk_ad (B0 : Nat) (ex : Nat → Nat) (i : Nat) : Nat := if i < 1000 then B0 + i else ex (i - 1000)
def tk_cv (ad : Nat → Nat) (v : Value) : Value := match v with
  | .ref i => .ref (ad i)
  | v => v
def tk_cl (ad : Nat → Nat) (ls : tk_V) : tk_V := ls.map (fun q => (q.1, tk_cv ad q.2))
theorem tk_cv_cat (ad : Nat → Nat) (v : Value) : (tk_cv ad v).category = v.category := by cases v <;> rfl
theorem tk_get_mem {ls : tk_V} {i : Nat} {v : Value} (h : tk_get ls i = some v) : (i, v) ∈ ls := by
  induction ls with
  | nil => cases h
  | cons q r ih =>
    unfold tk_get at h
    split at h
    · rename_i e
      cases h
      rw [← Nat.eq_of_beq_eq_true e]
      exact List.mem_cons_self
    · exact List.mem_cons_of_mem _ (ih h)
theorem tk_lat {ad : Nat → Nat} {lsA : Array Slot} {nL : Nat} {ls : tk_V} {i : Nat} {v : Value} (hl : lv_has lsA nL (tk_cl ad ls)) (h : tk_get ls i = some v) : lsA[i]? = some (.val (tk_cv ad v)) :=
  hl.2.2 (i, tk_cv ad v) (List.mem_map.mpr ⟨(i, v), tk_get_mem h, rfl⟩)
theorem tk_fil {ad : Nat → Nat} (P : Nat → Nat → Bool) (ls : tk_V) : tk_cl ad (ls.filter (fun q => P q.1 q.2.category)) = (tk_cl ad ls).filter (fun q => P q.1 q.2.category) := by
  unfold tk_cl
  rw [List.filter_map]
  congr 1
  apply List.filter_congr
  intro q _
  simp [tk_cv_cat]
theorem tk_put1_cl {ad : Nat → Nat} (ls : tk_V) (i : Nat) (v : Value) : (i, tk_cv ad v) :: (tk_cl ad ls).filter (fun q => !(q.1 == i) && !(q.1 + 1 == i && q.2.category == 2)) = tk_cl ad (tk_put1 ls i v) := by
  unfold tk_put1
  rw [← tk_fil (fun a b => !(a == i) && !(a + 1 == i && b == 2))]
  rfl
theorem tk_put2_cl {ad : Nat → Nat} (ls : tk_V) (i : Nat) (v : Value) : (i, tk_cv ad v) :: (tk_cl ad ls).filter (fun q => !(q.1 == i) && (!(q.1 == i + 1) && !(q.1 + 1 == i && q.2.category == 2))) = tk_cl ad (tk_put2 ls i v) := by
  unfold tk_put2
  rw [← tk_fil (fun a b => !(a == i) && (!(a == i + 1) && !(a + 1 == i && b == 2)))]
  rfl
theorem tk_keep_has {ad : Nat → Nat} {lsA : Array Slot} {nL : Nat} {ls : tk_V} (ks : Option (List Nat)) (hl : lv_has lsA nL (tk_cl ad ls)) : lv_has lsA nL (tk_cl ad (tk_keep ks ls)) := by
  cases ks with
  | none => exact hl
  | some l =>
    refine ⟨hl.1, hl.2.1, fun q hq => ?_⟩
    obtain ⟨q1, h1, h2⟩ := List.mem_map.mp hq
    obtain ⟨i, -, hi⟩ := List.mem_filterMap.mp h1
    cases hg : tk_get ls i with
    | none => rw [hg] at hi; cases hi
    | some v =>
      rw [hg] at hi
      cases hi
      rw [← h2]
      exact tk_lat hl hg

section TKP
variable {p : Program} {l : Launch} {e : Env} {R : Room} {s : State} {m : MethodId} {args : Array Value} {below : List Frame} {meth : Method} {c : Code} {H : Heap} {locs : List Loc} {cells slots : Nat} {Q : State → Prop}
set_option maxHeartbeats 4000000 in
theorem tk_soundP {cc : ByteArray} {own : String} {nL pc pc' : Nat} {ad : Nat → Nat} {ls ls' : tk_V} {st st' : List Value} {lsA : Array Slot} {E : tk_E}
    (hx : p.tables.exec = Jvm.exec) (hb : c.code = cc) (hown : s.vm.findClass own = some m.cls)
    (hcst : ∀ i, E.1 = .ldc i ∨ E.1 = .ldc_w i → (Cond.constant own i (Int32.ofInt E.2.2.2.2.2.1)).before args s = true)
    (hcst2 : ∀ i, E.1 = .ldc2_w i → (Cond.constantLong own i (Int64.ofInt E.2.2.2.2.2.1)).before args s = true)
    (hd : decode cc pc = .ok (E.1, tk_ln pc E.1)) (hn : E.2.1 = pc + tk_ln pc E.1) (hok : tk_okP nL pc E = true)
    (h : tk_stepP E pc ls st = some (pc', ls', st')) (hl : lv_has lsA nL (tk_cl ad ls))
    (kk : ∀ lsA', lv_has lsA' nL (tk_cl ad ls') → W p l e R s m args below meth c H locs cells slots Q (F0 m pc' lsA' (st'.map (tk_cv ad)))) :
    W p l e R s m args below meth c H locs cells slots Q (F0 m pc lsA (st.map (tk_cv ad))) := by
  obtain ⟨ins, nx, a, b, k3, z, kp⟩ := E
  dsimp only at hcst hcst2 hd hn
  subst hn
  cases ins <;> try (cases h; done)
  case iconst k =>
    cases h
    exact lv_iconst hx hb hd rfl (kk _ hl)
  case bipush k =>
    cases h
    exact lv_bipush hx hb hd rfl (kk _ hl)
  case sipush k =>
    cases h
    exact lv_sipush hx hb hd rfl (kk _ hl)
  case lconst k =>
    cases h
    exact lv_lconst hx hb hd rfl (kk _ hl)
  case ldc i =>
    cases h
    exact lv_ldc hx hb hown (hcst i (Or.inl rfl)) hd (kk _ hl)
  case ldc_w i =>
    cases h
    exact lv_ldcw hx hb hown (hcst i (Or.inr rfl)) hd (kk _ hl)
  case ldc2_w i =>
    cases h
    exact lv_ldc2 hx hb hown (hcst2 i rfl) hd (kk _ hl)
  case iload_n k =>
    simp only [tk_stepP] at h
    split at h
    · cases h
      rename_i hg
      exact lv_iload_n hx hb hd rfl (tk_lat hl hg) (kk _ hl)
    · cases h
  case iload k =>
    simp only [tk_stepP] at h
    split at h
    · cases h
      rename_i hg
      exact lv_iload hx hb hd (tk_lat hl hg) (kk _ hl)
    · cases h
  case lload_n k =>
    simp only [tk_stepP] at h
    split at h
    · cases h
      rename_i hg
      exact lv_lload_n hx hb hd rfl (tk_lat hl hg) (kk _ hl)
    · cases h
  case lload k =>
    simp only [tk_stepP] at h
    split at h
    · cases h
      rename_i hg
      exact lv_lload hx hb hd (tk_lat hl hg) (kk _ hl)
    · cases h
  case aload_n k =>
    simp only [tk_stepP] at h
    split at h
    · cases h
      rename_i hg
      exact lv_aload_n hx hb hd rfl (tk_lat hl hg) (kk _ hl)
    · cases h
  case aload k =>
    simp only [tk_stepP] at h
    split at h
    · cases h
      rename_i hg
      exact lv_aload hx hb hd (tk_lat hl hg) (kk _ hl)
    · cases h
  case istore_n k =>
    simp only [tk_stepP] at h
    split at h
    · cases h
      exact lv_istore_n hx hb hd rfl hl (of_decide_eq_true hok) (tk_put1_cl (ad := ad) ls k.val (.int _)) (fun ls h => kk ls h)
    · cases h
  case istore k =>
    simp only [tk_stepP] at h
    split at h
    · cases h
      exact lv_istore hx hb hd hl (of_decide_eq_true hok) (tk_put1_cl (ad := ad) ls k (.int _)) (fun ls h => kk ls h)
    · cases h
  case lstore_n k =>
    simp only [tk_stepP] at h
    split at h
    · cases h
      exact lv_lstore_n hx hb hd rfl hl (of_decide_eq_true hok) (tk_put2_cl (ad := ad) ls k.val (.long _)) (fun ls h => kk ls h)
    · cases h
  case lstore k =>
    simp only [tk_stepP] at h
    split at h
    · cases h
      exact lv_lstore hx hb hd hl (of_decide_eq_true hok) (tk_put2_cl (ad := ad) ls k (.long _)) (fun ls h => kk ls h)
    · cases h
  case astore_n k =>
    simp only [tk_stepP] at h
    split at h
    · cases h
      exact lv_astore_n hx hb hd rfl hl (of_decide_eq_true hok) (tk_put1_cl (ad := ad) ls k.val (.ref _)) (fun ls h => kk ls h)
    · cases h
  case astore k =>
    simp only [tk_stepP] at h
    split at h
    · cases h
      exact lv_astore hx hb hd hl (of_decide_eq_true hok) (tk_put1_cl (ad := ad) ls k (.ref _)) (fun ls h => kk ls h)
    · cases h
  case iinc k n =>
    simp only [tk_stepP] at h
    split at h
    · cases h
      rename_i hg
      obtain ⟨q, hq⟩ := List.getElem?_of_mem (List.mem_map.mpr ⟨_, tk_get_mem hg, rfl⟩ : (k, tk_cv ad (.int _)) ∈ tk_cl ad ls)
      exact lv_iinc hx hb hd hl hq rfl (of_decide_eq_true hok) (tk_put1_cl (ad := ad) ls k (.int _)) (fun ls h => kk ls h)
    · cases h
  case iadd =>
    simp only [tk_stepP] at h
    split at h
    · cases h
      exact lv_iadd hx hb hd (kk _ hl)
    · cases h
  case isub =>
    simp only [tk_stepP] at h
    split at h
    · cases h
      exact lv_isub hx hb hd (kk _ hl)
    · cases h
  case imul =>
    simp only [tk_stepP] at h
    split at h
    · cases h
      exact lv_imul hx hb hd (kk _ hl)
    · cases h
  case iand =>
    simp only [tk_stepP] at h
    split at h
    · cases h
      exact lv_iand hx hb hd (kk _ hl)
    · cases h
  case ior =>
    simp only [tk_stepP] at h
    split at h
    · cases h
      exact lv_ior hx hb hd (kk _ hl)
    · cases h
  case ixor =>
    simp only [tk_stepP] at h
    split at h
    · cases h
      exact lv_ixor hx hb hd (kk _ hl)
    · cases h
  case ineg =>
    simp only [tk_stepP] at h
    split at h
    · cases h
      exact lv_ineg hx hb hd (kk _ hl)
    · cases h
  case ishl =>
    simp only [tk_stepP] at h
    split at h
    · cases h
      exact lv_ishl hx hb hd (kk _ hl)
    · cases h
  case ishr =>
    simp only [tk_stepP] at h
    split at h
    · cases h
      exact lv_ishr hx hb hd (kk _ hl)
    · cases h
  case ladd =>
    simp only [tk_stepP] at h
    split at h
    · cases h
      exact lv_ladd hx hb hd (kk _ hl)
    · cases h
  case lsub =>
    simp only [tk_stepP] at h
    split at h
    · cases h
      exact lv_lsub hx hb hd (kk _ hl)
    · cases h
  case lmul =>
    simp only [tk_stepP] at h
    split at h
    · cases h
      exact lv_lmul hx hb hd (kk _ hl)
    · cases h
  case land =>
    simp only [tk_stepP] at h
    split at h
    · cases h
      exact lv_land hx hb hd (kk _ hl)
    · cases h
  case lor =>
    simp only [tk_stepP] at h
    split at h
    · cases h
      exact lv_lor hx hb hd (kk _ hl)
    · cases h
  case lxor =>
    simp only [tk_stepP] at h
    split at h
    · cases h
      exact lv_lxor hx hb hd (kk _ hl)
    · cases h
  case lneg =>
    simp only [tk_stepP] at h
    split at h
    · cases h
      exact lv_lneg hx hb hd (kk _ hl)
    · cases h
  case idiv =>
    simp only [tk_stepP] at h
    split at h
    · split at h
      · cases h
      · rename_i h0
        cases h
        exact lv_idiv hx hb hd h0 (kk _ hl)
    · cases h
  case irem =>
    simp only [tk_stepP] at h
    split at h
    · split at h
      · cases h
      · rename_i h0
        cases h
        exact lv_irem hx hb hd h0 (kk _ hl)
    · cases h
  case ldiv =>
    simp only [tk_stepP] at h
    split at h
    · split at h
      · cases h
      · rename_i h0
        cases h
        exact lv_ldiv hx hb hd h0 (kk _ hl)
    · cases h
  case lrem =>
    simp only [tk_stepP] at h
    split at h
    · split at h
      · cases h
      · rename_i h0
        cases h
        exact lv_lrem hx hb hd h0 (kk _ hl)
    · cases h
  case iushr =>
    simp only [tk_stepP] at h
    split at h
    · cases h
      exact lv_iushr hx hb hd rfl (kk _ hl)
    · cases h
  case lshl =>
    simp only [tk_stepP] at h
    split at h
    · cases h
      exact lv_lshl hx hb hd rfl (kk _ hl)
    · cases h
  case lshr =>
    simp only [tk_stepP] at h
    split at h
    · cases h
      exact lv_lshr hx hb hd rfl (kk _ hl)
    · cases h
  case lushr =>
    simp only [tk_stepP] at h
    split at h
    · cases h
      exact lv_lushr hx hb hd rfl (kk _ hl)
    · cases h
  case i2l =>
    simp only [tk_stepP] at h
    split at h
    · cases h
      exact lv_i2l hx hb hd rfl (kk _ hl)
    · cases h
  case l2i =>
    simp only [tk_stepP] at h
    split at h
    · cases h
      exact lv_l2i hx hb hd rfl (kk _ hl)
    · cases h
  case i2b =>
    simp only [tk_stepP] at h
    split at h
    · cases h
      exact lv_i2b hx hb hd rfl (kk _ hl)
    · cases h
  case lcmp =>
    simp only [tk_stepP] at h
    split at h
    · cases h
      exact W.lcmp hx hb hd (kk _ hl)
    · cases h
  case dup =>
    simp only [tk_stepP] at h
    split at h
    · cases h
      exact lv_dup hx hb hd rfl (kk _ hl)
    · cases h
      exact lv_dup hx hb hd rfl (kk _ hl)
    · cases h
  case dup2 =>
    simp only [tk_stepP] at h
    split at h
    · cases h
      exact lv_dup2_11 hx hb hd rfl rfl (kk _ hl)
    · cases h
      exact lv_dup2_11 hx hb hd rfl rfl (kk _ hl)
    · cases h
      exact lv_dup2_2 hx hb hd rfl (kk _ hl)
    · cases h
  case pop =>
    simp only [tk_stepP] at h
    split at h
    · cases h
      exact lv_pop hx hb hd rfl (kk _ hl)
    · cases h
      exact lv_pop hx hb hd rfl (kk _ hl)
    · cases h
  case goto off =>
    cases h
    exact lv_goto hx hb hd (of_decide_eq_true hok) (kk _ hl)
  case ifCond cd off =>
    cases cd
    case eq =>
      simp only [tk_stepP] at h
      split at h
      · split at h
        · rename_i h0
          cases h
          exact lv_if_eq hx hb hd (of_decide_eq_true hok) (fun _ => kk _ hl) (fun q => absurd h0 q)
        · rename_i h0
          cases h
          exact lv_if_eq hx hb hd (of_decide_eq_true hok) (fun q => absurd q h0) (fun _ => kk _ hl)
      · cases h
    case ne =>
      simp only [tk_stepP] at h
      split at h
      · split at h
        · rename_i h0
          cases h
          exact lv_if_ne hx hb hd (of_decide_eq_true hok) (fun q => absurd h0 q) (fun _ => kk _ hl)
        · rename_i h0
          cases h
          exact lv_if_ne hx hb hd (of_decide_eq_true hok) (fun _ => kk _ hl) (fun q => absurd q h0)
      · cases h
    case lt =>
      simp only [tk_stepP] at h
      split at h
      · split at h
        · rename_i h0
          cases h
          exact lv_if_lt hx hb hd (of_decide_eq_true hok) (fun _ => kk _ hl) (fun q => absurd h0 q)
        · rename_i h0
          cases h
          exact lv_if_lt hx hb hd (of_decide_eq_true hok) (fun q => absurd q h0) (fun _ => kk _ hl)
      · cases h
    case ge =>
      simp only [tk_stepP] at h
      split at h
      · split at h
        · rename_i h0
          cases h
          exact lv_if_ge hx hb hd (of_decide_eq_true hok) (fun _ => kk _ hl) (fun q => absurd h0 q)
        · rename_i h0
          cases h
          exact lv_if_ge hx hb hd (of_decide_eq_true hok) (fun q => absurd q h0) (fun _ => kk _ hl)
      · cases h
    case gt =>
      simp only [tk_stepP] at h
      split at h
      · split at h
        · rename_i h0
          cases h
          exact lv_if_gt hx hb hd (of_decide_eq_true hok) (fun _ => kk _ hl) (fun q => absurd h0 q)
        · rename_i h0
          cases h
          exact lv_if_gt hx hb hd (of_decide_eq_true hok) (fun q => absurd q h0) (fun _ => kk _ hl)
      · cases h
    case le =>
      simp only [tk_stepP] at h
      split at h
      · split at h
        · rename_i h0
          cases h
          exact lv_if_le hx hb hd (of_decide_eq_true hok) (fun _ => kk _ hl) (fun q => absurd h0 q)
        · rename_i h0
          cases h
          exact lv_if_le hx hb hd (of_decide_eq_true hok) (fun q => absurd q h0) (fun _ => kk _ hl)
      · cases h
  case if_icmp cd off =>
    cases cd
    case eq =>
      simp only [tk_stepP] at h
      split at h
      · split at h
        · rename_i h0
          cases h
          exact lv_icmp_eq hx hb hd (of_decide_eq_true hok) (fun _ => kk _ hl) (fun q => absurd h0 q)
        · rename_i h0
          cases h
          exact lv_icmp_eq hx hb hd (of_decide_eq_true hok) (fun q => absurd q h0) (fun _ => kk _ hl)
      · cases h
    case ne =>
      simp only [tk_stepP] at h
      split at h
      · split at h
        · rename_i h0
          cases h
          exact lv_icmp_ne hx hb hd (of_decide_eq_true hok) (fun q => absurd h0 q) (fun _ => kk _ hl)
        · rename_i h0
          cases h
          exact lv_icmp_ne hx hb hd (of_decide_eq_true hok) (fun _ => kk _ hl) (fun q => absurd q h0)
      · cases h
    case lt =>
      simp only [tk_stepP] at h
      split at h
      · split at h
        · rename_i h0
          cases h
          exact lv_icmp_lt hx hb hd (of_decide_eq_true hok) (fun _ => kk _ hl) (fun q => absurd h0 q)
        · rename_i h0
          cases h
          exact lv_icmp_lt hx hb hd (of_decide_eq_true hok) (fun q => absurd q h0) (fun _ => kk _ hl)
      · cases h
    case ge =>
      simp only [tk_stepP] at h
      split at h
      · split at h
        · rename_i h0
          cases h
          exact lv_icmp_ge hx hb hd (of_decide_eq_true hok) (fun _ => kk _ hl) (fun q => absurd h0 q)
        · rename_i h0
          cases h
          exact lv_icmp_ge hx hb hd (of_decide_eq_true hok) (fun q => absurd q h0) (fun _ => kk _ hl)
      · cases h
    case gt =>
      simp only [tk_stepP] at h
      split at h
      · split at h
        · rename_i h0
          cases h
          exact lv_icmp_gt hx hb hd (of_decide_eq_true hok) (fun _ => kk _ hl) (fun q => absurd h0 q)
        · rename_i h0
          cases h
          exact lv_icmp_gt hx hb hd (of_decide_eq_true hok) (fun q => absurd q h0) (fun _ => kk _ hl)
      · cases h
    case le =>
      simp only [tk_stepP] at h
      split at h
      · split at h
        · rename_i h0
          cases h
          exact lv_icmp_le hx hb hd (of_decide_eq_true hok) (fun _ => kk _ hl) (fun q => absurd h0 q)
        · rename_i h0
          cases h
          exact lv_icmp_le hx hb hd (of_decide_eq_true hok) (fun q => absurd q h0) (fun _ => kk _ hl)
      · cases h
  case tableswitch d lo hi offs =>
    simp only [tk_stepP] at h
    split at h
    · split at h
      · rename_i h0
        split at h
        · rename_i h1
          cases h
          exact lv_tableOut hx hb hd h0 (Int.toNat_of_nonneg h1).symm (kk _ hl)
        · cases h
      · rename_i h0
        split at h
        · rename_i off ho
          split at h
          · rename_i h1
            cases h
            exact lv_tableIn hx hb hd (fun q => h0 (Or.inl q)) (fun q => h0 (Or.inr q)) ho (Int.toNat_of_nonneg h1).symm (kk _ hl)
          · cases h
        · cases h
    · cases h
end TKP

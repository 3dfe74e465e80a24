/-! test only -/
theorem tk_allQ : ∀ (j : Nat) (mr : tk_R), tk_mt[j]? = some mr → ∀ q ∈ mr.2.2.2.2.2.2, tk_okQ mr q := by
  sorry
theorem tk_allN : ∀ (j : Nat) (mr : tk_R), tk_mt[j]? = some mr → tk_okN mr := by
  sorry
theorem ckL : ∀ q ∈ tk_cL, tk_okQ tk_rL q := by
  sorry

/-! THE CLASS: comparisons unpacked, tally, leads, weights, points -/
theorem i_a0 (x : Int32) : x + nI 0 = x := by
  show x + 0 = x
  first | exact Int32.add_zero x | simp
theorem i_s0 (x : Int32) : x - nI 0 = x := by
  show x - 0 = x
  first | exact Int32.sub_zero x | simp
theorem i_ad (a b d e : Int32) : a - b + d - e = (a + d) - (b + e) := by grind
theorem i_sub (a : Int32) : a - a = 0 := by grind
theorem k_pk : ∀ l, l < 8 → ∀ f, f < 8 → ∀ s, s < 8 → ∀ a, a < 3 → C_CO_packed (nI l) (nI f) (nI s) (nI a) = nI (256 * l + 32 * f + 4 * s + a) := by decide +kernel
theorem k_unp : ∀ l, l < 8 → ∀ f, f < 8 → ∀ s, s < 8 → ∀ a, a < 3 → C_CO_listenerOf (nI (256 * l + 32 * f + 4 * s + a)) = nI l ∧ C_CO_firstOf (nI (256 * l + 32 * f + 4 * s + a)) = nI f ∧ C_CO_secondOf (nI (256 * l + 32 * f + 4 * s + a)) = nI s ∧ C_CO_answerOf (nI (256 * l + 32 * f + 4 * s + a)) = nI a := by decide +kernel

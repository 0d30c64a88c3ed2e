/-! small methods -/
theorem a_00 : (0 : Int32) &&& 1 = 0 := by decide
theorem a_11 : (1 : Int32) &&& 1 = 1 := by decide
section SMALL
variable {h : mr_h} {Q : Option Value → mr_h → Prop}
theorem q_rl_bit (k : Nat) : mr_run 16 [.int (nI k)] h Q = Q (some (.int (nb k))) h := by
  rw [r_rl_bit]
  simp only [S_rl_bit]
  rfl
theorem q_rl_holds {k : Nat} (hk : k < 32) (x : Int32) : mr_run 17 [.int x, .int (nI k)] h Q = Q (some (.int (b2i (bt x k)))) h := by
  rw [r_rl_holds]
  simp only [S_rl_holds, shr1 hk, b2i_0, a_00, a_11]
  cases bt x k <;> rfl
theorem q_mo_has {k : Nat} (hk : k < 32) (x : Int32) : mr_run 130 [.int x, .int (nI k)] h Q = Q (some (.int (b2i (bt x k)))) h := by
  rw [r_mo_has]
  simp only [S_mo_has, shr1 hk, b2i_1, a_00, a_11]
  cases bt x k <;> rfl
theorem q_mo_in (x a b : Int32) : mr_run 121 [.int x, .int a, .int b] h Q = Q (some (.int (b2i (decide (¬ x < a ∧ ¬ b < x))))) h := by
  rw [r_mo_in]
  simp only [S_mo_in, a_00, a_11]
  by_cases h1 : x < a
  · simp [h1, b2i]
  · by_cases h2 : b < x <;> simp [h1, h2, b2i]
theorem q_rl_isChoice (x : Int32) : mr_run 82 [.int x] h Q = Q (some (.int (b2i (decide (x = 0 ∨ x = 1))))) h := by
  rw [r_rl_isChoice]
  simp only [S_rl_isChoice, a_00, a_11]
  by_cases h1 : x = 0
  · simp [h1, b2i]
  · by_cases h2 : x = 1 <;> simp [h1, h2, b2i]
theorem q_rl_edgeNumber (a b : Int32) : mr_run 92 [.int a, .int b] h Q = Q (some (.int (16 * a + b))) h := by
  rw [r_rl_edgeNumber]
  simp only [S_rl_edgeNumber]
end SMALL

/-! rate -/
theorem lw_ok {a b : Nat} (l4 : Int32) (h4 : l4 = 0 ∨ l4 = 1) (ha : a ≤ 20000) (hb : b ≤ 20000) (h0 : 0 < b) : fX10_lowest (nI a).toInt64 (nI b).toInt64 l4 = some ((nI ((if l4 = 0 then a else b) / Nat.gcd a b)).toInt64) := by
  unfold fX10_lowest
  by_cases hz : a = 0
  · rw [if_pos ((L_cmp0 (by omega)).mpr hz), hz, Nat.gcd_zero_left]
    rcases h4 with rfl | rfl
    · rw [if_pos rfl, Nat.zero_div]; rfl
    · rw [if_neg n10, Nat.div_self h0]; rfl
  · rw [if_neg (fun q => hz ((L_cmp0 (by omega)).mp q))]
    exact lw_go l4 ha hb 15 FU a b (by omega) (by unfold FU; omega) ha hb (Or.inr h0)

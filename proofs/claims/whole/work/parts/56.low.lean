/-! the model's lowest terms -/
theorem bmod64 {z : Int} (h1 : 0 ≤ z) (h2 : z < 1000000000000) : z.bmod (2 ^ 64) = z := by
  apply Int.bmod_eq_of_le <;> omega
theorem L_div {a b : Nat} (ha : a ≤ 1000000) (hb : b ≤ 1000000) : (nI a).toInt64 / (nI b).toInt64 = (nI (a / b)).toInt64 := by
  have h : a / b ≤ a := Nat.div_le_self a b
  rw [← Int64.toInt_inj, Int64.toInt_div, L_toInt ha, L_toInt hb, L_toInt (by omega), ← Int.ofNat_tdiv]
  generalize a / b = z at h ⊢
  exact bmod64 (by omega) (by omega)
theorem L_rem {a b : Nat} (ha : a ≤ 1000000) (hb : b ≤ 1000000) : lrem (nI a).toInt64 (nI b).toInt64 = (nI (a % b)).toInt64 := by
  have h : a / b ≤ a := Nat.div_le_self a b
  have hm : a % b ≤ a := Nat.mod_le a b
  have h2 : (a / b) * b ≤ a := Nat.div_mul_le_self a b
  have h3 := Nat.div_add_mod a b
  have h4 : b * (a / b) = (a / b) * b := Nat.mul_comm _ _
  unfold lrem
  rw [L_div ha hb, ← Int64.toInt_inj, Int64.toInt_sub, Int64.toInt_mul, L_toInt ha, L_toInt hb, L_toInt (show a / b ≤ 1000000 by omega), L_toInt (show a % b ≤ 1000000 by omega), ← Int.natCast_mul]
  generalize a / b * b = w at h2 h4 ⊢
  generalize b * (a / b) = u at h3 h4
  generalize a % b = v at h3 hm ⊢
  rw [bmod64 (z := (w : Int)) (by omega) (by omega), bmod64 (by omega) (by omega)]
  omega

/-! the model's lowest terms -/
theorem bmod64 {z : Int} (h1 : 0 ≤ z) (h2 : z < 1000000000000) : z.bmod (2 ^ 64) = z := by
  apply Int.bmod_eq_of_le <;> omega
theorem L_div {a b : Nat} (ha : a ≤ 1000000) (hb : b ≤ 1000000) : (nI a).toInt64 / (nI b).toInt64 = (nI (a / b)).toInt64 := by
  have h : a / b ≤ a := Nat.div_le_self a b
  rw [← Int64.toInt_inj, Int64.toInt_div, L_toInt ha, L_toInt hb, L_toInt (by omega), ← Int.ofNat_tdiv]
  generalize a / b = z at h ⊢
  exact bmod64 (by omega) (by omega)
theorem L_rem {a b : Nat} (ha : a ≤ 1000000) (hb : b ≤ 1000000) : lrem (nI a).toInt64 (nI b).toInt64 = (nI (a % b)).toInt64 := by
  have h : a / b ≤ a := Nat.div_le_self a b
  have hm : a % b ≤ a := Nat.mod_le a b
  have h2 : (a / b) * b ≤ a := Nat.div_mul_le_self a b
  have h3 := Nat.div_add_mod a b
  have h4 : b * (a / b) = (a / b) * b := Nat.mul_comm _ _
  unfold lrem
  rw [L_div ha hb, ← Int64.toInt_inj, Int64.toInt_sub, Int64.toInt_mul, L_toInt ha, L_toInt hb, L_toInt (show a / b ≤ 1000000 by omega), L_toInt (show a % b ≤ 1000000 by omega), ← Int.natCast_mul]
  generalize a / b * b = w at h2 h4 ⊢
  generalize b * (a / b) = u at h3 h4
  generalize a % b = v at h3 hm ⊢
  rw [bmod64 (z := (w : Int)) (by omega) (by omega), bmod64 (by omega) (by omega)]
  omega
theorem lw_go {a b : Nat} (l4 : Int32) (ha : a ≤ 20000) (hb : b ≤ 20000) : ∀ (k n x y : Nat), y < 2 ^ k → 2 * k + 3 ≤ n → x ≤ 20000 → y ≤ 20000 → (0 < x ∨ 0 < y) → lo2 (fX10_lowest_l16 (nI a).toInt64 (nI b).toInt64 l4) n (nI x).toInt64 (nI y).toInt64 = some ((nI ((if l4 = 0 then a else b) / Nat.gcd x y)).toInt64) := by
  have st : ∀ (n x y : Nat), x ≤ 20000 → y ≤ 20000 → (y = 0 → 0 < x) → lo2 (fX10_lowest_l16 (nI a).toInt64 (nI b).toInt64 l4) (n + 1) (nI x).toInt64 (nI y).toInt64 = if y = 0 then some ((nI ((if l4 = 0 then a else b) / x)).toInt64) else lo2 (fX10_lowest_l16 (nI a).toInt64 (nI b).toInt64 l4) n (nI y).toInt64 (nI (x % y)).toInt64 := by
    intro n x y hx hy h0
    show fX10_lowest_l16 (nI a).toInt64 (nI b).toInt64 l4 (lo2 (fX10_lowest_l16 (nI a).toInt64 (nI b).toInt64 l4) n) (nI x).toInt64 (nI y).toInt64 = _
    generalize hL : lo2 (fX10_lowest_l16 (nI a).toInt64 (nI b).toInt64 l4) n = L
    unfold fX10_lowest_l16 fX10_lowest_b41
    rw [bd]
    by_cases hy0 : y = 0
    · have hx0 : ¬ (nI x).toInt64 = 0 := fun q => by
        have := (L_eq0 (by omega)).mp q
        omega
      rw [if_pos ((L_cmp0 (by omega)).mpr hy0), if_neg hx0, if_neg hx0, if_pos hy0, L_div (by omega) (by omega), L_div (by omega) (by omega)]
      by_cases c : l4 = 0
      · rw [if_pos c, if_pos c]
      · rw [if_neg c, if_neg c]
    · rw [if_neg (fun q => hy0 ((L_cmp0 (by omega)).mp q)), if_neg (fun q => hy0 ((L_eq0 (by omega)).mp q)), if_neg hy0, L_rem (by omega) (by omega)]
  intro k
  induction k with
  | zero =>
    intro n x y h1 hn hx hy h0
    have hy0 : y = 0 := by simpa using h1
    obtain ⟨m, rfl⟩ : ∃ m, n = m + 1 := ⟨n - 1, by omega⟩
    rw [st m x y hx hy (by omega), if_pos hy0, hy0, Nat.gcd_zero_right]
  | succ k ih =>
    intro n x y h1 hn hx hy h0
    obtain ⟨m, rfl⟩ : ∃ m, n = m + 1 + 1 := ⟨n - 2, by omega⟩
    by_cases hy0 : y = 0
    · rw [st (m + 1) x y hx hy (by omega), if_pos hy0, hy0, Nat.gcd_zero_right]
    have hr : x % y < y := Nat.mod_lt x (by omega)
    rw [st (m + 1) x y hx hy (by omega), if_neg hy0, st m y (x % y) hy (by omega) (by omega)]
    have g1 : Nat.gcd x y = Nat.gcd y (x % y) := by rw [Nat.gcd_comm x y, Nat.gcd_rec y x, Nat.gcd_comm]
    by_cases hr0 : x % y = 0
    · rw [if_pos hr0, g1, hr0, Nat.gcd_zero_right]
    have hr2 : y % (x % y) < x % y := Nat.mod_lt y (by omega)
    have g2 : Nat.gcd y (x % y) = Nat.gcd (x % y) (y % (x % y)) := by rw [Nat.gcd_comm y (x % y), Nat.gcd_rec (x % y) y, Nat.gcd_comm]
    have half : 2 * (y % (x % y)) < y := by
      have hd := Nat.div_add_mod y (x % y)
      have hq : 1 ≤ y / (x % y) := Nat.div_pos (by omega) (by omega)
      have : (x % y) * 1 ≤ (x % y) * (y / (x % y)) := Nat.mul_le_mul_left _ hq
      omega
    rw [if_neg hr0, g1, g2]
    have hp : 2 ^ (k + 1) = 2 * 2 ^ k := by rw [Nat.pow_succ]; omega
    exact ih m (x % y) (y % (x % y)) (by omega) (by omega) (by omega) (by omega) (by omega)

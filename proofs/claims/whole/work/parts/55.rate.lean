/-! lowest terms -/
theorem jrem_nI {a d : Nat} (ha : a < 2 ^ 31) (h0 : 0 < d) (hd : d < 2 ^ 31) : jrem (nI a) (nI d) = nI (a % d) := pk_rem ha h0 hd
theorem po_end {a b x : Nat} (q : Nat) (l2 : Int32) (ha : a ≤ 20000) (hb : b ≤ 20000) (hx : 0 < x) (hx2 : x ≤ 20000) : fX9_partOf_b39 (nI a) (nI b) l2 (nI x) = some ((nI ((if l2 = 0 then a else b) / x)).toInt64) := by
  have h1 : ¬ nI x ≤ 0 := nI_nle hx (by omega)
  have h2 : ¬ nI x = 0 := nI_ne0 hx (by omega)
  unfold fX9_partOf_b39 fX9_partOf_b48
  by_cases c : l2 = 0
  · rw [if_pos c, if_pos c, if_neg h1, if_neg h2, pk_div (by omega) hx (by omega)]
  · rw [if_neg c, if_neg c, if_neg h1, if_neg h2, pk_div (by omega) hx (by omega)]
theorem po_go {a b : Nat} (l2 : Int32) (ha : a ≤ 20000) (hb : b ≤ 20000) : ∀ (k n x y c : Nat), y < 2 ^ k → k ≤ 15 → x ≤ 20000 → y ≤ 20000 → (0 < x ∨ 0 < y) → c + 2 * k + 2 ≤ 64 → 2 * k + 3 ≤ n → lo3 (fX9_partOf_l8 (nI a) (nI b) l2) n (nI x) (nI y) (nI c) = some ((nI ((if l2 = 0 then a else b) / Nat.gcd x y)).toInt64) := by
  have st : ∀ (n x y c : Nat), x ≤ 20000 → y ≤ 20000 → c < 64 → (y = 0 → 0 < x) → lo3 (fX9_partOf_l8 (nI a) (nI b) l2) (n + 1) (nI x) (nI y) (nI c) = if y = 0 then some ((nI ((if l2 = 0 then a else b) / x)).toInt64) else lo3 (fX9_partOf_l8 (nI a) (nI b) l2) n (nI y) (nI (x % y)) (nI (c + 1)) := by
    intro n x y c hx hy hc h0
    show fX9_partOf_l8 (nI a) (nI b) l2 (lo3 (fX9_partOf_l8 (nI a) (nI b) l2) n) (nI x) (nI y) (nI c) = _
    generalize lo3 (fX9_partOf_l8 (nI a) (nI b) l2) n = L
    unfold fX9_partOf_l8
    rw [bd, if_neg (show ¬ (64 : Int32) ≤ nI c from nI_ge (b := 64) hc (by omega)), nI_1]
    by_cases hy0 : y = 0
    · rw [if_pos hy0, if_pos (show nI y = 0 by rw [hy0]; rfl), po_end 0 l2 ha hb (h0 hy0) hx]
    · have hn : ¬ nI y = 0 := nI_ne0 (by omega) (by omega)
      rw [if_neg hy0, if_neg hn, if_neg hn, jrem_nI (by omega) (by omega) (by omega)]
  intro k
  induction k with
  | zero =>
    intro n x y c h1 _ hx hy h0 hc hn
    have hy0 : y = 0 := by simpa using h1
    obtain ⟨m, rfl⟩ : ∃ m, n = m + 1 := ⟨n - 1, by omega⟩
    rw [st m x y c hx hy (by omega) (by omega), if_pos hy0, hy0, Nat.gcd_zero_right]
  | succ k ih =>
    intro n x y c h1 hk hx hy h0 hc hn
    obtain ⟨m, rfl⟩ : ∃ m, n = m + 1 + 1 := ⟨n - 2, by omega⟩
    by_cases hy0 : y = 0
    · rw [st (m + 1) x y c hx hy (by omega) (by omega), if_pos hy0, hy0, Nat.gcd_zero_right]
    have hr : x % y < y := Nat.mod_lt x (by omega)
    rw [st (m + 1) x y c hx hy (by omega) (by omega), if_neg hy0, st m y (x % y) (c + 1) hy (by omega) (by omega) (by omega)]
    have g1 : Nat.gcd x y = Nat.gcd y (x % y) := by rw [Nat.gcd_comm x y, Nat.gcd_rec y x, Nat.gcd_comm]
    by_cases hr0 : x % y = 0
    · rw [if_pos hr0, g1, hr0, Nat.gcd_zero_right]
    have hr2 : y % (x % y) < x % y := Nat.mod_lt y (by omega)
    have g2 : Nat.gcd y (x % y) = Nat.gcd (x % y) (y % (x % y)) := by rw [Nat.gcd_comm y (x % y), Nat.gcd_rec (x % y) y, Nat.gcd_comm]
    have half : 2 * (y % (x % y)) < y := by
      have hd := Nat.div_add_mod y (x % y)
      have hq : 1 ≤ y / (x % y) := Nat.div_pos (by omega) (by omega)
      have : (x % y) * 1 ≤ (x % y) * (y / (x % y)) := Nat.mul_le_mul_left _ hq
      omega
    rw [if_neg hr0, g1, g2]
    have hp : 2 ^ (k + 1) = 2 * 2 ^ k := by rw [Nat.pow_succ]; omega
    exact ih m (x % y) (y % (x % y)) (c + 1 + 1) (by omega) (by omega) (by omega) (by omega) (by omega) (by omega) (by omega)
theorem po_ok {a b : Nat} (l2 : Int32) (ha : a ≤ 20000) (hb : b ≤ 20000) (h0 : 0 < a ∨ 0 < b) : fX9_partOf (nI a) (nI b) l2 = some ((nI ((if l2 = 0 then a else b) / Nat.gcd a b)).toInt64) := by
  unfold fX9_partOf
  exact po_go l2 ha hb 15 FU a b 0 (by omega) (by omega) ha hb h0 (by omega) (by unfold FU; omega)
theorem L_toInt {a : Nat} (h : a ≤ 1000000) : (nI a).toInt64.toInt = a := l_nI (by omega)
theorem L_eq0 {a : Nat} (h : a ≤ 1000000) : ((nI a).toInt64 = 0) ↔ a = 0 := by
  rw [← Int64.toInt_inj, L_toInt h]
  show (a : Int) = 0 ↔ _
  omega
theorem L_cmp0 {a : Nat} (h : a ≤ 1000000) : (lg_cmp (nI a).toInt64 0 = 0) ↔ a = 0 := by
  unfold lg_cmp
  by_cases c : a = 0
  · subst c
    exact ⟨fun _ => rfl, fun _ => by decide⟩
  · have h1 : (nI a).toInt64 > 0 := by
      show (0 : Int64) < _
      rw [Int64.lt_iff_toInt_lt, L_toInt h]
      show (0 : Int) < a
      omega
    rw [if_pos h1]
    exact ⟨fun q => absurd q (by decide), fun q => absurd q c⟩

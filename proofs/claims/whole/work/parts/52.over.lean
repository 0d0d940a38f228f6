/-! over: forms taken over, the class's and the model's -/
theorem over_X {i j : Nat} (hi : kd i = 3) (hj : kd j = 3) (h1 : i + 1 ≠ j + 1 ∧ i + 1 ≠ j + 2 ∧ i + 2 ≠ j + 1 ∧ i + 2 ≠ j + 2) : ∀ (n k : Nat) (X : XW), 20 < n + k → k ≤ 20 → ∃ X', lo2 (fX3_takeOver_l2 i j) n X (nI k) = some X' ∧ X'.1 = X.1 ∧ X'.2.2 = X.2.2 ∧ (∀ q, q ≠ i + 1 → q ≠ i + 2 → X'.2.1 q = X.2.1 q) ∧ (∀ q, X'.2.1 (i + 1) q = if k ≤ q ∧ q < 20 then X.2.1 (j + 1) q else X.2.1 (i + 1) q) ∧ (∀ q, X'.2.1 (i + 2) q = if k ≤ q ∧ q < 20 then X.2.1 (j + 2) q else X.2.1 (i + 2) q) := by
  intro n
  induction n with
  | zero => intro k X h1 h2; omega
  | succ n ih =>
    intro k X g1 g2
    show ∃ X', fX3_takeOver_l2 i j (lo2 (fX3_takeOver_l2 i j) n) X (nI k) = some X' ∧ _
    generalize hL : lo2 (fX3_takeOver_l2 i j) n = L at ih ⊢
    dsimp only [fX3_takeOver_l2, bd]
    by_cases hk : 20 ≤ k
    · rw [if_pos (show (20 : Int32) ≤ nI k from nI_le (a := 20) hk (by omega))]
      exact ⟨X, rfl, rfl, rfl, fun _ _ _ => rfl, fun q => by rw [if_neg (by omega)], fun q => by rw [if_neg (by omega)]⟩
    have ik : inb (nI k) 20 := in_nI (by omega) (by omega)
    rw [if_neg (show ¬ (20 : Int32) ≤ nI k from nI_ge (b := 20) (by omega) (by omega)), if_pos hi, if_pos hj, rd_in ik, Option.bind_some, if_pos ik, rd_in ik, Option.bind_some, if_pos ik, nI_1, cl_nI (show k < 2 ^ 31 by omega), xA_ne _ _ _ (show j + 2 ≠ i + 1 by omega)]
    obtain ⟨X', e1, e2, e3, e4, e5, e6⟩ := ih (k + 1) (xA (xA X (i + 1) (nI k) (X.2.1 (j + 1) k)) (i + 2) (nI k) (X.2.1 (j + 2) k)) (by omega) (by omega)
    refine ⟨X', e1, e2, e3, fun q q1 q2 => (e4 q q1 q2).trans ((xA_ne _ _ _ q2).trans (xA_ne _ _ _ q1)), fun q => ?_, fun q => ?_⟩
    · rw [e5, xA_ne _ _ _ (show j + 1 ≠ i + 2 by omega), xA_ne _ _ _ (show j + 1 ≠ i + 1 by omega), xA_ne _ _ _ (show i + 1 ≠ i + 2 by omega), xA_at, cl_nI (show k < 2 ^ 31 by omega)]
      unfold upd
      by_cases c : k + 1 ≤ q ∧ q < 20
      · rw [if_pos c, if_pos (by omega)]
      · rw [if_neg c]
        by_cases c2 : q = k
        · rw [if_pos c2, if_pos (by omega), c2]
        · rw [if_neg c2, if_neg (by omega)]
    · rw [e6, xA_ne _ _ _ (show j + 2 ≠ i + 2 by omega), xA_ne _ _ _ (show j + 2 ≠ i + 1 by omega), xA_at, xA_ne _ _ _ (show i + 2 ≠ i + 1 by omega), cl_nI (show k < 2 ^ 31 by omega)]
      unfold upd
      by_cases c : k + 1 ≤ q ∧ q < 20
      · rw [if_pos c, if_pos (by omega)]
      · rw [if_neg c]
        by_cases c2 : q = k
        · rw [if_pos c2, if_pos (by omega), c2]
        · rw [if_neg c2, if_neg (by omega)]
theorem over_M : ∀ (n k : Nat) (M : MW), 20 < n + k → k ≤ 20 → ∃ M', lo2 fX10_image_l69 n M (nI k) = some (M.1 8, M') ∧ M'.1 = M.1 ∧ (∀ q, q ≠ 86 → q ≠ 87 → M'.2 q = M.2 q) ∧ (∀ q, M'.2 86 q = if k ≤ q ∧ q < 20 then M.2 79 q else M.2 86 q) ∧ (∀ q, M'.2 87 q = if k ≤ q ∧ q < 20 then M.2 80 q else M.2 87 q) := by
  intro n
  induction n with
  | zero => intro k M h1 h2; omega
  | succ n ih =>
    intro k M g1 g2
    show ∃ M', fX10_image_l69 (lo2 fX10_image_l69 n) M (nI k) = some (M.1 8, M') ∧ _
    generalize hL : lo2 fX10_image_l69 n = L at ih ⊢
    dsimp only [fX10_image_l69, bd]
    by_cases hk : 20 ≤ k
    · rw [if_pos (show (20 : Int32) ≤ nI k from nI_le (a := 20) hk (by omega))]
      exact ⟨M, rfl, rfl, fun _ _ _ => rfl, fun q => by rw [if_neg (by omega)], fun q => by rw [if_neg (by omega)]⟩
    have ik : inb (nI k) 20 := in_nI (by omega) (by omega)
    rw [if_neg (show ¬ (20 : Int32) ≤ nI k from nI_ge (b := 20) (by omega) (by omega)), rd_in ik, Option.bind_some, if_pos ik, rd_in ik, Option.bind_some, if_pos ik, nI_1, cl_nI (show k < 2 ^ 31 by omega), mA_ne _ _ _ (show 80 ≠ 86 by omega)]
    obtain ⟨M', e1, e2, e4, e5, e6⟩ := ih (k + 1) (mA (mA M 86 (nI k) (M.2 79 k)) 87 (nI k) (M.2 80 k)) (by omega) (by omega)
    refine ⟨M', e1, e2, fun q q1 q2 => (e4 q q1 q2).trans ((mA_ne _ _ _ q2).trans (mA_ne _ _ _ q1)), fun q => ?_, fun q => ?_⟩
    · rw [e5, mA_ne _ _ _ (show 79 ≠ 87 by omega), mA_ne _ _ _ (show 79 ≠ 86 by omega), mA_ne _ _ _ (show 86 ≠ 87 by omega), mA_at, cl_nI (show k < 2 ^ 31 by omega)]
      unfold upd
      by_cases c : k + 1 ≤ q ∧ q < 20
      · rw [if_pos c, if_pos (by omega)]
      · rw [if_neg c]
        by_cases c2 : q = k
        · rw [if_pos c2, if_pos (by omega), c2]
        · rw [if_neg c2, if_neg (by omega)]
    · rw [e6, mA_ne _ _ _ (show 80 ≠ 87 by omega), mA_ne _ _ _ (show 80 ≠ 86 by omega), mA_at, mA_ne _ _ _ (show 87 ≠ 86 by omega), cl_nI (show k < 2 ^ 31 by omega)]
      unfold upd
      by_cases c : k + 1 ≤ q ∧ q < 20
      · rw [if_pos c, if_pos (by omega)]
      · rw [if_neg c]
        by_cases c2 : q = k
        · rw [if_pos c2, if_pos (by omega), c2]
        · rw [if_neg c2, if_neg (by omega)]

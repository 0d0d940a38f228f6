/-! the image -/
theorem im_X {X0 : XW} {M : MW} {nb n8 : Nat} (hS : Sim X0 M nb) (hn : M.1 8 = nI n8) (hn6 : n8 ≤ 6) : ∀ (n k : Nat) (X : XW), 6 < n + k → k ≤ n8 → X.1 = X0.1 → X.2.2 = X0.2.2 → ∃ X', lo2 (fX9_image_l2 nb) n X (nI k) = fX9_image_b52 nb X' ∧ X'.1 = X0.1 ∧ X'.2.2 = X0.2.2 ∧ (∀ q, q ≠ 22 → q ≠ 23 → X'.2.1 q = X.2.1 q) ∧ (∀ q, X'.2.1 22 q = if k ≤ q ∧ q < n8 then M.2 77 q else X.2.1 22 q) ∧ (∀ q, X'.2.1 23 q = if k ≤ q ∧ q < n8 then M.2 78 q else X.2.1 23 q) := by
  have hnI : (M.1 8).toInt = n8 := by rw [hn, nI_toInt (by omega)]
  intro n
  induction n with
  | zero => intro k X h1 h2; omega
  | succ n ih =>
    intro k X g1 g2 x1 x2
    show ∃ X', fX9_image_l2 nb (lo2 (fX9_image_l2 nb) n) X (nI k) = fX9_image_b52 nb X' ∧ _
    generalize hL : lo2 (fX9_image_l2 nb) n = L at ih ⊢
    dsimp only [fX9_image_l2, bd]
    rw [x1, x2, hS.2.1.1, hn]
    by_cases hk : n8 ≤ k
    · rw [if_pos (nI_le hk (by omega))]
      exact ⟨X, rfl, x1, x2, fun _ _ _ => rfl, fun q => by rw [if_neg (by omega)], fun q => by rw [if_neg (by omega)]⟩
    obtain ⟨b, hb⟩ := hS.2.1.2.2.1 k (by omega)
    have hN : NS ≤ b ∧ b < TT nb := ⟨hb.2.1, hb.2.2.1⟩
    have ik : inb (nI k) 6 := in_nI (by omega) (by omega)
    have y1 : ∀ v, (xA X 22 (nI k) v).1 = X0.1 := fun v => x1
    have y2 : ∀ v, (xA X 22 (nI k) v).2.2 = X0.2.2 := fun v => x2
    rw [if_neg (nI_ge (by omega) (by omega)), rdR_in ik, cl_nI (show k < 2 ^ 31 by omega), hb.1]
    simp only [Option.bind_some]
    rw [if_pos hN, if_pos ik]
    simp only [y1, y2, rdR_in ik, cl_nI (show k < 2 ^ 31 by omega), hb.1, Option.bind_some]
    rw [if_pos hN, if_pos ik, nI_1, hb.2.2.2.2.2.2.2.1, hb.2.2.2.2.2.2.2.2]
    obtain ⟨X', e1, e2, e3, e4, e5, e6⟩ := ih (k + 1) (xA (xA X 22 (nI k) (M.2 77 k)) 23 (nI k) (M.2 78 k)) (by omega) (by omega) x1 x2
    refine ⟨X', e1, e2, e3, fun q q1 q2 => (e4 q q1 q2).trans ((xA_ne _ _ _ q2).trans (xA_ne _ _ _ q1)), fun q => ?_, fun q => ?_⟩
    · rw [e5, xA_ne _ _ _ (show 22 ≠ 23 by omega), xA_at, cl_nI (show k < 2 ^ 31 by omega)]
      unfold upd
      by_cases c : k + 1 ≤ q ∧ q < n8
      · rw [if_pos c, if_pos (by omega)]
      · rw [if_neg c]
        by_cases c2 : q = k
        · rw [if_pos c2, if_pos (by omega), c2]
        · rw [if_neg c2, if_neg (by omega)]
    · rw [e6, xA_at, xA_ne _ _ _ (show 23 ≠ 22 by omega), cl_nI (show k < 2 ^ 31 by omega)]
      unfold upd
      by_cases c : k + 1 ≤ q ∧ q < n8
      · rw [if_pos c, if_pos (by omega)]
      · rw [if_neg c]
        by_cases c2 : q = k
        · rw [if_pos c2, if_pos (by omega), c2]
        · rw [if_neg c2, if_neg (by omega)]
theorem im_M : ∀ (n k : Nat) (M : MW), 6 < n + k → k ≤ 6 → ∃ M', lo2 fX10_image_l31 n M (nI k) = fX10_image_b67 M' ∧ M'.1 = M.1 ∧ (∀ q, q ≠ 84 → q ≠ 85 → M'.2 q = M.2 q) ∧ (∀ q, M'.2 84 q = if k ≤ q ∧ q < 6 then M.2 77 q else M.2 84 q) ∧ (∀ q, M'.2 85 q = if k ≤ q ∧ q < 6 then M.2 78 q else M.2 85 q) := by
  intro n
  induction n with
  | zero => intro k M h1 h2; omega
  | succ n ih =>
    intro k M g1 g2
    show ∃ M', fX10_image_l31 (lo2 fX10_image_l31 n) M (nI k) = fX10_image_b67 M' ∧ _
    generalize hL : lo2 fX10_image_l31 n = L at ih ⊢
    dsimp only [fX10_image_l31, bd]
    by_cases hk : 6 ≤ k
    · rw [if_pos (show (6 : Int32) ≤ nI k from nI_le (a := 6) hk (by omega))]
      exact ⟨M, rfl, rfl, fun _ _ _ => rfl, fun q => by rw [if_neg (by omega)], fun q => by rw [if_neg (by omega)]⟩
    have ik : inb (nI k) 6 := in_nI (by omega) (by omega)
    rw [if_neg (show ¬ (6 : Int32) ≤ nI k from nI_ge (b := 6) (by omega) (by omega)), rd_in ik, Option.bind_some, if_pos ik, rd_in ik, Option.bind_some, if_pos ik, nI_1, cl_nI (show k < 2 ^ 31 by omega), mA_ne _ _ _ (show 78 ≠ 84 by omega)]
    obtain ⟨M', e1, e2, e4, e5, e6⟩ := ih (k + 1) (mA (mA M 84 (nI k) (M.2 77 k)) 85 (nI k) (M.2 78 k)) (by omega) (by omega)
    refine ⟨M', e1, e2, fun q q1 q2 => (e4 q q1 q2).trans ((mA_ne _ _ _ q2).trans (mA_ne _ _ _ q1)), fun q => ?_, fun q => ?_⟩
    · rw [e5, mA_ne _ _ _ (show 77 ≠ 85 by omega), mA_ne _ _ _ (show 77 ≠ 84 by omega), mA_ne _ _ _ (show 84 ≠ 85 by omega), mA_at, cl_nI (show k < 2 ^ 31 by omega)]
      unfold upd
      by_cases c : k + 1 ≤ q ∧ q < 6
      · rw [if_pos c, if_pos (by omega)]
      · rw [if_neg c]
        by_cases c2 : q = k
        · rw [if_pos c2, if_pos (by omega), c2]
        · rw [if_neg c2, if_neg (by omega)]
    · rw [e6, mA_ne _ _ _ (show 78 ≠ 85 by omega), mA_ne _ _ _ (show 78 ≠ 84 by omega), mA_at, mA_ne _ _ _ (show 85 ≠ 84 by omega), cl_nI (show k < 2 ^ 31 by omega)]
      unfold upd
      by_cases c : k + 1 ≤ q ∧ q < 6
      · rw [if_pos c, if_pos (by omega)]
      · rw [if_neg c]
        by_cases c2 : q = k
        · rw [if_pos c2, if_pos (by omega), c2]
        · rw [if_neg c2, if_neg (by omega)]

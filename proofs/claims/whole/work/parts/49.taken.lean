/-! taken -/
theorem isA_eq {X : XW} {M : MW} {nb i b : Nat} (hb : boatAt X M nb i b) (q : Int32) : fX1_isA X nb b q = some (if q = M.2 73 i then 1 else if q = 0 then 1 else if q = 1 then (if M.2 73 i = 4 ∨ M.2 73 i = 5 then 1 else 0) else 0) := by
  have hN : NS ≤ b ∧ b < TT nb := ⟨hb.2.1, hb.2.2.1⟩
  have h0 := hb.2.2.2.1
  unfold fX1_isA fX1_isA_b16 fX1_isA_b21
  simp only [if_pos hN, h0]
  by_cases c1 : q = M.2 73 i
  · simp only [if_pos c1, ite_self]
  simp only [if_neg c1]
  by_cases c2 : q = 0
  · simp only [if_pos c2, ite_self]
  simp only [if_neg c2]
  by_cases c3 : q = 1
  · simp only [if_pos c3]
    by_cases c4 : M.2 73 i = 4
    · rw [if_pos c4, if_neg n10, if_pos (Or.inl c4)]
    · rw [if_neg c4]
      by_cases c5 : M.2 73 i = 5
      · rw [if_pos c5, if_neg n10, if_pos (Or.inr c5)]
      · rw [if_neg c5, if_pos trivial, if_neg (fun q => q.elim c4 c5)]
  · simp only [if_neg c3, ite_self]
theorem isUnder_eq (k q : Int32) : fX10_isUnder k q = if q = k then 1 else if q = 0 then 1 else if q = 1 then (if k = 4 ∨ k = 5 then 1 else 0) else 0 := by
  unfold fX10_isUnder
  by_cases c2 : q = 0
  · rw [if_pos c2, if_pos c2, ite_self]
  rw [if_neg c2, if_neg c2]
  by_cases c1 : q = k
  · rw [if_pos c1.symm, if_pos c1]
  rw [if_neg (fun q => c1 q.symm), if_neg c1]
  by_cases c3 : q = 1
  · rw [if_pos c3, if_pos c3]
    by_cases c4 : k = 4
    · rw [if_pos c4, if_pos (Or.inl c4)]
    · rw [if_neg c4]
      by_cases c5 : k = 5
      · rw [if_pos c5, if_pos (Or.inr c5)]
      · rw [if_neg c5, if_neg (fun q => q.elim c4 c5)]
  · rw [if_neg c3, if_neg c3]
theorem g_taken {X : XW} {M : MW} {nb : Nat} (h : Sim X M nb) {n8 : Nat} (hn : M.1 8 = nI n8) (hn6 : n8 ≤ 6) {a q : Int32} (ha : inb a 100) (hq : q.toInt ≤ 6) : ∀ (n k : Nat), 6 < n + k → k ≤ 6 → R1 (lo1 (fX9_taken_l25 X nb a q) n (nI k)) (lo1 (fX10_taken_l25 M a q) n (nI k)) := by
  have hnI : (M.1 8).toInt = n8 := by rw [hn, nI_toInt (by omega)]
  intro n
  induction n with
  | zero => intro k h1 h2; omega
  | succ n ih =>
    intro k h1 h2
    show R1 (fX9_taken_l25 X nb a q (lo1 (fX9_taken_l25 X nb a q) n) (nI k)) (fX10_taken_l25 M a q (lo1 (fX10_taken_l25 M a q) n) (nI k))
    generalize hL : lo1 (fX9_taken_l25 X nb a q) n = L at ih ⊢
    generalize hG : lo1 (fX10_taken_l25 M a q) n = G at ih ⊢
    dsimp only [fX9_taken_l25, fX10_taken_l25, fX9_taken_b72, fX9_taken_b46, fX10_taken_b75, fX10_taken_b43]
    rw [h.2.1.1, hn, nI_1]
    obtain ⟨h66, h67, -, -, -, hd, -⟩ := h.1
    by_cases hk : n8 ≤ k
    · rw [if_pos (nI_le hk (by omega)), if_pos (nI_le hk (by omega)), rd_in ha, rd_in ha, rd_in ha, rd_in ha, h66, h67]
      simp only [Option.bind_some]
      have e0 : (0 : Int32).toInt = 0 := rfl
      have g := hd a.toNatClampNeg
      by_cases c : M.2 66 a.toNatClampNeg = 0
      · rw [if_pos c, if_neg (by rw [c]; decide)]; exact ⟨_, rfl, rfl⟩
      · have c' : 0 < M.2 66 a.toNatClampNeg := by
          rw [i_eq, e0] at c
          rw [i_lt, e0]
          omega
        rw [if_neg c, if_pos c']
        by_cases c6 : q = 6
        · rw [if_pos c6]; exact ⟨_, rfl, rfl⟩
        · rw [if_neg c6]; exact ⟨_, rfl, rfl⟩
    rw [if_neg (nI_ge (by omega) (by omega)), if_neg (nI_ge (by omega) (by omega))]
    obtain ⟨b, hb⟩ := h.2.1.2.2.1 k (by omega)
    have ik : inb (nI k) 6 := in_nI (by omega) (by omega)
    have hN : NS ≤ b ∧ b < TT nb := ⟨hb.2.1, hb.2.2.1⟩
    rw [rdR_in ik, rd_in ik, rd_in ik, cl_nI (show k < 2 ^ 31 by omega), hb.1]
    simp only [Option.bind_some]
    rw [if_pos hN, hb.2.2.2.2.2.2.2.1, isA_eq hb, isUnder_eq]
    by_cases c : M.2 77 k = a
    · rw [if_pos c, if_pos c, if_pos hN, Option.bind_some]
      have gk := (h.2.1.2.2.2.2 k (by omega)).2.2
      by_cases c6 : (6 : Int32) ≤ q
      · have e6 : (6 : Int32).toInt = 6 := rfl
        have q6 : q = 6 := by rw [i_le, e6] at c6; rw [i_eq, e6]; omega
        have ne : ¬ (6 : Int32) = M.2 73 k := by rw [i_eq, e6]; omega
        rw [if_pos c6, q6, if_neg ne, if_neg (show ¬ (6 : Int32) = 0 by decide), if_neg (show ¬ (6 : Int32) = 1 by decide), if_pos rfl]
        exact ⟨_, rfl, rfl⟩
      · rw [if_neg c6]
        generalize (if q = M.2 73 k then (1 : Int32) else if q = 0 then 1 else if q = 1 then (if M.2 73 k = 4 ∨ M.2 73 k = 5 then 1 else 0) else 0) = z
        by_cases hz : z = 0
        · rw [if_pos hz]; exact ⟨_, rfl, rfl⟩
        · rw [if_neg hz]; exact ⟨_, rfl, rfl⟩
    · rw [if_neg c, if_neg c]
      exact ih (k + 1) (by omega) (by omega)
theorem p_taken {X : XW} {M : MW} {nb : Nat} (h : Sim X M nb) (a q : Int32) : R1 (fX9_taken X nb a q) (fX10_taken M a q) := by
  unfold fX9_taken fX10_taken
  rw [in_eq, isCell_eq]
  by_cases c1 : fX9_within q 0 6 = 0
  · rw [if_pos c1, if_pos c1]; exact ⟨_, rfl, rfl⟩
  rw [if_neg c1, if_neg c1]
  by_cases c2 : fX9_isCell a = 0
  · rw [if_pos c2, if_pos c2]; exact ⟨_, rfl, rfl⟩
  rw [if_neg c2, if_neg c2]
  obtain ⟨n8, hn, -, hne⟩ := nn_ge h.2.1.2.1.1
  have := h.2.1.2.1.2
  exact g_taken h hn (by omega) (cell_in c2) (wi_ne c1).2 FU 0 (by unfold FU; omega) (by omega)

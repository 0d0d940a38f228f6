theorem p_image {X : XW} {M : MW} {nb : Nat} (h : Sim X M nb) : R2 nb (fX9_image X nb) (fX10_image M) := by
  obtain ⟨n8, hn, -, hne⟩ := nn_ge h.2.1.2.1.1
  have hn6 : n8 ≤ 6 := by have := h.2.1.2.1.2; omega
  rw [fX9_image, fX10_image, bd, bd, bd, bd]
  obtain ⟨X1, p1, p2, p3, p4, p5, p6⟩ := im_X h hn hn6 FU 0 X (by unfold FU; omega) (by omega) rfl rfl
  obtain ⟨X2, q1, q2, q3, q4, q5, q6⟩ := over_X (i := 24) (j := 17) (by decide) (by decide) (by decide) FU 0 X1 (by unfold FU; omega) (by omega)
  generalize hM0 : mI (mI (mI (mI M 23 1) 24 ((mI M 23 1).1 7)) 25 ((mI (mI M 23 1) 24 ((mI M 23 1).1 7)).1 8)) 26 ((mI (mI (mI M 23 1) 24 ((mI M 23 1).1 7)) 25 ((mI (mI M 23 1) 24 ((mI M 23 1).1 7)).1 8)).1 22) = M0
  obtain ⟨M1, r1, r2, r3, r4, r5⟩ := im_M FU 0 M0 (by unfold FU; omega) (by omega)
  obtain ⟨M2, s1, s2, s3, s4, s5⟩ := over_M FU 0 M1 (by unfold FU; omega) (by omega)
  have m1 : ∀ k, k < 23 ∨ 26 < k → M0.1 k = M.1 k := fun k hk => by
    rw [← hM0]
    simp [mI, va_up, show k ≠ 23 by omega, show k ≠ 24 by omega, show k ≠ 25 by omega, show k ≠ 26 by omega]
  have m23 : M0.1 23 = 1 ∧ M0.1 24 = M.1 7 ∧ M0.1 25 = M.1 8 ∧ M0.1 26 = M.1 22 := by
    rw [← hM0]
    simp [mI, va_up]
  have m2 : M0.2 = M.2 := by rw [← hM0]; rfl
  have M1s : M2.1 = M0.1 := s2.trans r2
  have M2s : ∀ q, (q < 84 ∨ 87 < q) → M2.2 q = M.2 q := fun q hq => (s3 q (by omega) (by omega)).trans ((r3 q (by omega) (by omega)).trans (by rw [m2]))
  have X1s : X2.1 = X.1 := q2.trans p2
  have X3s : X2.2.2 = X.2.2 := q3.trans p3
  have X2s : ∀ q, q ≠ 22 → q ≠ 23 → q ≠ 25 → q ≠ 26 → X2.2.1 q = X.2.1 q := fun q a b c d => (q4 q c d).trans (p4 q a b)
  rw [show (0 : Int32) = nI 0 from rfl, p1, r1]
  rw [fX9_image_b52, fX10_image_b67, fX3_takeOver]
  rw [show (0 : Int32) = nI 0 from rfl, q1, s1, Option.bind_some, bd, bd, bd, r2]
  have e0 : X2.1 0 = X.1 0 := by rw [X1s]
  generalize hX3 : xI (xI (xI X2 21 3 (X2.1 0 12)) 21 4 ((xI X2 21 3 (X2.1 0 12)).1 0 11)) 21 5 ((xI (xI X2 21 3 (X2.1 0 12)) 21 4 ((xI X2 21 3 (X2.1 0 12)).1 0 11)).1 0 14) = X3
  have x0 : ∀ i, i ≠ 21 → X3.1 i = X.1 i := fun i hi => by
    rw [← hX3, xI_ne _ _ _ hi, xI_ne _ _ _ hi, xI_ne _ _ _ hi, X1s]
  have x21 : X3.1 21 3 = X.1 0 12 ∧ X3.1 21 4 = X.1 0 11 ∧ X3.1 21 5 = X.1 0 14 := by
    rw [← hX3]
    simp [xI, va_up, X1s]
  have x2 : X3.2 = X2.2 := by rw [← hX3]; rfl
  obtain ⟨h1, h2, h3, h4, h5, h6, h7, h8, h9⟩ := h
  refine ⟨M.1 8, X3, M2, ?_, ?_, ?_⟩
  · rw [x0 0 (by decide), h2.1]
  · rw [m1 8 (by omega)]
  refine ⟨?_, ?_, h3.c (by rw [x0 0 (by decide)]) (fun i _ _ => by rw [x2]; exact X2s i (by omega) (by omega) (by omega) (by omega)) (by rw [M1s]; exact m1 21 (by omega)) (M2s 82 (by omega)) (M2s 83 (by omega)), ?_, ?_, ?_, ?_, h8.c (fun i _ _ => x0 i (by omega)) (fun i _ _ => by rw [x2]; exact X2s i (by omega) (by omega) (by omega) (by omega)) (M2s 88 (by omega)) (M2s 89 (by omega)) (M2s 90 (by omega)), ?_⟩
  · unfold SBay at h1 ⊢
    rw [x2, X2s 2 (by omega) (by omega) (by omega) (by omega), X2s 3 (by omega) (by omega) (by omega) (by omega), X2s 4 (by omega) (by omega) (by omega) (by omega), X2s 5 (by omega) (by omega) (by omega) (by omega), X2s 6 (by omega) (by omega) (by omega) (by omega), M2s 66 (by omega), M2s 67 (by omega), M2s 68 (by omega), M2s 69 (by omega), M2s 70 (by omega), M2s 71 (by omega), M2s 72 (by omega), M2s 92 (by omega), x0 0 (by decide), M1s, m1 7 (by omega)]
    exact h1
  · unfold SBoat boatAt at h2 ⊢
    rw [x2, X3s, x0 0 (by decide), M1s, m1 8 (by omega), M2s 73 (by omega), M2s 74 (by omega), M2s 75 (by omega), M2s 76 (by omega), M2s 77 (by omega), M2s 78 (by omega)]
    refine ⟨h2.1, h2.2.1, fun i hi => ?_, h2.2.2.2⟩
    obtain ⟨b, hb⟩ := h2.2.2.1 i hi
    have hN := hb.2.1
    unfold NS at hN
    refine ⟨b, ?_⟩
    rw [x0 b (by omega)]
    exact hb
  · unfold SLaw at h4 ⊢
    rw [x2, X3s, x0 0 (by decide), M1s, m1 22 (by omega), m1 21 (by omega)]
    exact h4
  · unfold SWin at h5 ⊢
    rw [x2, X3s, M1s, m1 46 (by omega)]
    exact h5
  · unfold STape at h6 ⊢
    rw [x2, X2s 8 (by omega) (by omega) (by omega) (by omega), x0 7 (by decide), M1s, m1 18 (by omega), M2s 81 (by omega)]
    exact h6
  · obtain ⟨f1, f2, f3, f4, f5, f6⟩ := h7
    have u18 : X1.2.1 18 = X.2.1 18 := p4 18 (by omega) (by omega)
    have u19 : X1.2.1 19 = X.2.1 19 := p4 19 (by omega) (by omega)
    have u25 : X1.2.1 25 = X.2.1 25 := p4 25 (by omega) (by omega)
    have u26 : X1.2.1 26 = X.2.1 26 := p4 26 (by omega) (by omega)
    have t : ∀ q, (q < 84 ∨ 85 < q) → M1.2 q = M.2 q := fun q hq => (r3 q (by omega) (by omega)).trans (by rw [m2])
    have v25 : ∀ q, X2.2.1 25 q = if 0 ≤ q ∧ q < 20 then X.2.1 18 q else X.2.1 25 q := fun q => by rw [q5 q, u18, u25]
    have v26 : ∀ q, X2.2.1 26 q = if 0 ≤ q ∧ q < 20 then X.2.1 19 q else X.2.1 26 q := fun q => by rw [q6 q, u19, u26]
    have w86 : ∀ q, M2.2 86 q = if 0 ≤ q ∧ q < 20 then M.2 79 q else M.2 86 q := fun q => by rw [s4 q, t 79 (by omega), t 86 (by omega)]
    have w87 : ∀ q, M2.2 87 q = if 0 ≤ q ∧ q < 20 then M.2 80 q else M.2 87 q := fun q => by rw [s5 q, t 80 (by omega), t 87 (by omega)]
    refine ⟨by rw [x2, X2s 18 (by omega) (by omega) (by omega) (by omega), M2s 80 (by omega)]; exact f1, by rw [x2, X2s 19 (by omega) (by omega) (by omega) (by omega), M2s 79 (by omega)]; exact f2, by rw [M2s 79 (by omega), M2s 80 (by omega)]; exact f3, funext fun q => by rw [x2, v25, w87, f1, f4], funext fun q => by rw [x2, v26, w86, f2, f5], fun q => ?_⟩
    rw [w86, w87]
    by_cases c : 0 ≤ q ∧ q < 20
    · rw [if_pos c, if_pos c]; exact f3 q
    · rw [if_neg c, if_neg c]; exact f6 q
  · have hn2 : (M.1 8).toInt = n8 := hne
    unfold SImg
    rw [M1s, m23.1, m23.2.1, m23.2.2.1, m23.2.2.2, m1 8 (by omega), m1 21 (by omega), x21.1, x21.2.1, x21.2.2, x2]
    refine Or.inr ⟨rfl, h2.1, ?_, h4.1, ⟨by omega, Int.le_refl _⟩, ?_, h4.2.1, fun i hi => ?_⟩
    · obtain ⟨-, -, -, -, -, -, -, -, g, -⟩ := h1; exact g
    · obtain ⟨-, -, -, -, -, -, -, -, -, g, -⟩ := h1; exact g
    have hi' : i < n8 := by omega
    have z22 : X2.2.1 22 i = M.2 77 i := by rw [q4 22 (by omega) (by omega), p5, if_pos ⟨Nat.zero_le _, hi'⟩]
    have z23 : X2.2.1 23 i = M.2 78 i := by rw [q4 23 (by omega) (by omega), p6, if_pos ⟨Nat.zero_le _, hi'⟩]
    have z84 : M2.2 84 i = M.2 77 i := by rw [s3 84 (by omega) (by omega), r4, if_pos (by omega), m2]
    have z85 : M2.2 85 i = M.2 78 i := by rw [s3 85 (by omega) (by omega), r5, if_pos (by omega), m2]
    rw [z22, z23, z84, z85]
    have g := h2.2.2.2.2 i hi
    exact ⟨rfl, rfl, g.1, g.2.1⟩

/-! sheets -/
theorem Sim.sh {X X' : XW} {M M' : MW} {nb : Nat} (h : Sim X M nb) (a1 : ∀ i, i < 39 ∨ 46 < i → X'.1 i = X.1 i) (a2 : ∀ i, i < 40 ∨ 46 < i → X'.2.1 i = X.2.1 i) (a3 : X'.2.2 = X.2.2) (b1 : M'.1 = M.1) (b2 : ∀ i, i < 88 ∨ 90 < i → M'.2 i = M.2 i) (hs : SSheet X' M') : Sim X' M' nb := by
  obtain ⟨h1, h2, h3, h4, h5, h6, h7, h8, h9⟩ := h
  refine ⟨?_, ?_, h3.c (by rw [a1 0 (by omega)]) (fun i _ _ => a2 i (by omega)) (by rw [b1]) (b2 82 (by omega)) (b2 83 (by omega)), ?_, ?_, ?_, ?_, hs, ?_⟩
  · unfold SBay at h1 ⊢
    rw [a2 2 (by omega), a2 3 (by omega), a2 4 (by omega), a2 5 (by omega), a2 6 (by omega), a1 0 (by omega), b1, b2 66 (by omega), b2 67 (by omega), b2 68 (by omega), b2 69 (by omega), b2 70 (by omega), b2 71 (by omega), b2 72 (by omega), b2 92 (by omega)]
    exact h1
  · unfold SBoat boatAt at h2 ⊢
    rw [a1 0 (by omega), b1, a3, b2 73 (by omega), b2 74 (by omega), b2 75 (by omega), b2 76 (by omega), b2 77 (by omega), b2 78 (by omega)]
    refine ⟨h2.1, h2.2.1, fun i hi => ?_, h2.2.2.2⟩
    obtain ⟨b, hb⟩ := h2.2.2.1 i hi
    have hN := hb.2.1
    unfold NS at hN
    refine ⟨b, ?_⟩
    rw [a1 b (by omega)]
    exact hb
  · unfold SLaw at h4 ⊢
    rw [a1 0 (by omega), b1, a3]
    exact h4
  · unfold SWin at h5 ⊢
    rw [a3, b1]
    exact h5
  · unfold STape at h6 ⊢
    rw [a1 7 (by omega), b1, a2 8 (by omega), b2 81 (by omega)]
    exact h6
  · unfold SForm at h7 ⊢
    rw [a2 18 (by omega), a2 19 (by omega), a2 25 (by omega), a2 26 (by omega), b2 79 (by omega), b2 80 (by omega), b2 86 (by omega), b2 87 (by omega)]
    exact h7
  · unfold SImg at h9 ⊢
    rw [b1, a1 21 (by omega), a2 22 (by omega), a2 23 (by omega), b2 84 (by omega), b2 85 (by omega)]
    exact h9
theorem sheet_of (X : XW) (l : Int32) : (fX9_within l 0 3 = 0 ∧ fX9_sheetOf X l = some none) ∨ (¬ fX9_within l 0 3 = 0 ∧ ∃ s, s < 4 ∧ l = nI s ∧ fX9_sheetOf X l = some (some (39 + 2 * s))) := by
  dsimp only [fX9_sheetOf, bd]
  by_cases c : fX9_within l 0 3 = 0
  · exact Or.inl ⟨c, if_pos c⟩
  · have w := wi_ne c
    have e0 : (0 : Int32).toInt = 0 := rfl
    have e3 : (3 : Int32).toInt = 3 := rfl
    rw [e0] at w
    obtain ⟨s, rfl, hs31, hs⟩ := nn_ge w.1
    refine Or.inr ⟨c, s, by omega, rfl, ?_⟩
    rw [if_neg c, if_pos (in_nI (by omega) (by omega)), cl_nI (by omega)]
theorem kd_sh {s : Nat} (h : s < 4) : kd (39 + 2 * s) = 8 := by
  have : s = 0 ∨ s = 1 ∨ s = 2 ∨ s = 3 := by omega
  rcases this with rfl | rfl | rfl | rfl <;> decide
theorem kd_sr {s : Nat} (h : s < 4) : kd (39 + 2 * s + 1) = 11 ∧ ln (39 + 2 * s + 1) = 40 := by
  have : s = 0 ∨ s = 1 ∨ s = 2 ∨ s = 3 := by omega
  rcases this with rfl | rfl | rfl | rfl <;> decide
theorem g_miss {X : XW} {M : MW} {nb s : Nat} (h : Sim X M nb) (hs : s < 4) : fX8_isMissing X (39 + 2 * s) = some (if M.2 88 s = -1 then 1 else 0) := by
  unfold fX8_isMissing
  rw [if_pos (kd_sh hs), (h.2.2.2.2.2.2.2.1 s hs).1]
  by_cases c : M.2 88 s = -1
  · rw [if_pos c, if_pos c]
  · rw [if_neg c, if_neg c]
theorem Sim.sh_c {X : XW} {M : MW} {nb s j : Nat} {v : Int32} (h : Sim X M nb) (hs : s < 4) (hj : j < 40) : Sim (xA X (39 + 2 * s + 1) (nI j) v) (mA M 90 (nI (40 * s + j)) v) nb := by
  refine h.sh (fun i _ => rfl) (fun i _ => xA_ne _ _ _ (by omega)) rfl rfl (fun i _ => mA_ne _ _ _ (by omega)) ?_
  have g := h.2.2.2.2.2.2.2.1
  intro s' hs'
  obtain ⟨g1, g2, g3, g4, g5⟩ := g s' hs'
  rw [mA_ne _ _ _ (by decide : 88 ≠ 90), mA_ne _ _ _ (by decide : 89 ≠ 90), mA_at]
  refine ⟨g1, g2, g3, g4, fun j' hj' => ?_⟩
  rw [cl_nI (show 40 * s + j < 2 ^ 31 by omega)]
  unfold upd
  by_cases q : s' = s
  · subst q
    rw [show 40 + 2 * s' = 39 + 2 * s' + 1 by omega, xA_at, cl_nI (show j < 2 ^ 31 by omega)]
    unfold upd
    by_cases q : j' = j
    · rw [if_pos q, if_pos (by omega)]
    · rw [if_neg q, if_neg (by omega), show 39 + 2 * s' + 1 = 40 + 2 * s' by omega]
      exact g5 j' hj'
  · rw [xA_ne _ _ _ (by omega), if_neg (by omega)]
    exact g5 j' hj'
theorem p_cell {X : XW} {M : MW} {nb : Nat} (h : Sim X M nb) (a b v : Int32) : R2 nb (fX9_cell X a b v) (fX10_cell M a b v) := by
  dsimp only [fX9_cell, fX10_cell, fX8_put, fX8_put_b45, fX10_cell_b84, bd]
  rw [in_eq]
  rcases sheet_of X a with ⟨c1, c2⟩ | ⟨c1, s, hs, rfl, c2⟩
  · rw [c2, if_pos c1]; exact R2.mk h
  have is : inb (nI s) 4 := in_nI hs (by omega)
  obtain ⟨g1, g2, g3, g4, g5⟩ := h.2.2.2.2.2.2.2.1 s hs
  rw [c2, if_neg c1, Option.bind_some]
  dsimp only [oc]
  rw [if_pos (kd_sh hs), g_miss h hs, rd_in is, rd_in is, cl_nI (show s < 2 ^ 31 by omega), g1, g2]
  simp only [Option.bind_some]
  by_cases c3 : M.2 88 s = -1
  · rw [if_pos c3, if_pos c3, if_neg n10]; exact R2.mk h
  rw [if_neg c3, if_neg c3, if_pos rfl]
  by_cases c4 : fX9_within b 0 (M.2 89 s - 1) = 0
  · rw [if_pos c4, if_pos c4]; exact R2.mk h
  rw [if_neg c4, if_neg c4, if_pos (kd_sh hs), if_neg c4, (kd_sr hs).2]
  have w := wi_ne c4
  have e0 : (0 : Int32).toInt = 0 := rfl
  have e1 : (1 : Int32).toInt = 1 := rfl
  rw [e0, i_sub (by omega) (by omega), e1] at w
  obtain ⟨j, rfl, -, hj⟩ := nn_ge w.1
  have i1 : inb (nI j) 40 := in_nI (by omega) (by omega)
  have e40 : (40 : Int32) * nI s + nI j = nI (40 * s + j) := by rw [show (40 : Int32) * nI s = nI (40 * s) from pk_mul 40 s, nI_add]
  have i2 : inb (nI (40 * s + j)) 160 := in_nI (by omega) (by omega)
  rw [e40]
  simp only [if_pos (kd_sr hs).1, if_pos i1, if_pos i2]
  by_cases c5 : M.2 88 s = 0
  · rw [if_pos c5, if_pos c5]; exact R2.mk (h.sh_c hs (by omega))
  rw [if_neg c5, if_neg c5]
  by_cases c6 : M.2 88 s = 1
  · rw [if_pos c6, if_pos c6]; exact R2.mk (h.sh_c hs (by omega))
  rw [if_neg c6, if_neg c6]
  exact R2.mk (h.sh_c hs (by omega))

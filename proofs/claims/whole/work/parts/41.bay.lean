/-! the bay's calls -/
theorem p_told {X : XW} {M : MW} {nb : Nat} (h : Sim X M nb) (a b : Int32) : R1 (fX9_told X a b) (fX10_told M a b) := by
  obtain ⟨⟨h1, h2, h3, h4, h5, -⟩, -⟩ := h
  unfold fX9_told fX10_told
  rw [in_eq, isHour_eq, isCell_eq]
  by_cases c1 : fX9_within b 0 4 = 0
  · rw [if_pos c1, if_pos c1]; exact ⟨_, rfl, rfl⟩
  rw [if_neg c1, if_neg c1]
  have hb := wi_ne c1
  have e0 : (0 : Int32).toInt = 0 := rfl
  have e1 : (1 : Int32).toInt = 1 := rfl
  have e2 : (2 : Int32).toInt = 2 := rfl
  have e3 : (3 : Int32).toInt = 3 := rfl
  have e4 : (4 : Int32).toInt = 4 := rfl
  rw [e0, e4] at hb
  by_cases c2 : b < 2
  · have c2' : ¬ (2 : Int32) ≤ b := by rw [i_lt, e2] at c2; rw [i_le, e2]; omega
    rw [if_pos c2, if_neg c2']
    by_cases c3 : fX9_isCell a = 0
    · rw [if_pos c3, if_pos c3]; exact ⟨_, rfl, rfl⟩
    rw [if_neg c3, if_neg c3]
    have hi := cell_in c3
    unfold fX10_told_b37
    by_cases c4 : b = 0
    · rw [if_pos c4, if_pos c4, rd_in hi, rd_in hi, h1]; exact ⟨_, rfl, rfl⟩
    have c5 : b = 1 := by rw [i_lt, e2] at c2; rw [i_eq, e0] at c4; rw [i_eq, e1]; omega
    rw [if_neg c4, if_neg c4, if_pos c5, rd_in hi, rd_in hi, h2]; exact ⟨_, rfl, rfl⟩
  · have c2' : (2 : Int32) ≤ b := by rw [i_lt, e2] at c2; rw [i_le, e2]; omega
    rw [if_neg c2, if_pos c2']
    by_cases c3 : fX9_isHour a = 0
    · rw [if_pos c3, if_pos c3]; exact ⟨_, rfl, rfl⟩
    rw [if_neg c3, if_neg c3]
    have hi := hour_in c3
    unfold fX10_told_b37 fX0_hourRow bd
    have h20 : ¬ b = 0 := by rw [i_lt, e2] at c2; rw [i_eq, e0]; omega
    have h21 : ¬ b = 1 := by rw [i_lt, e2] at c2; rw [i_eq, e1]; omega
    rw [if_neg h20, if_neg h21]
    by_cases c4 : b = 2
    · subst c4
      rw [if_pos (by decide), if_pos rfl]
      show R1 ((some 4).bind _) _
      rw [Option.bind_some, if_pos (by decide), show ln 4 = 12 from rfl, rd_in hi, rd_in hi, h3]; exact ⟨_, rfl, rfl⟩
    by_cases c5 : b = 3
    · subst c5
      rw [if_neg (by decide), if_pos (by decide), if_neg (by decide), if_pos rfl]
      show R1 ((some 5).bind _) _
      rw [Option.bind_some, if_pos (by decide), show ln 5 = 12 from rfl, rd_in hi, rd_in hi, h4]; exact ⟨_, rfl, rfl⟩
    have c6 : b = 4 := by rw [i_eq, e2] at c4; rw [i_eq, e3] at c5; rw [i_lt, e2] at c2; rw [i_eq, e4]; omega
    subst c6
    rw [if_neg (by decide), if_neg (by decide), if_neg (by decide), if_neg (by decide)]
    show R1 ((some 6).bind _) _
    rw [Option.bind_some, if_pos (by decide), show ln 6 = 12 from rfl, rd_in hi, rd_in hi, h5]; exact ⟨_, rfl, rfl⟩
theorem p_count {X : XW} {M : MW} {nb : Nat} (h : Sim X M nb) (a : Int32) : fX9_count X a = fX10_count M a := by
  obtain ⟨⟨-, -, -, -, -, -, -, -, h1, -⟩, ⟨h2, -⟩, ⟨h3, -⟩, ⟨h4, -⟩, -, ⟨h5, -⟩, -⟩ := h
  unfold fX9_count fX10_count
  rw [h1, h2, h3, h4, h5]

/-! the bay's calls -/
theorem p_told {X : XW} {M : MW} {nb : Nat} (h : Sim X M nb) (a b : Int32) : R1 (fX9_told X a b) (fX10_told M a b) := by
  obtain ⟨⟨h1, h2, h3, h4, h5, -⟩, -⟩ := h
  unfold fX9_told fX10_told
  rw [in_eq, isHour_eq, isCell_eq]
  by_cases c1 : fX9_within b 0 4 = 0
  · rw [if_pos c1, if_pos c1]; exact ⟨_, rfl, rfl⟩
  rw [if_neg c1, if_neg c1]
  have hb := wi_ne c1
  have e0 : (0 : Int32).toInt = 0 := rfl
  have e1 : (1 : Int32).toInt = 1 := rfl
  have e2 : (2 : Int32).toInt = 2 := rfl
  have e3 : (3 : Int32).toInt = 3 := rfl
  have e4 : (4 : Int32).toInt = 4 := rfl
  rw [e0, e4] at hb
  by_cases c2 : b < 2
  · have c2' : ¬ (2 : Int32) ≤ b := by rw [i_lt, e2] at c2; rw [i_le, e2]; omega
    rw [if_pos c2, if_neg c2']
    by_cases c3 : fX9_isCell a = 0
    · rw [if_pos c3, if_pos c3]; exact ⟨_, rfl, rfl⟩
    rw [if_neg c3, if_neg c3]
    have hi := cell_in c3
    unfold fX10_told_b37
    by_cases c4 : b = 0
    · rw [if_pos c4, if_pos c4, rd_in hi, rd_in hi, h1]; exact ⟨_, rfl, rfl⟩
    have c5 : b = 1 := by rw [i_lt, e2] at c2; rw [i_eq, e0] at c4; rw [i_eq, e1]; omega
    rw [if_neg c4, if_neg c4, if_pos c5, rd_in hi, rd_in hi, h2]; exact ⟨_, rfl, rfl⟩
  · have c2' : (2 : Int32) ≤ b := by rw [i_lt, e2] at c2; rw [i_le, e2]; omega
    rw [if_neg c2, if_pos c2']
    by_cases c3 : fX9_isHour a = 0
    · rw [if_pos c3, if_pos c3]; exact ⟨_, rfl, rfl⟩
    rw [if_neg c3, if_neg c3]
    have hi := hour_in c3
    unfold fX10_told_b37 fX0_hourRow bd
    have h20 : ¬ b = 0 := by rw [i_lt, e2] at c2; rw [i_eq, e0]; omega
    have h21 : ¬ b = 1 := by rw [i_lt, e2] at c2; rw [i_eq, e1]; omega
    rw [if_neg h20, if_neg h21]
    by_cases c4 : b = 2
    · subst c4
      rw [if_pos (by decide), if_pos rfl]
      show R1 ((some 4).bind _) _
      rw [Option.bind_some, if_pos (by decide), show ln 4 = 12 from rfl, rd_in hi, rd_in hi, h3]; exact ⟨_, rfl, rfl⟩
    by_cases c5 : b = 3
    · subst c5
      rw [if_neg (by decide), if_pos (by decide), if_neg (by decide), if_pos rfl]
      show R1 ((some 5).bind _) _
      rw [Option.bind_some, if_pos (by decide), show ln 5 = 12 from rfl, rd_in hi, rd_in hi, h4]; exact ⟨_, rfl, rfl⟩
    have c6 : b = 4 := by rw [i_eq, e2] at c4; rw [i_eq, e3] at c5; rw [i_lt, e2] at c2; rw [i_eq, e4]; omega
    subst c6
    rw [if_neg (by decide), if_neg (by decide), if_neg (by decide), if_neg (by decide)]
    show R1 ((some 6).bind _) _
    rw [Option.bind_some, if_pos (by decide), show ln 6 = 12 from rfl, rd_in hi, rd_in hi, h5]; exact ⟨_, rfl, rfl⟩
theorem p_count {X : XW} {M : MW} {nb : Nat} (h : Sim X M nb) (a : Int32) : fX9_count X a = fX10_count M a := by
  obtain ⟨⟨-, -, -, -, -, -, -, -, h1, -⟩, ⟨h2, -⟩, ⟨h3, -⟩, ⟨h4, -⟩, -, ⟨h5, -⟩, -⟩ := h
  unfold fX9_count fX10_count
  rw [h1, h2, h3, h4, h5]
theorem so_eq {a v : Int32} (h : ¬ fX9_isSounding a v = 0) : fX10_isSounding a v ≠ 0 ∧ (a = 0 ∧ (0 ≤ v.toInt ∧ v.toInt ≤ 30) ∨ a = 1 ∧ ¬ a = 0 ∧ (0 ≤ v.toInt ∧ v.toInt ≤ 3)) := by
  have e0 : (0 : Int32).toInt = 0 := rfl
  have e3 : (3 : Int32).toInt = 3 := rfl
  have e30 : (30 : Int32).toInt = 30 := rfl
  unfold fX9_isSounding fX9_isSounding_b14 at h
  unfold fX10_isSounding fX10_isSounding_b21
  rw [in_eq]
  by_cases c1 : a = 0
  · subst c1
    rw [if_pos rfl] at h
    by_cases c2 : fX9_within v 0 30 = 0
    · rw [if_pos c2, if_neg (by decide)] at h; exact absurd rfl h
    · have := wi_ne c2
      rw [e0, e30] at this
      exact ⟨by rw [if_neg (by decide), if_pos rfl, if_neg c2]; decide, Or.inl ⟨rfl, this⟩⟩
  · rw [if_neg c1] at h
    by_cases c3 : a = 1
    · subst c3
      rw [if_pos rfl] at h
      by_cases c2 : fX9_within v 0 3 = 0
      · rw [if_pos c2] at h; exact absurd rfl h
      · have := wi_ne c2
        rw [e0, e3] at this
        exact ⟨by rw [if_neg (by decide), if_neg c1, if_neg c2]; decide, Or.inr ⟨rfl, c1, this⟩⟩
    · rw [if_neg c3] at h; exact absurd rfl h
theorem so_ne {a v : Int32} (h : fX9_isSounding a v = 0) : fX10_isSounding a v = 0 := by
  unfold fX9_isSounding fX9_isSounding_b14 at h
  unfold fX10_isSounding fX10_isSounding_b21
  rw [in_eq]
  by_cases c0 : fX9_within a 0 1 = 0
  · rw [if_pos c0]
  rw [if_neg c0]
  by_cases c1 : a = 0
  · rw [if_pos c1] at h
    rw [if_pos c1]
    by_cases c2 : fX9_within v 0 30 = 0
    · rw [if_pos c2]
    · rw [if_neg c2] at h; cases h
  · rw [if_neg c1] at h
    rw [if_neg c1]
    have c3 : a = 1 := by
      have := wi_ne c0
      have e0 : (0 : Int32).toInt = 0 := rfl
      have e1 : (1 : Int32).toInt = 1 := rfl
      rw [e0, e1] at this
      rw [i_eq, e0] at c1
      rw [i_eq, e1]
      omega
    rw [if_pos c3] at h
    by_cases c2 : fX9_within v 0 3 = 0
    · rw [if_pos c2]
    · rw [if_neg c2] at h; cases h
/-- what `sounds` writes -/
theorem n10 : ¬ (1 : Int32) = 0 := by decide
theorem n01 : ¬ (0 : Int32) = 1 := by decide
theorem sounds_0 {M : MW} {a v : Int32} (h : inb a 100) : fX10_sounds M a 0 v = some (mA M 66 a v) := by
  dsimp only [fX10_sounds, fX10_sounds_b19, fX10_sounds_b40, bd]
  rw [if_pos rfl, if_pos h, if_neg n01, rd_in h, Option.bind_some, if_pos h, mA_self (mA M 66 a v) 67 rfl]
theorem sounds_1 {M : MW} {a v : Int32} (h : inb a 100) : fX10_sounds M a 1 v = some (mA M 67 a v) := by
  dsimp only [fX10_sounds, fX10_sounds_b19, fX10_sounds_b40, bd]
  rw [if_neg n10, rd_in h, Option.bind_some, if_pos h, if_pos rfl, if_pos h, mA_self M 66 rfl]
theorem p_sound {X : XW} {M : MW} {nb : Nat} (h : Sim X M nb) (a b v : Int32) : R2 nb (fX9_sound X a b v) (fX10_sound M a b v) := by
  dsimp only [fX9_sound, fX10_sound, fX9_sound_b42, fX10_sound_b40, bd]
  rw [isCell_eq]
  by_cases c1 : fX9_isCell a = 0
  · rw [if_pos c1, if_pos c1]; exact R2.mk h
  rw [if_neg c1, if_neg c1]
  have hi := cell_in c1
  by_cases c2 : fX9_isSounding b v = 0
  · rw [if_pos c2, if_pos (so_ne c2)]; exact R2.mk h
  rw [if_neg c2, if_neg (so_eq c2).1]
  rcases (so_eq c2).2 with ⟨rfl, hv⟩ | ⟨rfl, -, hv⟩
  · rw [if_pos rfl, if_pos rfl, if_pos (by decide), show ln 2 = 100 from rfl, rd_in hi, Option.bind_some, if_pos hi, rd_in hi, Option.bind_some, sounds_0 hi, Option.bind_some, h.1.1]
    exact R2.mk (h.bay_d hv)
  · rw [if_neg n10, if_neg n10, if_pos (by decide), show ln 3 = 100 from rfl, rd_in hi, Option.bind_some, if_pos hi, rd_in hi, Option.bind_some, sounds_1 hi, Option.bind_some, h.1.2.1]
    exact R2.mk h.bay_b

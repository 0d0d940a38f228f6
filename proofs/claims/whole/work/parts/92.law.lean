/-! the law's loop -/
theorem lwA {nb : Nat} {a : Option (Int32 × XW)} {b : Option (Int32 × MW)} {K : XW → MW → Option Int32} (h : R2 nb a b) (hK : ∀ X M, Sim X M nb → K X M = some 1) : (bd2 a fun v X => bd2 b fun w M => if v = w then K X M else some (0 : Int32)) = some 1 := by
  obtain ⟨v, X, M, rfl, rfl, hS⟩ := h
  show (if v = v then K X M else some 0) = some 1
  rw [if_pos rfl]
  exact hK X M hS
theorem lwL {nb : Nat} {a : Option (Int64 × XW)} {b : Option (Int64 × MW)} {K : XW → MW → Option Int32} (h : R2L nb a b) (hK : ∀ X M, Sim X M nb → K X M = some 1) : (bd2 a fun v X => bd2 b fun w M => if lg_cmp v w = 0 then K X M else some (0 : Int32)) = some 1 := by
  obtain ⟨v, X, M, rfl, rfl, hS⟩ := h
  show (if lg_cmp v v = 0 then K X M else some 0) = some 1
  have e : lg_cmp v v = 0 := by unfold lg_cmp; simp
  rw [if_pos e]
  exact hK X M hS
theorem lw1 {a b : Option Int32} {r : Option Int32} (h : R1 a b) (hK : r = some 1) : (a.bind fun v => b.bind fun w => if v = w then r else some (0 : Int32)) = some 1 := by
  obtain ⟨v, rfl, rfl⟩ := h
  show (if v = v then r else some 0) = some 1
  rw [if_pos rfl]
  exact hK
theorem lw1L {a b : Option Int64} {r : Option Int32} (h : R1 a b) (hK : r = some 1) : (a.bind fun v => b.bind fun w => if lg_cmp v w = 0 then r else some (0 : Int32)) = some 1 := by
  obtain ⟨v, rfl, rfl⟩ := h
  show (if lg_cmp v v = 0 then r else some 0) = some 1
  have e : lg_cmp v v = 0 := by unfold lg_cmp; simp
  rw [if_pos e]
  exact hK
theorem lw0 {a b : Int32} {r : Option Int32} (h : a = b) (hK : r = some 1) : (if a = b then r else some (0 : Int32)) = some 1 := by
  rw [if_pos h]; exact hK
theorem lw3 {nb : Nat} {a : Option (Int32 × XW × Nat)} {b : Option (Int32 × MW)} {K : XW → MW → Nat → Option Int32} (h : R3 (nb + 1) a b) (hK : ∀ X M n, Sim X M (n + 1) → K X M n = some 1) : (bd3 a fun v X n => np n none fun m => bd2 b fun w M => if v = w then K X M m else some (0 : Int32)) = some 1 := by
  obtain ⟨v, X, M, n, rfl, rfl, hn, hS⟩ := h
  obtain ⟨n, rfl⟩ : ∃ q, n = q + 1 := ⟨n - 1, by omega⟩
  show (if v = v then K X M n else some 0) = some 1
  rw [if_pos rfl]
  exact hK X M n hS
theorem lw_end {L k : Nat} (h : L < 7 * k + 7) (hL : L ≤ 3584) (hk : 7 * k ≤ 3584) : Int32.ofNat L - 7 < nI (7 * k) := by
  by_cases q : 7 ≤ L
  · rw [show Int32.ofNat L - 7 = nI (L - 7) from pk_sub (a := L) (b := 7) q]
    exact nI_lt (by omega) (by omega)
  · rw [i_lt, nI_toInt (by omega)]
    have : L = 0 ∨ L = 1 ∨ L = 2 ∨ L = 3 ∨ L = 4 ∨ L = 5 ∨ L = 6 := by omega
    have e : (Int32.ofNat L - 7).toInt < 0 := by
      rcases this with rfl | rfl | rfl | rfl | rfl | rfl | rfl <;> decide
    omega
theorem lw_on {L k : Nat} (h : 7 * k + 7 ≤ L) (hL : L ≤ 3584) : ¬ Int32.ofNat L - 7 < nI (7 * k) := by
  rw [show Int32.ofNat L - 7 = nI (L - 7) from pk_sub (a := L) (b := 7) (by omega)]
  exact nI_nlt (by omega) (by omega)
theorem law_all {xs : Nat → Int32} {L : Nat} (hL : L ≤ 3584) : ∀ (m k : Nat) (X : XW) (M : MW) (nb : Nat), 3584 < 7 * (k + m) → 7 * k ≤ 3584 → Sim X M (nb + 1) → lo4 (fL_law_l18 xs L) m X M nb (nI (7 * k)) = some 1 := by
  intro m
  induction m with
  | zero => intro k X M nb h1 h2; omega
  | succ m ih =>
    intro k X M nb hm hk h
    show fL_law_l18 xs L (lo4 (fL_law_l18 xs L) m) X M nb (nI (7 * k)) = some 1
    by_cases hl : L < 7 * k + 7
    · unfold fL_law_l18
      rw [if_pos (lw_end hl hL hk)]
    have ih' : ∀ (X : XW) (M : MW) (nb : Nat), Sim X M (nb + 1) → lo4 (fL_law_l18 xs L) m X M nb (nI (7 * k) + 7) = some 1 := fun X M nb h => by
      have := ih (k + 1) X M nb (by omega) (by omega) h
      rw [show nI (7 * k) + 7 = nI (7 * (k + 1)) from nI_add (7 * k) 7]
      exact this
    generalize lo4 (fL_law_l18 xs L) m = G at ih' ⊢
    unfold fL_law_l18
    have rj : ∀ j, j < 7 → rd xs L (nI (7 * k + j)) = some (xs (7 * k + j)) := fun j hj => by
      rw [rd_in (in_nI (by omega) (by omega)), cl_nI (by omega)]
    rw [if_neg (lw_on (by omega) (by omega))]
    have r0 : rd xs L (nI (7 * k)) = some (xs (7 * k)) := rj 0 (by omega)
    have r1 : rd xs L (nI (7 * k) + 1) = some (xs (7 * k + 1)) := by rw [nI_1]; exact rj 1 (by omega)
    have r2 : rd xs L (nI (7 * k) + 2) = some (xs (7 * k + 2)) := by rw [show nI (7 * k) + 2 = nI (7 * k + 2) from nI_add (7 * k) 2]; exact rj 2 (by omega)
    have r3 : rd xs L (nI (7 * k) + 3) = some (xs (7 * k + 3)) := by rw [show nI (7 * k) + 3 = nI (7 * k + 3) from nI_add (7 * k) 3]; exact rj 3 (by omega)
    have r4 : rd xs L (nI (7 * k) + 4) = some (xs (7 * k + 4)) := by rw [show nI (7 * k) + 4 = nI (7 * k + 4) from nI_add (7 * k) 4]; exact rj 4 (by omega)
    have r5 : rd xs L (nI (7 * k) + 5) = some (xs (7 * k + 5)) := by rw [show nI (7 * k) + 5 = nI (7 * k + 5) from nI_add (7 * k) 5]; exact rj 5 (by omega)
    have r6 : rd xs L (nI (7 * k) + 6) = some (xs (7 * k + 6)) := by rw [show nI (7 * k) + 6 = nI (7 * k + 6) from nI_add (7 * k) 6]; exact rj 6 (by omega)
    rw [r0, bs_I, bd]
    generalize xs (7 * k) &&& 63 = v
    by_cases q0 : v = 0
    · rw [if_pos q0]
      simp only [r1, r2, r3, Option.bind_some]
      exact lwA (p_sound h _ _ _) (fun X M => ih' X M nb)
    rw [if_neg q0]
    by_cases q1 : v = 1
    · rw [if_pos q1]
      simp only [r1, r2, r3, r4, Option.bind_some]
      exact lwA (p_chart h _ _ _ _) (fun X M => ih' X M nb)
    rw [if_neg q1]
    by_cases q2 : v = 2
    · rw [if_pos q2]
      simp only [r1, r2, r3, Option.bind_some]
      exact lwA (p_blow h _ _ _) (fun X M => ih' X M nb)
    rw [if_neg q2]
    by_cases q3 : v = 3
    · rw [if_pos q3]
      simp only [r1, r2, Option.bind_some]
      exact lw1 (p_told h _ _) (ih' X M nb h)
    rw [if_neg q3]
    by_cases q4 : v = 4
    · rw [if_pos q4]
      simp only [r1, Option.bind_some]
      exact lw0 (p_count h _) (ih' X M nb h)
    rw [if_neg q4]
    by_cases q5 : v = 5
    · rw [if_pos q5]
      simp only [r1, r2, r3, r4, r5, r6, Option.bind_some]
      exact lwA (p_feed h _ _ _ _ _ _) (fun X M => ih' X M nb)
    rw [if_neg q5]
    by_cases q6 : v = 6
    · rw [if_pos q6]
      exact lwA (p_text h) (fun X M => ih' X M nb)
    rw [if_neg q6]
    by_cases q7 : v = 7
    · rw [if_pos q7]
      simp only [r1, Option.bind_some]
      exact lwA (p_force h _) (fun X M => ih' X M nb)
    rw [if_neg q7]
    by_cases q8 : v = 8
    · rw [if_pos q8]
      simp only [r1, r2, r3, r4, Option.bind_some]
      exact lwA (p_asks h _ _ _ _) (fun X M => ih' X M nb)
    rw [if_neg q8]
    by_cases q9 : v = 9
    · rw [if_pos q9]
      simp only [r1, r2, r3, r4, Option.bind_some]
      exact lw3 (p_boat h (by omega) _ _ _ _) ih'
    rw [if_neg q9]
    by_cases q10 : v = 10
    · rw [if_pos q10]
      simp only [r1, r2, r3, Option.bind_some]
      exact lwA (p_let h _ _ _) (fun X M => ih' X M nb)
    rw [if_neg q10]
    by_cases q11 : v = 11
    · rw [if_pos q11]
      simp only [r1, r2, Option.bind_some]
      exact lw1 (p_boatTold h _ _) (ih' X M nb h)
    rw [if_neg q11]
    by_cases q12 : v = 12
    · rw [if_pos q12]
      simp only [r1, r2, r3, Option.bind_some]
      exact lwA (p_hold h _ _ _) (fun X M => ih' X M nb)
    rw [if_neg q12]
    by_cases q13 : v = 13
    · rw [if_pos q13]
      simp only [r1, r2, r3, Option.bind_some]
      exact lwA (p_night h _ _ _) (fun X M => ih' X M nb)
    rw [if_neg q13]
    by_cases q14 : v = 14
    · rw [if_pos q14]
      simp only [r1, r2, Option.bind_some]
      exact lwA (p_fleet h _ _) (fun X M => ih' X M nb)
    rw [if_neg q14]
    by_cases q15 : v = 15
    · rw [if_pos q15]
      simp only [r1, r2, r3, Option.bind_some]
      exact lwA (p_hit h _ _ _) (fun X M => ih' X M nb)
    rw [if_neg q15]
    by_cases q16 : v = 16
    · rw [if_pos q16]
      simp only [r1, Option.bind_some]
      exact lwA (p_wake h _) (fun X M => ih' X M nb)
    rw [if_neg q16]
    by_cases q17 : v = 17
    · rw [if_pos q17]
      simp only [r1, Option.bind_some]
      exact lwA (p_goOn h _) (fun X M => ih' X M nb)
    rw [if_neg q17]
    by_cases q18 : v = 18
    · rw [if_pos q18]
      simp only [r1, r2, Option.bind_some]
      exact lwA (p_veer h _ _) (fun X M => ih' X M nb)
    rw [if_neg q18]
    by_cases q19 : v = 19
    · rw [if_pos q19]
      simp only [r1, r2, r3, Option.bind_some]
      exact lwA (p_drop h _ _ _) (fun X M => ih' X M nb)
    rw [if_neg q19]
    by_cases q20 : v = 20
    · rw [if_pos q20]
      simp only [r1, r2, Option.bind_some]
      exact lw1 (p_rings h _ _) (ih' X M nb h)
    rw [if_neg q20]
    by_cases q21 : v = 21
    · rw [if_pos q21]
      exact lw1 (p_late h) (ih' X M nb h)
    rw [if_neg q21]
    by_cases q22 : v = 22
    · rw [if_pos q22]
      simp only [r1, r2, r3, Option.bind_some]
      exact lwA (p_alarm h _ _ _) (fun X M => ih' X M nb)
    rw [if_neg q22]
    by_cases q23 : v = 23
    · rw [if_pos q23]
      simp only [r1, r2, r3, Option.bind_some]
      exact lwA (p_size h _ _ _) (fun X M => ih' X M nb)
    rw [if_neg q23]
    by_cases q24 : v = 24
    · rw [if_pos q24]
      simp only [r1, r2, r3, Option.bind_some]
      exact lw0 (p_line _ _ _) (ih' X M nb h)
    rw [if_neg q24]
    by_cases q25 : v = 25
    · rw [if_pos q25]
      simp only [r1, r2, r3, r4, Option.bind_some]
      exact lwA (p_marks h _ _ _ _) (fun X M => ih' X M nb)
    rw [if_neg q25]
    by_cases q26 : v = 26
    · rw [if_pos q26]
      simp only [r1, r2, r3, Option.bind_some]
      exact lwA (p_next h _ _ _) (fun X M => ih' X M nb)
    rw [if_neg q26]
    by_cases q27 : v = 27
    · rw [if_pos q27]
      simp only [r1, r2, r3, r4, Option.bind_some]
      exact lwA (p_two h _ _ _ _) (fun X M => ih' X M nb)
    rw [if_neg q27]
    by_cases q28 : v = 28
    · rw [if_pos q28]
      simp only [r1, r2, Option.bind_some]
      exact lwA (p_angle h _ _) (fun X M => ih' X M nb)
    rw [if_neg q28]
    by_cases q29 : v = 29
    · rw [if_pos q29]
      simp only [r1, r2, Option.bind_some]
      exact lwL (p_turns h _ _) (fun X M => ih' X M nb)
    rw [if_neg q29]
    by_cases q30 : v = 30
    · rw [if_pos q30]
      simp only [r1, r2, r3, r4, Option.bind_some]
      exact lwA (p_trial h _ _ _ _) (fun X M => ih' X M nb)
    rw [if_neg q30]
    by_cases q31 : v = 31
    · rw [if_pos q31]
      simp only [r1, r2, r3, Option.bind_some]
      exact lw1L (p_rate h _ _ _) (ih' X M nb h)
    rw [if_neg q31]
    by_cases q32 : v = 32
    · rw [if_pos q32]
      simp only [r1, Option.bind_some]
      exact lw1 (p_form h _) (ih' X M nb h)
    rw [if_neg q32]
    by_cases q33 : v = 33
    · rw [if_pos q33]
      exact lw1 (p_joined h) (ih' X M nb h)
    rw [if_neg q33]
    by_cases q34 : v = 34
    · rw [if_pos q34]
      simp only [r1, r2, Option.bind_some]
      exact lwA (p_judge h _ _) (fun X M => ih' X M nb)
    rw [if_neg q34]
    by_cases q35 : v = 35
    · rw [if_pos q35]
      simp only [r1, Option.bind_some]
      exact lwA (p_which h _) (fun X M => ih' X M nb)
    rw [if_neg q35]
    by_cases q36 : v = 36
    · rw [if_pos q36]
      simp only [r1, r2, Option.bind_some]
      exact lwA (p_laws h _ _) (fun X M => ih' X M nb)
    rw [if_neg q36]
    by_cases q37 : v = 37
    · rw [if_pos q37]
      simp only [r1, r2, r3, Option.bind_some]
      exact lwA (p_film h _ _ _) (fun X M => ih' X M nb)
    rw [if_neg q37]
    by_cases q38 : v = 38
    · rw [if_pos q38]
      simp only [r1, r2, r3, r4, Option.bind_some]
      exact lwA (p_drawn h _ _ _ _) (fun X M => ih' X M nb)
    rw [if_neg q38]
    by_cases q39 : v = 39
    · rw [if_pos q39]
      simp only [r1, r2, r3, r4, Option.bind_some]
      exact lwL (p_chance h _ _ _ _) (fun X M => ih' X M nb)
    rw [if_neg q39]
    by_cases q40 : v = 40
    · rw [if_pos q40]
      exact lwA (p_image h) (fun X M => ih' X M nb)
    rw [if_neg q40]
    by_cases q41 : v = 41
    · rw [if_pos q41]
      exact lwA (p_back h) (fun X M => ih' X M nb)
    rw [if_neg q41]
    by_cases q42 : v = 42
    · rw [if_pos q42]
      simp only [r1, r2, r3, Option.bind_some]
      exact lwA (p_sheet h _ _ _) (fun X M => ih' X M nb)
    rw [if_neg q42]
    by_cases q43 : v = 43
    · rw [if_pos q43]
      simp only [r1, r2, r3, Option.bind_some]
      exact lwA (p_cell h _ _ _) (fun X M => ih' X M nb)
    rw [if_neg q43]
    by_cases q44 : v = 44
    · rw [if_pos q44]
      simp only [r1, r2, r3, r4, r5, Option.bind_some]
      exact lwA (p_copy h _ _ _ _ _) (fun X M => ih' X M nb)
    rw [if_neg q44]
    by_cases q45 : v = 45
    · rw [if_pos q45]
      simp only [r1, r2, r3, r4, Option.bind_some]
      exact lw3 (p_boatsBy h (by omega) _ _ _ _) ih'
    rw [if_neg q45]
    by_cases q46 : v = 46
    · rw [if_pos q46]
      simp only [r1, r2, Option.bind_some]
      exact lw1 (p_taken h _ _) (ih' X M nb h)
    rw [if_neg q46]
    exact ih' X M nb h

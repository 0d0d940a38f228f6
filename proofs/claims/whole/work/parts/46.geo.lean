/-! depth, rope, lying and turning -/
theorem bmod_in {z : Int} (h1 : -2147483648 ≤ z) (h2 : z < 2147483648) : z.bmod (2 ^ 32) = z := by
  apply Int.bmod_eq_of_le <;> omega
theorem i_add {a b : Int32} (h1 : -2147483648 ≤ a.toInt + b.toInt) (h2 : a.toInt + b.toInt < 2147483648) : (a + b).toInt = a.toInt + b.toInt := by
  rw [Int32.toInt_add]; exact bmod_in h1 h2
theorem i_sub {a b : Int32} (h1 : -2147483648 ≤ a.toInt - b.toInt) (h2 : a.toInt - b.toInt < 2147483648) : (a - b).toInt = a.toInt - b.toInt := by
  rw [Int32.toInt_sub]; exact bmod_in h1 h2
theorem i_mul {a b : Int32} (h1 : -2147483648 ≤ a.toInt * b.toInt) (h2 : a.toInt * b.toInt < 2147483648) : (a * b).toInt = a.toInt * b.toInt := by
  rw [Int32.toInt_mul]; exact bmod_in h1 h2
theorem jmax0 (x : Int32) : jmax 0 x = if 0 ≤ x then x else 0 := by
  have e0 : (0 : Int32).toInt = 0 := rfl
  unfold jmax
  by_cases h : 0 < x
  · rw [if_pos h, if_pos (by rw [i_lt] at h; rw [i_le]; omega)]
  · rw [if_neg h]
    by_cases h2 : 0 ≤ x
    · rw [if_pos h2, i_eq]; rw [i_lt] at h; rw [i_le] at h2; omega
    · rw [if_neg h2]
theorem ce_nI {c : Nat} (hc : c < 100) : ¬ fX9_within (nI c) 0 99 = 0 := by
  rw [show fX9_within (nI c) 0 99 = if 0 ≤ c ∧ c ≤ 99 then 1 else 0 from wi_nI (a := 0) (b := 99) (by omega) (by decide) (by decide), if_pos (by omega)]
  decide
theorem ho_nI {k : Nat} (hk : k < 12) : ¬ fX9_within (nI k) 0 11 = 0 := by
  rw [show fX9_within (nI k) 0 11 = if 0 ≤ k ∧ k ≤ 11 then 1 else 0 from wi_nI (a := 0) (b := 11) (by omega) (by decide) (by decide), if_pos (by omega)]
  decide
theorem g_deep {X : XW} {M : MW} (h : SBay X M) {c k : Nat} (hc : c < 100) (hk : k < 12) : ∃ d : Nat, d ≤ 33 ∧ fX0_deepOf X (nI c) (nI k) = some (nI d) ∧ fX10_deepAt M (nI c) (nI k) = some (nI d) := by
  obtain ⟨h1, h2, h3, h4, h5, h6, h7, h8, -⟩ := h
  have ic : inb (nI c) 100 := in_nI hc (by omega)
  have ik : inb (nI k) 12 := in_nI hk (by omega)
  dsimp only [fX0_deepOf, fX10_deepAt, bd]
  rw [if_neg (ce_nI hc), if_neg (ho_nI hk), rd_in ic, rd_in ik, rd_in ic, rd_in ik, h1, h5]
  simp only [Option.bind_some]
  have g6 := h6 (nI c).toNatClampNeg
  have g8 := h8 (nI k).toNatClampNeg
  have hs := i_add (a := M.2 66 (nI c).toNatClampNeg) (b := M.2 70 (nI k).toNatClampNeg) (by omega) (by omega)
  rw [jmax0]
  have e0 : (0 : Int32).toInt = 0 := rfl
  by_cases hp : 0 ≤ M.2 66 (nI c).toNatClampNeg + M.2 70 (nI k).toNatClampNeg
  · rw [if_pos hp, if_pos hp]
    rw [i_le, e0] at hp
    obtain ⟨d, hd, -, hde⟩ := nn_ge hp
    exact ⟨d, by omega, by rw [hd], by rw [hd]⟩
  · rw [if_neg hp, if_neg hp]
    exact ⟨0, by omega, rfl, rfl⟩
theorem d5 {a : Nat} (h : a < 2 ^ 31) : nI a / 5 = nI (a / 5) := pk_div h (by decide) (by decide)
theorem far_lo {M : MW} {p w : Nat} (hp : p ≤ 40) (hw : w ≤ p * p) : ∀ (n k : Nat), 41 < n + k → k ≤ p → ∃ r : Nat, r ≤ 8 ∧ lo2 (fX0_cellsOff_l20 (nI p) (nI w)) n (nI k) (nI (k + 1)) = some (nI r) ∧ lo1 (fX10_farOff_l32 M (nI w)) n (nI k) = some (nI r) := by
  intro n
  induction n with
  | zero => intro k h1 h2; omega
  | succ n ih =>
    intro k h1 h2
    have hpp : p * p ≤ 40 * 40 := Nat.mul_le_mul hp hp
    have hkk : (k + 1) * (k + 1) ≤ 41 * 41 := Nat.mul_le_mul (by omega) (by omega)
    have ga : lo2 (fX0_cellsOff_l20 (nI p) (nI w)) (n + 1) (nI k) (nI (k + 1)) = if (p < k + 1) then some (nI (k / 5)) else if w < (k + 1) * (k + 1) then some (nI (k / 5)) else lo2 (fX0_cellsOff_l20 (nI p) (nI w)) n (nI (k + 1)) (nI (k + 1 + 1)) := by
      show fX0_cellsOff_l20 (nI p) (nI w) (lo2 (fX0_cellsOff_l20 (nI p) (nI w)) n) (nI k) (nI (k + 1)) = _
      generalize lo2 (fX0_cellsOff_l20 (nI p) (nI w)) n = L
      unfold fX0_cellsOff_l20
      rw [d5 (by omega), pk_mul, nI_1]
      simp only [nI_ltI (show p < 2 ^ 31 by omega) (show k + 1 < 2 ^ 31 by omega), nI_ltI (show w < 2 ^ 31 by omega) (show (k + 1) * (k + 1) < 2 ^ 31 by omega)]
    have gb : lo1 (fX10_farOff_l32 M (nI w)) (n + 1) (nI k) = if w < (k + 1) * (k + 1) then some (nI (k / 5)) else lo1 (fX10_farOff_l32 M (nI w)) n (nI (k + 1)) := by
      show fX10_farOff_l32 M (nI w) (lo1 (fX10_farOff_l32 M (nI w)) n) (nI k) = _
      generalize lo1 (fX10_farOff_l32 M (nI w)) n = L
      unfold fX10_farOff_l32
      rw [d5 (by omega), nI_1, pk_mul]
      simp only [nI_ltI (show w < 2 ^ 31 by omega) (show (k + 1) * (k + 1) < 2 ^ 31 by omega)]
    rw [ga, gb]
    by_cases c2 : w < (k + 1) * (k + 1)
    · refine ⟨k / 5, by omega, ?_, if_pos c2⟩
      by_cases c1 : p < k + 1
      · rw [if_pos c1]
      · rw [if_neg c1, if_pos c2]
    · have c1 : ¬ p < k + 1 := fun q => c2 (by
        have : p * p < (k + 1) * (k + 1) := Nat.mul_lt_mul'' q q
        omega)
      rw [if_neg c1, if_neg c2, if_neg c2]
      exact ih (k + 1) (by omega) (by omega)
theorem g_far {X : XW} {M : MW} (h : SBay X M) {c k p : Nat} (hc : c < 100) (hk : k < 12) (hp : p ≤ 40) : ∃ d r : Nat, d ≤ 33 ∧ r ≤ 8 ∧ fX0_deepOf X (nI c) (nI k) = some (nI d) ∧ fX0_cellsOff (nI p) (nI d) = some (nI r) ∧ fX10_farOff M (nI c) (nI k) (nI p) = some (nI r) := by
  obtain ⟨d, hd, e1, e2⟩ := g_deep h hc hk
  refine ⟨d, ?_⟩
  dsimp only [fX0_cellsOff, fX10_farOff, fX10_farOff_b27, bd]
  rw [e2, Option.bind_some]
  by_cases hdp : d < p
  · rw [if_pos (nI_lt hdp (by omega)), if_neg (nI_ge hdp (by omega))]
    have hpp : p * p ≤ 40 * 40 := Nat.mul_le_mul hp hp
    have hdd : d * d ≤ p * p := Nat.mul_le_mul (by omega) (by omega)
    rw [pk_mul, pk_mul, pk_sub hdd]
    obtain ⟨r, hr, g1, g2⟩ := far_lo (M := M) hp (show p * p - d * d ≤ p * p by omega) FU 0 (by unfold FU; omega) (by omega)
    exact ⟨r, hd, hr, e1, g1, g2⟩
  · rw [if_neg (nI_nlt (by omega) (by omega)), if_pos (nI_le (by omega) (by omega))]
    obtain ⟨r, hr, g1, g2⟩ := far_lo (M := M) (p := 0) (by omega) (show 0 ≤ 0 * 0 by omega) FU 0 (by unfold FU; omega) (by omega)
    refine ⟨0, hd, by omega, e1, rfl, ?_⟩
    rfl
def sp0 (c w : Int32) : Option Int32 := fX0_stepped (fun _ _ => 0, fun _ _ => 0, fun _ _ => none) c w
theorem sp0_eq (X : XW) (c w : Int32) : fX0_stepped X c w = sp0 c w := rfl
def spN (c w : Nat) : Nat := ((sp0 (nI c) (nI w)).getD 0).toInt.toNat
theorem sp_tab : ∀ w : Fin 8, ∀ c : Fin 100, (sp0 (nI c) (nI w) = some (-1) ∧ fX10_isWithin (nI (c % 10) + lf lt47 w) (nI (c / 10) + lf lt89 w) = 0) ∨ (spN c w < 100 ∧ sp0 (nI c) (nI w) = some (nI (spN c w)) ∧ ¬ fX10_isWithin (nI (c % 10) + lf lt47 w) (nI (c / 10) + lf lt89 w) = 0 ∧ nI (c % 10) + lf lt47 w = nI (spN c w % 10) ∧ nI (c / 10) + lf lt89 w = nI (spN c w / 10)) := by decide +kernel
theorem sp_at {c w : Nat} (hc : c < 100) (hw : w < 8) : (sp0 (nI c) (nI w) = some (-1) ∧ fX10_isWithin (nI (c % 10) + lf lt47 w) (nI (c / 10) + lf lt89 w) = 0) ∨ (∃ d, d < 100 ∧ sp0 (nI c) (nI w) = some (nI d) ∧ ¬ fX10_isWithin (nI (c % 10) + lf lt47 w) (nI (c / 10) + lf lt89 w) = 0 ∧ nI (c % 10) + lf lt47 w = nI (d % 10) ∧ nI (c / 10) + lf lt89 w = nI (d / 10)) := by
  rcases sp_tab ⟨w, hw⟩ ⟨c, hc⟩ with q | q
  · exact Or.inl q
  · exact Or.inr ⟨spN c w, q⟩
theorem nI_m1 {d : Nat} (h : d < 2 ^ 31) : ¬ nI d = -1 := by
  rw [i_eq, nI_toInt h]
  have : (-1 : Int32).toInt = -1 := rfl
  omega
theorem lies_lo {X : XW} {M : MW} (h : SBay X M) {w r : Nat} (hw : w < 8) (hr : r ≤ 8) : ∀ (n i c : Nat), 8 < n + i → i ≤ r → c < 100 → ∃ d : Nat, d < 100 ∧ lo2 (fX0_liesAt_l18 X (nI w) (nI r)) n (nI c) (nI i) = some (nI d) ∧ lo3 (fX10_lies_l15 M (nI w) (nI r)) n (nI (c % 10)) (nI (c / 10)) (nI i) = some (nI d) := by
  intro n
  obtain ⟨-, -, -, -, -, -, -, -, -, -, h71, h72, -⟩ := h
  have iw : inb (nI w) 8 := in_nI hw (by omega)
  induction n with
  | zero => intro i c h1 h2; omega
  | succ n ih =>
    intro i c h1 h2 hc
    show ∃ d : Nat, d < 100 ∧ fX0_liesAt_l18 X (nI w) (nI r) (lo2 (fX0_liesAt_l18 X (nI w) (nI r)) n) (nI c) (nI i) = some (nI d) ∧ fX10_lies_l15 M (nI w) (nI r) (lo3 (fX10_lies_l15 M (nI w) (nI r)) n) (nI (c % 10)) (nI (c / 10)) (nI i) = some (nI d)
    generalize hL : lo2 (fX0_liesAt_l18 X (nI w) (nI r)) n = L
    generalize hG : lo3 (fX10_lies_l15 M (nI w) (nI r)) n = G
    dsimp only [fX0_liesAt_l18, fX10_lies_l15, bd]
    rw [sp0_eq, t10, nI_add, Nat.div_add_mod, rd_in iw, rd_in iw, h71, h72, cl_nI (show w < 2 ^ 31 by omega), nI_1]
    simp only [Option.bind_some]
    by_cases hi : r ≤ i
    · rw [if_pos (nI_le hi (by omega)), if_pos (nI_le hi (by omega))]; exact ⟨c, hc, rfl, rfl⟩
    rw [if_neg (nI_ge (by omega) (by omega)), if_neg (nI_ge (by omega) (by omega))]
    rcases sp_at hc hw with ⟨q1, q2⟩ | ⟨d, hd, q1, q2, q3, q4⟩
    · rw [q1, Option.bind_some, if_pos rfl, if_pos q2]
      exact ⟨c, hc, rfl, rfl⟩
    · rw [q1, Option.bind_some, if_neg (nI_m1 (by omega)), if_neg q2, q3, q4]
      subst hL hG
      exact ih (i + 1) d (by omega) (by omega) hd
theorem g_lies {X : XW} {M : MW} (h : SBay X M) {c k p w : Nat} (hc : c < 100) (hk : k < 12) (hp : p ≤ 40) (hw : w < 8) : ∃ r d : Nat, r ≤ 8 ∧ d < 100 ∧ fX0_liesAt X (nI c) (nI p) (nI k) (nI w) = some (nI d) ∧ fX10_farOff M (nI c) (nI k) (nI p) = some (nI r) ∧ fX10_lies M (nI c) (nI w) (nI r) = some (nI d) := by
  obtain ⟨d, r, hd, hr, e1, e2, e3⟩ := g_far h hc hk hp
  obtain ⟨q, hq, g1, g2⟩ := lies_lo h hw hr FU 0 c (by unfold FU; omega) (by omega) hc
  refine ⟨r, q, hr, hq, ?_, e3, ?_⟩
  · unfold fX0_liesAt
    rw [e1, Option.bind_some, e2, Option.bind_some]
    exact g1
  · dsimp only [fX10_lies, bd]
    rw [r10 (by omega), d10 (by omega)]
    exact g2
theorem g_way {X : XW} {M : MW} (h : SBay X M) (k : Nat) : ∃ w : Nat, w < 8 ∧ M.2 68 k = nI w := by
  obtain ⟨-, -, -, -, -, -, h7, -⟩ := h
  obtain ⟨w, e1, -, e2⟩ := nn_ge (h7 k).1
  exact ⟨w, by have := (h7 k).2; omega, e1⟩
theorem g_one {X : XW} {M : MW} (h : SBay X M) {c k : Nat} (hc : c < 100) (hk : k < 12) : ∃ d : Int32, (d = -1 ∨ ∃ j, j < 100 ∧ d = nI j) ∧ fX0_oneOn X (nI c) (nI k) = some d ∧ fX10_further M (nI c) (nI k) = some d := by
  obtain ⟨w, hw, ew⟩ := g_way h k
  obtain ⟨-, -, h68, -, -, -, -, -, -, -, h71, h72, -⟩ := h
  have ik : inb (nI k) 12 := in_nI hk (by omega)
  have iw : inb (nI w) 8 := in_nI hw (by omega)
  have hh : ¬ fX9_isHour (nI k) = 0 := ho_nI hk
  dsimp only [fX0_oneOn, fX10_further, bd]
  rw [if_neg hh, rd_in ik, rd_in ik, h68, cl_nI (show k < 2 ^ 31 by omega), ew]
  simp only [Option.bind_some]
  rw [rd_in iw, rd_in iw, h71, h72, cl_nI (show w < 2 ^ 31 by omega), sp0_eq, r10 (by omega), d10 (by omega)]
  simp only [Option.bind_some]
  rcases sp_at hc hw with ⟨q1, q2⟩ | ⟨d, hd, q1, q2, q3, q4⟩
  · rw [q1, if_pos q2]; exact ⟨-1, Or.inl rfl, rfl, rfl⟩
  · rw [q1, if_neg q2, q3, q4, t10, nI_add, Nat.div_add_mod]
    exact ⟨nI d, Or.inr ⟨d, hd, rfl⟩, rfl, rfl⟩
theorem tu_tab : ∀ a : Fin 8, ∀ b : Fin 8, jmin (jabs (nI a - nI b)) (8 - jabs (nI a - nI b)) = (if fX10_size (nI a - nI b) ≤ 4 then fX10_size (nI a - nI b) else 8 - fX10_size (nI a - nI b)) := by decide +kernel
theorem g_turn {X : XW} {M : MW} (h : SBay X M) {k : Nat} (hk : k < 12) : ∃ d : Int32, fX0_turnIn X (nI k) = some d ∧ fX10_turnIn M (nI k) = some d := by
  obtain ⟨w, hw, ew⟩ := g_way h k
  obtain ⟨w', hw', ew'⟩ := g_way h (k - 1)
  obtain ⟨-, -, h68, -⟩ := h
  have ik : inb (nI k) 12 := in_nI hk (by omega)
  dsimp only [fX0_turnIn, fX10_turnIn, fX10_turnIn_b26, bd]
  rw [show (11 : Int32) = nI 11 from rfl, show fX9_within (nI k) 1 (nI 11) = if 1 ≤ k ∧ k ≤ 11 then 1 else 0 from wi_nI (a := 1) (by omega) (by decide) (by decide)]
  by_cases h0 : k = 0
  · subst h0
    rw [if_pos (by decide), if_pos (show nI 0 = 0 from rfl), if_pos (by decide)]; exact ⟨0, rfl, rfl⟩
  · have hn : ¬ nI k = 0 := nI_ne0 (by omega) (by omega)
    rw [if_neg (by rw [if_pos (by omega)]; decide), if_neg hn, show nI k - 1 = nI (k - 1) from pk_sub (b := 1) (by omega)]
    have ik' : inb (nI (k - 1)) 12 := in_nI (by omega) (by omega)
    rw [rd_in ik, rd_in ik', rd_in ik, rd_in ik', h68, cl_nI (show k < 2 ^ 31 by omega), cl_nI (show k - 1 < 2 ^ 31 by omega), ew, ew']
    simp only [Option.bind_some]
    have := tu_tab ⟨w, hw⟩ ⟨w', hw'⟩
    refine ⟨_, rfl, ?_⟩
    rw [show jmin (jabs (nI w - nI w')) (8 - jabs (nI w - nI w')) = _ from this]
    by_cases q : fX10_size (nI w - nI w') ≤ 4
    · rw [if_pos q, if_pos q]
    · rw [if_neg q, if_neg q]

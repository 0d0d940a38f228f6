/-! back -/
theorem bk_M : ∀ (n k : Nat) (M : MW), 6 < n + k → k ≤ 6 → ∃ M', lo2 fX10_back_l36 n M (nI k) = fX10_back_b72 M' ∧ M'.1 = M.1 ∧ (∀ q, q ≠ 77 → q ≠ 78 → M'.2 q = M.2 q) ∧ (∀ q, M'.2 77 q = if k ≤ q ∧ q < 6 then M.2 84 q else M.2 77 q) ∧ (∀ q, M'.2 78 q = if k ≤ q ∧ q < 6 then M.2 85 q else M.2 78 q) := by
  intro n
  induction n with
  | zero => intro k M h1 h2; omega
  | succ n ih =>
    intro k M g1 g2
    show ∃ M', fX10_back_l36 (lo2 fX10_back_l36 n) M (nI k) = fX10_back_b72 M' ∧ _
    generalize hL : lo2 fX10_back_l36 n = L at ih ⊢
    dsimp only [fX10_back_l36, bd]
    by_cases hk : 6 ≤ k
    · rw [if_pos (show (6 : Int32) ≤ nI k from nI_le (a := 6) hk (by omega))]
      exact ⟨M, rfl, rfl, fun _ _ _ => rfl, fun q => by rw [if_neg (by omega)], fun q => by rw [if_neg (by omega)]⟩
    have ik : inb (nI k) 6 := in_nI (by omega) (by omega)
    rw [if_neg (show ¬ (6 : Int32) ≤ nI k from nI_ge (b := 6) (by omega) (by omega)), rd_in ik, Option.bind_some, if_pos ik, rd_in ik, Option.bind_some, if_pos ik, nI_1, cl_nI (show k < 2 ^ 31 by omega), mA_ne _ _ _ (show 85 ≠ 77 by omega)]
    obtain ⟨M', e1, e2, e4, e5, e6⟩ := ih (k + 1) (mA (mA M 77 (nI k) (M.2 84 k)) 78 (nI k) (M.2 85 k)) (by omega) (by omega)
    refine ⟨M', e1, e2, fun q q1 q2 => (e4 q q1 q2).trans ((mA_ne _ _ _ q2).trans (mA_ne _ _ _ q1)), fun q => ?_, fun q => ?_⟩
    · rw [e5, mA_ne _ _ _ (show 84 ≠ 78 by omega), mA_ne _ _ _ (show 84 ≠ 77 by omega), mA_ne _ _ _ (show 77 ≠ 78 by omega), mA_at, cl_nI (show k < 2 ^ 31 by omega)]
      unfold upd
      by_cases c : k + 1 ≤ q ∧ q < 6
      · rw [if_pos c, if_pos (by omega)]
      · rw [if_neg c]
        by_cases c2 : q = k
        · rw [if_pos c2, if_pos (by omega), c2]
        · rw [if_neg c2, if_neg (by omega)]
    · rw [e6, mA_ne _ _ _ (show 85 ≠ 78 by omega), mA_ne _ _ _ (show 85 ≠ 77 by omega), mA_at, mA_ne _ _ _ (show 78 ≠ 77 by omega), cl_nI (show k < 2 ^ 31 by omega)]
      unfold upd
      by_cases c : k + 1 ≤ q ∧ q < 6
      · rw [if_pos c, if_pos (by omega)]
      · rw [if_neg c]
        by_cases c2 : q = k
        · rw [if_pos c2, if_pos (by omega), c2]
        · rw [if_neg c2, if_neg (by omega)]
theorem bo_M : ∀ (n k : Nat) (M : MW), 20 < n + k → k ≤ 20 → ∃ M', lo2 fX10_back_l74 n M (nI k) = some (M.1 8, M') ∧ M'.1 = M.1 ∧ (∀ q, q ≠ 79 → q ≠ 80 → M'.2 q = M.2 q) ∧ (∀ q, M'.2 79 q = if k ≤ q ∧ q < 20 then M.2 86 q else M.2 79 q) ∧ (∀ q, M'.2 80 q = if k ≤ q ∧ q < 20 then M.2 87 q else M.2 80 q) := by
  intro n
  induction n with
  | zero => intro k M h1 h2; omega
  | succ n ih =>
    intro k M g1 g2
    show ∃ M', fX10_back_l74 (lo2 fX10_back_l74 n) M (nI k) = some (M.1 8, M') ∧ _
    generalize hL : lo2 fX10_back_l74 n = L at ih ⊢
    dsimp only [fX10_back_l74, bd]
    by_cases hk : 20 ≤ k
    · rw [if_pos (show (20 : Int32) ≤ nI k from nI_le (a := 20) hk (by omega))]
      exact ⟨M, rfl, rfl, fun _ _ _ => rfl, fun q => by rw [if_neg (by omega)], fun q => by rw [if_neg (by omega)]⟩
    have ik : inb (nI k) 20 := in_nI (by omega) (by omega)
    rw [if_neg (show ¬ (20 : Int32) ≤ nI k from nI_ge (b := 20) (by omega) (by omega)), rd_in ik, Option.bind_some, if_pos ik, rd_in ik, Option.bind_some, if_pos ik, nI_1, cl_nI (show k < 2 ^ 31 by omega), mA_ne _ _ _ (show 87 ≠ 79 by omega)]
    obtain ⟨M', e1, e2, e4, e5, e6⟩ := ih (k + 1) (mA (mA M 79 (nI k) (M.2 86 k)) 80 (nI k) (M.2 87 k)) (by omega) (by omega)
    refine ⟨M', e1, e2, fun q q1 q2 => (e4 q q1 q2).trans ((mA_ne _ _ _ q2).trans (mA_ne _ _ _ q1)), fun q => ?_, fun q => ?_⟩
    · rw [e5, mA_ne _ _ _ (show 86 ≠ 80 by omega), mA_ne _ _ _ (show 86 ≠ 79 by omega), mA_ne _ _ _ (show 79 ≠ 80 by omega), mA_at, cl_nI (show k < 2 ^ 31 by omega)]
      unfold upd
      by_cases c : k + 1 ≤ q ∧ q < 20
      · rw [if_pos c, if_pos (by omega)]
      · rw [if_neg c]
        by_cases c2 : q = k
        · rw [if_pos c2, if_pos (by omega), c2]
        · rw [if_neg c2, if_neg (by omega)]
    · rw [e6, mA_ne _ _ _ (show 87 ≠ 80 by omega), mA_ne _ _ _ (show 87 ≠ 79 by omega), mA_at, mA_ne _ _ _ (show 80 ≠ 79 by omega), cl_nI (show k < 2 ^ 31 by omega)]
      unfold upd
      by_cases c : k + 1 ≤ q ∧ q < 20
      · rw [if_pos c, if_pos (by omega)]
      · rw [if_neg c]
        by_cases c2 : q = k
        · rw [if_pos c2, if_pos (by omega), c2]
        · rw [if_neg c2, if_neg (by omega)]
theorem bk_X {X : XW} {nb q : Nat} {b : Nat → Nat} (hq : q ≤ 6) (h12 : X.1 0 12 = nI q) (hb : ∀ i, i < q → X.2.2 13 i = some (b i) ∧ NS ≤ b i ∧ b i < TT nb) (hd : ∀ i j, i < q → j < q → b i = b j → i = j) : ∀ (n k : Nat) (X1 : XW), 6 < n + k → k ≤ q → (∀ j, j < 104 → X1.1 j = X.1 j) → X1.2 = X.2 → (∀ i f, i < q → f < 4 → X1.1 (b i) f = X.1 (b i) f) → (∀ i, i < k → X1.1 (b i) 4 = X.2.1 22 i ∧ X1.1 (b i) 5 = X.2.1 23 i) → ∃ X', lo2 (fX9_back_l34 nb) n X1 (nI k) = fX9_back_b84 nb X' ∧ (∀ j, j < 104 → X'.1 j = X.1 j) ∧ X'.2 = X.2 ∧ (∀ i f, i < q → f < 4 → X'.1 (b i) f = X.1 (b i) f) ∧ (∀ i, i < q → X'.1 (b i) 4 = X.2.1 22 i ∧ X'.1 (b i) 5 = X.2.1 23 i) := by
  intro n
  induction n with
  | zero => intro k X1 h1 h2; omega
  | succ n ih =>
    intro k X1 g1 g2 a1 a2 a3 a4
    show ∃ X', fX9_back_l34 nb (lo2 (fX9_back_l34 nb) n) X1 (nI k) = fX9_back_b84 nb X' ∧ _
    generalize hL : lo2 (fX9_back_l34 nb) n = L at ih ⊢
    dsimp only [fX9_back_l34, bd]
    rw [a1 0 (by omega), h12]
    by_cases hk : q ≤ k
    · rw [if_pos (nI_le hk (by omega))]
      exact ⟨X1, rfl, a1, a2, a3, fun i hi => a4 i (by omega)⟩
    have ik : inb (nI k) 6 := in_nI (by omega) (by omega)
    have hcl : (nI k).toNatClampNeg = k := cl_nI (by omega)
    obtain ⟨b1, b2, b3⟩ := hb k (by omega)
    have b4 : 104 ≤ b k := b2
    have e16 : (xI X1 (b k) 4 (X.2.1 22 k)).2 = X.2 := a2
    rw [if_neg (nI_ge (by omega) (by omega)), rdR_in ik, rd_in ik, hcl, a2, b1, Option.bind_some, Option.bind_some, Option.bind_some, if_pos ⟨b2, b3⟩, e16, rdR_in ik, rd_in ik, hcl, b1, Option.bind_some, Option.bind_some, Option.bind_some, if_pos ⟨b2, b3⟩, nI_1]
    refine ih (k + 1) _ (by omega) (by omega) (fun j hj => ?_) a2 (fun i f hi hf => ?_) (fun i hi => ?_)
    · rw [xI_ne _ _ _ (by omega), xI_ne _ _ _ (by omega)]; exact a1 j hj
    · by_cases e : b i = b k
      · rw [e, xI_k _ _ _ (by omega), xI_k _ _ _ (by omega), ← e]; exact a3 i f hi hf
      · rw [xI_ne _ _ _ e, xI_ne _ _ _ e]; exact a3 i f hi hf
    · by_cases e : i = k
      · subst e
        rw [xI_k _ _ _ (by decide), xI_at, xI_at]; exact ⟨rfl, rfl⟩
      · have e2 : b i ≠ b k := fun z => e (hd i k (by omega) (by omega) z)
        rw [xI_ne _ _ _ e2, xI_ne _ _ _ e2]; exact a4 i (by omega)
theorem p_back {X : XW} {M : MW} {nb : Nat} (h : Sim X M nb) : R2 nb (fX9_back X nb) (fX10_back M) := by
  obtain ⟨nB, hB, h8, h8x, F⟩ := h.nB
  have hat := fun i (hi : i < nB) => h.at h8 hB hi
  have hS := h
  obtain ⟨h1, h2, h3, h4, h5, h6, h7, h8', h9⟩ := h
  rw [fX9_back, fX10_back]
  rcases h9 with ⟨i1, i2⟩ | ⟨i1, i2, i3, i4, i5, i6, i7, i8⟩
  · rw [if_pos i2, if_pos i1]; exact R2.mk hS
  obtain ⟨q, eq, -, hqe⟩ := nn_ge i5.1
  have hq : q ≤ nB := by
    have := i5.2
    rw [hqe, h8, nI_toInt (by omega)] at this
    omega
  obtain ⟨t, et, -, hte⟩ := nn_ge i6.1
  obtain ⟨r, er, -, hre⟩ := nn_ge i7.1
  have hr6 := h3.2.1.2
  have i7b := i7.2
  rw [if_neg (by rw [i2, eq]; exact nI_m1 (by omega)), if_neg (by rw [i1]; decide), bd, bd, bd, bd]
  generalize hX1 : xI X 0 12 (jmin (X.1 0 12) (X.1 21 3)) = X1
  have x10 : X1.1 0 12 = nI q ∧ (∀ f, f ≠ 12 → X1.1 0 f = X.1 0 f) ∧ (∀ j, j ≠ 0 → X1.1 j = X.1 j) ∧ X1.2 = X.2 := by
    rw [← hX1]
    refine ⟨?_, fun f hf => xI_k _ _ _ hf, fun j hj => xI_ne _ _ _ hj, rfl⟩
    rw [xI_at, h8x, i2, eq, jmin_nI (by omega) (by omega), Nat.min_eq_right hq]
  obtain ⟨x12, x1f, x1n, x1r⟩ := x10
  have bN : ∀ i, i < nB → 104 ≤ bOf X i := fun i hi => (hat i hi).2.1
  obtain ⟨X2, p1, p2, p3, p4, p5⟩ := bk_X (X := X1) (nb := nb) (b := bOf X) (show q ≤ 6 by omega) x12 (fun i hi => by rw [x1r]; exact ⟨(hat i (by omega)).1, (hat i (by omega)).2.1, (hat i (by omega)).2.2.1⟩) (fun i j hi hj e => by
    refine h2.2.2.2.1 i j (bOf X i) ?_ ?_ (hat i (by omega)).1 ?_
    · rw [h8, nI_toInt (by omega)]; omega
    · rw [h8, nI_toInt (by omega)]; omega
    · rw [e]; exact (hat j (by omega)).1) FU 0 X1 (by unfold FU; omega) (by omega) (fun _ _ => rfl) rfl (fun _ _ _ _ => rfl) (fun i hi => by omega)
  obtain ⟨X3, q1, q2, q3, q4, q5, q6⟩ := over_X (i := 17) (j := 24) (by decide) (by decide) (by decide) FU 0 X2 (by unfold FU; omega) (by omega)
  generalize hM1 : mI (mI (mI M 7 (M.1 24)) 8 ((mI M 7 (M.1 24)).1 25)) 22 ((mI (mI M 7 (M.1 24)) 8 ((mI M 7 (M.1 24)).1 25)).1 26) = M1
  have m1 : M1.1 7 = nI t ∧ M1.1 8 = nI q ∧ M1.1 22 = nI r ∧ (∀ k, k ≠ 7 → k ≠ 8 → k ≠ 22 → M1.1 k = M.1 k) ∧ M1.2 = M.2 := by
    rw [← hM1]
    refine ⟨?_, ?_, ?_, fun k k1 k2 k3 => ?_, rfl⟩
    · rw [← et]; simp [mI, va_up]
    · rw [← eq]; simp [mI, va_up]
    · rw [← er]; simp [mI, va_up]
    · simp [mI, va_up, k1, k2, k3]
  obtain ⟨m7, m8, m22, mk, mr⟩ := m1
  obtain ⟨M2, r1, r2, r3, r4, r5⟩ := bk_M FU 0 M1 (by unfold FU; omega) (by omega)
  obtain ⟨M3, s1, s2, s3, s4, s5⟩ := bo_M FU 0 M2 (by unfold FU; omega) (by omega)
  rw [show (0 : Int32) = nI 0 from rfl, p1, r1]
  unfold fX9_back_b84 fX10_back_b72 fX3_takeOver
  rw [show (0 : Int32) = nI 0 from rfl, q1, s1, Option.bind_some, bd]
  have y21 : X3.1 21 = X.1 21 := by rw [q2, p2 21 (by omega), x1n 21 (by omega)]
  have y214 : X3.1 21 4 = nI t := by rw [y21, i3, et]
  have y5 : (xI X3 0 11 (X3.1 21 4)).1 21 5 = nI r := by rw [xI_ne _ _ _ (by decide), y21, i4, er]
  rw [y5, y214]
  dsimp only [fX9_rule, bd]
  rw [if_pos (in_nI (show r < 6 by omega) (by omega)), cl_nI (show r < 2 ^ 31 by omega), Option.bind_some]
  generalize hX4 : xR (xI (xI X3 0 11 (nI t)) 0 14 (nI r)) 10 3 (some (47 + 3 * r)) = X4
  have z0 : X4.1 0 11 = nI t ∧ X4.1 0 12 = nI q ∧ X4.1 0 13 = X.1 0 13 ∧ X4.1 0 14 = nI r := by
    rw [← hX4]
    have e3 : X3.1 0 = X1.1 0 := by rw [q2, p2 0 (by omega)]
    refine ⟨?_, ?_, ?_, ?_⟩
    · show (xI (xI X3 0 11 (nI t)) 0 14 (nI r)).1 0 11 = _
      rw [xI_k _ _ _ (by decide), xI_at]
    · show (xI (xI X3 0 11 (nI t)) 0 14 (nI r)).1 0 12 = _
      rw [xI_k _ _ _ (by decide), xI_k _ _ _ (by decide), e3, x12]
    · show (xI (xI X3 0 11 (nI t)) 0 14 (nI r)).1 0 13 = _
      rw [xI_k _ _ _ (by decide), xI_k _ _ _ (by decide), e3, x1f 13 (by decide)]
    · show (xI (xI X3 0 11 (nI t)) 0 14 (nI r)).1 0 14 = _
      rw [xI_at]
  have zj : ∀ j, j ≠ 0 → X4.1 j = X2.1 j := fun j hj => by
    rw [← hX4]
    show (xI (xI X3 0 11 (nI t)) 0 14 (nI r)).1 j = _
    rw [xI_ne _ _ _ hj, xI_ne _ _ _ hj, q2]
  have zj2 : ∀ j, j ≠ 0 → j < 104 → X4.1 j = X.1 j := fun j hj h104 => by rw [zj j hj, p2 j h104, x1n j hj]
  have za : ∀ k, k ≠ 18 → k ≠ 19 → X4.2.1 k = X.2.1 k := fun k k1 k2 => by
    rw [← hX4]
    show X3.2.1 k = _
    rw [q4 k k1 k2, p3, x1r]
  have zr13 : X4.2.2 13 = X.2.2 13 := by
    rw [← hX4]
    show X3.2.2 13 = _
    rw [q3, p3, x1r]
  have zr10 : X4.2.2 10 3 = some (47 + 3 * r) ∧ X4.2.2 10 4 = X.2.2 10 4 := by
    rw [← hX4]
    refine ⟨va_up_self (X3.2.2 10) 3 _, ?_⟩
    show va_up (X3.2.2 10) 3 (some (47 + 3 * r)) 4 = _
    rw [va_up_ne _ _ (by decide), q3, p3, x1r]
  have n1 : ∀ k, k ≠ 7 → k ≠ 8 → k ≠ 22 → M3.1 k = M.1 k := fun k k1 k2 k3 => by rw [s2, r2, mk k k1 k2 k3]
  have n7 : M3.1 7 = nI t := by rw [s2, r2, m7]
  have n8 : M3.1 8 = nI q := by rw [s2, r2, m8]
  have n22 : M3.1 22 = nI r := by rw [s2, r2, m22]
  have n2 : ∀ k, k ≠ 77 → k ≠ 78 → k ≠ 79 → k ≠ 80 → M3.2 k = M.2 k := fun k k1 k2 k3 k4 => by rw [s3 k k3 k4, r3 k k1 k2, mr]
  have n77 : ∀ i, i < 6 → M3.2 77 i = M.2 84 i := fun i hi => by rw [s3 77 (by omega) (by omega), r4, if_pos (by omega), mr]
  have n78 : ∀ i, i < 6 → M3.2 78 i = M.2 85 i := fun i hi => by rw [s3 78 (by omega) (by omega), r5, if_pos (by omega), mr]
  refine ⟨nI q, X4, M3, by rw [z0.2.1], by rw [show M2.1 8 = nI q by rw [r2, m8]], ?_⟩
  refine ⟨?_, ⟨?_, ?_, fun i hi => ?_, fun i j b hi hj hbi hbj => ?_, fun i hi => ?_⟩, h3.c z0.2.2.1 (fun i k1 k2 => za i (by omega) (by omega)) (n1 21 (by omega) (by omega) (by omega)) (n2 82 (by omega) (by omega) (by omega) (by omega)) (n2 83 (by omega) (by omega) (by omega) (by omega)), ⟨?_, ?_, ?_⟩, ⟨?_, ?_⟩, ⟨?_, ?_, ?_⟩, ⟨?_, ?_, fun k => ?_, ?_, ?_, ?_⟩, h8'.c (fun i k1 k2 => zj2 i (by omega) (by omega)) (fun i k1 k2 => za i (by omega) (by omega)) (n2 88 (by omega) (by omega) (by omega) (by omega)) (n2 89 (by omega) (by omega) (by omega) (by omega)) (n2 90 (by omega) (by omega) (by omega) (by omega)), ?_⟩
  · unfold SBay at h1 ⊢
    rw [za 2 (by omega) (by omega), za 3 (by omega) (by omega), za 4 (by omega) (by omega), za 5 (by omega) (by omega), za 6 (by omega) (by omega), z0.1, n7, n2 66 (by omega) (by omega) (by omega) (by omega), n2 67 (by omega) (by omega) (by omega) (by omega), n2 68 (by omega) (by omega) (by omega) (by omega), n2 69 (by omega) (by omega) (by omega) (by omega), n2 70 (by omega) (by omega) (by omega) (by omega), n2 71 (by omega) (by omega) (by omega) (by omega), n2 72 (by omega) (by omega) (by omega) (by omega), n2 92 (by omega) (by omega) (by omega) (by omega)]
    obtain ⟨a1, a2, a3, a4, a5, a6, a7, a8, -, -, a11⟩ := h1
    exact ⟨a1, a2, a3, a4, a5, a6, a7, a8, rfl, by rw [← et]; exact i6, a11⟩
  · rw [z0.2.1, n8]
  · rw [n8, nI_toInt (by omega)]; omega
  · rw [n8, nI_toInt (by omega)] at hi
    have hi' : i < q := by omega
    have hb := hat i (by omega)
    have b4 := bN i (by omega)
    obtain ⟨w1, w2⟩ := p5 i hi'
    have w3 := fun f hf => p4 i f hi' hf
    obtain ⟨u1, u2, -⟩ := i8 i (by omega)
    obtain ⟨g1, g2, g3, d0, d1, d2, d3, -, -⟩ := hb
    have e1 : X1.1 (bOf X i) = X.1 (bOf X i) := x1n _ (by omega)
    refine ⟨bOf X i, by rw [zr13]; exact g1, g2, g3, ?_⟩
    rw [zj _ (by omega), w3 0 (by omega), w3 1 (by omega), w3 2 (by omega), w3 3 (by omega), w1, w2, e1, x1r, n2 73 (by omega) (by omega) (by omega) (by omega), n2 74 (by omega) (by omega) (by omega) (by omega), n2 75 (by omega) (by omega) (by omega) (by omega), n2 76 (by omega) (by omega) (by omega) (by omega), n77 i (by omega), n78 i (by omega)]
    exact ⟨d0, d1, d2, d3, u1, u2⟩
  · rw [n8, nI_toInt (by omega)] at hi hj
    rw [zr13] at hbi hbj
    refine h2.2.2.2.1 i j b ?_ ?_ hbi hbj
    · rw [h8, nI_toInt (by omega)]; omega
    · rw [h8, nI_toInt (by omega)]; omega
  · rw [n8, nI_toInt (by omega)] at hi
    obtain ⟨-, -, u3, u4⟩ := i8 i (by omega)
    rw [n77 i (by omega), n78 i (by omega), n2 73 (by omega) (by omega) (by omega) (by omega)]
    refine ⟨u3, u4, (h2.2.2.2.2 i ?_).2.2⟩
    rw [h8, nI_toInt (by omega)]; omega
  · rw [z0.2.2.2, n22]
  · rw [n22, n1 21 (by omega) (by omega) (by omega), ← er]; exact i7
  · rw [zr10.1, n22, cl_nI (by omega)]
  · rw [zr10.2]; exact h5.1
  · rw [n1 46 (by omega) (by omega) (by omega)]; exact h5.2
  · rw [zj2 7 (by omega) (by omega), n1 18 (by omega) (by omega) (by omega)]; exact h6.1
  · rw [n1 18 (by omega) (by omega) (by omega)]; exact h6.2.1
  · rw [za 8 (by omega) (by omega), n2 81 (by omega) (by omega) (by omega) (by omega)]; exact h6.2.2
  · obtain ⟨f1, f2, f3, f4, f5, f6⟩ := h7
    funext k
    rw [s5, ← hX4]
    show X3.2.1 18 k = _
    rw [q5, p3, x1r, r3 87 (by omega) (by omega), r3 80 (by omega) (by omega), mr]
    show (if 0 ≤ k ∧ k < 20 then X.2.1 25 k else X.2.1 18 k) = _
    rw [f4, f1]
  · obtain ⟨f1, f2, f3, f4, f5, f6⟩ := h7
    funext k
    rw [s4, ← hX4]
    show X3.2.1 19 k = _
    rw [q6, p3, x1r, r3 86 (by omega) (by omega), r3 79 (by omega) (by omega), mr]
    show (if 0 ≤ k ∧ k < 20 then X.2.1 26 k else X.2.1 19 k) = _
    rw [f5, f2]
  · obtain ⟨f1, f2, f3, f4, f5, f6⟩ := h7
    rw [s4, s5, r3 86 (by omega) (by omega), r3 79 (by omega) (by omega), r3 87 (by omega) (by omega), r3 80 (by omega) (by omega), mr]
    by_cases c : 0 ≤ k ∧ k < 20
    · rw [if_pos c, if_pos c]; exact f6 k
    · rw [if_neg c, if_neg c]; exact f3 k
  · rw [za 25 (by omega) (by omega), n2 87 (by omega) (by omega) (by omega) (by omega)]; exact h7.2.2.2.1
  · rw [za 26 (by omega) (by omega), n2 86 (by omega) (by omega) (by omega) (by omega)]; exact h7.2.2.2.2.1
  · rw [n2 86 (by omega) (by omega) (by omega) (by omega), n2 87 (by omega) (by omega) (by omega) (by omega)]; exact h7.2.2.2.2.2
  · unfold SImg
    rw [n1 23 (by omega) (by omega) (by omega), n1 24 (by omega) (by omega) (by omega), n1 25 (by omega) (by omega) (by omega), n1 26 (by omega) (by omega) (by omega), n1 21 (by omega) (by omega) (by omega), n8, zj2 21 (by omega) (by omega), za 22 (by omega) (by omega), za 23 (by omega) (by omega), n2 84 (by omega) (by omega) (by omega) (by omega), n2 85 (by omega) (by omega) (by omega) (by omega)]
    exact Or.inr ⟨i1, i2, i3, i4, ⟨i5.1, by rw [eq]; exact Int.le_refl _⟩, i6, i7, i8⟩

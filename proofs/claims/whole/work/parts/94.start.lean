theorem xR3_a (X : XW) (v : Option Nat) : (xR X 10 3 v).2.2 10 3 = v := va_up_self (X.2.2 10) 3 v
theorem xR3_n (X : XW) (v : Option Nat) {j k : Nat} (h : ¬ (j = 10 ∧ k = 3)) : (xR X 10 3 v).2.2 j k = X.2.2 j k := by
  show (if j = 10 then va_up (X.2.2 j) 3 v else X.2.2 j) k = _
  by_cases q : j = 10
  · rw [if_pos q, va_up_ne _ _ (fun z => h ⟨q, z⟩)]
  · rw [if_neg q]
theorem xw_zero {i k : Nat} (h1 : ¬ kd i = 2) (h2 : ¬ kd i = 8) (h3 : ¬ i = 0) (h4 : ¬ i = 21) : xw0.1 i k = 0 := by
  show (if kd i = 2 ∧ (k = 1 ∨ k = 3) then (-1 : Int32) else if i = 21 ∧ k = 3 then -1 else if kd i = 8 ∧ k = 1 then -1 else if i = 0 ∧ k = 13 then 1 else 0) = 0
  rw [if_neg (fun z => h1 z.1), if_neg (fun z => h4 z.1), if_neg (fun z => h2 z.1), if_neg (fun z => h3 z.1)]
theorem init_X0 : fX9_init_t xw0 = fX9_init_b245 (Xk 70) := by
  have := init_X FU 0 (by omega) (by unfold FU; omega)
  rw [Xk_0] at this
  exact this
theorem init_M0 : fX10_init_t mw0 = fX10_init_b1408 (Mk 70) := by
  have := init_M FU 0 (by omega) (by unfold FU; omega)
  rw [Mk_0] at this
  exact this
theorem start_T : TP (Xk 70) (mI (Mk 70) 18 70) 70 := ⟨xI_at _ _ _ _, mI_at _ _ _, by omega, rfl, tp_nn 0, rfl⟩
theorem init_sim {X1 Y : XW} {M1 M3 : MW} (hst : STx X1 M1 0) (a1 : ∀ i k, i ≠ 7 → ¬ (i = 47 ∧ k = 2) → Y.1 i k = xw0.1 i k) (a2 : Y.1 7 1 = 0) (a3 : ∀ j k, j ≠ 7 → ¬ (j = 10 ∧ k = 3) → Y.2.2 j k = xw0.2.2 j k) (a4 : Y.2.2 10 3 = some 47) (a5 : ∀ i, i ≠ 48 → i ≠ 49 → Y.2.1 i = (Xk 70).2.1 i) (a6 : Y.2.1 = X1.2.1) (b1 : ∀ k, k ≠ 18 → k ≠ 21 → ¬ (35 ≤ k ∧ k ≤ 38) → ¬ (41 ≤ k ∧ k ≤ 43) → M3.1 k = 0) (b18 : M3.1 18 = 0) (b21 : M3.1 21 = nI 1) (b2 : ∀ i, i ≠ 82 → i ≠ 83 → i ≠ 93 → i ≠ 66 → i ≠ 69 → M3.2 i = (Mk 70).2 i) (b82 : M3.2 82 = M1.2 82) (b83 : M3.2 83 = M1.2 83) (b66 : M3.2 66 = fillN (fun _ => 0) 100 5) (b69 : M3.2 69 = fillN (fun _ => 0) 12 20) : Sim Y M3 1 := by
  have z : ∀ i, i ≠ 82 → i ≠ 83 → i ≠ 93 → i ≠ 66 → i ≠ 69 → i ≠ 71 → i ≠ 72 → i ≠ 81 → i ≠ 88 → i ≠ 91 → i ≠ 92 → M3.2 i = fun _ => 0 := fun i i1 i2 i3 i4 i5 i6 i7 i8 i9 i10 i11 => by
    rw [b2 i i1 i2 i3 i4 i5]
    show (if i = 81 then tp0 70 else if i = 71 then lf lt47 else if i = 72 then lf lt89 else if i = 88 then lf lt252 else if i = 91 then lf lt292 else if i = 92 then lf lt714 else fun _ => 0) = _
    rw [if_neg i8, if_neg i6, if_neg i7, if_neg i9, if_neg i10, if_neg i11]
  have zx : ∀ i, i ≠ 48 → i ≠ 49 → i ≠ 2 → i ≠ 5 → i ≠ 8 → Y.2.1 i = fun _ => 0 := fun i i1 i2 i3 i4 i5 => by
    rw [a5 i i1 i2]
    show (if i = 8 then tp0 70 else if i = 2 then fillN (fun _ => 0) 100 5 else if i = 5 then fillN (fun _ => 0) 12 20 else fun _ => 0) = _
    rw [if_neg i5, if_neg i3, if_neg i4]
  have t21 : (M3.1 21).toInt = 1 := by rw [b21]; exact nI_toInt (by omega)
  have z0 : (0 : Int32).toInt = 0 := rfl
  refine ⟨⟨?_, ?_, ?_, ?_, ?_, ?_, ?_, ?_, ?_, ?_, ?_, ?_, ?_⟩, ⟨?_, ?_, ?_, ?_, ?_⟩, ⟨?_, ?_, ?_⟩, ⟨?_, ?_, ?_⟩, ⟨?_, ?_⟩, ⟨?_, ?_, ?_, ?_⟩, ⟨?_, ?_, ?_, ?_, ?_, ?_⟩, ?_, ?_⟩
  · rw [b66, a5 2 (by decide) (by decide)]; rfl
  · rw [z 67, zx 3] <;> decide
  · rw [z 68, zx 4] <;> decide
  · rw [b69, a5 5 (by decide) (by decide)]; rfl
  · rw [z 70, zx 6] <;> decide
  · intro k
    rw [b66]
    unfold fillN
    by_cases c : k < 100
    · rw [if_pos c]; decide
    · rw [if_neg c]; show 0 ≤ (0 : Int32).toInt ∧ (0 : Int32).toInt ≤ 30; decide
  · intro k
    have e := z 68 (by decide) (by decide) (by decide) (by decide) (by decide) (by decide) (by decide) (by decide) (by decide) (by decide) (by decide)
    rw [e]; show 0 ≤ (0 : Int32).toInt ∧ (0 : Int32).toInt ≤ 7; decide
  · intro k
    have e := z 70 (by decide) (by decide) (by decide) (by decide) (by decide) (by decide) (by decide) (by decide) (by decide) (by decide) (by decide)
    rw [e]; show -3 ≤ (0 : Int32).toInt ∧ (0 : Int32).toInt ≤ 3; decide
  · rw [a1 0 11 (by decide) (by decide), b1 7 (by decide) (by decide) (by decide) (by decide)]; decide
  · rw [b1 7 (by decide) (by decide) (by decide) (by decide)]; decide
  · rw [b2 71 (by decide) (by decide) (by decide) (by decide) (by decide)]; rfl
  · rw [b2 72 (by decide) (by decide) (by decide) (by decide) (by decide)]; rfl
  · rw [b2 92 (by decide) (by decide) (by decide) (by decide) (by decide)]; rfl
  · rw [a1 0 12 (by decide) (by decide), b1 8 (by decide) (by decide) (by decide) (by decide)]; decide
  · rw [b1 8 (by decide) (by decide) (by decide) (by decide)]; decide
  · intro i hi
    rw [b1 8 (by decide) (by decide) (by decide) (by decide), z0] at hi
    omega
  · intro i j b hi
    rw [b1 8 (by decide) (by decide) (by decide) (by decide), z0] at hi
    omega
  · intro i hi
    rw [b1 8 (by decide) (by decide) (by decide) (by decide), z0] at hi
    omega
  · rw [a1 0 13 (by decide) (by decide), b21]; decide
  · omega
  · intro r hr
    have : r = 0 := by omega
    subst this
    unfold STx at hst ⊢
    rw [b82, b83, a6]
    exact hst
  · rw [a1 0 14 (by decide) (by decide), b1 22 (by decide) (by decide) (by decide) (by decide)]; decide
  · rw [b1 22 (by decide) (by decide) (by decide) (by decide), t21]; decide
  · rw [b1 22 (by decide) (by decide) (by decide) (by decide), a4]; decide
  · rw [a3 10 4 (by decide) (by decide)]; rfl
  · exact b1 46 (by decide) (by decide) (by decide) (by decide)
  · rw [a2, b18]
  · rw [b18]; decide
  · rw [b2 81 (by decide) (by decide) (by decide) (by decide) (by decide), a5 8 (by decide) (by decide)]; rfl
  · rw [b2 81 (by decide) (by decide) (by decide) (by decide) (by decide)]; exact tp_nn 0
  · rw [z 80, zx 18] <;> decide
  · rw [z 79, zx 19] <;> decide
  · intro k
    have e1 := z 80 (by decide) (by decide) (by decide) (by decide) (by decide) (by decide) (by decide) (by decide) (by decide) (by decide) (by decide)
    have e2 := z 79 (by decide) (by decide) (by decide) (by decide) (by decide) (by decide) (by decide) (by decide) (by decide) (by decide) (by decide)
    rw [e1, e2]; show 0 ≤ (0 : Int32).toInt ∧ (0 : Int32).toInt ≤ (0 : Int32).toInt ∧ (0 : Int32).toInt ≤ 9999; decide
  · rw [z 87, zx 25] <;> decide
  · rw [z 86, zx 26] <;> decide
  · intro k
    have e1 := z 87 (by decide) (by decide) (by decide) (by decide) (by decide) (by decide) (by decide) (by decide) (by decide) (by decide) (by decide)
    have e2 := z 86 (by decide) (by decide) (by decide) (by decide) (by decide) (by decide) (by decide) (by decide) (by decide) (by decide) (by decide)
    rw [e1, e2]; show 0 ≤ (0 : Int32).toInt ∧ (0 : Int32).toInt ≤ (0 : Int32).toInt ∧ (0 : Int32).toInt ≤ 9999; decide
  · intro s hs
    have e88 : M3.2 88 = lf lt252 := b2 88 (by decide) (by decide) (by decide) (by decide) (by decide)
    rw [e88, z 89 (by decide) (by decide) (by decide) (by decide) (by decide) (by decide) (by decide) (by decide) (by decide) (by decide) (by decide), z 90 (by decide) (by decide) (by decide) (by decide) (by decide) (by decide) (by decide) (by decide) (by decide) (by decide) (by decide), a1 (39 + 2 * s) 1 (by omega) (by omega), a1 (39 + 2 * s) 2 (by omega) (by omega)]
    have : s = 0 ∨ s = 1 ∨ s = 2 ∨ s = 3 := by omega
    rcases this with rfl | rfl | rfl | rfl
    · exact ⟨by decide, by decide, by decide, by decide, fun j _ => congrFun (zx 40 (by decide) (by decide) (by decide) (by decide) (by decide)) j⟩
    · exact ⟨by decide, by decide, by decide, by decide, fun j _ => congrFun (zx 42 (by decide) (by decide) (by decide) (by decide) (by decide)) j⟩
    · exact ⟨by decide, by decide, by decide, by decide, fun j _ => congrFun (zx 44 (by decide) (by decide) (by decide) (by decide) (by decide)) j⟩
    · exact ⟨by decide, by decide, by decide, by decide, fun j _ => congrFun (zx 46 (by decide) (by decide) (by decide) (by decide) (by decide)) j⟩
  · refine Or.inl ⟨b1 23 (by decide) (by decide) (by decide) (by decide), ?_⟩
    rw [a1 21 3 (by decide) (by decide)]; decide
theorem start_rd : ∃ X1 w M1, fX6_read (Xk 70) 47 = some (-1, X1) ∧ fX10_text (mI (Mk 70) 18 70) = some (w, M1) ∧ rX 0 (Xk 70) X1 ∧ rM 0 (mI (Mk 70) 18 70) M1 ∧ M1.1 18 = 0 ∧ M1.1 21 = nI 1 ∧ STx X1 M1 0 := by
  have h0 : (mI (Mk 70) 18 70).1 21 = nI 0 := by rw [mI_ne _ _ (by decide)]; rfl
  obtain ⟨v, X1, w, M1, x1, m1, rx, rm, m18, hr⟩ := read_ok start_T h0 (show 0 < 6 by omega)
  have x1 : fX6_read (Xk 70) 47 = some (v, X1) := x1
  have hv : v = -1 := by
    have := rd_0
    rw [x1] at this
    exact Option.some.inj this
  subst hv
  rcases hr with ⟨s, s1, s2, -⟩ | ⟨-, -, m21, hst⟩
  · exfalso
    have := congrArg Int32.toInt s2
    rw [nI_toInt (by omega)] at this
    have e : (-1 : Int32).toInt = -1 := rfl
    omega
  · exact ⟨X1, w, M1, x1, m1, rx, rm, m18, m21, hst⟩
theorem b245_eq {X X1 : XW} {v : Int32} (x1 : fX6_read X 47 = some (v, X1)) : fX9_init_b245 X = some (xR (xI X1 7 1 0) 10 3 (some 47)) := by
  unfold fX9_init_b245
  have c0 : 47 + 3 * (0 : Int32).toNatClampNeg = 47 := by decide
  have c1 : inb (0 : Int32) 6 := by decide
  rw [if_pos c1, c0, bd, x1]
  dsimp only [bd2, bd, fX6_empty]
  rw [bs_P, bs_X, if_pos c1]
theorem b1440_eq {M2 M3 : MW} (g1 : lo2 fX10_init_l1442 FU M2 (nI 0) = some M3) : fX10_init_b1440 M2 = some M3 := g1
theorem q_bd2 {α : Type} {b : Option (Int32 × MW)} {w : Int32} {M1 : MW} (k : MW → Int32 → Option α) (h : b = some (w, M1)) : bd2 b (fun _ M3 => k M3 0) = k M1 (nI 0) := by
  subst h
  rfl
theorem b1408_0 (M : MW) : fX10_init_b1408 M = bd2 (fX10_text (mI M 18 70)) fun _ M3 => lo2 fX10_init_l1421 FU M3 0 := by
  unfold fX10_init_b1408
  generalize lo2 fX10_init_l1421 FU = G
  rfl
theorem b1408_eq {M M1 M2 M3 : MW} {w : Int32} (m1 : fX10_text (mI M 18 70) = some (w, M1)) (d1 : lo2 fX10_init_l1421 FU M1 (nI 0) = fX10_init_b1440 M2) (g1 : lo2 fX10_init_l1442 FU M2 (nI 0) = some M3) : fX10_init_b1408 M = some M3 := (b1408_0 M).trans ((q_bd2 (lo2 fX10_init_l1421 FU) m1).trans (d1.trans (b1440_eq g1)))
theorem start_X {X1 : XW} (x1 : fX6_read (Xk 70) 47 = some (-1, X1)) : fX9_init_t xw0 = some (xR (xI X1 7 1 0) 10 3 (some 47)) := init_X0.trans (b245_eq x1)
theorem start_M {M1 M2 M3 : MW} {w : Int32} (m1 : fX10_text (mI (Mk 70) 18 70) = some (w, M1)) (d1 : lo2 fX10_init_l1421 FU M1 (nI 0) = fX10_init_b1440 M2) (g1 : lo2 fX10_init_l1442 FU M2 (nI 0) = some M3) : fX10_init_t mw0 = some M3 := init_M0.trans (b1408_eq m1 d1 g1)
theorem start_ok : ∃ (X : XW) (M : MW), fX9_init_t xw0 = some X ∧ fX10_init_t mw0 = some M ∧ Sim X M 1 := by
  obtain ⟨X1, w, M1, x1, m1, rx, rm, m18, m21, hst⟩ := start_rd
  obtain ⟨M2, d1, d2, d3, d4⟩ := dep_loop FU 0 M1 (by omega) (by unfold FU; omega)
  obtain ⟨M3, g1, g2, g3, g4⟩ := str_loop FU 0 M2 (by omega) (by unfold FU; omega)
  refine ⟨xR (xI X1 7 1 0) 10 3 (some 47), M3, start_X x1, start_M m1 d1 g1, ?_⟩
  · have a1 : ∀ i k, i ≠ 7 → ¬ (i = 47 ∧ k = 2) → (xR (xI X1 7 1 0) 10 3 (some 47)).1 i k = xw0.1 i k := fun i k k1 k2 => by
      show (xI X1 7 1 0).1 i k = _
      rw [xI_ne _ _ _ k1, rx.1 i k (fun z => k1 z.1) k2]
      exact congrFun (xI_ne _ 1 _ k1) k
    have a2 : (xR (xI X1 7 1 0) 10 3 (some 47)).1 7 1 = 0 := xI_at X1 7 1 0
    have a3 : ∀ j k, j ≠ 7 → ¬ (j = 10 ∧ k = 3) → (xR (xI X1 7 1 0) 10 3 (some 47)).2.2 j k = xw0.2.2 j k := fun j k k1 k2 => by
      rw [xR3_n _ _ k2]
      exact rx.2.1 j k (fun z => k1 z.1)
    have a4 : (xR (xI X1 7 1 0) 10 3 (some 47)).2.2 10 3 = some 47 := xR3_a _ _
    have a5 : ∀ i, i ≠ 48 → i ≠ 49 → (xR (xI X1 7 1 0) 10 3 (some 47)).2.1 i = (Xk 70).2.1 i := fun i k1 k2 => rx.2.2 i k1 k2
    have a6 : (xR (xI X1 7 1 0) 10 3 (some 47)).2.1 = X1.2.1 := rfl
    generalize xR (xI X1 7 1 0) 10 3 (some 47) = Y at a1 a2 a3 a4 a5 a6 ⊢
    have b1 : ∀ k, k ≠ 18 → k ≠ 21 → ¬ (35 ≤ k ∧ k ≤ 38) → ¬ (41 ≤ k ∧ k ≤ 43) → M3.1 k = 0 := fun k k1 k2 k3 k4 => by
      rw [g2, d2, rm.1 k k1 k2 k3 k4, mI_ne _ _ k1]; rfl
    have b18 : M3.1 18 = 0 := by rw [g2, d2]; exact m18
    have b21 : M3.1 21 = nI 1 := by rw [g2, d2]; exact m21
    have b2 : ∀ i, i ≠ 82 → i ≠ 83 → i ≠ 93 → i ≠ 66 → i ≠ 69 → M3.2 i = (Mk 70).2 i := fun i i1 i2 i3 i4 i5 => by
      rw [g3 i i5, d3 i i4, rm.2.1 i i1 i2 i3]; rfl
    have b82 : M3.2 82 = M1.2 82 := by rw [g3 82 (by decide), d3 82 (by decide)]
    have b83 : M3.2 83 = M1.2 83 := by rw [g3 83 (by decide), d3 83 (by decide)]
    have b66 : M3.2 66 = fillN (fun _ => 0) 100 5 := by
      rw [g3 66 (by decide)]
      funext j
      rw [d4 j, rm.2.1 66 (by decide) (by decide) (by decide)]
      show _ = if j < 100 then 5 else 0
      by_cases c : j < 100
      · rw [if_pos (by omega), if_pos c]
      · rw [if_neg (by omega), if_neg c]; rfl
    have b69 : M3.2 69 = fillN (fun _ => 0) 12 20 := by
      funext j
      rw [g4 j, d3 69 (by decide), rm.2.1 69 (by decide) (by decide) (by decide)]
      show _ = if j < 12 then 20 else 0
      by_cases c : j < 12
      · rw [if_pos (by omega), if_pos c]
      · rw [if_neg (by omega), if_neg c]; rfl
    exact init_sim hst a1 a2 a3 a4 a5 a6 b1 b18 b21 b2 b82 b83 b66 b69
theorem pure_ok : PureOK := by
  obtain ⟨X, M, h1, h2, h3⟩ := start_ok
  refine ⟨X, M, h1, h2, fun xs L hL => ?_⟩
  exact law_all hL FU 0 X M 0 (by unfold FU; omega) (by omega) h3

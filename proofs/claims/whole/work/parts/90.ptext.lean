/-! a text -/
theorem Sim.rd {X Y : XW} {M N : MW} {nb tx : Nat} (h : Sim X M nb) (htx : tx < 6) (h21 : M.1 21 = nI tx) (a1 : ∀ i k, i ≠ 7 → ¬ (i = 47 + 3 * tx ∧ k = 2) → ¬ (i = 0 ∧ k = 13) → Y.1 i k = X.1 i k) (a2 : Y.1 7 1 = 0) (a3 : ∀ j, j ≠ 7 → Y.2.2 j = X.2.2 j) (a4 : ∀ i, i ≠ 48 + 3 * tx → i ≠ 49 + 3 * tx → Y.2.1 i = X.2.1 i) (b : rM tx M N) (b1 : N.1 18 = 0) (c1 : Y.1 0 13 = N.1 21) (c2 : N.1 21 = nI tx ∨ (N.1 21 = nI (tx + 1) ∧ STx Y N tx)) : Sim Y N nb := by
  obtain ⟨h1, h2, h3, h4, h5, h6, h7, h8, h9⟩ := h
  obtain ⟨bi, ba, b82, b83⟩ := b
  have e21 : (M.1 21).toInt = tx := by rw [h21]; exact nI_toInt (by omega)
  have f21 : (N.1 21).toInt = tx ∨ ((N.1 21).toInt = tx + 1 ∧ STx Y N tx) := by
    rcases c2 with q | ⟨q, w⟩
    · exact Or.inl (by rw [q]; exact nI_toInt (by omega))
    · exact Or.inr ⟨by rw [q]; have := nI_toInt (n := tx + 1) (by omega); omega, w⟩
  have tx1 : 1 ≤ tx := by have := h3.2.1.1; omega
  refine ⟨?_, ?_, ?_, ?_, ?_, ?_, ?_, ?_, ?_⟩
  · unfold SBay at h1 ⊢
    rw [a4 2 (by omega) (by omega), a4 3 (by omega) (by omega), a4 4 (by omega) (by omega), a4 5 (by omega) (by omega), a4 6 (by omega) (by omega), a1 0 11 (by omega) (by omega) (by omega), bi 7 (by omega) (by omega) (by omega) (by omega), ba 66 (by omega) (by omega) (by omega), ba 67 (by omega) (by omega) (by omega), ba 68 (by omega) (by omega) (by omega), ba 69 (by omega) (by omega) (by omega), ba 70 (by omega) (by omega) (by omega), ba 71 (by omega) (by omega) (by omega), ba 72 (by omega) (by omega) (by omega), ba 92 (by omega) (by omega) (by omega)]
    exact h1
  · unfold SBoat boatAt at h2 ⊢
    rw [a1 0 12 (by omega) (by omega) (by omega), bi 8 (by omega) (by omega) (by omega) (by omega), a3 13 (by omega), ba 73 (by omega) (by omega) (by omega), ba 74 (by omega) (by omega) (by omega), ba 75 (by omega) (by omega) (by omega), ba 76 (by omega) (by omega) (by omega), ba 77 (by omega) (by omega) (by omega), ba 78 (by omega) (by omega) (by omega)]
    refine ⟨h2.1, h2.2.1, fun i hi => ?_, h2.2.2.2⟩
    obtain ⟨b, hb⟩ := h2.2.2.1 i hi
    have hb2 := hb.2.1
    unfold NS at hb2
    have hN : ∀ k, Y.1 b k = X.1 b k := fun k => a1 b k (by omega) (by omega) (by omega)
    refine ⟨b, ?_⟩
    rw [hN 0, hN 1, hN 2, hN 3, hN 4, hN 5]
    exact hb
  · refine ⟨c1, ?_, fun r hr => ?_⟩
    · rcases f21 with q | ⟨q, -⟩ <;> omega
    · by_cases q : r = tx
      · subst q
        rcases f21 with w | ⟨-, w⟩
        · omega
        · exact w
      · have hr' : r < tx := by rcases f21 with w | ⟨w, -⟩ <;> omega
        obtain ⟨e, g0, g1, g2, g3, g4, g5, g6, g7⟩ := h3.2.2 r (by omega)
        refine ⟨e, g0, g1, g2, g3, g4, by rw [b83 _ (by omega)]; exact g5, fun p hp => ?_, fun j hj => ?_⟩
        · rw [a4 _ (by omega) (by omega), a4 (48 + 3 * r) (by omega) (by omega), b83 _ (by omega)]
          exact g6 p hp
        · rw [b82 _ (by omega), a4 (48 + 3 * r) (by omega) (by omega)]
          exact g7 j hj
  · unfold SLaw at h4 ⊢
    rw [a1 0 14 (by omega) (by omega) (by omega), bi 22 (by omega) (by omega) (by omega) (by omega), a3 10 (by omega)]
    refine ⟨h4.1, ⟨h4.2.1.1, ?_⟩, h4.2.2⟩
    have := h4.2.1.2
    rcases f21 with w | ⟨w, -⟩ <;> omega
  · unfold SWin at h5 ⊢
    rw [a3 10 (by omega), bi 46 (by omega) (by omega) (by omega) (by omega)]
    exact h5
  · unfold STape at h6 ⊢
    rw [a2, b1, a4 8 (by omega) (by omega), ba 81 (by omega) (by omega) (by omega)]
    exact ⟨rfl, by decide, h6.2.2⟩
  · unfold SForm at h7 ⊢
    rw [a4 18 (by omega) (by omega), a4 19 (by omega) (by omega), a4 25 (by omega) (by omega), a4 26 (by omega) (by omega), ba 79 (by omega) (by omega) (by omega), ba 80 (by omega) (by omega) (by omega), ba 86 (by omega) (by omega) (by omega), ba 87 (by omega) (by omega) (by omega)]
    exact h7
  · unfold SSheet at h8 ⊢
    intro s hs
    rw [ba 88 (by omega) (by omega) (by omega), ba 89 (by omega) (by omega) (by omega), ba 90 (by omega) (by omega) (by omega), a1 (39 + 2 * s) 1 (by omega) (by omega) (by omega), a1 (39 + 2 * s) 2 (by omega) (by omega) (by omega), a4 (40 + 2 * s) (by omega) (by omega)]
    exact h8 s hs
  · unfold SImg at h9 ⊢
    rw [bi 23 (by omega) (by omega) (by omega) (by omega), bi 24 (by omega) (by omega) (by omega) (by omega), bi 25 (by omega) (by omega) (by omega) (by omega), bi 26 (by omega) (by omega) (by omega) (by omega), bi 8 (by omega) (by omega) (by omega) (by omega), a1 21 3 (by omega) (by omega) (by omega), a1 21 4 (by omega) (by omega) (by omega), a1 21 5 (by omega) (by omega) (by omega), a4 22 (by omega) (by omega), a4 23 (by omega) (by omega), ba 84 (by omega) (by omega) (by omega), ba 85 (by omega) (by omega) (by omega)]
    rcases h9 with w | ⟨w1, w2, w3, w4, w5, w6, w7, w8⟩
    · exact Or.inl w
    · refine Or.inr ⟨w1, w2, w3, w4, w5, w6, ⟨w7.1, ?_⟩, w8⟩
      have := w7.2
      rcases f21 with q | ⟨q, -⟩ <;> omega
theorem p_text {X : XW} {M : MW} {nb : Nat} (h : Sim X M nb) : R2 nb (fX9_text X) (fX10_text M) := by
  obtain ⟨tx, ht, -, hti⟩ := nn_ge (i := M.1 21) (by have := h.2.2.1.2.1.1; omega)
  have h6 := h.2.2.1.2.1.2
  have h13 : X.1 0 13 = nI tx := by rw [h.2.2.1.1, ht]
  dsimp only [fX9_text]
  by_cases q : tx = 6
  · subst q
    rw [h13, if_neg (by decide)]
    unfold fX10_text
    rw [ht, if_pos (by decide)]
    exact R2.mk h
  · have htx : tx < 6 := by omega
    have hR : RES tx X M (fX6_read X (47 + 3 * tx)) (fX10_text M) := by
      obtain ⟨h1, -, -, -, -, ⟨t1, t2, t3, t4⟩, -⟩ := h
      obtain ⟨n, n1, -, n3⟩ := nn_ge t2.1
      exact read_ok (n := n) ⟨by rw [t1, n1], n1, by omega, t3, t4, h1.2.2.2.2.2.2.2.2.2.2.2.2⟩ ht htx
    rw [h13, if_pos (show nI tx < 6 from nI_lt (b := 6) htx (by omega)), if_pos (in_nI htx (by omega)), bd, cl_nI (by omega)]
    obtain ⟨v, X', w, M', e1, e2, rx, rm, m18, hres⟩ := hR
    rw [e1, e2]
    dsimp only [bd2, bd, fX6_empty]
    rw [bs_P, bs_X]
    have ex : ∀ i k, i ≠ 7 → ¬ (i = 47 + 3 * tx ∧ k = 2) → (xI X' 7 1 0).1 i k = X.1 i k := fun i k k1 k2 => by
      rw [xI_ne _ _ _ k1]
      exact rx.1 i k (fun z => k1 z.1) k2
    have e71 : (xI X' 7 1 0).1 7 1 = 0 := xI_at _ _ _ _
    have e22 : ∀ j, j ≠ 7 → (xI X' 7 1 0).2.2 j = X.2.2 j := fun j hj => funext fun k => rx.2.1 j k (fun z => hj z.1)
    have e21 : ∀ i, i ≠ 48 + 3 * tx → i ≠ 49 + 3 * tx → (xI X' 7 1 0).2.1 i = X.2.1 i := fun i k1 k2 => rx.2.2 i k1 k2
    have est : ∀ (Y : XW), Y.2.1 = X'.2.1 → STx X' M' tx → STx Y M' tx := fun Y hY hS => by
      unfold STx at hS ⊢
      rw [hY]; exact hS
    have eY : (xI X' 7 1 0).2.1 = X'.2.1 := rfl
    generalize xI X' 7 1 0 = Y at ex e71 e22 e21 eY ⊢
    rcases hres with ⟨s, s1, rfl, rfl, s4⟩ | ⟨rfl, rfl, s4, s5⟩
    · show R2 nb (if nI s = -1 then _ else some (-100 - nI s, Y)) _
      have hn : ¬ nI s = -1 := fun z => by
        have := congrArg Int32.toInt z
        rw [nI_toInt (by omega)] at this
        have e : (-1 : Int32).toInt = -1 := rfl
        omega
      rw [if_neg hn]
      exact R2.mk (h.rd htx ht (fun i k k1 k2 _ => ex i k k1 k2) e71 e22 e21 rm m18 (by rw [ex 0 13 (by omega) (by omega), h13, s4]) (Or.inl s4))
    · have hrw : ((some ((xI Y 0 13 (Y.1 0 13 + 1)).1 0 13 - 1, xI Y 0 13 (Y.1 0 13 + 1))) : Option (Int32 × XW)) = some (nI (tx + 1) - 1, xI Y 0 13 (nI (tx + 1))) := by
        rw [ex 0 13 (by omega) (by omega), h13, nI_1, xI_at]
      show R2 nb (some ((xI Y 0 13 (Y.1 0 13 + 1)).1 0 13 - 1, xI Y 0 13 (Y.1 0 13 + 1))) _
      rw [hrw]
      refine R2.mk (h.rd htx ht (fun i k k1 k2 k3 => ?_) ?_ e22 e21 rm m18 (by rw [xI_at, s4]) (Or.inr ⟨s4, est _ eY s5⟩))
      · by_cases c : i = 0
        · subst c; rw [xI_k _ _ _ (by omega)]; exact ex 0 k k1 k2
        · rw [xI_ne _ _ _ c]; exact ex i k k1 k2
      · rw [xI_ne _ _ _ (by omega)]; exact e71

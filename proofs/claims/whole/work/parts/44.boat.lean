/-! force, boat, let, boatTold -/
theorem xI_ne (X : XW) {b j : Nat} (k : Nat) (v : Int32) (h : j ≠ b) : (xI X b k v).1 j = X.1 j := by simp [xI, h]
theorem xI_at (X : XW) (b k : Nat) (v : Int32) : (xI X b k v).1 b k = v := by simp [xI, va_up]
theorem xI_k (X : XW) (b : Nat) {k q : Nat} (v : Int32) (h : q ≠ k) : (xI X b k v).1 b q = X.1 b q := by simp [xI, va_up, h]
theorem boat_of {X : XW} {M : MW} {nb : Nat} (h : Sim X M nb) (l : Int32) : (fX10_isBoat M l = 0 ∧ fX9_boatOf X l = some none) ∨ (¬ fX10_isBoat M l = 0 ∧ ∃ i b, l = nI i ∧ i < 6 ∧ (i : Int) < (M.1 8).toInt ∧ boatAt X M nb i b ∧ fX9_boatOf X l = some (some b)) := by
  obtain ⟨n, hn, hn31, hne⟩ := nn_ge h.2.1.2.1.1
  have hn6 := h.2.1.2.1.2
  have e0 : (0 : Int32).toInt = 0 := rfl
  unfold fX10_isBoat fX9_boatOf
  rw [in_eq, h.2.1.1]
  by_cases c : fX9_within l 0 (M.1 8 - 1) = 0
  · exact Or.inl ⟨c, if_pos c⟩
  · have hw := wi_ne c
    rw [hn, show (1 : Int32) = nI 1 from rfl, pk_sub_toInt (by omega) (by decide), e0] at hw
    obtain ⟨i, hi, hi31, hie⟩ := nn_ge hw.1
    obtain ⟨b, hb⟩ := h.2.1.2.2.1 i (by omega)
    refine Or.inr ⟨c, i, b, hi, by omega, by omega, hb, ?_⟩
    rw [if_neg c, hi, rdR_in (in_nI (by omega) (by omega)), Option.bind_some, cl_nI hi31, hb.1]
theorem p_boatTold {X : XW} {M : MW} {nb : Nat} (h : Sim X M nb) (a q : Int32) : R1 (fX9_boatTold X nb a q) (fX10_boatTold M a q) := by
  unfold fX9_boatTold fX10_boatTold
  rcases boat_of h a with ⟨c1, c2⟩ | ⟨c1, i, b, rfl, hi, -, hb, c2⟩
  · rw [c2, if_pos c1]; exact ⟨_, rfl, rfl⟩
  have hin : inb (nI i) 6 := in_nI hi (by omega)
  have hN : NS ≤ b ∧ b < TT nb := ⟨hb.2.1, hb.2.2.1⟩
  obtain ⟨-, -, -, h0, h1, h2, h3, h4, h5⟩ := hb
  rw [c2, if_neg c1, Option.bind_some]
  dsimp only [oc]
  simp only [if_pos hN, rd_in hin, Option.bind_some, cl_nI (show i < 2 ^ 31 by omega), ← h0, ← h1, ← h2, ← h3, ← h4, ← h5]
  generalize X.1 b = f
  by_cases q0 : q = 0
  · rw [if_pos q0]; exact ⟨_, rfl, rfl⟩
  by_cases q1 : q = 1
  · rw [if_neg q0, if_pos q1]; exact ⟨_, rfl, rfl⟩
  by_cases q2 : q = 2
  · rw [if_neg q0, if_neg q1, if_pos q2]; exact ⟨_, rfl, rfl⟩
  by_cases q3 : q = 3
  · rw [if_neg q0, if_neg q1, if_neg q2, if_pos q3]; exact ⟨_, rfl, rfl⟩
  by_cases q4 : q = 4
  · rw [if_neg q0, if_neg q1, if_neg q2, if_neg q3, if_pos q4]; exact ⟨_, rfl, rfl⟩
  by_cases q5 : q = 5
  · rw [if_neg q0, if_neg q1, if_neg q2, if_neg q3, if_neg q4, if_pos q5]; exact ⟨_, rfl, rfl⟩
  rw [if_neg q0, if_neg q1, if_neg q2, if_neg q3, if_neg q4, if_neg q5]; exact ⟨_, rfl, rfl⟩
theorem p_force {X : XW} {M : MW} {nb : Nat} (h : Sim X M nb) (a : Int32) : R2 nb (fX9_force X a) (fX10_force M a) := by
  dsimp only [fX9_force, fX10_force, fX9_rule, bd]
  rw [in_eq, h.2.2.1.1]
  by_cases c1 : fX9_within a 0 (M.1 21 - 1) = 0
  · rw [if_pos c1, if_pos c1]; exact R2.mk h
  rw [if_neg c1, if_neg c1]
  have hr := wi_ne c1
  obtain ⟨n, hn, hn31, hne⟩ := nn_ge (i := M.1 21) (by have := h.2.2.1.2.1.1; omega)
  have e0 : (0 : Int32).toInt = 0 := rfl
  have hn6 := h.2.2.1.2.1.2
  rw [hn, show (1 : Int32) = nI 1 from rfl, pk_sub_toInt (by omega) (by decide), e0] at hr
  have hin : inb a 6 := ⟨hr.1, by omega⟩
  rw [if_pos hin, Option.bind_some, h.2.2.2.1.1]
  obtain ⟨h1, h2, h3, h4, h5, h6, h7, h8, h9⟩ := h
  refine R2.mk ⟨h1, ?_, h3.c rfl (fun i _ _ => rfl) rfl rfl rfl, ⟨rfl, ⟨hr.1, ?_⟩, rfl⟩, h5, h6, h7, h8.c (fun i _ _ => ?_) (fun i _ _ => rfl) rfl rfl rfl, h9⟩
  · refine ⟨h2.1, h2.2.1, fun i hi => ?_, h2.2.2.2⟩
    obtain ⟨b, hb⟩ := h2.2.2.1 i hi
    refine ⟨b, hb.1, hb.2.1, hb.2.2.1, ?_⟩
    have hne : b ≠ 0 := by have := hb.2.1; unfold NS at this; omega
    have e : (xR (xI X 0 14 a) 10 3 (some (47 + 3 * a.toNatClampNeg))).1 b = X.1 b := xI_ne X 14 a hne
    rw [e]
    exact hb.2.2.2
  · show a.toInt < (M.1 21).toInt
    omega
  · exact xI_ne X 14 a (by omega)
/-- a boat's field -/
theorem Sim.boat_w {X : XW} {M : MW} {nb i b k m : Nat} {v : Int32} (h : Sim X M nb) (hi : (i : Int) < (M.1 8).toInt) (hb : boatAt X M nb i b) (hk : (k = 4 ∧ m = 77 ∧ (-1 ≤ v.toInt ∧ v.toInt ≤ 99)) ∨ (k = 5 ∧ m = 78 ∧ (1 ≤ v.toInt ∧ v.toInt ≤ 40))) : Sim (xI X b k v) (mA M m (nI i) v) nb := by
  obtain ⟨h1, h2, h3, h4, h5, h6, h7, h8, h9⟩ := h
  have hN := hb.2.1
  have hN' : 104 ≤ b := hN
  have e : ∀ j, j < 104 → (xI X b k v).1 j = X.1 j := fun j hj => xI_ne X k v (by omega)
  have hi6 : i < 6 := by have := h2.2.1.2; omega
  have hcl : (nI i).toNatClampNeg = i := cl_nI (by omega)
  have hm : m = 77 ∨ m = 78 := by omega
  have em : ∀ j, j ≠ m → (mA M m (nI i) v).2 j = M.2 j := fun j hj => mA_ne M (nI i) v hj
  have hf : ∀ j, (mA M m (nI i) v).2 m j = if j = i then v else M.2 m j := fun j => by
    rw [mA_at, hcl]
    rfl
  refine ⟨?_, ⟨?_, h2.2.1, fun j hj => ?_, h2.2.2.2.1, fun j hj => ?_⟩, h3.c ?_ (fun i _ _ => rfl) rfl (em 82 (by omega)) (em 83 (by omega)), ⟨?_, h4.2.1, h4.2.2⟩, h5, ⟨?_, h6.2.1, ?_⟩, ?_, h8.c (fun i _ _ => e i (by omega)) (fun i _ _ => rfl) (em 88 (by omega)) (em 89 (by omega)) (em 90 (by omega)), ?_⟩
  · unfold SBay at h1 ⊢
    rw [em 66 (by omega), em 67 (by omega), em 68 (by omega), em 69 (by omega), em 70 (by omega), em 71 (by omega), em 72 (by omega), em 92 (by omega), e 0 (by omega)]
    exact h1
  · rw [e 0 (by omega)]; exact h2.1
  · obtain ⟨b', hb'⟩ := h2.2.2.1 j hj
    refine ⟨b', hb'.1, hb'.2.1, hb'.2.2.1, ?_⟩
    by_cases hji : j = i
    · subst hji
      have : b' = b := Option.some.inj (hb'.1.symm.trans hb.1)
      subst this
      obtain ⟨-, -, -, g0, g1, g2, g3, g4, g5⟩ := hb'
      rcases hk with ⟨rfl, rfl, -⟩ | ⟨rfl, rfl, -⟩
      · rw [em 73 (by omega), em 74 (by omega), em 75 (by omega), em 76 (by omega), em 78 (by omega), hf j, if_pos rfl, xI_at]
        rw [xI_k X b' v (by decide : 0 ≠ 4), xI_k X b' v (by decide : 1 ≠ 4), xI_k X b' v (by decide : 2 ≠ 4), xI_k X b' v (by decide : 3 ≠ 4), xI_k X b' v (by decide : 5 ≠ 4)]
        exact ⟨g0, g1, g2, g3, rfl, g5⟩
      · rw [em 73 (by omega), em 74 (by omega), em 75 (by omega), em 76 (by omega), em 77 (by omega), hf j, if_pos rfl, xI_at]
        rw [xI_k X b' v (by decide : 0 ≠ 5), xI_k X b' v (by decide : 1 ≠ 5), xI_k X b' v (by decide : 2 ≠ 5), xI_k X b' v (by decide : 3 ≠ 5), xI_k X b' v (by decide : 4 ≠ 5)]
        exact ⟨g0, g1, g2, g3, g4, rfl⟩
    · have hne : b' ≠ b := fun q => hji (h2.2.2.2.1 j i b hj hi (by rw [← q]; exact hb'.1) hb.1)
      rw [xI_ne X k v hne]
      obtain ⟨-, -, -, g0, g1, g2, g3, g4, g5⟩ := hb'
      refine ⟨by rw [em 73 (by omega)]; exact g0, by rw [em 74 (by omega)]; exact g1, by rw [em 75 (by omega)]; exact g2, by rw [em 76 (by omega)]; exact g3, ?_, ?_⟩
      · rcases hm with rfl | rfl
        · rw [hf j, if_neg hji]; exact g4
        · rw [em 77 (by omega)]; exact g4
      · rcases hm with rfl | rfl
        · rw [em 78 (by omega)]; exact g5
        · rw [hf j, if_neg hji]; exact g5
  · have g := h2.2.2.2.2 j hj
    rcases hk with ⟨rfl, rfl, hv⟩ | ⟨rfl, rfl, hv⟩
    · rw [hf j, em 78 (by omega), em 73 (by omega)]
      by_cases hji : j = i
      · rw [if_pos hji]; exact ⟨hv, g.2⟩
      · rw [if_neg hji]; exact g
    · rw [hf j, em 77 (by omega), em 73 (by omega)]
      by_cases hji : j = i
      · rw [if_pos hji]; exact ⟨g.1, hv, g.2.2⟩
      · rw [if_neg hji]; exact g
  · rw [e 0 (by omega)]
  · rw [e 0 (by omega)]; exact h4.1
  · rw [e 7 (by omega)]; exact h6.1
  · rw [em 81 (by omega)]; exact h6.2.2
  · unfold SForm at h7 ⊢
    rw [em 79 (by omega), em 80 (by omega), em 86 (by omega), em 87 (by omega)]
    exact h7
  · unfold SImg at h9 ⊢
    rw [e 21 (by omega), em 84 (by omega), em 85 (by omega)]
    exact h9
theorem p_let {X : XW} {M : MW} {nb : Nat} (h : Sim X M nb) (a q v : Int32) : R2 nb (fX9_let X nb a q v) (fX10_let M a q v) := by
  dsimp only [fX9_let, fX10_let, fX9_let_b42, fX10_let_b41, fX10_let_b42, fX10_let_b71, fX10_let_b92, fX10_let_b113, bd]
  rw [isCell_eq, in_eq]
  rcases boat_of h a with ⟨c1, c2⟩ | ⟨c1, i, b, rfl, hi, hi2, hb, c2⟩
  · rw [c2, if_pos c1]; exact R2.mk h
  have hin : inb (nI i) 6 := in_nI hi (by omega)
  have hN : NS ≤ b ∧ b < TT nb := ⟨hb.2.1, hb.2.2.1⟩
  have hcl : (nI i).toNatClampNeg = i := cl_nI (by omega)
  rw [c2, if_neg c1, Option.bind_some]
  dsimp only [oc]
  by_cases q0 : q = 0
  · subst q0
    simp only [if_pos, if_neg n01]
    by_cases c3 : fX9_isCell v = 0
    · rw [if_pos c3, if_pos c3]; exact R2.mk h
    rw [if_neg c3, if_neg c3, if_pos hN, rd_in hin, Option.bind_some, if_pos hin, rd_in hin, Option.bind_some, if_pos hin, mA_self (mA M 77 (nI i) v) 78 rfl, hcl, hb.2.2.2.2.2.2.2.1]
    have hv := cell_in c3
    exact R2.mk (h.boat_w hi2 hb (Or.inl ⟨rfl, rfl, by have := hv.1; omega, by have := hv.2; omega⟩))
  by_cases q1 : q = 1
  · subst q1
    simp only [if_pos, if_neg n10]
    by_cases c3 : fX9_within v 1 40 = 0
    · rw [if_pos c3, if_pos c3]; exact R2.mk h
    rw [if_neg c3, if_neg c3, Option.bind_some, if_pos hN, rd_in hin, Option.bind_some, rd_in hin, Option.bind_some, if_pos hin, mA_self M 77 rfl, if_pos hin, hcl, hb.2.2.2.2.2.2.2.2]
    exact R2.mk (h.boat_w hi2 hb (Or.inr ⟨rfl, rfl, wi_ne c3⟩))
  simp only [q0, q1, ↓reduceIte]
  exact R2.mk h

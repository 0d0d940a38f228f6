/-! a new boat -/
def R3 (nb : Nat) (a : Option (Int32 × XW × Nat)) (b : Option (Int32 × MW)) : Prop := ∃ v X M n, a = some (v, X, n) ∧ b = some (v, M) ∧ nb ≤ n ∧ Sim X M n
def nbX (X : XW) (t n : Nat) (k w c o : Int32) : XW := xI (xR (xB (xN X t) t k w c o) 13 n (some t)) 0 12 ((xR (xB (xN X t) t k w c o) 13 n (some t)).1 0 12 + 1)
def nbM (M : MW) (n : Int32) (k w c o : Int32) : MW := mI (mA (mA (mA (mA (mA (mA M 73 n k) 74 n (w / 100)) 75 n (jrem (w / 10) 10)) 76 n (jrem w 10)) 77 n c) 78 n o) 8 (n + 1)
theorem xN_ne (X : XW) {t j : Nat} (h : j ≠ t) : (xN X t).1 j = X.1 j := by simp [xN, h]
theorem xB_ne (X : XW) {t j : Nat} (k w c o : Int32) (h : j ≠ t) : (xB X t k w c o).1 j = X.1 j := by
  unfold xB
  rw [xI_ne _ 5 o h, xI_ne _ 4 c h, xI_ne _ 3 _ h, xI_ne _ 2 _ h, xI_ne _ 1 _ h, xI_ne _ 0 _ h]
theorem nbX_ne {X : XW} {t n j : Nat} {k w c o : Int32} (h : j ≠ t) (h0 : j ≠ 0) : (nbX X t n k w c o).1 j = X.1 j := by
  unfold nbX
  rw [xI_ne _ 12 _ h0]
  exact (xB_ne _ k w c o h).trans (xN_ne X h)
theorem nbX_0 {X : XW} {t n q : Nat} {k w c o : Int32} (h : 0 ≠ t) : (nbX X t n k w c o).1 0 q = if q = 12 then X.1 0 12 + 1 else X.1 0 q := by
  have e : (xB (xN X t) t k w c o).1 0 = X.1 0 := (xB_ne _ k w c o h).trans (xN_ne X h)
  unfold nbX
  by_cases hq : q = 12
  · subst hq
    rw [xI_at, if_pos rfl]
    show (xB (xN X t) t k w c o).1 0 12 + 1 = _
    rw [e]
  · rw [xI_k _ 0 _ hq, if_neg hq]
    show (xB (xN X t) t k w c o).1 0 q = _
    rw [e]
theorem nbX_t {X : XW} {t n : Nat} {k w c o : Int32} (h : t ≠ 0) : (nbX X t n k w c o).1 t 0 = k ∧ (nbX X t n k w c o).1 t 1 = w / 100 ∧ (nbX X t n k w c o).1 t 2 = jrem (w / 10) 10 ∧ (nbX X t n k w c o).1 t 3 = jrem w 10 ∧ (nbX X t n k w c o).1 t 4 = c ∧ (nbX X t n k w c o).1 t 5 = o := by
  have e : ∀ q, (nbX X t n k w c o).1 t q = (xB (xN X t) t k w c o).1 t q := fun q => by
    unfold nbX
    rw [xI_ne _ 12 _ h]
    rfl
  rw [e, e, e, e, e, e]
  simp [xB, xI, va_up]
theorem nbX_r {X : XW} {t n i : Nat} {k w c o : Int32} : (nbX X t n k w c o).2.2 13 i = if i = n then some t else X.2.2 13 i := rfl
theorem nbM_r {M : MW} {n : Nat} (hn : n < 2 ^ 31) (k w c o : Int32) (i : Nat) : (nbM M (nI n) k w c o).2 73 i = (if i = n then k else M.2 73 i) ∧ (nbM M (nI n) k w c o).2 74 i = (if i = n then w / 100 else M.2 74 i) ∧ (nbM M (nI n) k w c o).2 75 i = (if i = n then jrem (w / 10) 10 else M.2 75 i) ∧ (nbM M (nI n) k w c o).2 76 i = (if i = n then jrem w 10 else M.2 76 i) ∧ (nbM M (nI n) k w c o).2 77 i = (if i = n then c else M.2 77 i) ∧ (nbM M (nI n) k w c o).2 78 i = (if i = n then o else M.2 78 i) := by
  simp [nbM, mI, mA, upd, cl_nI hn]
theorem nbM_ne {M : MW} {n k w c o : Int32} {j : Nat} (h : j < 73 ∨ 78 < j) : (nbM M n k w c o).2 j = M.2 j := by
  unfold nbM
  show (mA (mA (mA (mA (mA (mA M 73 n k) 74 n (w / 100)) 75 n (jrem (w / 10) 10)) 76 n (jrem w 10)) 77 n c) 78 n o).2 j = _
  rw [mA_ne _ n o (by omega), mA_ne _ n c (by omega), mA_ne _ n _ (by omega), mA_ne _ n _ (by omega), mA_ne _ n _ (by omega), mA_ne _ n _ (by omega)]
theorem Sim.nboat {X : XW} {M : MW} {nb n : Nat} {k w c o : Int32} (h : Sim X M nb) (h1nb : 1 ≤ nb) (hn : M.1 8 = nI n) (hn6 : n < 6) (hc : -1 ≤ c.toInt ∧ c.toInt ≤ 99) (ho : 1 ≤ o.toInt ∧ o.toInt ≤ 40) (hkk : 0 ≤ k.toInt ∧ k.toInt ≤ 5) : Sim (nbX X (TT nb) n k w c o) (nbM M (nI n) k w c o) (nb + 1) := by
  obtain ⟨h1, h2, h3, h4, h5, h6, h7, h8, h9⟩ := h
  obtain ⟨m, rfl⟩ : ∃ m, nb = m + 1 := ⟨nb - 1, by omega⟩
  have hT : TT (m + 1) = 104 + m := rfl
  have hT2 : TT (m + 1 + 1) = 104 + (m + 1) := rfl
  rw [hT]
  have e : ∀ j, j < 104 → j ≠ 0 → (nbX X (104 + m) n k w c o).1 j = X.1 j := fun j h1 h2 => nbX_ne (by omega) h2
  have e0 : ∀ q, q ≠ 12 → (nbX X (104 + m) n k w c o).1 0 q = X.1 0 q := fun q hq => (nbX_0 (by omega)).trans (if_neg hq)
  have hnI : (M.1 8).toInt = n := by rw [hn, nI_toInt (by omega)]
  have hM8 : (nbM M (nI n) k w c o).1 8 = nI (n + 1) := nI_1 n
  have hM8' : ((nbM M (nI n) k w c o).1 8).toInt = (n : Int) + 1 := by rw [hM8, nI_toInt (by omega)]; omega
  have eM : ∀ j, j ≠ 8 → (nbM M (nI n) k w c o).1 j = M.1 j := fun j hj => if_neg hj
  refine ⟨?_, ⟨?_, ?_, fun i hi => ?_, fun i j b hi hj hbi hbj => ?_, fun i hi => ?_⟩, h3.c (e0 13 (by decide)) (fun i _ _ => rfl) (eM 21 (by decide)) (nbM_ne (by omega)) (nbM_ne (by omega)), ⟨?_, h4.2.1, h4.2.2⟩, h5, ⟨?_, h6.2.1, by rw [nbM_ne (j := 81) (by omega)]; exact h6.2.2⟩, ?_, h8.c (fun i _ _ => e i (by omega) (by omega)) (fun i _ _ => rfl) (nbM_ne (by omega)) (nbM_ne (by omega)) (nbM_ne (by omega)), ?_⟩
  · unfold SBay at h1 ⊢
    rw [nbM_ne (j := 66) (by omega), nbM_ne (j := 67) (by omega), nbM_ne (j := 68) (by omega), nbM_ne (j := 69) (by omega), nbM_ne (j := 70) (by omega), nbM_ne (j := 71) (by omega), nbM_ne (j := 72) (by omega), nbM_ne (j := 92) (by omega), e0 11 (by decide), eM 7 (by decide)]
    exact h1
  · rw [hM8, nbX_0 (by omega), if_pos rfl, h2.1, hn, nI_1]
  · rw [hM8']; omega
  · rw [hM8'] at hi
    unfold boatAt
    rw [nbX_r, (nbM_r (by omega) k w c o i).1, (nbM_r (by omega) k w c o i).2.1, (nbM_r (by omega) k w c o i).2.2.1, (nbM_r (by omega) k w c o i).2.2.2.1, (nbM_r (by omega) k w c o i).2.2.2.2.1, (nbM_r (by omega) k w c o i).2.2.2.2.2]
    by_cases hin : i = n
    · simp only [if_pos hin]
      exact ⟨104 + m, rfl, by unfold NS; omega, by rw [hT2]; omega, nbX_t (by omega)⟩
    · simp only [if_neg hin]
      obtain ⟨b, hb⟩ := h2.2.2.1 i (by omega)
      have hlt := hb.2.2.1
      rw [hT] at hlt
      have hN := hb.2.1
      unfold NS at hN
      refine ⟨b, hb.1, hb.2.1, by rw [hT2]; omega, ?_⟩
      rw [nbX_ne (by omega) (by omega)]
      exact hb.2.2.2
  · rw [hM8'] at hi hj
    rw [nbX_r] at hbi hbj
    have old : ∀ q b : Nat, q ≠ n → (q : Int) < (n : Int) + 1 → X.2.2 13 q = some b → b < 104 + m := fun q b hq hq2 hb => by
      obtain ⟨b', hb'⟩ := h2.2.2.1 q (by omega)
      have := Option.some.inj (hb.symm.trans hb'.1)
      rw [this]
      exact hb'.2.2.1
    by_cases hin : i = n
    · rw [if_pos hin] at hbi
      have := Option.some.inj hbi
      by_cases hjn : j = n
      · omega
      · rw [if_neg hjn] at hbj
        have := old j b hjn hj hbj
        omega
    · rw [if_neg hin] at hbi
      have := old i b hin hi hbi
      by_cases hjn : j = n
      · rw [if_pos hjn] at hbj
        have := Option.some.inj hbj
        omega
      · rw [if_neg hjn] at hbj
        exact h2.2.2.2.1 i j b (by omega) (by omega) hbi hbj
  · rw [hM8'] at hi
    rw [(nbM_r (by omega) k w c o i).2.2.2.2.1, (nbM_r (by omega) k w c o i).2.2.2.2.2, (nbM_r (by omega) k w c o i).1]
    by_cases hin : i = n
    · rw [if_pos hin, if_pos hin, if_pos hin]; exact ⟨hc, ho, hkk⟩
    · rw [if_neg hin, if_neg hin, if_neg hin]; exact h2.2.2.2.2 i (by omega)
  · rw [e0 14 (by decide)]; exact h4.1
  · rw [e 7 (by decide) (by decide)]; exact h6.1
  · unfold SForm at h7 ⊢
    rw [nbM_ne (j := 79) (by omega), nbM_ne (j := 80) (by omega), nbM_ne (j := 86) (by omega), nbM_ne (j := 87) (by omega)]
    exact h7
  · unfold SImg at h9 ⊢
    rw [e 21 (by decide) (by decide), nbM_ne (j := 84) (by omega), nbM_ne (j := 85) (by omega), eM 23 (by decide), eM 24 (by decide), eM 25 (by decide), eM 26 (by decide), eM 21 (by decide), hM8']
    rcases h9 with h9 | h9
    · exact Or.inl h9
    · obtain ⟨g1, g2, g3, g4, g5, g6, g7, g8⟩ := h9
      exact Or.inr ⟨g1, g2, g3, g4, ⟨g5.1, by have := g5.2; omega⟩, g6, g7, g8⟩
theorem p_boat {X : XW} {M : MW} {nb : Nat} (h : Sim X M nb) (h1nb : 1 ≤ nb) (k w c o : Int32) : R3 nb (fX9_boat X nb k w c o) (fX10_boat M k w c o) := by
  dsimp only [fX9_boat, fX10_boat, bd]
  rw [isCell_eq, in_eq]
  have no : ∀ v : Int32, R3 nb (some (v, X, nb)) (some (v, M)) := fun v => ⟨v, X, M, nb, rfl, rfl, Nat.le_refl _, h⟩
  by_cases c1 : fX9_within k 0 5 = 0
  · rw [if_pos c1, if_pos c1]; exact no _
  rw [if_neg c1, if_neg c1]
  by_cases c2 : fX9_within w 0 999 = 0
  · rw [if_pos c2, if_pos c2]; exact no _
  rw [if_neg c2, if_neg c2]
  by_cases c3 : fX9_isCell c = 0
  · rw [if_pos c3, if_pos c3]; exact no _
  rw [if_neg c3, if_neg c3]
  by_cases c4 : fX9_within o 1 40 = 0
  · rw [if_pos c4, if_pos c4]; exact no _
  rw [if_neg c4, if_neg c4]
  obtain ⟨n, hn, hn31, hne⟩ := nn_ge h.2.1.2.1.1
  have hn6 := h.2.1.2.1.2
  rw [h.2.1.1]
  by_cases c5 : M.1 8 = 6
  · rw [if_pos c5, if_neg (by rw [c5]; decide)]; exact no _
  have hn5 : n < 6 := by
    have : ¬ n = 6 := fun q => c5 (by rw [hn, q]; rfl)
    omega
  have hin : inb (M.1 8) 6 := by rw [hn]; exact in_nI hn5 (by omega)
  have hT : NS ≤ TT nb := by
    obtain ⟨m, rfl⟩ : ∃ m, nb = m + 1 := ⟨nb - 1, by omega⟩
    exact Nat.le_add_right _ _
  have i1 : inb ((mA M 73 (M.1 8) k).1 8) 6 := hin
  have i2 : inb ((mA (mA M 73 (M.1 8) k) 74 ((mA M 73 (M.1 8) k).1 8) (w / 100)).1 8) 6 := hin
  have i3 : inb ((mA (mA (mA M 73 (M.1 8) k) 74 ((mA M 73 (M.1 8) k).1 8) (w / 100)) 75 ((mA (mA M 73 (M.1 8) k) 74 ((mA M 73 (M.1 8) k).1 8) (w / 100)).1 8) (jrem (w / 10) 10)).1 8) 6 := hin
  rw [if_pos (show M.1 8 < 6 by rw [hn]; exact nI_lt (b := 6) hn5 (by omega)), if_pos hT, if_pos hin, if_neg c5, if_pos hin, if_pos i1, if_pos i2, if_pos i3]
  have hv := cell_in c3
  have hS := h.nboat (k := k) (w := w) (c := c) (o := o) h1nb hn hn5 ⟨by have := hv.1; omega, by have := hv.2; omega⟩ (wi_ne c4) (wi_ne c1)
  have e1 : (nbX X (TT nb) n k w c o).1 0 12 = (nbM M (nI n) k w c o).1 8 := hS.2.1.1
  have hcl : (M.1 8).toNatClampNeg = n := by rw [hn]; exact cl_nI hn31
  rw [hcl]
  refine ⟨(nbM M (nI n) k w c o).1 8 - 1, nbX X (TT nb) n k w c o, nbM M (nI n) k w c o, nb + 1, ?_, ?_, by omega, hS⟩
  · show some ((nbX X (TT nb) n k w c o).1 0 12 - 1, nbX X (TT nb) n k w c o, nb + 1) = _
    rw [e1]
  · have i4 : ∀ M5 : MW, M5.1 = M.1 → inb (M5.1 8) 6 := fun M5 q => by rw [q]; exact hin
    refine (if_pos (i4 _ rfl)).trans ((if_pos (i4 _ rfl)).trans ?_)
    rw [← hn]
    rfl

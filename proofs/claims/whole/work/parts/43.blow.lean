/-! blow, feed, force -/
theorem n20 : ¬ (2 : Int32) = 0 := by decide
theorem n21 : ¬ (2 : Int32) = 1 := by decide
theorem n12 : ¬ (1 : Int32) = 2 := by decide
theorem n02 : ¬ (0 : Int32) = 2 := by decide
theorem p_blow {X : XW} {M : MW} {nb : Nat} (h : Sim X M nb) (a b v : Int32) : R2 nb (fX9_blow X a b v) (fX10_blow M a b v) := by
  dsimp only [fX9_blow, fX10_blow, fX10_blow_b58, fX10_blow_b59, fX10_blow_b102, fX10_blow_b123, fX10_blow_b144, fX10_blow_b165, fX9_isBlowing, fX0_hourRow, bd]
  rw [isHour_eq, in_eq]
  by_cases c1 : fX9_isHour a = 0
  · rw [if_pos c1, if_pos c1]; exact R2.mk h
  rw [if_neg c1, if_neg c1]
  have hi := hour_in c1
  by_cases b0 : b = 0
  · subst b0
    simp only [if_pos, if_neg n01, if_neg n02]
    by_cases c2 : fX9_within v 0 7 = 0
    · rw [if_pos c2, if_pos c2]; exact R2.mk h
    rw [if_neg c2, if_neg c2, Option.bind_some, if_pos (by decide), show ln 4 = 12 from rfl, rd_in hi, Option.bind_some, if_pos hi, rd_in hi, Option.bind_some, if_pos hi, rd_in hi, Option.bind_some, if_pos hi, rd_in hi, Option.bind_some, if_pos hi, mA_self (mA M 68 a v) 69 rfl, mA_self (mA M 68 a v) 70 rfl, h.1.2.2.1]
    exact R2.mk (h.bay_w (wi_ne c2))
  by_cases b1 : b = 1
  · subst b1
    simp only [if_pos, if_neg n10, if_neg n12]
    by_cases c2 : fX9_within v 0 99 = 0
    · rw [if_pos c2, if_pos c2]; exact R2.mk h
    rw [if_neg c2, if_neg c2, Option.bind_some, if_pos (by decide), show ln 5 = 12 from rfl, rd_in hi, Option.bind_some, if_pos hi, rd_in hi, Option.bind_some, rd_in hi, Option.bind_some, if_pos hi, mA_self M 68 rfl, if_pos hi, rd_in hi, Option.bind_some, if_pos hi, mA_self (mA M 69 a v) 70 rfl, h.1.2.2.2.1]
    exact R2.mk h.bay_s
  by_cases b2 : b = 2
  · subst b2
    simp only [if_pos, if_neg n20, if_neg n21]
    by_cases c2 : fX9_within v (-3) 3 = 0
    · rw [if_pos c2, if_pos c2]; exact R2.mk h
    rw [if_neg c2, if_neg c2, if_neg n10, Option.bind_some, if_pos (by decide), show ln 6 = 12 from rfl, rd_in hi, Option.bind_some, if_pos hi, rd_in hi, Option.bind_some, rd_in hi, Option.bind_some, if_pos hi, mA_self M 68 rfl, rd_in hi, Option.bind_some, if_pos hi, mA_self M 69 rfl, if_pos hi, h.1.2.2.2.2.1]
    exact R2.mk (h.bay_t (wi_ne c2))
  simp only [b0, b1, b2, ↓reduceIte]
  exact R2.mk h
def addX (X : XW) (c : Int32) : XW := xI (xA X 8 (X.1 7 1) c) 7 1 (X.1 7 1 + 1)
def addM (M : MW) (c : Int32) : MW := mI (mA M 81 (M.1 18) c) 18 (M.1 18 + 1)
theorem add_ok {X : XW} {M : MW} {nb : Nat} (h : Sim X M nb) {s : Nat} (hs : M.1 18 = nI s) (h160 : s < 160) {c : Int32} (hc0 : 0 ≤ c.toInt) : fX6_add X c = some (addX X c) ∧ inb (M.1 18) 160 ∧ Sim (addX X c) (addM M c) nb ∧ (addM M c).1 18 = nI (s + 1) := by
  obtain ⟨h1, h2, h3, h4, h5, h6, h7, h8, h9⟩ := h
  have hin : inb (M.1 18) 160 := by rw [hs]; exact in_nI h160 (by omega)
  refine ⟨?_, hin, ⟨h1, ?_, h3.c rfl (fun i _ _ => xA_ne X _ _ (by omega)) rfl rfl rfl, h4, h5, ⟨?_, ?_, ?_, ?_⟩, h7, h8.c (fun i _ _ => ?_) (fun i _ _ => xA_ne X _ _ (by omega)) rfl rfl rfl, h9⟩, ?_⟩
  · dsimp only [fX6_add, bd, addX]
    rw [h6.1, if_neg (by rw [hs]; exact nI_ge (b := 160) h160 (by omega)), if_pos hin]
    show some (xI (xA X 8 (M.1 18) c) 7 1 (X.1 7 1 + 1)) = _
    rw [h6.1]
  · refine ⟨h2.1, h2.2.1, fun i hi => ?_, h2.2.2.2⟩
    obtain ⟨b, hb⟩ := h2.2.2.1 i hi
    have hne : ¬ b = 7 := by have := hb.2.1; unfold NS at this; omega
    refine ⟨b, hb.1, hb.2.1, hb.2.2.1, ?_⟩
    have e : (addX X c).1 b = X.1 b := by unfold addX xI xA; exact if_neg hne
    rw [e]
    exact hb.2.2.2
  · show X.1 7 1 + 1 = M.1 18 + 1
    rw [h6.1]
  · show 0 ≤ (M.1 18 + 1).toInt ∧ (M.1 18 + 1).toInt ≤ 160
    rw [hs, nI_1, nI_toInt (by omega)]
    omega
  · show (xA X 8 (X.1 7 1) c).2.1 8 = (mA M 81 (M.1 18) c).2 81
    rw [xA_at, mA_at, h6.1, h6.2.2.1]
  · show ∀ k, 0 ≤ ((mA M 81 (M.1 18) c).2 81 k).toInt
    rw [mA_at]
    exact upd_all (p := fun z => 0 ≤ z.toInt) h6.2.2.2 hc0
  · unfold addX xI xA
    exact if_neg (by omega)
  · show M.1 18 + 1 = _
    rw [hs, nI_1]
theorem by_ge {b : Int32} (h : ¬ fX9_isByte b = 0) : 0 ≤ b.toInt := by
  have := (wi_ne h).1
  have e0 : (0 : Int32).toInt = 0 := rfl
  omega
def fdC (l2 l3 l4 l5 l6 : Int32) (i : Nat) : Int32 := if i = 0 then l2 else if i = 1 then l3 else if i = 2 then l4 else if i = 3 then l5 else l6
theorem fd_s {l2 l3 l4 l5 l6 : Int32} {M : MW} {n i k : Nat} (hi : i < n) (hn : n ≤ 5) (hin : inb (M.1 18) 160) : lo2 (fX10_feed_l68 (nI n) l2 l3 l4 l5 l6) (k + 1) M (nI i) = lo2 (fX10_feed_l68 (nI n) l2 l3 l4 l5 l6) k (addM M (fdC l2 l3 l4 l5 l6 i)) (nI (i + 1)) := by
  show fX10_feed_l68 (nI n) l2 l3 l4 l5 l6 (lo2 (fX10_feed_l68 (nI n) l2 l3 l4 l5 l6) k) M (nI i) = _
  generalize hL : lo2 (fX10_feed_l68 (nI n) l2 l3 l4 l5 l6) k = L
  unfold fX10_feed_l68
  dsimp only [fX10_feed_b125, bd]
  rw [if_neg (nI_ge hi (by omega)), nI_1]
  have hc : i = 0 ∨ i = 1 ∨ i = 2 ∨ i = 3 ∨ i = 4 := by omega
  rcases hc with rfl | rfl | rfl | rfl | rfl
  · rw [if_pos (by decide), if_pos hin]; rfl
  · rw [if_neg (by decide), if_pos (by decide), if_pos hin]; rfl
  · rw [if_neg (by decide), if_neg (by decide), if_pos (by decide), if_pos hin]; rfl
  · rw [if_neg (by decide), if_neg (by decide), if_neg (by decide), if_pos (by decide), if_pos hin]; rfl
  · rw [if_neg (by decide), if_neg (by decide), if_neg (by decide), if_neg (by decide), if_pos hin]; rfl
theorem fd_e {l2 l3 l4 l5 l6 : Int32} {M : MW} {n i k : Nat} (hi : n ≤ i) (hn : i < 100) : lo2 (fX10_feed_l68 (nI n) l2 l3 l4 l5 l6) (k + 1) M (nI i) = some (M.1 18, M) := by
  show fX10_feed_l68 (nI n) l2 l3 l4 l5 l6 (lo2 (fX10_feed_l68 (nI n) l2 l3 l4 l5 l6) k) M (nI i) = _
  unfold fX10_feed_l68
  rw [if_pos (nI_le hi (by omega))]
theorem p_feed {X : XW} {M : MW} {nb : Nat} (h : Sim X M nb) (l1 l2 l3 l4 l5 l6 : Int32) : R2 nb (fX9_feed X l1 l2 l3 l4 l5 l6) (fX10_feed M l1 l2 l3 l4 l5 l6) := by
  dsimp only [fX9_feed, fX10_feed, fX9_feed_b89, fX9_feed_b103, fX9_feed_b117]
  rw [in_eq, isByte_eq, h.2.2.2.2.2.1.1]
  by_cases c1 : fX9_within l1 1 5 = 0
  · rw [if_pos c1, if_pos c1]; exact R2.mk h
  rw [if_neg c1, if_neg c1]
  by_cases c2 : fX9_isByte l2 = 0
  · rw [if_pos c2, if_pos c2]; exact R2.mk h
  rw [if_neg c2, if_neg c2]
  by_cases c3 : fX9_isByte l3 = 0
  · rw [if_pos c3, if_pos c3]; exact R2.mk h
  rw [if_neg c3, if_neg c3]
  by_cases c4 : fX9_isByte l4 = 0
  · rw [if_pos c4, if_pos c4]; exact R2.mk h
  rw [if_neg c4, if_neg c4]
  by_cases c5 : fX9_isByte l5 = 0
  · rw [if_pos c5, if_pos c5]; exact R2.mk h
  rw [if_neg c5, if_neg c5]
  by_cases c6 : fX9_isByte l6 = 0
  · rw [if_pos c6, if_pos c6]; exact R2.mk h
  rw [if_neg c6, if_neg c6]
  by_cases c7 : ¬ (M.1 18 + l1 ≤ 160)
  · rw [if_neg c7, if_neg c7]; exact R2.mk h
  have c7 := Decidable.not_not.mp c7
  rw [if_pos c7, if_pos c7]
  have hr := wi_ne c1
  have e1 : (1 : Int32).toInt = 1 := rfl
  have e5 : (5 : Int32).toInt = 5 := rfl
  rw [e1, e5] at hr
  obtain ⟨n, rfl, hn, hne⟩ := nn_ge (i := l1) (by omega)
  obtain ⟨s, hs, hs31, hse⟩ := nn_ge h.2.2.2.2.2.1.2.1.1
  have hs160 := h.2.2.2.2.2.1.2.1.2
  rw [hs, nI_add] at c7
  have hsn : s + n ≤ 160 := by
    rw [show (160 : Int32) = nI 160 from rfl, nI_leI (by omega) (by omega)] at c7
    exact c7
  have hF : FU = 3994 + 6 := rfl
  have f0 : fdC l2 l3 l4 l5 l6 0 = l2 := rfl
  have f1 : fdC l2 l3 l4 l5 l6 1 = l3 := rfl
  have f2 : fdC l2 l3 l4 l5 l6 2 = l4 := rfl
  have f3 : fdC l2 l3 l4 l5 l6 3 = l5 := rfl
  have f4 : fdC l2 l3 l4 l5 l6 4 = l6 := rfl
  have h0 : (0 : Int32) = nI 0 := rfl
  rw [h0, hF]
  obtain ⟨a1, i1, S1, t1⟩ := add_ok h hs (by omega) (by_ge c2)
  rw [a1, Option.bind_some, fd_s (k := 3994 + 5) (by omega) (by omega) i1, f0]
  have hc : n = 1 ∨ n = 2 ∨ n = 3 ∨ n = 4 ∨ n = 5 := by omega
  rcases hc with rfl | rfl | rfl | rfl | rfl
  · rw [if_pos (by decide), if_pos (by decide), if_pos (by decide), if_pos (by decide), fd_e (k := 3994 + 4) (by omega) (by omega)]
    have := S1.2.2.2.2.2.1.1
    rw [this]
    exact R2.mk S1
  all_goals
    obtain ⟨a2, i2, S2, t2⟩ := add_ok S1 t1 (by omega) (by_ge c3)
    rw [if_neg (by decide), a2, Option.bind_some, fd_s (k := 3994 + 4) (by omega) (by omega) i2, f1]
  · rw [if_pos (by decide), if_pos (by decide), if_pos (by decide), fd_e (k := 3994 + 3) (by omega) (by omega)]
    have := S2.2.2.2.2.2.1.1
    rw [this]
    exact R2.mk S2
  all_goals
    obtain ⟨a3, i3, S3, t3⟩ := add_ok S2 t2 (by omega) (by_ge c4)
    rw [if_neg (by decide), a3, Option.bind_some, fd_s (k := 3994 + 3) (by omega) (by omega) i3, f2]
  · rw [if_pos (by decide), if_pos (by decide), fd_e (k := 3994 + 2) (by omega) (by omega)]
    have := S3.2.2.2.2.2.1.1
    rw [this]
    exact R2.mk S3
  all_goals
    obtain ⟨a4, i4, S4, t4⟩ := add_ok S3 t3 (by omega) (by_ge c5)
    rw [if_neg (by decide), a4, Option.bind_some, fd_s (k := 3994 + 2) (by omega) (by omega) i4, f3]
  · rw [if_pos (by decide), fd_e (k := 3994 + 1) (by omega) (by omega)]
    have := S4.2.2.2.2.2.1.1
    rw [this]
    exact R2.mk S4
  · obtain ⟨a5, i5, S5, t5⟩ := add_ok S4 t4 (by omega) (by_ge c6)
    rw [if_neg (by decide), a5, Option.bind_some, fd_s (k := 3994 + 1) (by omega) (by omega) i5, f4, fd_e (k := 3994) (by omega) (by omega)]
    have := S5.2.2.2.2.2.1.1
    rw [this]
    exact R2.mk S5

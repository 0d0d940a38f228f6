/-! a sheet made anew -/
def becX (X : XW) (s : Nat) (t z : Int32) : XW := xF (xI (xI X (39 + 2 * s) 1 t) (39 + 2 * s) 2 z) (39 + 2 * s + 1) 40 0
theorem xF_at (X : XW) (i n : Nat) (v : Int32) : (xF X i n v).2.1 i = fillN (X.2.1 i) n v := by simp [xF, xG]
theorem xF_ne (X : XW) {i j : Nat} (n : Nat) (v : Int32) (h : j ≠ i) : (xF X i n v).2.1 j = X.2.1 j := by simp [xF, xG, h]
theorem bec_ok {X : XW} {s z : Nat} (hs : s < 4) (hz : z ≤ 40) (t : Int32) : fX8_become X (39 + 2 * s) t (nI z) = some (becX X s t (nI z)) := by
  dsimp only [fX8_become, becX, bd]
  rw [if_pos (kd_sh hs), show (40 : Int32) = nI 40 from rfl, show (0 : Int32) = nI 0 from rfl, jmin_nI (by decide) (by omega), jmax_nI (by decide) (by omega), show max 0 (min 40 z) = z by omega]
/-- a sheet's new head and its zeros -/
theorem Sim.sh_b {X : XW} {M M' : MW} {nb s z : Nat} {t : Int32} (h : Sim X M nb) (hs : s < 4) (hz : z ≤ 40) (ht : -1 ≤ t.toInt ∧ t.toInt ≤ 2) (b1 : M'.1 = M.1) (b2 : ∀ i, i < 88 ∨ 90 < i → M'.2 i = M.2 i) (b88 : M'.2 88 = upd (M.2 88) s t) (b89 : M'.2 89 = upd (M.2 89) s (nI z)) (b90 : ∀ q, M'.2 90 q = if 40 * s ≤ q ∧ q < 40 * s + 40 then 0 else M.2 90 q) : Sim (becX X s t (nI z)) M' nb := by
  refine h.sh (fun i hi => ?_) (fun i hi => ?_) rfl b1 b2 ?_
  · show (xI (xI X (39 + 2 * s) 1 t) (39 + 2 * s) 2 (nI z)).1 i = _
    rw [xI_ne _ _ _ (by omega), xI_ne _ _ _ (by omega)]
  · exact xF_ne _ _ _ (by omega)
  have g := h.2.2.2.2.2.2.2.1
  intro s' hs'
  obtain ⟨g1, g2, g3, g4, g5⟩ := g s' hs'
  rw [b88, b89]
  unfold upd
  by_cases q : s' = s
  · subst q
    rw [if_pos rfl, if_pos rfl]
    refine ⟨?_, ?_, by rw [nI_toInt (by omega)]; omega, ht, fun j hj => ?_⟩
    · show (xI (xI X (39 + 2 * s') 1 t) (39 + 2 * s') 2 (nI z)).1 (39 + 2 * s') 1 = _
      rw [xI_k _ _ _ (by decide), xI_at]
    · show (xI (xI X (39 + 2 * s') 1 t) (39 + 2 * s') 2 (nI z)).1 (39 + 2 * s') 2 = _
      rw [xI_at]
    · rw [b90, if_pos (by omega), show 40 + 2 * s' = 39 + 2 * s' + 1 by omega]
      unfold becX
      rw [xF_at]
      exact if_pos hj
  · rw [if_neg q, if_neg q]
    refine ⟨?_, ?_, g3, g4, fun j hj => ?_⟩
    · show (xI (xI X (39 + 2 * s) 1 t) (39 + 2 * s) 2 (nI z)).1 (39 + 2 * s') 1 = _
      rw [xI_ne _ _ _ (by omega), xI_ne _ _ _ (by omega)]
      exact g1
    · show (xI (xI X (39 + 2 * s) 1 t) (39 + 2 * s) 2 (nI z)).1 (39 + 2 * s') 2 = _
      rw [xI_ne _ _ _ (by omega), xI_ne _ _ _ (by omega)]
      exact g2
    · rw [b90, if_neg (by omega)]
      unfold becX
      rw [xF_ne _ _ _ (by omega)]
      exact g5 j hj
theorem zero_lo {s : Nat} (hs : s < 4) : ∀ (n k : Nat) (M : MW), 40 < n + k → k ≤ 40 → ∃ M', lo2 (fX10_sheet_l70 (nI s)) n M (nI k) = some (1, M') ∧ M'.1 = M.1 ∧ (∀ i, i ≠ 90 → M'.2 i = M.2 i) ∧ ∀ q, M'.2 90 q = if 40 * s + k ≤ q ∧ q < 40 * s + 40 then 0 else M.2 90 q := by
  intro n
  induction n with
  | zero => intro k M h1 h2; omega
  | succ n ih =>
    intro k M h1 h2
    show ∃ M', fX10_sheet_l70 (nI s) (lo2 (fX10_sheet_l70 (nI s)) n) M (nI k) = some (1, M') ∧ _
    generalize hL : lo2 (fX10_sheet_l70 (nI s)) n = L at ih ⊢
    dsimp only [fX10_sheet_l70, bd]
    by_cases hk : 40 ≤ k
    · rw [if_pos (show (40 : Int32) ≤ nI k from nI_le (a := 40) hk (by omega))]
      exact ⟨M, rfl, rfl, fun _ _ => rfl, fun q => by rw [if_neg (by omega)]⟩
    rw [if_neg (show ¬ (40 : Int32) ≤ nI k from nI_ge (b := 40) (by omega) (by omega))]
    have e40 : (40 : Int32) * nI s + nI k = nI (40 * s + k) := by rw [show (40 : Int32) * nI s = nI (40 * s) from pk_mul 40 s, nI_add]
    rw [e40, if_pos (in_nI (by omega) (by omega)), nI_1]
    obtain ⟨M', e1, e2, e3, e4⟩ := ih (k + 1) (mA M 90 (nI (40 * s + k)) 0) (by omega) (by omega)
    refine ⟨M', e1, e2, fun i hi => (e3 i hi).trans (mA_ne _ _ _ hi), fun q => ?_⟩
    rw [e4, mA_at, cl_nI (by omega)]
    unfold upd
    by_cases c : 40 * s + (k + 1) ≤ q ∧ q < 40 * s + 40
    · rw [if_pos c, if_pos (by omega)]
    · rw [if_neg c]
      by_cases c2 : q = 40 * s + k
      · rw [if_pos c2, if_pos (by omega)]
      · rw [if_neg c2, if_neg (by omega)]
theorem p_sheet {X : XW} {M : MW} {nb : Nat} (h : Sim X M nb) (a t z : Int32) : R2 nb (fX9_sheet X a t z) (fX10_sheet M a t z) := by
  dsimp only [fX9_sheet, fX10_sheet, fX10_sheet_b32, fX10_sheet_b44, fX10_sheet_b66, bd]
  rw [in_eq]
  rcases sheet_of X a with ⟨c1, c2⟩ | ⟨c1, s, hs, rfl, c2⟩
  · rw [c2, if_pos c1]; exact R2.mk h
  have is : inb (nI s) 4 := in_nI hs (by omega)
  have hcl : (nI s).toNatClampNeg = s := cl_nI (by omega)
  rw [c2, if_neg c1, Option.bind_some]
  dsimp only [oc]
  by_cases c3 : fX9_within t (-1) 2 = 0
  · rw [if_pos c3, if_pos c3]; exact R2.mk h
  rw [if_neg c3, if_neg c3]
  have wt := wi_ne c3
  have em1 : (-1 : Int32).toInt = -1 := rfl
  have e2 : (2 : Int32).toInt = 2 := rfl
  have e0 : (0 : Int32).toInt = 0 := rfl
  have e40 : (40 : Int32).toInt = 40 := rfl
  rw [em1, e2] at wt
  have go : ∀ zz : Nat, zz ≤ 40 → R2 nb (some (1, becX X s t (nI zz))) (lo2 (fX10_sheet_l70 (nI s)) FU (mA (mA M 88 (nI s) t) 89 (nI s) (nI zz)) 0) := by
    intro zz hz
    obtain ⟨M', f1, f2, f3, f4⟩ := zero_lo hs FU 0 (mA (mA M 88 (nI s) t) 89 (nI s) (nI zz)) (by unfold FU; omega) (by omega)
    rw [show (0 : Int32) = nI 0 from rfl, f1]
    refine R2.mk (h.sh_b hs hz wt f2 (fun i hi => (f3 i (by omega)).trans ((mA_ne _ _ _ (by omega)).trans (mA_ne _ _ _ (by omega)))) ?_ ?_ (fun q => ?_))
    · rw [f3 88 (by decide), mA_ne _ _ _ (by decide), mA_at, hcl]
    · rw [f3 89 (by decide), mA_at, hcl, mA_ne _ _ _ (by decide)]
    · rw [f4, mA_ne _ _ _ (by decide), mA_ne _ _ _ (by decide)]
      rfl
  by_cases c4 : t = -1
  · simp only [if_pos c4, if_pos is, if_pos (kd_sh hs)]
    rw [show fX8_become X (39 + 2 * s) (-1) 0 = fX8_become X (39 + 2 * s) t (nI 0) by rw [c4]; rfl, bec_ok hs (by omega) t, Option.bind_some]
    exact go 0 (by omega)
  simp only [if_neg c4, if_pos is, if_pos (kd_sh hs)]
  by_cases c5 : ¬ z ≤ 40
  · rw [if_neg c5, if_neg c5]; exact R2.mk h
  have c5 := Decidable.not_not.mp c5
  rw [if_pos c5, if_pos c5]
  by_cases c6 : ¬ 0 ≤ z
  · rw [if_neg c6, if_neg c6]; exact R2.mk h
  have c6 := Decidable.not_not.mp c6
  rw [if_pos c6, if_pos c6]
  rw [i_le, e40] at c5
  rw [i_le, e0] at c6
  obtain ⟨zz, rfl, -, hz⟩ := nn_ge c6
  rw [bec_ok hs (by omega) t, Option.bind_some]
  exact go zz (by omega)

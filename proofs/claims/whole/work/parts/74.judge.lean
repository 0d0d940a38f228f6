/-! judge, which -/
theorem kd_sh' {s : Nat} (h : s < 4) : kd (39 + 2 * s + 1) = 11 ∧ ln (39 + 2 * s + 1) = 40 := kd_sr h
theorem film_ref {X : XW} {M : MW} {nb h0 : Nat} (h : Sim X M nb) (h7 : M.1 7 = nI h0) (h12 : h0 < 12) (l : Int32) : (fX9_sheetOf X l = some none ∧ fX10_filmWrong M l = some (-2)) ∨ ∃ s, s < 4 ∧ l = nI s ∧ fX9_sheetOf X l = some (some (39 + 2 * s)) ∧ ∃ v, fX9_filmRefusal X (some (39 + 2 * s)) = some v ∧ fX10_filmWrong M l = some v ∧ (v = 0 → ∃ z, M.2 89 s = nI z ∧ h0 + z ≤ 12) := by
  unfold fX10_filmWrong
  rw [in_eq]
  rcases sheet_of X l with ⟨c1, c2⟩ | ⟨c1, s, hs, rfl, c2⟩
  · rw [c2, if_pos c1]; exact Or.inl ⟨rfl, rfl⟩
  have is : inb (nI s) 4 := in_nI hs (by omega)
  obtain ⟨g1, g2, g3, g4, g5⟩ := h.2.2.2.2.2.2.2.1 s hs
  refine Or.inr ⟨s, hs, rfl, c2, ?_⟩
  dsimp only [fX9_filmRefusal, oc]
  rw [if_neg c1, if_pos (kd_sh hs), g_miss h hs, rd_in is, rd_in is, cl_nI (show s < 2 ^ 31 by omega), g2, h.1.2.2.2.2.2.2.2.2.1, h7]
  simp only [Option.bind_some]
  by_cases c3 : M.2 88 s = -1
  · rw [if_pos c3, if_pos c3, if_neg n10]; exact ⟨-11, rfl, rfl, fun q => absurd q (by decide)⟩
  rw [if_neg c3, if_neg c3, if_pos rfl]
  by_cases c4 : fX9_within (M.2 89 s) 1 (12 - nI h0) = 0
  · rw [if_pos c4]; exact ⟨-2, rfl, rfl, fun q => absurd q (by decide)⟩
  rw [if_neg c4]
  refine ⟨0, rfl, rfl, fun _ => ?_⟩
  have w := wi_ne c4
  rw [show (12 : Int32) - nI h0 = nI (12 - h0) from pk_sub (a := 12) (by omega), nI_toInt (by omega)] at w
  obtain ⟨z, e, -, he⟩ := nn_ge g3.1
  exact ⟨z, e, by omega⟩
theorem fe_both {X : XW} {M : MW} {nb i s z h0 : Nat} {L : Nat → Int32} (hi : i < 6) (hs : s < 4) (hz : h0 + z ≤ 12) (a1 : X.1 (39 + 2 * s) 2 = nI z) (a2 : M.2 89 s = nI z) (h7x : X.1 0 11 = nI h0) (h7 : M.1 7 = nI h0) (hx : ∀ u, u < z → X.2.1 (27 + 2 * i + 1) (h0 + u) = L u) (hm : ∀ u, u < z → M.2 100 (6 * (h0 + u) + i) = L u) (hc : ∀ j, j < 40 → X.2.1 (40 + 2 * s) j = M.2 90 (40 * s + j)) : ∃ v, lo2 (fX9_firstElsewhere_l34 nb (39 + 2 * s) (27 + 2 * i)) FU X 0 = some (v, X) ∧ fX10_elsewhere M (nI i) (nI s) = some v := by
  have lo : ∀ (m t : Nat), z < m + t → t ≤ z → ∃ v, lo2 (fX9_firstElsewhere_l34 nb (39 + 2 * s) (27 + 2 * i)) m X (nI t) = some (v, X) ∧ lo1 (fX10_elsewhere_l2 M (nI i) (nI s)) m (nI t) = some v := by
    intro m
    induction m with
    | zero => intro t h1 h2; omega
    | succ m ih =>
      intro t h1 h2
      show ∃ v, fX9_firstElsewhere_l34 nb (39 + 2 * s) (27 + 2 * i) (lo2 (fX9_firstElsewhere_l34 nb (39 + 2 * s) (27 + 2 * i)) m) X (nI t) = some (v, X) ∧ fX10_elsewhere_l2 M (nI i) (nI s) (lo1 (fX10_elsewhere_l2 M (nI i) (nI s)) m) (nI t) = some v
      generalize hG : lo2 (fX9_firstElsewhere_l34 nb (39 + 2 * s) (27 + 2 * i)) m = G at ih ⊢
      generalize hK : lo1 (fX10_elsewhere_l2 M (nI i) (nI s)) m = K at ih ⊢
      unfold fX9_firstElsewhere_l34 fX10_elsewhere_l2
      rw [if_pos (kd_sh hs), a1, rd_in (in_nI hs (by omega)), cl_nI (show s < 2 ^ 31 by omega), a2, Option.bind_some, h7x, h7, nI_1, nI_add]
      by_cases ht : z ≤ t
      · rw [if_pos (nI_le ht (by omega)), if_pos (nI_le ht (by omega))]; exact ⟨_, rfl, rfl⟩
      have e40 : (40 : Int32) * nI s + nI t = nI (40 * s + t) := by rw [show (40 : Int32) * nI s = nI (40 * s) from pk_mul 40 s, nI_add]
      have e6 : (6 : Int32) * nI (h0 + t) + nI i = nI (6 * (h0 + t) + i) := by rw [show (6 : Int32) * nI (h0 + t) = nI (6 * (h0 + t)) from pk_mul 6 _, nI_add]
      rw [if_neg (nI_ge (by omega) (by omega)), if_neg (nI_ge (by omega) (by omega)), rd_in (in_nI (show t < 40 by omega) (by omega)), cl_nI (show t < 2 ^ 31 by omega), Option.bind_some, if_pos (kd_co hi).1, lies_in hi (show h0 + t < 12 by omega), Option.bind_some, e40, e6, rd_in (in_nI (show 40 * s + t < 160 by omega) (by omega)), rd_in (in_nI (show 6 * (h0 + t) + i < 72 by omega) (by omega)), cl_nI (show 40 * s + t < 2 ^ 31 by omega), cl_nI (show 6 * (h0 + t) + i < 2 ^ 31 by omega), Option.bind_some, Option.bind_some, hx t (by omega), hm t (by omega), show 39 + 2 * s + 1 = 40 + 2 * s by omega, hc t (by omega)]
      by_cases q : M.2 90 (40 * s + t) = L t
      · rw [if_pos q, if_pos q]; exact ih (t + 1) (by omega) (by omega)
      · rw [if_neg q, if_neg q]; exact ⟨_, rfl, rfl⟩
  exact lo FU 0 (by unfold FU; omega) (by omega)
/-- a boat held against a film -/
theorem else_ok {X X0 : XW} {M M' : MW} {H : Nat → Prop} {nb nB i s z h0 : Nat} (E : ESim X M H) (F : flt X M nb nB) (hi : i < nB) (hb : boatAt X M nb i (bOf X i)) (a0 : nX X X0) (hs : s < 4) (hS : SSheet X M) (h7 : M.1 7 = nI h0) (h7x : X.1 0 11 = nI h0) (h89 : M.2 89 s = nI z) (hn : h0 + z ≤ 12) (hH : ∀ h, h0 ≤ h → h < h0 + z → H h) (g : gone X M M' nb nB h0 z) : ∃ v X', fX9_firstElsewhere X0 nb (nI i) (bOf X i) (39 + 2 * s) = some (v, X') ∧ fX10_elsewhere M' (nI i) (nI s) = some v ∧ nX X X' := by
  have h6 := F.1
  obtain ⟨s1, s2, s3, s4, s5⟩ := hS s hs
  have h7x0 : X0.1 0 11 = nI h0 := by rw [a0.1 0 (by decide)]; exact h7x
  have hz0 : X0.1 (39 + 2 * s) 2 = nI z := by rw [a0.1 _ (by omega), s2]; exact h89
  obtain ⟨X1, g1, g2, g3, g4⟩ := sailed_ok (X0 := X0) E F hi hb a0 h7x0 hn hH
  have n1 : nX X X1 := a0.tr (g2.n (by omega))
  obtain ⟨v, k1, k2⟩ := fe_both (nb := nb) (X := X1) (M := M') (i := i) (s := s) (z := z) (h0 := h0) (L := lyA X M nb h0 i) (by omega) hs hn (by rw [n1.1 _ (by omega), s2]; exact h89) (by rw [g.1.2 89 (by decide)]; exact h89) (by rw [n1.1 0 (by decide)]; exact h7x) ((g.1.1 7 (by decide)).trans h7) g4 (fun u hu => g.2.2.1 u hu i hi) (fun j hj => by rw [n1.2.2 _ (by omega) (by omega) (by omega) (by omega), g.1.2 90 (by decide)]; exact s5 j hj)
  refine ⟨v, X1, ?_, k2, n1⟩
  dsimp only [fX9_firstElsewhere, bd]
  rw [if_pos (in_nI (show i < 6 by omega) (by omega)), cl_nI (show i < 2 ^ 31 by omega), if_pos (kd_sh hs), hz0, g1, Option.bind_some, k1]
theorem p_judge {X : XW} {M : MW} {nb : Nat} (h : Sim X M nb) (a l : Int32) : R2 nb (fX9_judge X nb a l) (fX10_judge M a l) := by
  unfold fX9_judge fX10_judge
  rcases boat_of h a with ⟨c1, c2⟩ | ⟨c1, i, b, rfl, hi, hi8, hb, c2⟩
  · rw [c2, if_pos c1]; exact R2.mk h
  rw [c2, if_neg c1, Option.bind_some]
  dsimp only [oc]
  obtain ⟨h0, h12, h7, h7x⟩ := g_now h
  rcases film_ref h h7 h12 l with ⟨k1, k2⟩ | ⟨s, hs, rfl, k1, v, k2, k3, k4⟩
  · rw [k1, k2, Option.bind_some, Option.bind_some, if_neg (by decide)]
    exact R2.mk h
  rw [k1, k3, Option.bind_some, Option.bind_some, k2, Option.bind_some]
  dsimp only [oc]
  by_cases v0 : v = 0
  rotate_left
  · rw [if_neg v0, if_neg v0]; exact R2.mk h
  obtain ⟨z, hz, hz2⟩ := k4 v0
  obtain ⟨nB, hB, h8, h8x, F⟩ := h.nB
  have hib : i < nB := by rw [h8, nI_toInt (by omega)] at hi8; omega
  have eb := bOf_at hb
  obtain ⟨M', f1, f2⟩ := goes_ok h.es F h7 hz2 (fun _ _ _ => trivial)
  obtain ⟨w, X', e1, e2, e3⟩ := else_ok h.es F hib (by rw [eb]; exact hb) (nX.rf X) hs h.2.2.2.2.2.2.2.1 h7 h7x hz hz2 (fun _ _ _ => trivial) f2
  rw [eb] at e1
  rw [if_pos v0, if_pos v0, rd_in (in_nI hs (by omega)), cl_nI (show s < 2 ^ 31 by omega), hz, Option.bind_some, f1, bs_M, e1, bd2_s, e2, Option.bind_some]
  exact R2.mk (h.n e3 f2.1)
theorem p_which {X : XW} {M : MW} {nb : Nat} (h : Sim X M nb) (l : Int32) : R2 nb (fX9_which X nb l) (fX10_which M l) := by
  unfold fX9_which fX10_which
  obtain ⟨h0, h12, h7, h7x⟩ := g_now h
  rcases film_ref h h7 h12 l with ⟨k1, k2⟩ | ⟨s, hs, rfl, k1, v, k2, k3, k4⟩
  · rw [k1, k2, Option.bind_some, Option.bind_some, if_neg (by decide)]
    exact R2.mk h
  rw [k1, k3, Option.bind_some, Option.bind_some, k2, Option.bind_some]
  dsimp only [oc]
  by_cases v0 : v = 0
  rotate_left
  · rw [if_neg v0, if_neg v0]; exact R2.mk h
  obtain ⟨z, hz, hz2⟩ := k4 v0
  obtain ⟨nB, hB, h8, h8x, F⟩ := h.nB
  obtain ⟨M', f1, f2⟩ := goes_ok h.es F h7 hz2 (fun _ _ _ => trivial)
  rw [if_pos v0, if_pos v0, rd_in (in_nI hs (by omega)), cl_nI (show s < 2 ^ 31 by omega), hz, Option.bind_some, f1, bs_M]
  have lo : ∀ (m t : Nat) (w : Int32) (X1 : XW), 6 < m + t → t ≤ nB → nX X X1 → R2 nb (lo3 (fX9_which_l28 nb (some (39 + 2 * s))) m X1 w (nI t)) (lo3 (fX10_which_l27 (nI s)) m M' w (nI t)) := by
    intro m
    induction m with
    | zero => intro t w X1 h1 h2; omega
    | succ m ih =>
      intro t w X1 h1 h2 a
      show R2 nb (fX9_which_l28 nb (some (39 + 2 * s)) (lo3 (fX9_which_l28 nb (some (39 + 2 * s))) m) X1 w (nI t)) (fX10_which_l27 (nI s) (lo3 (fX10_which_l27 (nI s)) m) M' w (nI t))
      generalize hG : lo3 (fX9_which_l28 nb (some (39 + 2 * s))) m = G at ih ⊢
      generalize hK : lo3 (fX10_which_l27 (nI s)) m = K at ih ⊢
      dsimp only [fX9_which_l28, fX10_which_l27, bd]
      rw [a.1 0 (by decide), h8x, f2.1.1 8 (by decide), h8, nI_1, or0]
      by_cases ht : nB ≤ t
      · rw [if_pos (nI_le ht (by omega)), if_pos (nI_le ht (by omega))]
        exact R2.mk (h.n a f2.1)
      have bt := h.at h8 hB (show t < nB by omega)
      have it : inb (nI t) 6 := in_nI (by omega) (by omega)
      obtain ⟨v', X2, e1, e2, e3⟩ := else_ok h.es F (show t < nB by omega) bt a hs h.2.2.2.2.2.2.2.1 h7 h7x hz hz2 (fun _ _ _ => trivial) f2
      rw [if_neg (nI_ge (by omega) (by omega)), if_neg (nI_ge (by omega) (by omega)), rdR_in it, cl_nI (show t < 2 ^ 31 by omega), a.2.1, bt.1, Option.bind_some, Option.bind_some, Option.bind_some, e1, bd2_s, e2, Option.bind_some]
      by_cases q : v' = -1
      · rw [if_pos q, if_pos q]; exact ih (t + 1) _ X2 (by omega) (by omega) e3
      · rw [if_neg q, if_neg q]; exact ih (t + 1) _ X2 (by omega) (by omega) e3
  exact lo FU 0 0 X (by unfold FU; omega) (by omega) (nX.rf X)

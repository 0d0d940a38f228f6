/-! laws, film -/
def lX (X X' : XW) : Prop := (∀ i, i < 27 ∨ 38 < i → X'.1 i = X.1 i) ∧ (∀ i k, ¬ (i = 10 ∧ k = 3) → X'.2.2 i k = X.2.2 i k) ∧ ∀ i, i ≠ 11 → i ≠ 12 → i ≠ 15 → (i < 28 ∨ 38 < i) → X'.2.1 i = X.2.1 i
def lM (M M' : MW) : Prop := (∀ k, k ≠ 55 → k ≠ 22 → M'.1 k = M.1 k) ∧ ∀ i, i < 94 ∨ i = 96 → M'.2 i = M.2 i
theorem xR_eq {X X' : XW} (a : lX X X') (v : Option Nat) : (xR X' 10 3 v).2.2 = (xR X 10 3 v).2.2 := by
  funext j k
  show (if j = 10 then va_up (X'.2.2 j) 3 v else X'.2.2 j) k = (if j = 10 then va_up (X.2.2 j) 3 v else X.2.2 j) k
  by_cases q : j = 10
  · rw [if_pos q, if_pos q]
    unfold va_up
    by_cases q2 : k = 3
    · rw [if_pos q2, if_pos q2]
    · rw [if_neg q2, if_neg q2]; exact a.2.1 j k (fun z => q2 z.2)
  · rw [if_neg q, if_neg q]; exact a.2.1 j k (fun z => q z.1)
theorem lX.n {X X' : XW} (a : lX X X') (v : Option Nat) : nX (xR X 10 3 v) (xR X' 10 3 v) := ⟨a.1, xR_eq a v, a.2.2⟩
theorem lX.of {X X' : XW} {v : Option Nat} (b : nX (xR X 10 3 v) X') : lX X X' := by
  refine ⟨b.1, fun i k h => ?_, b.2.2⟩
  rw [b.2.1]
  show (if i = 10 then va_up (X.2.2 i) 3 v else X.2.2 i) k = X.2.2 i k
  by_cases q : i = 10
  · rw [if_pos q, va_up_ne _ _ (fun z => h ⟨q, z⟩)]
  · rw [if_neg q]
theorem p_laws {X : XW} {M : MW} {nb : Nat} (h : Sim X M nb) (a l : Int32) : R2 nb (fX9_laws X nb a l) (fX10_laws M a l) := by
  unfold fX9_laws fX10_laws
  rcases boat_of h a with ⟨c1, c2⟩ | ⟨c1, i, b, rfl, hi, hi8, hb, c2⟩
  · rw [c2, if_pos c1]; exact R2.mk h
  rw [c2, if_neg c1, Option.bind_some]
  dsimp only [oc]
  obtain ⟨h0, h12, h7, h7x⟩ := g_now h
  rcases film_ref h h7 h12 l with ⟨k1, k2⟩ | ⟨s, hs, rfl, k1, v, k2, k3, k4⟩
  · rw [k1, k2, Option.bind_some, Option.bind_some, if_neg (by decide)]
    exact R2.mk h
  rw [k1, k3, Option.bind_some, Option.bind_some, k2, Option.bind_some]
  dsimp only [oc]
  by_cases v0 : v = 0
  rotate_left
  · rw [if_neg v0, if_neg v0]; exact R2.mk h
  obtain ⟨z, hz, hz2⟩ := k4 v0
  obtain ⟨nB, hB, h8, h8x, F⟩ := h.nB
  have hib : i < nB := by rw [h8, nI_toInt (by omega)] at hi8; omega
  have eb := bOf_at hb
  rw [if_pos v0, if_pos v0, bd]
  obtain ⟨T, hT, -, hTe⟩ := nn_ge (i := M.1 21) (by have := h.2.2.1.2.1.1; omega)
  have hT6 := h.2.2.1.2.1.2
  have hTx : X.1 0 13 = nI T := h.2.2.1.1.trans hT
  obtain ⟨r, hr, -, hre⟩ := nn_ge h.2.2.2.1.2.1.1
  have hr6 := h.2.2.2.1.2.1.2
  have hrx : X.1 0 14 = nI r := h.2.2.2.1.1.trans hr
  have lo : ∀ (m t : Nat) (w : Int32) (X1 : XW) (M1 : MW), 6 < m + t → t ≤ T → lX X X1 → lM M M1 → R2 nb (lo3 (fX9_laws_l47 nb (nI i) (some b) (some (39 + 2 * s))) m X1 w (nI t)) (lo3 (fX10_laws_l35 (nI i) (nI s) (M.1 22)) m M1 w (nI t)) := by
    intro m
    induction m with
    | zero => intro t w X1 M1 h1 h2; omega
    | succ m ih =>
      intro t w X1 M1 h1 h2 aX aM
      show R2 nb (fX9_laws_l47 nb (nI i) (some b) (some (39 + 2 * s)) (lo3 (fX9_laws_l47 nb (nI i) (some b) (some (39 + 2 * s))) m) X1 w (nI t)) (fX10_laws_l35 (nI i) (nI s) (M.1 22) (lo3 (fX10_laws_l35 (nI i) (nI s) (M.1 22)) m) M1 w (nI t))
      generalize hG : lo3 (fX9_laws_l47 nb (nI i) (some b) (some (39 + 2 * s))) m = G at ih ⊢
      generalize hK : lo3 (fX10_laws_l35 (nI i) (nI s) (M.1 22)) m = K at ih ⊢
      dsimp only [fX9_laws_l47, fX10_laws_l35, fX9_laws_b97, fX10_laws_b89, bd]
      rw [aX.1 0 (by decide), hTx, aM.1 21 (by decide) (by decide), hT, nI_1, or0]
      by_cases ht : T ≤ t
      · rw [if_pos (nI_le ht (by omega)), if_pos (nI_le ht (by omega)), hrx, if_pos (in_nI (show r < 6 by omega) (by omega)), cl_nI (show r < 2 ^ 31 by omega)]
        refine R2.mk (h.n ⟨aX.1, ?_, aX.2.2⟩ ⟨fun k hk => ?_, aM.2⟩)
        · rw [xR_eq aX]
          funext j k
          show (if j = 10 then va_up (X.2.2 j) 3 (some (47 + 3 * r)) else X.2.2 j) k = X.2.2 j k
          by_cases q : j = 10
          · subst q
            rw [if_pos rfl]
            unfold va_up
            by_cases q2 : k = 3
            · subst q2
              rw [if_pos rfl, h.2.2.2.1.2.2, hr, cl_nI (by omega)]
            · rw [if_neg q2]
          · rw [if_neg q]
        · by_cases q : k = 22
          · subst q; exact mI_at _ _ _
          · exact (va_up_ne _ _ q).trans (aM.1 k hk q)
      have it : inb (nI t) 6 := in_nI (by omega) (by omega)
      rw [if_neg (nI_ge (by omega) (by omega)), if_neg (nI_ge (by omega) (by omega)), if_pos it, cl_nI (show t < 2 ^ 31 by omega), Option.bind_some, Option.bind_some]
      have bX := aX.n (some (47 + 3 * t))
      have m22 : (mI M1 22 (nI t)).1 22 = nI t := mI_at _ _ _
      have mk : ∀ k, k ≠ 55 → k ≠ 22 → (mI M1 22 (nI t)).1 k = M.1 k := fun k h55 h22 => (va_up_ne _ _ h22).trans (aM.1 k h55 h22)
      have mr : ∀ k, k < 94 ∨ k = 96 → (mI M1 22 (nI t)).2 k = M.2 k := aM.2
      have Et : ESim (xR X 10 3 (some (47 + 3 * t))) (mI M1 22 (nI t)) All := by
        refine ⟨?_, ⟨t, by omega, m22, ?_, ?_⟩, 5, Or.inl rfl, ?_, fun k hk _ => ?_⟩
        · have h1 := h.1
          unfold SBay at h1 ⊢
          rw [mk 7 (by decide) (by decide), mr 66 (by decide), mr 67 (by decide), mr 68 (by decide), mr 69 (by decide), mr 70 (by decide), mr 71 (by decide), mr 72 (by decide), mr 92 (by decide)]
          exact h1
        · rfl
        · have h3 := h.2.2.1.2.2 t (by omega)
          unfold STx at h3 ⊢
          rw [mr 83 (by decide), mr 82 (by decide)]
          exact h3
        · show va_up (X.2.2 10) 3 (some (47 + 3 * t)) 4 = some 5
          rw [va_up_ne _ _ (by decide)]
          exact h.2.2.2.2.1.1
        · unfold fX10_windIn
          rw [if_pos ((mk 46 (by decide) (by decide)).trans h.2.2.2.2.1.2), rd_in (in_nI hk (by omega)), cl_nI (show k < 2 ^ 31 by omega), Option.bind_some, mr 69 (by decide)]
          exact congrArg some (congrFun h.1.2.2.2.1 k).symm
      have ebt : ∀ j, bOf (xR X 10 3 (some (47 + 3 * t))) j = bOf X j := fun j => rfl
      have ept : ∀ j, pOf (mI M1 22 (nI t)) j = pOf M j := fun j => by unfold pOf; rw [mr 78 (by decide)]
      have Ft : flt (xR X 10 3 (some (47 + 3 * t))) (mI M1 22 (nI t)) nb nB := by
        refine ⟨hB, (mk 8 (by decide) (by decide)).trans h8, fun j hj => ?_⟩
        obtain ⟨q1, q2, q3, q4⟩ := F.2.2 j hj
        rw [ebt, ept, mr 77 (by decide), mr 78 (by decide)]
        refine ⟨?_, q2, q3, q4⟩
        unfold kAt at q1 ⊢
        rw [mr 73 (by decide), mr 74 (by decide), mr 75 (by decide), mr 76 (by decide)]
        exact q1
      have bt : boatAt (xR X 10 3 (some (47 + 3 * t))) (mI M1 22 (nI t)) nb i b := by
        unfold boatAt at hb ⊢
        rw [mr 73 (by decide), mr 74 (by decide), mr 75 (by decide), mr 76 (by decide), mr 77 (by decide), mr 78 (by decide)]
        exact hb
      have h7t : (mI M1 22 (nI t)).1 7 = nI h0 := (mk 7 (by decide) (by decide)).trans h7
      have hzt : (mI M1 22 (nI t)).2 89 s = nI z := by rw [mr 89 (by decide)]; exact hz
      obtain ⟨M2, f1, f2⟩ := goes_ok Et Ft h7t hz2 (fun _ _ _ => trivial)
      obtain ⟨v', X2, e1, e2, e3⟩ := else_ok (X0 := xR X1 10 3 (some (47 + 3 * t))) Et Ft hib (by rw [ebt, eb]; exact bt) bX hs (by
        have h8 := h.2.2.2.2.2.2.2.1
        unfold SSheet at h8 ⊢
        rw [mr 88 (by decide), mr 89 (by decide), mr 90 (by decide)]
        exact h8) h7t h7x hzt hz2 (fun _ _ _ => trivial) f2
      rw [ebt, eb] at e1
      rw [e1, bd2_s, rd_in (in_nI hs (by omega)), cl_nI (show s < 2 ^ 31 by omega), hzt, Option.bind_some, f1, bs_M, e2, Option.bind_some]
      have aX2 : lX X X2 := lX.of e3
      have aM2 : lM M M2 := ⟨fun k h55 h22 => (f2.1.1 k h55).trans (mk k h55 h22), fun k hk => (f2.1.2 k hk).trans (mr k hk)⟩
      by_cases q : v' = -1
      · rw [if_pos q, if_pos q]; exact ih (t + 1) _ X2 M2 (by omega) (by omega) aX2 aM2
      · rw [if_neg q, if_neg q]; exact ih (t + 1) _ X2 M2 (by omega) (by omega) aX2 aM2
  exact lo FU 0 0 X M (by unfold FU; omega) (by omega) ⟨fun _ _ => rfl, fun _ _ _ => rfl, fun _ _ _ _ _ => rfl⟩ ⟨fun _ _ _ => rfl, fun _ _ => rfl⟩
/-- a film made -/
theorem film_X {X : XW} {nb i s n h0 : Nat} {L : Nat → Int32} (hi : i < 6) (hs : s < 4) (hn : h0 + n ≤ 12) (h7x : X.1 0 11 = nI h0) (hl : ∀ u, u < n → X.2.1 (27 + 2 * i + 1) (h0 + u) = L u) (h1 : X.1 (39 + 2 * s) 1 = 2) (h2 : X.1 (39 + 2 * s) 2 = nI n) (hr : ∀ j, j < 40 → X.2.1 (39 + 2 * s + 1) j = 0) : ∃ X', lo2 (fX9_film_l61 nb (nI n) (some (39 + 2 * s)) (some (27 + 2 * i))) FU X 0 = some (nI n, X') ∧ X'.1 = X.1 ∧ X'.2.2 = X.2.2 ∧ (∀ k, k ≠ 39 + 2 * s + 1 → X'.2.1 k = X.2.1 k) ∧ ∀ j, j < 40 → X'.2.1 (39 + 2 * s + 1) j = if j < n then L j else 0 := by
  have lo : ∀ (m t : Nat) (X1 : XW), n < m + t → t ≤ n → X1.1 = X.1 → X1.2.2 = X.2.2 → (∀ k, k ≠ 39 + 2 * s + 1 → X1.2.1 k = X.2.1 k) → (∀ j, j < 40 → X1.2.1 (39 + 2 * s + 1) j = if j < t then L j else 0) → ∃ X', lo2 (fX9_film_l61 nb (nI n) (some (39 + 2 * s)) (some (27 + 2 * i))) m X1 (nI t) = some (nI n, X') ∧ X'.1 = X.1 ∧ X'.2.2 = X.2.2 ∧ (∀ k, k ≠ 39 + 2 * s + 1 → X'.2.1 k = X.2.1 k) ∧ ∀ j, j < 40 → X'.2.1 (39 + 2 * s + 1) j = if j < n then L j else 0 := by
    intro m
    induction m with
    | zero => intro t X1 g1 g2; omega
    | succ m ih =>
      intro t X1 g1 g2 a1 a2 a3 a4
      show ∃ X', fX9_film_l61 nb (nI n) (some (39 + 2 * s)) (some (27 + 2 * i)) (lo2 (fX9_film_l61 nb (nI n) (some (39 + 2 * s)) (some (27 + 2 * i))) m) X1 (nI t) = some (nI n, X') ∧ _
      generalize hG : lo2 (fX9_film_l61 nb (nI n) (some (39 + 2 * s)) (some (27 + 2 * i))) m = G at ih ⊢
      dsimp only [fX9_film_l61, fX8_put, fX8_put_b45, bd]
      rw [nI_1, a1, h7x, nI_add]
      by_cases ht : t = n
      · subst ht
        rw [if_pos (nI_le (Nat.le_refl _) (by omega))]
        exact ⟨X1, rfl, a1, a2, a3, a4⟩
      have hw : ¬ fX9_within (nI t) 0 (nI n - 1) = 0 := by
        rw [show nI n - 1 = nI (n - 1) from pk_sub (b := 1) (by omega), show fX9_within (nI t) 0 (nI (n - 1)) = if 0 ≤ t ∧ t ≤ n - 1 then 1 else 0 from wi_nI (a := 0) (by omega) (by omega) (by omega), if_pos (by omega)]
        decide
      rw [if_neg (nI_ge (by omega) (by omega)), Option.bind_some, if_pos (kd_co hi).1, lies_in hi (show h0 + t < 12 by omega), Option.bind_some, Option.bind_some, if_pos (kd_sh hs), if_pos (kd_sh hs), h1, h2, if_neg hw, if_neg (show ¬ (2 : Int32) = 0 by decide), if_neg (show ¬ (2 : Int32) = 1 by decide), if_pos (kd_sr hs).1, (kd_sr hs).2, if_pos (in_nI (show t < 40 by omega) (by omega)), Option.bind_some, a3 _ (by omega), hl t (by omega)]
      refine ih (t + 1) _ (by omega) (by omega) a1 a2 (fun k hk => (xA_ne _ _ _ hk).trans (a3 k hk)) (fun j hj => ?_)
      rw [xA_at, cl_nI (show t < 2 ^ 31 by omega)]
      unfold upd
      by_cases e : j = t
      · rw [if_pos e, if_pos (by omega), e]
      · rw [if_neg e, a4 j hj]
        by_cases e2 : j < t
        · rw [if_pos e2, if_pos (by omega)]
        · rw [if_neg e2, if_neg (by omega)]
  exact lo FU 0 X (by unfold FU; omega) (by omega) rfl rfl (fun _ _ => rfl) (fun j hj => by rw [if_neg (by omega)]; exact hr j hj)
theorem film_M {M : MW} {i s n h0 : Nat} {L : Nat → Int32} (hi : i < 6) (hs : s < 4) (hn : h0 + n ≤ 12) (h7 : M.1 7 = nI h0) (hl : ∀ u, u < n → M.2 100 (6 * (h0 + u) + i) = L u) : ∃ M', lo2 (fX10_film_l56 (nI i) (nI s) (nI n)) FU M 0 = some (nI n, M') ∧ M'.1 = M.1 ∧ (∀ k, k ≠ 90 → M'.2 k = M.2 k) ∧ ∀ q, M'.2 90 q = if 40 * s ≤ q ∧ q < 40 * s + 40 then (if q - 40 * s < n then L (q - 40 * s) else 0) else M.2 90 q := by
  have lo : ∀ (m t : Nat) (M1 : MW), 40 < m + t → t ≤ 40 → M1.1 = M.1 → (∀ k, k ≠ 90 → M1.2 k = M.2 k) → (∀ q, M1.2 90 q = if 40 * s ≤ q ∧ q < 40 * s + t then (if q - 40 * s < n then L (q - 40 * s) else 0) else M.2 90 q) → ∃ M', lo2 (fX10_film_l56 (nI i) (nI s) (nI n)) m M1 (nI t) = some (nI n, M') ∧ M'.1 = M.1 ∧ (∀ k, k ≠ 90 → M'.2 k = M.2 k) ∧ ∀ q, M'.2 90 q = if 40 * s ≤ q ∧ q < 40 * s + 40 then (if q - 40 * s < n then L (q - 40 * s) else 0) else M.2 90 q := by
    intro m
    induction m with
    | zero => intro t M1 g1 g2; omega
    | succ m ih =>
      intro t M1 g1 g2 a1 a2 a3
      show ∃ M', fX10_film_l56 (nI i) (nI s) (nI n) (lo2 (fX10_film_l56 (nI i) (nI s) (nI n)) m) M1 (nI t) = some (nI n, M') ∧ _
      generalize hG : lo2 (fX10_film_l56 (nI i) (nI s) (nI n)) m = G at ih ⊢
      dsimp only [fX10_film_l56, fX10_film_b101, bd]
      rw [nI_1, a1, h7, nI_add]
      by_cases ht : t = 40
      · subst ht
        rw [if_pos (show (40 : Int32) ≤ nI 40 from nI_le (a := 40) (by omega) (by omega))]
        exact ⟨M1, rfl, a1, a2, a3⟩
      have e40 : (40 : Int32) * nI s + nI t = nI (40 * s + t) := by rw [show (40 : Int32) * nI s = nI (40 * s) from pk_mul 40 s, nI_add]
      have e6 : (6 : Int32) * nI (h0 + t) + nI i = nI (6 * (h0 + t) + i) := by rw [show (6 : Int32) * nI (h0 + t) = nI (6 * (h0 + t)) from pk_mul 6 _, nI_add]
      rw [if_neg (show ¬ (40 : Int32) ≤ nI t from nI_ge (b := 40) (by omega) (by omega)), e40, e6]
      have step : ∀ v, v = (if t < n then L t else 0) → ∃ M', (if inb (nI (40 * s + t)) 160 then G (mA M1 90 (nI (40 * s + t)) v) (nI (t + 1)) else none) = some (nI n, M') ∧ M'.1 = M.1 ∧ (∀ k, k ≠ 90 → M'.2 k = M.2 k) ∧ ∀ q, M'.2 90 q = if 40 * s ≤ q ∧ q < 40 * s + 40 then (if q - 40 * s < n then L (q - 40 * s) else 0) else M.2 90 q := by
        intro v hv
        rw [if_pos (in_nI (by omega) (by omega))]
        refine ih (t + 1) _ (by omega) (by omega) a1 (fun k hk => (mA_ne _ _ _ hk).trans (a2 k hk)) (fun q => ?_)
        rw [mA_at, cl_nI (show 40 * s + t < 2 ^ 31 by omega)]
        unfold upd
        by_cases e : q = 40 * s + t
        · rw [if_pos e, if_pos (by omega), hv, e, show 40 * s + t - 40 * s = t by omega]
        · rw [if_neg e, a3 q]
          by_cases e2 : 40 * s ≤ q ∧ q < 40 * s + t
          · rw [if_pos e2, if_pos (show 40 * s ≤ q ∧ q < 40 * s + (t + 1) by omega)]
          · rw [if_neg e2, if_neg (by omega)]
      by_cases q : n ≤ t
      · rw [if_pos (nI_le q (by omega))]
        exact step _ (by rw [if_neg (by omega)])
      · rw [if_neg (nI_ge (by omega) (by omega)), rd_in (in_nI (by omega) (by omega)), cl_nI (by omega), Option.bind_some, a2 100 (by decide), hl t (by omega)]
        exact step _ (by rw [if_pos (by omega)])
  exact lo FU 0 M (by unfold FU; omega) (by omega) rfl (fun _ _ => rfl) (fun q => by rw [if_neg (by omega)])
theorem p_film {X : XW} {M : MW} {nb : Nat} (h : Sim X M nb) (a l w : Int32) : R2 nb (fX9_film X nb a l w) (fX10_film M a l w) := by
  dsimp only [fX9_film, fX10_film, bd]
  rw [night_eq h, in_eq]
  rcases boat_of h a with ⟨c1, c2⟩ | ⟨c1, i, b, rfl, hi, hi8, hb, c2⟩
  · rw [c2, if_pos c1]; exact R2.mk h
  rw [c2, if_neg c1, Option.bind_some]
  dsimp only [oc]
  rcases sheet_of X l with ⟨k1, k2⟩ | ⟨k1, s, hs, rfl, k2⟩
  · rw [k2, if_pos k1]; exact R2.mk h
  rw [k2, if_neg k1, Option.bind_some]
  dsimp only [oc]
  by_cases c3 : fX9_isNight X w = 0
  · rw [if_pos c3, if_pos c3]; exact R2.mk h
  rw [if_neg c3, if_neg c3]
  obtain ⟨h0, h12, h7, h7x⟩ := g_now h
  obtain ⟨n, rfl, hn⟩ := night_in h h7 h12 c3
  obtain ⟨nB, hB, h8, h8x, F⟩ := h.nB
  have hib : i < nB := by rw [h8, nI_toInt (by omega)] at hi8; omega
  obtain ⟨X1, M1, g1, f1, hS, gn, fn, -, -, g4, f4, -⟩ := one h F hib hb h7 h7x hn
  have is : inb (nI s) 4 := in_nI hs (by omega)
  have hcs : (nI s).toNatClampNeg = s := cl_nI (by omega)
  rw [g1, bd2_s, if_pos (kd_sh hs), bec_ok hs (by omega), Option.bind_some, f1, bs_M, if_pos is, if_pos is]
  have b1 : ∀ q, q ≠ 39 + 2 * s → (becX X1 s 2 (nI n)).1 q = X1.1 q := fun q hq => by
    show (xI (xI X1 (39 + 2 * s) 1 2) (39 + 2 * s) 2 (nI n)).1 q = _
    rw [xI_ne _ _ _ hq, xI_ne _ _ _ hq]
  have b2 : ∀ q, q ≠ 39 + 2 * s + 1 → (becX X1 s 2 (nI n)).2.1 q = X1.2.1 q := fun q hq => xF_ne _ _ _ hq
  obtain ⟨X2, x1, x2, x3, x4, x5⟩ := film_X (nb := nb) (X := becX X1 s 2 (nI n)) (L := lyA X M nb h0 i) hi hs hn (by rw [b1 0 (by omega), gn.1 0 (by decide)]; exact h7x) (fun u hu => by rw [b2 _ (by omega)]; exact g4 u hu) (by
    show (xI (xI X1 (39 + 2 * s) 1 2) (39 + 2 * s) 2 (nI n)).1 (39 + 2 * s) 1 = 2
    rw [xI_k _ _ _ (by decide), xI_at]) (by
    show (xI (xI X1 (39 + 2 * s) 1 2) (39 + 2 * s) 2 (nI n)).1 (39 + 2 * s) 2 = nI n
    rw [xI_at]) (fun j hj => by unfold becX; rw [xF_at]; exact if_pos hj)
  obtain ⟨M2, m1, m2, m3, m4⟩ := film_M (M := mA (mA M1 88 (nI s) 2) 89 (nI s) (nI n)) (L := lyA X M nb h0 i) hi hs hn ((fn.1 7 (by decide)).trans h7) f4
  rw [x1, m1]
  refine R2.mk (hS.sh (fun q hq => ?_) (fun q hq => ?_) x3 m2 (fun q hq => ?_) ?_)
  · rw [x2, b1 q (by omega)]
  · rw [x4 q (by omega), b2 q (by omega)]
  · rw [m3 q (by omega), mA_ne _ _ _ (by omega), mA_ne _ _ _ (by omega)]
  · have g := hS.2.2.2.2.2.2.2.1
    intro s' hs'
    obtain ⟨q1, q2, q3, q4, q5⟩ := g s' hs'
    rw [m3 88 (by decide), m3 89 (by decide), mA_ne _ _ _ (by decide : 88 ≠ 89), mA_at, mA_at, mA_ne _ _ _ (by decide : 89 ≠ 88), hcs, x2]
    unfold upd
    by_cases e : s' = s
    · subst e
      rw [if_pos rfl, if_pos rfl]
      refine ⟨?_, ?_, by rw [nI_toInt (by omega)]; omega, by decide, fun j hj => ?_⟩
      · show (xI (xI X1 (39 + 2 * s') 1 2) (39 + 2 * s') 2 (nI n)).1 (39 + 2 * s') 1 = 2
        rw [xI_k _ _ _ (by decide), xI_at]
      · show (xI (xI X1 (39 + 2 * s') 1 2) (39 + 2 * s') 2 (nI n)).1 (39 + 2 * s') 2 = nI n
        rw [xI_at]
      · rw [m4, if_pos (by omega), show 40 * s' + j - 40 * s' = j by omega, show 40 + 2 * s' = 39 + 2 * s' + 1 by omega]
        exact x5 j hj
    · rw [if_neg e, if_neg e, b1 _ (by omega)]
      refine ⟨q1, q2, q3, q4, fun j hj => ?_⟩
      rw [m4, if_neg (by omega), x4 _ (by omega), b2 _ (by omega), mA_ne _ _ _ (by decide), mA_ne _ _ _ (by decide)]
      exact q5 j hj

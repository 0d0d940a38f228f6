/-! drawn, chance -/
def lotS (s : Int32) : Nat → Int64
  | 0 => s.toInt64 + 1
  | k + 1 => lrem (lotS s k * 48271) 2147483647
def gst (s : Int32) (k : Nat) : Int32 := (lrem (lotS s (k + 1)) 41).toInt32
theorem draw_X {X : XW} {h0 : Nat} (s : Int32) (h7x : X.1 0 11 = nI h0) (h12 : h0 ≤ 12) : ∃ X', fX9_draw X s = some X' ∧ X'.1 = X.1 ∧ X'.2.2 = X.2.2 ∧ (∀ i, i ≠ 16 → X'.2.1 i = X.2.1 i) ∧ ∀ u, h0 + u < 12 → X'.2.1 16 (h0 + u) = jmax 0 (jmin 99 (X.2.1 5 (h0 + u) + gst s u - 20)) := by
  have lo : ∀ (m t : Nat) (X1 : XW), 12 < m + (h0 + t) → h0 + t ≤ 12 → X1.1 = X.1 → X1.2.2 = X.2.2 → (∀ i, i ≠ 16 → X1.2.1 i = X.2.1 i) → (∀ u, u < t → X1.2.1 16 (h0 + u) = jmax 0 (jmin 99 (X.2.1 5 (h0 + u) + gst s u - 20))) → ∃ X', lo3 (fX9_draw_l11) m X1 (lotS s t) (nI (h0 + t)) = some X' ∧ X'.1 = X.1 ∧ X'.2.2 = X.2.2 ∧ (∀ i, i ≠ 16 → X'.2.1 i = X.2.1 i) ∧ ∀ u, h0 + u < 12 → X'.2.1 16 (h0 + u) = jmax 0 (jmin 99 (X.2.1 5 (h0 + u) + gst s u - 20)) := by
    intro m
    induction m with
    | zero => intro t X1 q1 q2; omega
    | succ m ih =>
      intro t X1 q1 q2 a1 a2 a3 a4
      show ∃ X', fX9_draw_l11 (lo3 (fX9_draw_l11) m) X1 (lotS s t) (nI (h0 + t)) = some X' ∧ _
      generalize hG : lo3 (fX9_draw_l11) m = G at ih ⊢
      dsimp only [fX9_draw_l11, bd]
      by_cases ht : h0 + t = 12
      · rw [if_pos (show (12 : Int32) ≤ nI (h0 + t) from nI_le (a := 12) (by omega) (by omega))]
        exact ⟨X1, rfl, a1, a2, a3, fun u hu => a4 u (by omega)⟩
      have it : inb (nI (h0 + t)) 12 := in_nI (by omega) (by omega)
      have hcl : (nI (h0 + t)).toNatClampNeg = h0 + t := cl_nI (by omega)
      rw [if_neg (show ¬ (12 : Int32) ≤ nI (h0 + t) from nI_ge (b := 12) (by omega) (by omega)), rd_in it, hcl, Option.bind_some, if_pos it, a3 5 (by decide), nI_1]
      refine ih (t + 1) _ (by omega) (by omega) a1 a2 (fun i hi => (xA_ne _ _ _ hi).trans (a3 i hi)) (fun u hu => ?_)
      rw [xA_at, hcl]
      unfold upd
      by_cases e : u = t
      · subst e; rw [if_pos rfl]; rfl
      · rw [if_neg (by omega)]; exact a4 u (by omega)
  dsimp only [fX9_draw, bd]
  rw [h7x]
  exact lo FU 0 X (by unfold FU; omega) (by omega) rfl rfl (fun _ _ => rfl) (fun u hu => by omega)
theorem draw_M {M : MW} {h0 n : Nat} (s : Int32) (h7 : M.1 7 = nI h0) (hn : h0 + n ≤ 12) : ∃ M', fX10_draws M s (nI n) = fX10_draws_b54 M' (nI n) ∧ M'.1 = M.1 ∧ (∀ i, i ≠ 96 → M'.2 i = M.2 i) ∧ ∀ u, u < n → M'.2 96 (h0 + u) = gst s u - 20 := by
  have lo : ∀ (m t : Nat) (M1 : MW), n < m + t → t ≤ n → M1.1 = M.1 → (∀ i, i ≠ 96 → M1.2 i = M.2 i) → (∀ u, u < t → M1.2 96 (h0 + u) = gst s u - 20) → ∃ M', lo3 (fX10_draws_l11 (nI n)) m M1 (lotS s t) (nI (h0 + t)) = fX10_draws_b54 M' (nI n) ∧ M'.1 = M.1 ∧ (∀ i, i ≠ 96 → M'.2 i = M.2 i) ∧ ∀ u, u < n → M'.2 96 (h0 + u) = gst s u - 20 := by
    intro m
    induction m with
    | zero => intro t M1 q1 q2; omega
    | succ m ih =>
      intro t M1 q1 q2 a1 a2 a3
      show ∃ M', fX10_draws_l11 (nI n) (lo3 (fX10_draws_l11 (nI n)) m) M1 (lotS s t) (nI (h0 + t)) = fX10_draws_b54 M' (nI n) ∧ _
      generalize hG : lo3 (fX10_draws_l11 (nI n)) m = G at ih ⊢
      dsimp only [fX10_draws_l11, bd]
      rw [a1, h7, nI_add, nI_1]
      by_cases ht : t = n
      · subst ht
        rw [if_pos (nI_le (Nat.le_refl _) (by omega))]
        exact ⟨M1, rfl, a1, a2, a3⟩
      have it : inb (nI (h0 + t)) 12 := in_nI (by omega) (by omega)
      have hcl : (nI (h0 + t)).toNatClampNeg = h0 + t := cl_nI (by omega)
      rw [if_neg (nI_ge (by omega) (by omega)), if_pos it]
      refine ih (t + 1) _ (by omega) (by omega) a1 (fun i hi => (mA_ne _ _ _ hi).trans (a2 i hi)) (fun u hu => ?_)
      rw [mA_at, hcl]
      unfold upd
      by_cases e : u = t
      · subst e; rw [if_pos rfl]; rfl
      · rw [if_neg (by omega)]; exact a3 u (by omega)
  dsimp only [fX10_draws, bd]
  rw [h7]
  exact lo FU 0 M (by unfold FU; omega) (by omega) rfl (fun _ _ => rfl) (fun u hu => by omega)
/-- worlds with drawn winds -/
def wX (X X' : XW) : Prop := X'.1 = X.1 ∧ (∀ j k, ¬ (j = 10 ∧ k = 4) → X'.2.2 j k = X.2.2 j k) ∧ X'.2.2 10 4 = some 16 ∧ ∀ i, i ≠ 11 → i ≠ 12 → i ≠ 16 → X'.2.1 i = X.2.1 i
def wM (M M' : MW) : Prop := (∀ k, k ≠ 55 → k ≠ 46 → M'.1 k = M.1 k) ∧ ∀ i, i < 94 → M'.2 i = M.2 i
theorem wX.es {X X' : XW} {M M' : MW} {nb : Nat} {H : Nat → Prop} (h : Sim X M nb) (a : wX X X') (b : wM M M') (hw : ∀ k, k < 12 → H k → fX10_windIn M' (nI k) = some (X'.2.1 16 k)) : ESim X' M' H := by
  obtain ⟨r, hr, -, hri⟩ := nn_ge h.2.2.2.1.2.1.1
  have h6 := h.2.2.1.2.1.2
  have hlt := h.2.2.2.1.2.1.2
  refine ⟨?_, ⟨r, by omega, (b.1 22 (by decide) (by decide)).trans hr, ?_, ?_⟩, 16, Or.inr rfl, a.2.2.1, hw⟩
  · have h1 := h.1
    unfold SBay at h1 ⊢
    rw [a.2.2.2 2 (by decide) (by decide) (by decide), a.2.2.2 3 (by decide) (by decide) (by decide), a.2.2.2 4 (by decide) (by decide) (by decide), a.2.2.2 5 (by decide) (by decide) (by decide), a.2.2.2 6 (by decide) (by decide) (by decide), a.1, b.1 7 (by decide) (by decide), b.2 66 (by decide), b.2 67 (by decide), b.2 68 (by decide), b.2 69 (by decide), b.2 70 (by decide), b.2 71 (by decide), b.2 72 (by decide), b.2 92 (by decide)]
    exact h1
  · rw [a.2.1 10 3 (by decide), h.2.2.2.1.2.2, hr, cl_nI (by omega)]
  · have h3 := h.2.2.1.2.2 r (by omega)
    unfold STx at h3 ⊢
    rw [b.2 83 (by decide), b.2 82 (by decide), a.2.2.2 (49 + 3 * r) (by omega) (by omega) (by omega), a.2.2.2 (48 + 3 * r) (by omega) (by omega) (by omega)]
    exact h3
theorem wX.fl {X X' : XW} {M M' : MW} {nb nB : Nat} (F : flt X M nb nB) (a : wX X X') (b : wM M M') : flt X' M' nb nB ∧ (∀ i, bOf X' i = bOf X i) ∧ ∀ i, pOf M' i = pOf M i := by
  have e1 : ∀ i, bOf X' i = bOf X i := fun i => by unfold bOf; rw [a.2.1 13 i (by omega)]
  have e2 : ∀ i, pOf M' i = pOf M i := fun i => by unfold pOf; rw [b.2 78 (by decide)]
  refine ⟨⟨F.1, (b.1 8 (by decide) (by decide)).trans F.2.1, fun i hi => ?_⟩, e1, e2⟩
  obtain ⟨q1, q2, q3, q4⟩ := F.2.2 i hi
  rw [e1, e2, b.2 77 (by decide), b.2 78 (by decide)]
  refine ⟨?_, q2, q3, q4⟩
  unfold kAt at q1 ⊢
  rw [a.1, b.2 73 (by decide), b.2 74 (by decide), b.2 75 (by decide), b.2 76 (by decide)]
  exact q1
theorem wX.at {X X' : XW} {M M' : MW} {nb i q : Nat} (hb : boatAt X M nb i q) (a : wX X X') (b : wM M M') : boatAt X' M' nb i q := by
  unfold boatAt at hb ⊢
  rw [a.2.1 13 i (by omega), a.1, b.2 73 (by decide), b.2 74 (by decide), b.2 75 (by decide), b.2 76 (by decide), b.2 77 (by decide), b.2 78 (by decide)]
  exact hb
theorem xR_a (X : XW) (v : Option Nat) : (xR X 10 4 v).2.2 10 4 = v := by
  exact va_up_self (X.2.2 10) 4 v
theorem xR_n (X : XW) (v : Option Nat) {j k : Nat} (h : ¬ (j = 10 ∧ k = 4)) : (xR X 10 4 v).2.2 j k = X.2.2 j k := by
  show (if j = 10 then va_up (X.2.2 j) 4 v else X.2.2 j) k = _
  by_cases q : j = 10
  · rw [if_pos q, va_up_ne _ _ (fun z => h ⟨q, z⟩)]
  · rw [if_neg q]
/-- one draw on both sides, up to the night itself -/
theorem draw_both {X X0 : XW} {M M0 : MW} {nb h0 n : Nat} (s : Int32) (h : Sim X M nb) (h7 : M.1 7 = nI h0) (h7x : X.1 0 11 = nI h0) (hn : h0 + n ≤ 12) (a1 : X0.1 = X.1) (a3 : ∀ i, i ≠ 11 → i ≠ 12 → i ≠ 16 → X0.2.1 i = X.2.1 i) (b : wM M M0) : ∃ X1 M1, fX9_draw X0 s = some X1 ∧ X1.1 = X0.1 ∧ X1.2.2 = X0.2.2 ∧ (∀ i, i ≠ 16 → X1.2.1 i = X0.2.1 i) ∧ fX10_draws M0 s (nI n) = fX10_draws_b54 M1 (nI n) ∧ wM M (mI M1 46 1) ∧ ∀ k, k < 12 → (h0 ≤ k ∧ k < h0 + n) → fX10_windIn (mI M1 46 1) (nI k) = some (X1.2.1 16 k) := by
  obtain ⟨X1, x1, x2, x3, x4, x5⟩ := draw_X (X := X0) s (by rw [a1]; exact h7x) (show h0 ≤ 12 by omega)
  obtain ⟨M1, m1, m2, m3, m4⟩ := draw_M (M := M0) s ((b.1 7 (by decide) (by decide)).trans h7) hn
  refine ⟨X1, M1, x1, x2, x3, x4, m1, ⟨fun k h55 h46 => ?_, fun i hi => (m3 i (by omega)).trans (b.2 i hi)⟩, fun k hk hH => ?_⟩
  · show va_up M1.1 46 1 k = _
    rw [va_up_ne _ _ h46, m2, b.1 k h55 h46]
  · have e46 : (mI M1 46 1).1 46 = 1 := mI_at _ _ _
    have it : inb (nI k) 12 := in_nI hk (by omega)
    have hcl : (nI k).toNatClampNeg = k := cl_nI (by omega)
    unfold fX10_windIn
    rw [e46, if_neg n10, rd_in it, rd_in it, hcl, Option.bind_some, Option.bind_some]
    obtain ⟨u, rfl⟩ : ∃ u, k = h0 + u := ⟨k - h0, by omega⟩
    have r69 : (mI M1 46 1).2 69 (h0 + u) = X.2.1 5 (h0 + u) := by
      show M1.2 69 (h0 + u) = _
      rw [m3 69 (by decide), b.2 69 (by decide), h.1.2.2.2.1]
    have r96 : (mI M1 46 1).2 96 (h0 + u) = gst s u - 20 := m4 u (by omega)
    rw [r69, r96, x5 u (by omega), a3 5 (by decide) (by decide) (by decide), clamp_eq (by decide), Int32.sub_eq_add_neg, Int32.sub_eq_add_neg, Int32.add_assoc]
/-- back to the bay's winds -/
theorem wX.back {X X1 : XW} {M M1 : MW} {nb : Nat} (h : Sim X M nb) (a1 : ∀ i, i < 27 ∨ 38 < i → X1.1 i = X.1 i) (a2 : ∀ j k, ¬ (j = 10 ∧ k = 4) → X1.2.2 j k = X.2.2 j k) (a3 : ∀ i, i ≠ 11 → i ≠ 12 → i ≠ 15 → i ≠ 16 → (i < 28 ∨ 38 < i) → X1.2.1 i = X.2.1 i) (b1 : ∀ k, k ≠ 55 → k ≠ 46 → M1.1 k = M.1 k) (b2 : M1.1 46 = 0) (b3 : ∀ i, i < 94 → M1.2 i = M.2 i) : Sim (xR X1 10 4 (some 5)) M1 nb := by
  refine h.c ⟨fun i k hk => ?_, fun i hi => ?_, ?_, ?_⟩ ⟨fun k hk => ?_, fun i hi => b3 i (by unfold eM2 at hi; omega)⟩
  · show X1.1 i k = X.1 i k
    rw [a1 i (by unfold eX1 NS at hk; omega)]
  · show X1.2.1 i = X.2.1 i
    exact a3 i (by unfold eX2 at hi; omega) (by unfold eX2 at hi; omega) (by unfold eX2 at hi; omega) (by unfold eX2 at hi; omega) (by unfold eX2 at hi; omega)
  · funext k
    by_cases q : k = 4
    · subst q; rw [xR_a]; exact h.2.2.2.2.1.1.symm
    · rw [xR_n _ _ (fun z => q z.2), a2 _ _ (fun z => q z.2)]
  · funext k
    rw [xR_n _ _ (by omega), a2 _ _ (by omega)]
  · by_cases q : k = 46
    · subst q; rw [b2]; exact h.2.2.2.2.1.2.symm
    · exact b1 k (by unfold eM1 at hk; omega) q
theorem p_drawn {X : XW} {M : MW} {nb : Nat} (h : Sim X M nb) (s l a w : Int32) : R2 nb (fX9_drawn X nb s l a w) (fX10_drawn M s l a w) := by
  dsimp only [fX9_drawn, fX10_drawn, bd]
  rw [night_eq h, in_eq]
  rcases boat_of h a with ⟨c1, c2⟩ | ⟨c1, i, b, rfl, hi, hi8, hb, c2⟩
  · rw [c2, if_pos c1]; exact R2.mk h
  rw [c2, if_neg c1, Option.bind_some]
  dsimp only [oc]
  by_cases c0 : fX9_within s 0 99999 = 0
  · rw [if_pos c0, if_pos c0]; exact R2.mk h
  rw [if_neg c0, if_neg c0]
  by_cases c3 : fX9_isNight X l = 0
  · rw [if_pos c3, if_pos c3]; exact R2.mk h
  rw [if_neg c3, if_neg c3]
  by_cases c4 : fX9_within w 0 2 = 0
  · rw [if_pos c4, if_pos c4]; exact R2.mk h
  rw [if_neg c4, if_neg c4]
  obtain ⟨h0, h12, h7, h7x⟩ := g_now h
  obtain ⟨n, rfl, hn⟩ := night_in h h7 h12 c3
  obtain ⟨nB, hB, h8, h8x, F⟩ := h.nB
  have hib : i < nB := by rw [h8, nI_toInt (by omega)] at hi8; omega
  have eb := bOf_at hb
  obtain ⟨X1, M1, x1, x2, x3, x4, m1, m2, m3⟩ := draw_both (X0 := X) (M0 := M) s h h7 h7x hn rfl (fun _ _ _ _ => rfl) ⟨fun _ _ _ => rfl, fun _ _ => rfl⟩
  have wx : wX X (xR X1 10 4 (some 16)) := ⟨x2, fun j k q => by rw [xR_n _ _ q, x3], xR_a X1 _, fun i _ _ q => x4 i q⟩
  have E := wX.es (H := fun k => h0 ≤ k ∧ k < h0 + n) h wx m2 m3
  obtain ⟨F', e1, e2⟩ := wX.fl F wx m2
  have hb' := wX.at hb wx m2
  have it : inb (nI i) 6 := in_nI hi (by omega)
  have hcl : (nI i).toNatClampNeg = i := cl_nI (by omega)
  obtain ⟨X2, g1, g2, g3, -⟩ := sailed_ok (X0 := xR X1 10 4 (some 16)) E F' hib (by rw [e1, eb]; exact hb') (nX.rf _) (by rw [wx.1]; exact h7x) hn (fun k q1 q2 => ⟨q1, q2⟩)
  obtain ⟨M2, f1, f2, f3, -⟩ := goes_ok E F' ((m2.1 7 (by decide) (by decide)).trans h7) hn (fun k q1 q2 => ⟨q1, q2⟩)
  rw [e1, eb] at g1
  have gn := g2.n hi
  have hS : Sim (xR X2 10 4 (some 5)) (mI M2 46 0) nb := by
    refine wX.back h (fun i hi => ?_) (fun j k q => ?_) (fun i q1 q2 q3 q4 q5 => ?_) (fun k h55 h46 => ?_) (mI_at _ _ _) (fun i hi => ?_)
    · rw [gn.1 i hi, wx.1]
    · rw [gn.2.1, wx.2.1 j k q]
    · rw [gn.2.2 i q1 q2 q3 q5, wx.2.2.2 i q1 q2 q4]
    · exact (va_up_ne _ _ h46).trans ((f2.1 k h55).trans (m2.1 k h55 h46))
    · exact (f2.2 i (Or.inl hi)).trans (m2.2 i hi)
  obtain ⟨r1, r2, r3⟩ := f3 i hib
  obtain ⟨t1, t2, t3⟩ := g3
  rw [x1, Option.bind_some, m1]
  dsimp only [fX9_sailed, fX10_draws_b54, bd]
  rw [if_pos it, hcl, g1, bs_X, bd2_s, f1, bs_M, bs_M]
  have r1' : (mI M2 46 0).2 97 i = (trA (xR X1 10 4 (some 16)) (mI M1 46 1) nb h0 i n).1 := r1
  have r2' : (mI M2 46 0).2 98 i = (trA (xR X1 10 4 (some 16)) (mI M1 46 1) nb h0 i n).2.1 := r2
  have r3' : (mI M2 46 0).2 99 i = (trA (xR X1 10 4 (some 16)) (mI M1 46 1) nb h0 i n).2.2 := r3
  have t1' : (xR X2 10 4 (some 5)).1 (27 + 2 * i) 1 = (trA (xR X1 10 4 (some 16)) (mI M1 46 1) nb h0 i n).1 := t1
  have t2' : (xR X2 10 4 (some 5)).1 (27 + 2 * i) 2 = (trA (xR X1 10 4 (some 16)) (mI M1 46 1) nb h0 i n).2.1 := t2
  have t3' : (xR X2 10 4 (some 5)).1 (27 + 2 * i) 3 = (trA (xR X1 10 4 (some 16)) (mI M1 46 1) nb h0 i n).2.2 := t3
  by_cases w0 : w = 0
  · rw [if_pos w0, if_pos w0, rd_in it, hcl, Option.bind_some, Option.bind_some, if_pos (kd_co hi).1, t1', r1']; exact R2.mk hS
  rw [if_neg w0, if_neg w0]
  by_cases w1 : w = 1
  · rw [if_pos w1, if_pos w1, rd_in it, hcl, Option.bind_some, Option.bind_some, if_pos (kd_co hi).1, t2', r2']; exact R2.mk hS
  rw [if_neg w1, if_neg w1, rd_in it, hcl, Option.bind_some, Option.bind_some, if_pos (kd_co hi).1, t3', r3']
  exact R2.mk hS
theorem L_suc {k : Nat} (hk : k ≤ 1000) : (nI k).toInt64 + 1 = (nI (k + 1)).toInt64 := by
  rw [← Int64.toInt_inj, Int64.toInt_add, L_toInt (by omega), L_toInt (by omega), show (1 : Int64).toInt = 1 from rfl]
  exact bmod64 (by omega) (by omega)
theorem d100_neg {x : Int32} (h : x < 0) : fX9_within (x / 100) 1 20 = 0 := by
  refine Decidable.byContradiction fun hc => ?_
  have w := (wi_ne hc).1
  have e1 : (1 : Int32).toInt = 1 := rfl
  have e100 : (100 : Int32).toInt = 100 := rfl
  have e0 : (0 : Int32).toInt = 0 := rfl
  rw [i_lt, e0] at h
  have hlo : -2147483648 ≤ x.toInt := Int32.le_toInt x
  obtain ⟨m, hm⟩ : ∃ m : Nat, x.toInt = -(m : Int) := ⟨(-x.toInt).toNat, by omega⟩
  rw [e1, Int32.toInt_div, e100, hm, Int.neg_tdiv, show ((m : Int)).tdiv 100 = ((m / 100 : Nat) : Int) from rfl] at w
  have hb : (-(((m / 100 : Nat) : Int))).bmod (2 ^ 32) = -(((m / 100 : Nat) : Int)) := by
    apply bmod_in <;> omega
  rw [hb] at w
  omega
theorem p_chance {X : XW} {M : MW} {nb : Nat} (h : Sim X M nb) (a s l w : Int32) : R2L nb (fX9_chance X nb a s l w) (fX10_chance M a s l w) := by
  dsimp only [fX9_chance, fX10_chance, fX10_chance_b61, fX10_chance_b62, bd]
  rw [night_eq h, in_eq]
  rcases boat_of h a with ⟨c1, c2⟩ | ⟨c1, i, b, rfl, hi, hi8, hb, c2⟩
  · rw [c2, if_pos c1]; exact R2L.mk h
  rw [c2, if_neg c1, Option.bind_some]
  dsimp only [oc]
  by_cases c0 : fX9_within s 0 99999 = 0
  · rw [if_pos c0, if_pos c0]; exact R2L.mk h
  rw [if_neg c0, if_neg c0]
  by_cases cn : l < 0
  · rw [if_pos (d100_neg cn), if_pos cn]; exact R2L.mk h
  rw [if_neg cn]
  by_cases c5 : fX9_within (l / 100) 1 20 = 0
  · rw [if_pos c5, if_pos c5]; exact R2L.mk h
  rw [if_neg c5, if_neg c5]
  by_cases c3 : fX9_isNight X (jrem l 100) = 0
  · rw [if_pos c3, if_pos c3]; exact R2L.mk h
  rw [if_neg c3, if_neg c3]
  by_cases c4 : fX9_within w 0 1 = 0
  · rw [if_pos c4, if_pos c4]; exact R2L.mk h
  rw [if_neg c4, if_neg c4, if_neg n10]
  have e0 : (0 : Int32).toInt = 0 := rfl
  have e1 : (1 : Int32).toInt = 1 := rfl
  have e20 : (20 : Int32).toInt = 20 := rfl
  obtain ⟨q, hq31, rfl⟩ := nI_of cn
  rw [d100 hq31] at c5 ⊢
  rw [r100 hq31] at c3
  have w5 := wi_ne c5
  rw [e1, e20, nI_toInt (by omega)] at w5
  have w4 := wi_ne c4
  rw [e0, e1] at w4
  have w01 : w = 0 ∨ w = 1 := by
    by_cases z : w = 0
    · exact Or.inl z
    · refine Or.inr ?_
      rw [i_eq, e0] at z
      rw [i_eq, e1]
      omega
  obtain ⟨h0, h12, h7, h7x⟩ := g_now h
  obtain ⟨n, en, hn⟩ := night_in h h7 h12 c3
  generalize hSd : q / 100 = S at w5 ⊢
  obtain ⟨nB, hB, h8, h8x, F⟩ := h.nB
  have hib : i < nB := by rw [h8, nI_toInt (by omega)] at hi8; omega
  have eb := bOf_at hb
  have it : inb (nI i) 6 := in_nI hi (by omega)
  have hcl : (nI i).toNatClampNeg = i := cl_nI (by omega)
  have hNb : NS ≤ b ∧ b < TT nb := ⟨hb.2.1, hb.2.2.1⟩
  have lo : ∀ (m t k : Nat) (X1 : XW) (M1 : MW), S < m + t → t ≤ S → k ≤ t → wX X X1 → wM M M1 → M1.1 46 = 0 → R2L nb (lo3 (fX9_chance_l84 nb s (nI q) w (some b) (nI S)) m X1 (nI k) (nI t)) (lo3 (fX10_chance_l79 (nI i) s (nI q) w) m M1 (nI k).toInt64 (nI t)) := by
    intro m
    induction m with
    | zero => intro t k X1 M1 q1 q2; omega
    | succ m ih =>
      intro t k X1 M1 q1 q2 hk aX aM a46
      show R2L nb (fX9_chance_l84 nb s (nI q) w (some b) (nI S) (lo3 (fX9_chance_l84 nb s (nI q) w (some b) (nI S)) m) X1 (nI k) (nI t)) (fX10_chance_l79 (nI i) s (nI q) w (lo3 (fX10_chance_l79 (nI i) s (nI q) w) m) M1 (nI k).toInt64 (nI t))
      generalize hG : lo3 (fX9_chance_l84 nb s (nI q) w (some b) (nI S)) m = G at ih ⊢
      generalize hK : lo3 (fX10_chance_l79 (nI i) s (nI q) w) m = K at ih ⊢
      dsimp only [fX9_chance_l84, fX10_chance_l79, fX9_chance_b139, fX10_chance_b125, bd]
      rw [d100 hq31, r100 hq31, hSd, en, nI_1, nI_1, L_suc (by omega), Int64.add_zero]
      by_cases ht : S ≤ t
      · rw [if_pos (nI_le ht (by omega)), if_pos (nI_le ht (by omega)), po_ok w (by omega) (by omega) (Or.inr (by omega)), lw_ok w w01 (by omega) (by omega) (by omega), Option.bind_some, Option.bind_some]
        refine R2L.mk (wX.back h (fun i _ => by rw [aX.1]) aX.2.1 (fun i q1 q2 _ q4 _ => aX.2.2.2 i q1 q2 q4) aM.1 a46 aM.2)
      obtain ⟨X2, M2, x1, x2, x3, x4, m1, m2, m3⟩ := draw_both (X0 := X1) (M0 := M1) (s + nI t) h h7 h7x hn aX.1 aX.2.2.2 aM
      have wx : wX X X2 := ⟨x2.trans aX.1, fun j k q => by rw [x3]; exact aX.2.1 j k q, by rw [x3]; exact aX.2.2.1, fun i q1 q2 q3 => (x4 i q3).trans (aX.2.2.2 i q1 q2 q3)⟩
      have E := wX.es (H := fun k => h0 ≤ k ∧ k < h0 + n) h wx m2 m3
      obtain ⟨F', e1, e2⟩ := wX.fl F wx m2
      have hb' := wX.at hb wx m2
      obtain ⟨M3, f1, f2, f3, -⟩ := goes_ok E F' ((m2.1 7 (by decide) (by decide)).trans h7) hn (fun k q1 q2 => ⟨q1, q2⟩)
      have r2 := (f3 i hib).2.1
      have wm : wM M (mI M3 46 0) := ⟨fun k h55 h46 => (va_up_ne _ _ h46).trans ((f2.1 k h55).trans (m2.1 k h55 h46)), fun i hi => (f2.2 i (Or.inl hi)).trans (m2.2 i hi)⟩
      have w46 : (mI M3 46 0).1 46 = 0 := mI_at _ _ _
      have m98 : (mI M3 46 0).2 98 i = (trA X2 (mI M2 46 1) nb h0 i n).2.1 := r2
      rw [if_neg (nI_ge (by omega) (by omega)), if_neg (nI_ge (by omega) (by omega)), x1, Option.bind_some, Option.bind_some, if_pos hNb, g_gone hb', Option.bind_some, m1]
      dsimp only [fX10_draws_b54, bd]
      rw [f1, bs_M, bs_M, rd_in it, hcl, m98, Option.bind_some]
      have etr : trA X2 (mI M2 46 1) nb h0 i n = trj X2 nb b (nI (pOf M i)) ((mI M2 46 1).2 77 i) h0 n := by
        unfold trA
        rw [e1, e2, eb]
      rw [etr]
      obtain ⟨kt, pt, pt2, ct⟩ := F'.2.2 i hib
      rw [e1, eb] at kt
      rw [e2] at pt pt2
      by_cases g : (mI M2 46 1).2 77 i = -1
      · rw [if_pos g, if_neg n10, g, trj_gone, if_pos rfl]
        exact ih (t + 1) (k + 1) X2 (mI M3 46 0) (by omega) (by omega) (by omega) wx wm w46
      obtain ⟨c, hc, hcc⟩ := ct.resolve_left g
      obtain ⟨v, X3, s1, s2, s3⟩ := stays_ok (X0 := X2) (p := pOf M i) E kt (nX.rf X2) hc (by omega) (by rw [wx.1]; exact h7x) hn (fun k q1 q2 => ⟨q1, q2⟩)
      have b4 : X2.1 b 4 = nI c := hb'.2.2.2.2.2.2.2.1.trans hcc
      have b5 : X2.1 b 5 = nI (pOf M i) := hb'.2.2.2.2.2.2.2.2.trans pt
      have wx3 : wX X X3 := ⟨s2.1.trans wx.1, fun j k q => by rw [s2.2.1]; exact wx.2.1 j k q, by rw [s2.2.1]; exact wx.2.2.1, fun i q1 q2 q3 => (s2.2.2 i q1 q2).trans (wx.2.2.2 i q1 q2 q3)⟩
      rw [if_neg g, if_pos rfl, b4, b5, s1, bd2_s, hcc]
      rcases trj_AB X2 nb b (nI (pOf M i)) hc h0 n with ⟨z1, z2⟩ | ⟨⟨u, hu, z1⟩, o, ho, ho2, z2⟩
      · rcases s3 with ⟨rfl, -⟩ | ⟨rfl, u, hu, hu2⟩
        · rw [z2, if_neg n10, if_pos rfl]
          exact ih (t + 1) (k + 1) X3 (mI M3 46 0) (by omega) (by omega) (by omega) wx3 wm w46
        · exact absurd (z1 u hu) hu2
      · rcases s3 with ⟨rfl, z3⟩ | ⟨rfl, -⟩
        · exact absurd (z3 u hu) z1
        · rw [z2, if_pos rfl, if_neg (nI_ne0 (by omega) (by omega))]
          exact ih (t + 1) k X3 (mI M3 46 0) (by omega) (by omega) (by omega) wx3 wm w46
  have hx : lo3 (fX10_chance_l79 (nI i) s (nI q) w) FU M 0 0 = lo3 (fX10_chance_l79 (nI i) s (nI q) w) FU M (nI 0).toInt64 (nI 0) := rfl
  rw [hx]
  exact lo FU 0 0 (xR X 10 4 (some 16)) M (by unfold FU; omega) (by omega) (by omega) ⟨rfl, fun j k q => xR_n X _ q, xR_a X _, fun _ _ _ _ => rfl⟩ ⟨fun _ _ _ => rfl, fun _ _ => rfl⟩ h.2.2.2.2.1.2

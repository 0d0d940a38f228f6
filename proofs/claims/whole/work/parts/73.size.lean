/-! size -/
theorem trj_fi (X : XW) (nb b : Nat) (p : Int32) {c h0 : Nat} (hc : c < 100) : ∀ k, h0 + k ≤ 12 → ((∀ u, u < k → dvX X nb b (nI c) p (h0 + u) = 0) ∧ (trj X nb b p (nI c) h0 k).2.2 = -1) ∨ ∃ e, e < k ∧ (trj X nb b p (nI c) h0 k).2.2 = nI (h0 + e) ∧ ∀ u, u < e → dvX X nb b (nI c) p (h0 + u) = 0 := by
  intro k
  induction k with
  | zero => intro _; exact Or.inl ⟨fun u hu => by omega, rfl⟩
  | succ k ih =>
    intro hk
    have hst : trj X nb b p (nI c) h0 (k + 1) = tst X nb b p (h0 + k) (trj X nb b p (nI c) h0 k) := rfl
    rcases ih (by omega) with ⟨h1, h2⟩ | ⟨e, he, h2, h3⟩
    · rcases trj_AB X nb b p hc h0 k with ⟨-, z⟩ | ⟨⟨u, hu, z⟩, -⟩
      rotate_left
      · exact absurd (h1 u hu) z
      rw [z] at hst
      unfold tst at hst
      rw [if_neg (show ¬ nI c = -1 from nI_m1 (by omega))] at hst
      by_cases q : dvX X nb b (nI c) p (h0 + k) = 0
      · rw [if_pos q] at hst
        refine Or.inl ⟨fun u hu => ?_, by rw [hst]⟩
        by_cases e : u = k
        · rw [e]; exact q
        · exact h1 u (by omega)
      · rw [if_neg q] at hst
        refine Or.inr ⟨k, by omega, ?_, h1⟩
        rw [hst]
        show (if (-1 : Int32) = -1 then nI (h0 + k) else -1) = _
        exact if_pos rfl
    · refine Or.inr ⟨e, by omega, ?_, h3⟩
      rw [hst]
      unfold tst
      by_cases q1 : (trj X nb b p (nI c) h0 k).1 = -1
      · rw [if_pos q1]; exact h2
      rw [if_neg q1]
      by_cases q2 : dvX X nb b (trj X nb b p (nI c) h0 k).1 p (h0 + k) = 0
      · rw [if_pos q2]; exact h2
      rw [if_neg q2]
      show (if (trj X nb b p (nI c) h0 k).2.2 = -1 then nI (h0 + k) else (trj X nb b p (nI c) h0 k).2.2) = _
      rw [if_neg (by rw [h2]; exact nI_m1 (by omega))]
      exact h2
def mxN (D : Nat → Nat) : Nat → Nat
  | 0 => 0
  | u + 1 => max (mxN D u) (D u)
theorem mx_le (D : Nat → Nat) (f : Nat) : ∀ e, mxN D e ≤ f ↔ ∀ u, u < e → D u ≤ f := by
  intro e
  induction e with
  | zero => exact ⟨fun _ u hu => by omega, fun _ => Nat.zero_le _⟩
  | succ e ih =>
    show max (mxN D e) (D e) ≤ f ↔ _
    constructor
    · intro h u hu
      by_cases q : u = e
      · rw [q]; omega
      · exact ih.mp (by omega) u (by omega)
    · intro h
      have := ih.mpr (fun u hu => h u (by omega))
      have := h e (by omega)
      omega
def dsN (L : Nat → Int32) (hm u : Nat) : Nat := apN (L u).toNatClampNeg hm
theorem far_X {X : XW} {L : Nat → Int32} {i hm h0 e : Nat} (hi : i < 6) (hh : hm < 100) (hn : h0 + e ≤ 12) (hL : ∀ u, u < e → ∃ d, d < 100 ∧ L u = nI d) (hl : ∀ u, u < e → X.2.1 (27 + 2 * i + 1) (h0 + u) = L u) : fX2_farthest X (27 + 2 * i) (nI hm) (nI h0) (nI (h0 + e)) = some (nI (mxN (dsN L hm) e)) ∧ mxN (dsN L hm) e ≤ 9 := by
  have hD : ∀ u, u < e → dsN L hm u ≤ 9 := fun u hu => by
    obtain ⟨d, hd, q⟩ := hL u hu
    unfold dsN
    rw [q, cl_nI (by omega)]
    exact (ap_ok hd hh).2.2
  have hM9 : ∀ t, t ≤ e → mxN (dsN L hm) t ≤ 9 := fun t ht => (mx_le _ _ t).mpr (fun u hu => hD u (by omega))
  have lo : ∀ (m t : Nat), e < m + t → t ≤ e → lo2 (fX2_farthest_l6 X (27 + 2 * i) (nI hm) (nI (h0 + e))) m (nI (mxN (dsN L hm) t)) (nI (h0 + t)) = some (nI (mxN (dsN L hm) e)) := by
    intro m
    induction m with
    | zero => intro t h1 h2; omega
    | succ m ih =>
      intro t h1 h2
      show fX2_farthest_l6 X (27 + 2 * i) (nI hm) (nI (h0 + e)) (lo2 (fX2_farthest_l6 X (27 + 2 * i) (nI hm) (nI (h0 + e))) m) (nI (mxN (dsN L hm) t)) (nI (h0 + t)) = _
      generalize hG : lo2 (fX2_farthest_l6 X (27 + 2 * i) (nI hm) (nI (h0 + e))) m = G at ih ⊢
      dsimp only [fX2_farthest_l6, bd]
      rw [nI_1]
      by_cases ht : t = e
      · subst ht
        rw [if_pos (nI_le (Nat.le_refl _) (by omega))]
      obtain ⟨d, hd, q⟩ := hL t (by omega)
      have h9 := hM9 t h2
      have h9' := hD t (by omega)
      have eq : dsN L hm t = apN d hm := by unfold dsN; rw [q, cl_nI (by omega)]
      rw [if_neg (nI_ge (by omega) (by omega)), if_pos (kd_co hi).1, lies_in hi (show h0 + t < 12 by omega), Option.bind_some, hl t (by omega), q, (ap_ok hd hh).1, jmax_nI (by omega) (by omega), ← eq]
      exact ih (t + 1) (by omega) (by omega)
  unfold fX2_farthest
  exact ⟨lo FU 0 (by unfold FU; omega) (by omega), hM9 e (Nat.le_refl _)⟩
theorem size_M {M : MW} {L : Nat → Int32} {i hm h0 n e : Nat} {w fi : Int32} (hi : i < 6) (hh : hm < 100) (hn : h0 + n ≤ 12) (h7 : M.1 7 = nI h0) (h77 : M.2 77 i = nI hm) (h99 : M.2 99 i = fi) (hL : ∀ u, u < n → cOk (L u)) (hl : ∀ u, u < n → M.2 100 (6 * (h0 + u) + i) = L u) (he : (fi = -1 ∧ e = n) ∨ (e < n ∧ fi = nI (h0 + e))) (hL2 : ∀ u, u < e → ∃ d, d < 100 ∧ L u = nI d) (h9 : mxN (dsN L hm) e ≤ 9) : lo2 (fX10_size__l52 (nI i) (nI n) w) FU M 0 = fX10_size__b104 M (nI i) (nI n) w (nI (mxN (dsN L hm) e)) := by
  have iff1 : ∀ f, (∀ u, u < e → okA L hm f u) ↔ mxN (dsN L hm) e ≤ f := by
    intro f
    rw [mx_le]
    constructor
    · intro h u hu
      obtain ⟨d, hd, q, z⟩ := h u hu
      unfold dsN
      rw [q, cl_nI (by omega)]
      exact z
    · intro h u hu
      obtain ⟨d, hd, q⟩ := hL2 u hu
      have := h u hu
      unfold dsN at this
      rw [q, cl_nI (by omega)] at this
      exact ⟨d, hd, q, this⟩
  have it : inb (nI i) 6 := in_nI hi (by omega)
  have g99 : rd (M.2 99) 6 (nI i) = some fi := by rw [rd_in it, cl_nI (by omega), h99]
  have lo : ∀ (m f : Nat), 10 < m + f → f ≤ mxN (dsN L hm) e → lo2 (fX10_size__l52 (nI i) (nI n) w) m M (nI f) = fX10_size__b104 M (nI i) (nI n) w (nI (mxN (dsN L hm) e)) := by
    intro m
    induction m with
    | zero => intro t h1 h2; omega
    | succ m ih =>
      intro f h1 h2
      show fX10_size__l52 (nI i) (nI n) w (lo2 (fX10_size__l52 (nI i) (nI n) w) m) M (nI f) = _
      generalize hG : lo2 (fX10_size__l52 (nI i) (nI n) w) m = G at ih ⊢
      unfold fX10_size__l52
      obtain ⟨v, k1, k2⟩ := alarms_M (f := f) hi hh (by omega) hn h7 h77 hL hl
      rw [if_neg (show ¬ (10 : Int32) ≤ nI f from nI_ge (b := 10) (by omega) (by omega)), k1, Option.bind_some, g99, Option.bind_some, Option.bind_some, Option.bind_some, nI_1]
      have stop : (∀ u, u < e → okA L hm f u) → f = mxN (dsN L hm) e := fun q => by
        have := (iff1 f).mp q
        omega
      have goon : ¬ (∀ u, u < e → okA L hm f u) → f + 1 ≤ mxN (dsN L hm) e := fun q => by
        have h3 : ¬ mxN (dsN L hm) e ≤ f := fun z => q ((iff1 f).mpr z)
        omega
      rcases k2 with ⟨rfl, k2⟩ | ⟨t, ht, rfl, k2, k3⟩
      · rw [if_pos rfl, stop (fun u hu => k2 u (by rcases he with ⟨-, rfl⟩ | ⟨he, -⟩ <;> omega))]
      · rw [if_neg (nI_m1 (by omega))]
        rcases he with ⟨rfl, rfl⟩ | ⟨he, rfl⟩
        · rw [if_pos rfl]
          exact ih (f + 1) (by omega) (goon (fun q => k2 (q t ht)))
        · rw [if_neg (nI_m1 (by omega))]
          by_cases z : e ≤ t
          · rw [if_pos (nI_le (by omega) (by omega)), stop (fun u hu => k3 u (by omega))]
          · rw [if_neg (nI_ge (by omega) (by omega))]
            exact ih (f + 1) (by omega) (goon (fun q => k2 (q t (by omega))))
  exact lo FU 0 (by unfold FU; omega) (by omega)
theorem p_size {X : XW} {M : MW} {nb : Nat} (h : Sim X M nb) (a l w : Int32) : R2 nb (fX9_size X nb a l w) (fX10_size_ M a l w) := by
  dsimp only [fX9_size, fX10_size_, fX9_size_b30, fX9_size_b31]
  rw [night_eq h, in_eq]
  rcases boat_of h a with ⟨c1, c2⟩ | ⟨c1, i, b, rfl, hi, hi8, hb, c2⟩
  · rw [c2, if_pos c1, Option.bind_some]
    simp only [ref_none, Option.bind_some]
    dsimp only [oc]
    rw [ite_self, ite_self]
    exact R2.mk h
  rw [c2, if_neg c1, Option.bind_some, ref_no, ref_ok hb n10, Option.bind_some, Option.bind_some]
  dsimp only [oc]
  by_cases c3 : fX9_isNight X l = 0
  · rw [if_pos c3, if_pos c3, if_neg (by decide)]; exact R2.mk h
  rw [if_neg c3, if_neg c3]
  by_cases c4 : fX9_within w 0 1 = 0
  · rw [if_pos c4, if_pos c4, if_neg (by decide)]; exact R2.mk h
  rw [if_neg c4, if_neg c4]
  have it : inb (nI i) 6 := in_nI hi (by omega)
  have hcl : (nI i).toNatClampNeg = i := cl_nI (by omega)
  rw [rd_in it, hcl, Option.bind_some]
  by_cases c5 : M.2 77 i = -1
  · rw [if_pos c5, if_pos c5, if_neg (by decide)]; exact R2.mk h
  rw [if_neg c5, if_neg c5, if_pos rfl]
  obtain ⟨h0, h12, h7, h7x⟩ := g_now h
  obtain ⟨n, rfl, hn⟩ := night_in h h7 h12 c3
  obtain ⟨nB, hB, h8, h8x, F⟩ := h.nB
  have hib : i < nB := by rw [h8, nI_toInt (by omega)] at hi8; omega
  obtain ⟨X', M', g1, f1, hS, gn, fn, gt, ft, g4, f4, hL⟩ := one h F hib hb h7 h7x hn
  obtain ⟨-, -, hp40, hcOk⟩ := F.2.2 i hib
  obtain ⟨c, hc, hcc⟩ := hcOk.resolve_left c5
  have hN := hb.2.1
  unfold NS at hN
  have hNb : NS ≤ b ∧ b < TT nb := ⟨hb.2.1, hb.2.2.1⟩
  have h7' : M'.1 7 = nI h0 := (fn.1 7 (by decide)).trans h7
  have h77' : M'.2 77 i = nI c := by rw [fn.2 77 (by decide)]; exact hcc
  have hx3 : X'.1 (27 + 2 * i) 3 = (trA X M nb h0 i n).2.2 := gt.2.2
  have h99 : M'.2 99 i = (trA X M nb h0 i n).2.2 := ft.2.2
  have hx4 : X'.1 b 4 = nI c := by rw [gn.1 b (by omega), hb.2.2.2.2.2.2.2.1]; exact hcc
  have hx11 : X'.1 0 11 = nI h0 := by rw [gn.1 0 (by decide)]; exact h7x
  obtain ⟨e, he, hL2⟩ : ∃ e, (((trA X M nb h0 i n).2.2 = -1 ∧ e = n) ∨ (e < n ∧ (trA X M nb h0 i n).2.2 = nI (h0 + e))) ∧ ∀ u, u < e → ∃ d, d < 100 ∧ lyA X M nb h0 i u = nI d := by
    have hly : ∀ e, e ≤ n → (∀ u, u < e → dvX X nb (bOf X i) (nI c) (nI (pOf M i)) (h0 + u) = 0) → ∀ u, u < e → ∃ d, d < 100 ∧ lyA X M nb h0 i u = nI d := by
      intro e he hz u hu
      unfold lyA lyT
      rw [hcc]
      rcases trj_AB X nb (bOf X i) (nI (pOf M i)) hc h0 (u + 1) with ⟨-, z⟩ | ⟨⟨u', hu', z⟩, -⟩
      · rw [z]
        show ∃ d, d < 100 ∧ (if nI c = -1 then -1 else lyX X (nI c) (nI (pOf M i)) (h0 + u)) = nI d
        rw [if_neg (nI_m1 (by omega))]
        obtain ⟨_, _, _, z⟩ := ly_X (X' := X) (h := h0 + u) h.1 (nX.rf X) hc (by omega) hp40
        exact z
      · exact absurd (hz u' (by omega)) z
    unfold trA
    rw [hcc]
    rcases trj_fi X nb (bOf X i) (nI (pOf M i)) (h0 := h0) hc n (by omega) with ⟨q1, q2⟩ | ⟨e, he, q1, q2⟩
    · exact ⟨n, Or.inl ⟨q2, rfl⟩, hly n (Nat.le_refl _) q1⟩
    · exact ⟨e, Or.inr ⟨he, q1⟩, hly e (by omega) q2⟩
  have hen : e ≤ n := by rcases he with ⟨-, rfl⟩ | ⟨he, -⟩ <;> omega
  obtain ⟨fa1, fa2⟩ := far_X (X := X') (L := lyA X M nb h0 i) (e := e) hi hc (by omega) hL2 (fun u hu => g4 u (by omega))
  have hM := size_M (w := w) hi hc hn h7' h77' h99 hL f4 he hL2 fa2
  rw [g1, bd2_s, Option.bind_some, if_pos (kd_co hi).1, f1, bs_M, hM, hx3]
  obtain ⟨v, k1, k2⟩ := beyond_X (X := X') (f := mxN (dsN (lyA X M nb h0 i) c) e) hi hc (by omega) hn hL g4
  obtain ⟨v', k1', k2'⟩ := alarms_M (M := M') (f := mxN (dsN (lyA X M nb h0 i) c) e) hi hc (by omega) hn h7' h77' hL f4
  have hv := firA.un hn k2 k2'
  subst hv
  have g99 : rd (M'.2 99) 6 (nI i) = some (trA X M nb h0 i n).2.2 := by rw [rd_in it, hcl, h99]
  dsimp only [fX9_size_b73, fX9_size_b105, fX9_size_b148, fX10_size__b104]
  simp only [Option.bind_some, if_pos hNb, if_pos (kd_co hi).1, if_pos, hx4, hx11, nI_add, k1', g99, hx3]
  rcases he with ⟨q, rfl⟩ | ⟨he, q⟩
  · rw [if_pos q, fa1, Option.bind_some]
    by_cases w0 : w = 0
    · rw [if_pos w0, if_pos w0]; exact R2.mk hS
    rw [if_neg w0, if_neg w0]
    by_cases v1 : v = -1
    · rw [if_pos v1]; exact R2.mk hS
    · rw [if_neg v1, if_pos q]; exact R2.mk hS
  · have q1 : ¬ (trA X M nb h0 i n).2.2 = -1 := by rw [q]; exact nI_m1 (by omega)
    rw [if_neg q1, if_neg n10, q, fa1, Option.bind_some]
    by_cases w0 : w = 0
    · rw [if_pos w0, if_pos w0]; exact R2.mk hS
    rw [if_neg w0, if_neg w0, if_neg n10, k1, Option.bind_some]
    by_cases v1 : v = -1
    · rw [if_pos v1, if_pos v1]; exact R2.mk hS
    · rw [if_neg v1, if_neg v1, if_neg (nI_m1 (by omega))]; exact R2.mk hS

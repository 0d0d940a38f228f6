/-! hit, wake, goOn -/
theorem mts_at {ly : Nat → Nat → Int32} {h0 nB n t : Nat} (ht : t < (mts ly h0 nB n).length) (hB : nB ≤ 6) (hn : h0 + n ≤ 12) : ∃ h i j, (mts ly h0 nB n)[t]? = some (h, i, j) ∧ h < 12 ∧ i < j ∧ j < nB := by
  obtain ⟨k, i, j, hk, h1, h2, -, -, he⟩ := mts_mem.mp (List.getElem_mem ht)
  exact ⟨h0 + k, i, j, by rw [List.getElem?_eq_getElem ht, he], by omega, h1, h2⟩
theorem p_hit {X : XW} {M : MW} {nb : Nat} (h : Sim X M nb) (l k w : Int32) : R2 nb (fX9_hit X nb l k w) (fX10_hit M l k w) := by
  unfold fX9_hit fX10_hit
  rw [in_eq, night_eq h]
  by_cases c3 : fX9_isNight X l = 0
  · rw [if_pos c3, if_pos c3]; exact R2.mk h
  rw [if_neg c3, if_neg c3]
  by_cases c4 : fX9_within w 0 2 = 0
  · rw [if_pos c4, if_pos c4]; exact R2.mk h
  rw [if_neg c4, if_neg c4]
  obtain ⟨h0, h12, h7, h7x⟩ := g_now h
  obtain ⟨n, rfl, hn⟩ := night_in h h7 h12 c3
  obtain ⟨nB, hB, h8, h8x, F⟩ := h.nB
  obtain ⟨X', M', g1, f1, gA, fA, hS⟩ := both h F h8x h7 h7x hn
  have h8x' : X'.1 0 12 = nI nB := by rw [gA.1.1 0 (by decide)]; exact h8x
  have h7x' : X'.1 0 11 = nI h0 := by rw [gA.1.1 0 (by decide)]; exact h7x
  obtain ⟨X2, k1, k2, k3⟩ := meet_ok hB h8x' h7x' hn gA
  have hS2 : Sim X2 M' nb := hS.n k2.n (nM.rf M')
  have hlen := mts_len (lyA X M nb h0) h0 hB n
  obtain ⟨r1, r2⟩ := fA.2.2.2
  rw [g1, f1, bs_X, bs_M, k1, bd2_s, r1]
  by_cases c5 : fX9_within k 0 (nI (mts (lyA X M nb h0) h0 nB n).length - 1) = 0
  · rw [if_pos c5, if_pos c5]; exact R2.mk hS2
  rw [if_neg c5, if_neg c5]
  have hw := wi_ne c5
  have e0 : (0 : Int32).toInt = 0 := rfl
  rw [show (1 : Int32) = nI 1 from rfl, pk_sub_toInt (by omega) (by decide), e0] at hw
  obtain ⟨t, rfl, -, hte⟩ := nn_ge hw.1
  obtain ⟨hh, i, j, ha, b1, b2, b3⟩ := mts_at (ly := lyA X M nb h0) (h0 := h0) (nB := nB) (n := n) (t := t) (by omega) hB hn
  obtain ⟨m1, m2, m3⟩ := r2 t _ ha
  have x1 : X2.2.1 15 t = nI (100 * hh + 10 * i + j) := k3 t _ ha
  have it : inb (nI t) 180 := in_nI (by omega) (by omega)
  have hcl : (nI t).toNatClampNeg = t := cl_nI (by omega)
  rw [rd_in it, rd_in it, rd_in it, rd_in it, hcl, x1, m1, m2, m3]
  simp only [Option.bind_some]
  rw [d100 (by omega), d10 (by omega), r10 (by omega), r10 (by omega), show (100 * hh + 10 * i + j) / 100 = hh by omega, show (100 * hh + 10 * i + j) / 10 % 10 = i by omega, show (100 * hh + 10 * i + j) % 10 = j by omega]
  by_cases w0 : w = 0
  · rw [if_pos w0, if_pos w0]; exact R2.mk hS2
  rw [if_neg w0, if_neg w0]
  by_cases w1 : w = 1
  · rw [if_pos w1, if_pos w1]; exact R2.mk hS2
  rw [if_neg w1, if_neg w1]
  exact R2.mk hS2
theorem p_wake {X : XW} {M : MW} {nb : Nat} (h : Sim X M nb) (l : Int32) : R2 nb (fX9_wake X nb l) (fX10_wake M l) := by
  dsimp only [fX9_wake, fX10_wake, bd]
  rw [night_eq h]
  by_cases c3 : fX9_isNight X l = 0
  · rw [if_pos c3, if_pos c3]; exact R2.mk h
  rw [if_neg c3, if_neg c3]
  obtain ⟨h0, h12, h7, h7x⟩ := g_now h
  obtain ⟨n, rfl, hn⟩ := night_in h h7 h12 c3
  obtain ⟨nB, hB, h8, h8x, F⟩ := h.nB
  obtain ⟨X', M', g1, f1, gA, fA, hS⟩ := both h F h8x h7 h7x hn
  have h8x' : X'.1 0 12 = nI nB := by rw [gA.1.1 0 (by decide)]; exact h8x
  have h7x' : X'.1 0 11 = nI h0 := by rw [gA.1.1 0 (by decide)]; exact h7x
  obtain ⟨X2, k1, k2, k3⟩ := meet_ok hB h8x' h7x' hn gA
  have hS2 : Sim X2 M' nb := hS.n k2.n (nM.rf M')
  have hlen := mts_len (lyA X M nb h0) h0 hB n
  obtain ⟨r1, r2⟩ := fA.2.2.2
  rw [g1, f1, bs_X, bs_M, k1, bd2_s, r1]
  by_cases c5 : (mts (lyA X M nb h0) h0 nB n).length = 0
  · rw [if_pos ((n_pos (by omega)).mpr c5), if_pos ((n_pos (by omega)).mpr c5)]; exact R2.mk hS2
  have c5' : ¬ nI (mts (lyA X M nb h0) h0 nB n).length = 0 := fun q => c5 ((n_pos (by omega)).mp q)
  rw [if_neg c5', if_neg c5']
  obtain ⟨hh, i, j, ha, b1, b2, b3⟩ := mts_at (ly := lyA X M nb h0) (h0 := h0) (nB := nB) (n := n) (t := 0) (by omega) hB hn
  obtain ⟨-, m2, m3⟩ := r2 0 _ ha
  have x1 : X2.2.1 15 0 = nI (100 * hh + 10 * i + j) := k3 0 _ ha
  have q1 : rd (X2.2.1 15) 180 0 = some (nI (100 * hh + 10 * i + j)) := by rw [← x1]; exact if_pos (by decide)
  have q2 : rd (M'.2 102) 180 0 = some (nI i) := by rw [← m2]; exact if_pos (by decide)
  have q3 : rd (M'.2 103) 180 0 = some (nI j) := by rw [← m3]; exact if_pos (by decide)
  have ii : inb (nI i) 6 := in_nI (by omega) (by omega)
  have ij : inb (nI j) 6 := in_nI (by omega) (by omega)
  rw [q1, q2, q3]
  simp only [Option.bind_some]
  rw [d10 (by omega), r10 (by omega), r10 (by omega), show (100 * hh + 10 * i + j) / 10 % 10 = i by omega, show (100 * hh + 10 * i + j) % 10 = j by omega, if_pos ii, if_pos ij, rd_in ii, rd_in ij, cl_nI (show i < 2 ^ 31 by omega), cl_nI (show j < 2 ^ 31 by omega), Option.bind_some, Option.bind_some, k2.1, (gA.2 i (by omega)).1.2.1, (gA.2 j (by omega)).1.2.1, (fA.2.1 i (by omega)).2.1, (fA.2.1 j (by omega)).2.1]
  by_cases q : (trA X M nb h0 j n).2.1 ≤ (trA X M nb h0 i n).2.1
  · rw [if_pos q, if_pos q]; exact R2.mk hS2
  · rw [if_neg q, if_neg q]; exact R2.mk hS2
/-- the hour that it is -/
theorem Sim.now_w {X : XW} {M : MW} {nb t : Nat} (h : Sim X M nb) (ht : t ≤ 11) : Sim (xI X 0 11 (nI t)) (mI M 7 (nI t)) nb := by
  obtain ⟨h1, h2, h3, h4, h5, h6, h7, h8, h9⟩ := h
  have e : ∀ j, j ≠ 0 → (xI X 0 11 (nI t)).1 j = X.1 j := fun j hj => xI_ne X 11 (nI t) hj
  have e0 : ∀ q, q ≠ 11 → (xI X 0 11 (nI t)).1 0 q = X.1 0 q := fun q hq => xI_k X 0 (nI t) hq
  have em : ∀ k, k ≠ 7 → (mI M 7 (nI t)).1 k = M.1 k := fun k hk => va_up_ne _ _ hk
  have e7 : (mI M 7 (nI t)).1 7 = nI t := mI_at _ _ _
  refine ⟨?_, ⟨?_, ?_, fun i hi => ?_, ?_, ?_⟩, h3.c (e0 13 (by decide)) (fun i _ _ => rfl) (em 21 (by decide)) rfl rfl, ⟨?_, ?_, h4.2.2⟩, ⟨h5.1, (em 46 (by decide)).trans h5.2⟩, ⟨?_, ?_, h6.2.2⟩, h7, h8.c (fun i _ _ => e i (by omega)) (fun i _ _ => rfl) rfl rfl rfl, ?_⟩
  · obtain ⟨a1, a2, a3, a4, a5, a6, a7, a8, -, -, a11⟩ := h1
    refine ⟨a1, a2, a3, a4, a5, a6, a7, a8, ?_, ?_, a11⟩
    · rw [e7, xI_at]
    · rw [e7, nI_toInt (by omega)]; omega
  · rw [e0 12 (by decide), em 8 (by decide)]; exact h2.1
  · rw [em 8 (by decide)]; exact h2.2.1
  · rw [em 8 (by decide)] at hi
    obtain ⟨b, hb⟩ := h2.2.2.1 i hi
    have hne : b ≠ 0 := by have := hb.2.1; unfold NS at this; omega
    refine ⟨b, hb.1, hb.2.1, hb.2.2.1, ?_⟩
    rw [e b hne]
    exact hb.2.2.2
  · rw [em 8 (by decide)]; exact h2.2.2.2.1
  · rw [em 8 (by decide)]; exact h2.2.2.2.2
  · rw [e0 14 (by decide), em 22 (by decide)]; exact h4.1
  · rw [em 22 (by decide), em 21 (by decide)]; exact h4.2.1
  · rw [e 7 (by decide), em 18 (by decide)]; exact h6.1
  · rw [em 18 (by decide)]; exact h6.2.1
  · unfold SImg at h9 ⊢
    rw [em 23 (by decide), em 24 (by decide), em 25 (by decide), em 26 (by decide), em 8 (by decide), em 21 (by decide), e 21 (by decide)]
    exact h9
theorem p_goOn {X : XW} {M : MW} {nb : Nat} (h : Sim X M nb) (l : Int32) : R2 nb (fX9_goOn X nb l) (fX10_goOn M l) := by
  unfold fX9_goOn fX10_goOn
  rw [night_eq h]
  obtain ⟨h0, h12, h7, h7x⟩ := g_now h
  have hwi : ∀ a : Nat, a < 2 ^ 30 → (fX9_within l 0 (nI a) = 0 ∨ ∃ n, l = nI n ∧ n ≤ a) := fun a ha => by
    by_cases c : fX9_within l 0 (nI a) = 0
    · exact Or.inl c
    · have w := wi_ne c
      have e0 : (0 : Int32).toInt = 0 := rfl
      rw [nI_toInt (by omega), e0] at w
      obtain ⟨n, rfl, -, hne⟩ := nn_ge w.1
      exact Or.inr ⟨n, rfl, by omega⟩
  have hwn : ∀ n a : Nat, n < 2 ^ 31 → a < 2 ^ 30 → fX9_within (nI n) 0 (nI a) = if n ≤ a then 1 else 0 := fun n a hn ha => by
    rw [show fX9_within (nI n) 0 (nI a) = if 0 ≤ n ∧ n ≤ a then 1 else 0 from wi_nI (a := 0) hn (by omega) (by omega)]
    by_cases q : n ≤ a
    · rw [if_pos q, if_pos (by omega)]
    · rw [if_neg q, if_neg (by omega)]
  unfold fX9_isNight
  rw [h7x, h7, show (11 : Int32) - nI h0 = nI (11 - h0) from pk_sub (a := 11) (by omega), show (12 : Int32) - nI h0 = nI (12 - h0) from pk_sub (a := 12) (by omega)]
  rcases hwi (12 - h0) (by omega) with c | ⟨n, rfl, hn⟩
  · rw [if_pos c]
    have c' : fX9_within l 0 (nI (11 - h0)) = 0 := by
      rcases hwi (11 - h0) (by omega) with c2 | ⟨n, rfl, hn⟩
      · exact c2
      · rw [hwn n _ (by omega) (by omega), if_pos (by omega)] at c; cases c
    rw [if_pos c']
    exact R2.mk h
  rw [hwn n _ (by omega) (by omega), hwn n _ (by omega) (by omega), if_pos hn, if_neg n10, nI_add]
  by_cases c4 : h0 + n ≤ 11
  rotate_left
  · rw [if_neg (show ¬ n ≤ 11 - h0 by omega), if_pos rfl, if_neg (show ¬ nI (h0 + n) ≤ 11 from nI_ge (a := 11) (by omega) (by omega))]
    exact R2.mk h
  rw [if_pos (show n ≤ 11 - h0 by omega), if_neg n10, if_pos (show nI (h0 + n) ≤ 11 from nI_le (b := 11) (by omega) (by omega))]
  obtain ⟨nB, hB, h8, h8x, F⟩ := h.nB
  obtain ⟨X', M', g1, f1, gA, fA, hS⟩ := both h F h8x h7 h7x (show h0 + n ≤ 12 by omega)
  rw [g1, f1, bs_X, bs_M]
  have lo : ∀ (m t : Nat) (X1 : XW) (M1 : MW), 6 < m + t → t ≤ nB → Sim X1 M1 nb → X1.1 0 12 = nI nB → M1.1 8 = nI nB → X1.1 0 11 = nI h0 → M1.1 7 = nI h0 → (∀ i, i < nB → X1.1 (27 + 2 * i) 1 = (trA X M nb h0 i n).1) → (∀ i, i < nB → M1.2 97 i = (trA X M nb h0 i n).1) → R2 nb (lo2 (fX9_goOn_l25 nb (nI n)) m X1 (nI t)) (lo2 (fX10_goOn_l29 (nI n)) m M1 (nI t)) := by
    intro m
    induction m with
    | zero => intro t X1 M1 h1 h2; omega
    | succ m ih =>
      intro t X1 M1 h1 h2 s1 s2 s3 s4 s5 s6 s7
      show R2 nb (fX9_goOn_l25 nb (nI n) (lo2 (fX9_goOn_l25 nb (nI n)) m) X1 (nI t)) (fX10_goOn_l29 (nI n) (lo2 (fX10_goOn_l29 (nI n)) m) M1 (nI t))
      generalize hG : lo2 (fX9_goOn_l25 nb (nI n)) m = G at ih ⊢
      generalize hK : lo2 (fX10_goOn_l29 (nI n)) m = K at ih ⊢
      dsimp only [fX9_goOn_l25, fX10_goOn_l29, fX9_goOn_b57, fX10_goOn_b55, bd]
      rw [s2, s3, nI_1]
      by_cases ht : nB ≤ t
      · rw [if_pos (nI_le ht (by omega)), if_pos (nI_le ht (by omega)), s4, s5, nI_add, xI_at, show (mI M1 7 (nI (h0 + n))).1 7 = nI (h0 + n) from mI_at _ _ _]
        exact R2.mk (s1.now_w (by omega))
      have it : inb (nI t) 6 := in_nI (by omega) (by omega)
      have hcl : (nI t).toNatClampNeg = t := cl_nI (by omega)
      have bt := s1.at s3 hB (show t < nB by omega)
      have hc := trj_c (nb := nb) (b := bOf X t) (p := nI (pOf M t)) (h0 := h0) h.1 (F.2.2 t (by omega)).2.2.2 n (by omega)
      rw [if_neg (nI_ge (by omega) (by omega)), if_neg (nI_ge (by omega) (by omega)), rdR_in it, rd_in it, hcl, bt.1, Option.bind_some, if_pos it, Option.bind_some, Option.bind_some, if_pos it, if_pos ⟨bt.2.1, bt.2.2.1⟩, s6 t (by omega), s7 t (by omega)]
      have hb0 : bOf X1 t ≠ 0 ∧ ∀ i, i < nB → bOf X1 t ≠ 27 + 2 * i := by
        have := bt.2.1
        unfold NS at this
        exact ⟨by omega, fun i hi => by omega⟩
      refine ih (t + 1) _ _ (by omega) (by omega) (s1.boat_w (by rw [s3, nI_toInt (by omega)]; omega) bt (Or.inl ⟨rfl, rfl, ?_⟩)) ?_ s3 ?_ s5 (fun i hi => ?_) (fun i hi => ?_)
      · rcases hc with hc | ⟨c, hc, he⟩
        · show -1 ≤ (trj X nb (bOf X t) (nI (pOf M t)) (M.2 77 t) h0 n).1.toInt ∧ (trj X nb (bOf X t) (nI (pOf M t)) (M.2 77 t) h0 n).1.toInt ≤ 99
          rw [hc]; decide
        · show -1 ≤ (trj X nb (bOf X t) (nI (pOf M t)) (M.2 77 t) h0 n).1.toInt ∧ (trj X nb (bOf X t) (nI (pOf M t)) (M.2 77 t) h0 n).1.toInt ≤ 99
          rw [he, nI_toInt (by omega)]; omega
      · rw [xI_ne _ _ _ (Ne.symm hb0.1)]; exact s2
      · rw [xI_ne _ _ _ (Ne.symm hb0.1)]; exact s4
      · rw [xI_ne _ _ _ (Ne.symm (hb0.2 i hi))]; exact s6 i hi
      · rw [mA_ne _ _ _ (by decide)]; exact s7 i hi
  exact lo FU 0 X' M' (by unfold FU; omega) (by omega) hS (by rw [gA.1.1 0 (by decide)]; exact h8x) ((fA.1.1 8 (by decide)).trans h8) (by rw [gA.1.1 0 (by decide)]; exact h7x) ((fA.1.1 7 (by decide)).trans h7) (fun i hi => (gA.2 i hi).1.1) (fun i hi => (fA.2.1 i hi).1)

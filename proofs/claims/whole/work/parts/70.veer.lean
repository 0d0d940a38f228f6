/-! veer -/
theorem trj_AB (X : XW) (nb b : Nat) (p : Int32) {c : Nat} (hc : c < 100) (h0 : Nat) : ∀ k, ((∀ u, u < k → dvX X nb b (nI c) p (h0 + u) = 0) ∧ trj X nb b p (nI c) h0 k = (nI c, 0, -1)) ∨ ((∃ u, u < k ∧ ¬ dvX X nb b (nI c) p (h0 + u) = 0) ∧ ∃ o, 1 ≤ o ∧ o ≤ k ∧ (trj X nb b p (nI c) h0 k).2.1 = nI o) := by
  intro k
  induction k with
  | zero => exact Or.inl ⟨fun u hu => by omega, rfl⟩
  | succ k ih =>
    have hst : trj X nb b p (nI c) h0 (k + 1) = tst X nb b p (h0 + k) (trj X nb b p (nI c) h0 k) := rfl
    rcases ih with ⟨h1, h2⟩ | ⟨⟨u, hu, h1⟩, o, ho, ho2, h2⟩
    · rw [h2] at hst
      unfold tst at hst
      rw [if_neg (show ¬ nI c = -1 from nI_m1 (by omega))] at hst
      by_cases q : dvX X nb b (nI c) p (h0 + k) = 0
      · rw [if_pos q] at hst
        refine Or.inl ⟨fun u hu => ?_, hst⟩
        by_cases e : u = k
        · rw [e]; exact q
        · exact h1 u (by omega)
      · rw [if_neg q] at hst
        refine Or.inr ⟨⟨k, by omega, q⟩, 1, by omega, by omega, ?_⟩
        rw [hst]
        rfl
    · refine Or.inr ⟨⟨u, by omega, h1⟩, ?_⟩
      rw [hst]
      unfold tst
      by_cases q1 : (trj X nb b p (nI c) h0 k).1 = -1
      · rw [if_pos q1]; exact ⟨o, ho, by omega, h2⟩
      rw [if_neg q1]
      by_cases q2 : dvX X nb b (trj X nb b p (nI c) h0 k).1 p (h0 + k) = 0
      · rw [if_pos q2]; exact ⟨o, ho, by omega, h2⟩
      rw [if_neg q2]
      refine ⟨o + 1, by omega, by omega, ?_⟩
      show (trj X nb b p (nI c) h0 k).2.1 + 1 = _
      rw [h2, nI_1]
theorem trj_gone (X : XW) (nb b : Nat) (p : Int32) (h0 : Nat) : ∀ k, trj X nb b p (-1) h0 k = (-1, 0, -1) := by
  intro k
  induction k with
  | zero => rfl
  | succ k ih =>
    show tst X nb b p (h0 + k) (trj X nb b p (-1) h0 k) = _
    rw [ih]
    exact if_pos rfl
theorem stays_ok {X X0 : XW} {M : MW} {H : Nat → Prop} {nb i b c p h0 n : Nat} (E : ESim X M H) (k : kAt X M nb i b) (a0 : nX X X0) (hc : c < 100) (hp : p ≤ 45) (h7 : X0.1 0 11 = nI h0) (hn : h0 + n ≤ 12) (hH : ∀ h, h0 ≤ h → h < h0 + n → H h) : ∃ v X', fX9_stays X0 nb b (nI c) (nI p) (nI n) = some (v, X') ∧ eX X0 X' ∧ ((v = 1 ∧ ∀ u, u < n → dvX X nb b (nI c) (nI p) (h0 + u) = 0) ∨ (v = 0 ∧ ∃ u, u < n ∧ ¬ dvX X nb b (nI c) (nI p) (h0 + u) = 0)) := by
  have lo : ∀ (m t : Nat) (X1 : XW), n < m + t → t ≤ n → eX X0 X1 → (∀ u, u < t → dvX X nb b (nI c) (nI p) (h0 + u) = 0) → ∃ v X', lo2 (fX9_stays_l6 nb b (nI c) (nI p) (nI n)) m X1 (nI (h0 + t)) = some (v, X') ∧ eX X0 X' ∧ ((v = 1 ∧ ∀ u, u < n → dvX X nb b (nI c) (nI p) (h0 + u) = 0) ∨ (v = 0 ∧ ∃ u, u < n ∧ ¬ dvX X nb b (nI c) (nI p) (h0 + u) = 0)) := by
    intro m
    induction m with
    | zero => intro t X1 h1 h2; omega
    | succ m ih =>
      intro t X1 h1 h2 a hz
      show ∃ v X', fX9_stays_l6 nb b (nI c) (nI p) (nI n) (lo2 (fX9_stays_l6 nb b (nI c) (nI p) (nI n)) m) X1 (nI (h0 + t)) = some (v, X') ∧ _
      generalize hG : lo2 (fX9_stays_l6 nb b (nI c) (nI p) (nI n)) m = G at ih ⊢
      unfold fX9_stays_l6
      rw [a.1, h7, nI_add, nI_1]
      by_cases ht : t = n
      · subst ht
        rw [if_pos (nI_le (Nat.le_refl _) (by omega))]
        exact ⟨1, X1, rfl, a, Or.inl ⟨rfl, hz⟩⟩
      rw [if_neg (nI_ge (by omega) (by omega))]
      obtain ⟨X2, g1, g2⟩ := go_X E k (a0.tr a.n) hc (show h0 + t < 12 by omega) (hH _ (by omega) (by omega)) hp
      rw [g1, bd2_s]
      by_cases q : dvX X nb b (nI c) (nI p) (h0 + t) = 0
      · rw [if_pos q]
        refine ih (t + 1) X2 (by omega) (by omega) (a.tr g2) (fun u hu => ?_)
        by_cases e : u = t
        · rw [e]; exact q
        · exact hz u (by omega)
      · rw [if_neg q]
        exact ⟨0, X2, rfl, a.tr g2, Or.inr ⟨rfl, t, by omega, q⟩⟩
  unfold fX9_stays
  rw [bd, h7]
  exact lo FU 0 X0 (by unfold FU; omega) (by omega) (eX.rf X0) (fun u hu => by omega)
theorem ESim.b {X : XW} {M M' : MW} {H : Nat → Prop} (h : ESim X M H) (a7 : M'.1 7 = M.1 7) (a22 : M'.1 22 = M.1 22) (a46 : M'.1 46 = M.1 46) (b : ∀ i, i < 94 ∨ i = 96 → i ≠ 77 → i ≠ 78 → M'.2 i = M.2 i) : ESim X M' H := by
  obtain ⟨h1, ⟨r, hr, l1, l2, l3⟩, w, hw, h3, h4⟩ := h
  refine ⟨?_, ⟨r, hr, a22.trans l1, l2, ?_⟩, w, hw, h3, fun k hk hk' => ?_⟩
  · unfold SBay at h1 ⊢
    rw [a7, b 66 (by decide) (by decide) (by decide), b 67 (by decide) (by decide) (by decide), b 68 (by decide) (by decide) (by decide), b 69 (by decide) (by decide) (by decide), b 70 (by decide) (by decide) (by decide), b 71 (by decide) (by decide) (by decide), b 72 (by decide) (by decide) (by decide), b 92 (by decide) (by decide) (by decide)]
    exact h1
  · unfold STx at l3 ⊢
    rw [b 83 (by decide) (by decide) (by decide), b 82 (by decide) (by decide) (by decide)]
    exact l3
  · have e : fX10_windIn M' (nI k) = fX10_windIn M (nI k) := by
      unfold fX10_windIn
      rw [a46, b 69 (by decide) (by decide) (by decide), b 96 (by decide) (by decide) (by decide)]
    rw [e]
    exact h4 k hk hk'
theorem kAt.b {X : XW} {M M' : MW} {nb i q : Nat} (h : kAt X M nb i q) (b : ∀ i, i < 94 ∨ i = 96 → i ≠ 77 → i ≠ 78 → M'.2 i = M.2 i) : kAt X M' nb i q := by
  unfold kAt at h ⊢
  rw [b 73 (by decide) (by decide) (by decide), b 74 (by decide) (by decide) (by decide), b 75 (by decide) (by decide) (by decide), b 76 (by decide) (by decide) (by decide)]
  exact h
/-- a model's world but for one boat's row r -/
def vM (r i : Nat) (M M' : MW) : Prop := (∀ k, k ≠ 55 → M'.1 k = M.1 k) ∧ (∀ j, j < 94 ∨ j = 96 → j ≠ r → M'.2 j = M.2 j) ∧ ∀ q, q ≠ i → M'.2 r q = M.2 r q
theorem vM.rf (r i : Nat) (M : MW) : vM r i M M := ⟨fun _ _ => rfl, fun _ _ _ => rfl, fun _ _ => rfl⟩
theorem vM.n {r i : Nat} {M M1 M2 : MW} (hr : r < 94) (a : vM r i M M1) (b : nM M1 M2) : vM r i M M2 := ⟨fun k hk => (b.1 k hk).trans (a.1 k hk), fun j hj hr => (b.2 j hj).trans (a.2.1 j hj hr), fun q hq => by rw [b.2 r (Or.inl hr)]; exact a.2.2 q hq⟩
theorem vM.w {r i : Nat} {M M1 : MW} (hi : i < 2 ^ 31) (a : vM r i M M1) (v : Int32) : vM r i M (mA M1 r (nI i) v) ∧ (mA M1 r (nI i) v).2 r i = v := by
  refine ⟨⟨a.1, fun j hj hr => (mA_ne _ _ _ hr).trans (a.2.1 j hj hr), fun q hq => ?_⟩, ?_⟩
  · rw [mA_at, cl_nI hi]
    exact (if_neg hq).trans (a.2.2 q hq)
  · rw [mA_at, cl_nI hi]
    exact if_pos rfl
theorem vM.back {r i : Nat} {M M1 : MW} (hi : i < 2 ^ 31) (a : vM r i M M1) : nM M (mA M1 r (nI i) (M.2 r i)) := by
  refine ⟨a.1, fun j hj => ?_⟩
  by_cases e : j = r
  · subst e
    rw [mA_at, cl_nI hi]
    funext q
    unfold upd
    by_cases c : q = i
    · rw [if_pos c, c]
    · rw [if_neg c]; exact a.2.2 q c
  · rw [mA_ne _ _ _ e]; exact a.2.1 j hj e
theorem p_veer {X : XW} {M : MW} {nb : Nat} (h : Sim X M nb) (a l : Int32) : R2 nb (fX9_veer X nb a l) (fX10_veer M a l) := by
  unfold fX9_veer fX10_veer
  rw [night_eq h]
  rcases boat_of h a with ⟨c1, c2⟩ | ⟨c1, i, b, rfl, hi, hi8, hb, c2⟩
  · rw [c2, if_pos c1]; exact R2.mk h
  rw [c2, if_neg c1, Option.bind_some]
  dsimp only [oc, fX9_refusal]
  by_cases c3 : fX9_isNight X l = 0
  · rw [if_pos c3, if_pos c3]; exact R2.mk h
  have it : inb (nI i) 6 := in_nI hi (by omega)
  have hcl : (nI i).toNatClampNeg = i := cl_nI (by omega)
  rw [if_neg c3, if_neg c3, if_pos ⟨hb.2.1, hb.2.2.1⟩, g_gone hb, rd_in it, hcl, Option.bind_some, Option.bind_some]
  by_cases c4 : M.2 77 i = -1
  · rw [if_pos c4, if_pos c4, if_neg n10]; exact R2.mk h
  rw [if_neg c4, if_neg c4, if_pos rfl, Option.bind_some, if_pos rfl, rd_in it, hcl, Option.bind_some]
  obtain ⟨h0, h12, h7, h7x⟩ := g_now h
  obtain ⟨n, rfl, hn⟩ := night_in h h7 h12 c3
  obtain ⟨nB, hB, h8, h8x, F⟩ := h.nB
  have hib : i < nB := by rw [h8, nI_toInt (by omega)] at hi8; omega
  have eb := bOf_at hb
  obtain ⟨kt, pt, pt2, ct⟩ := F.2.2 i hib
  rw [eb] at kt
  obtain ⟨c, hc, hcc⟩ := ct.resolve_left c4
  have hN : NS ≤ b ∧ b < TT nb := ⟨hb.2.1, hb.2.2.1⟩
  have lo : ∀ (m m' v : Nat) (X1 : XW) (M1 : MW), 42 < m + v → 43 < m' + v → 1 ≤ v → v ≤ 41 → nX X X1 → vM 78 i M M1 → R2 nb (lo2 (fX9_veer_l32 nb (nI n) (some b)) m X1 (nI v)) (lo3 (fX10_veer_l48 (nI i) (nI n) (M.2 78 i)) m' M1 (-1) (nI v)) := by
    intro m
    induction m with
    | zero => intro m' v X1 M1 h1 h2 h3 h4; omega
    | succ m ih =>
      intro m' v X1 M1 h1 h2 h3 h4 aX aM
      obtain ⟨m'', rfl⟩ : ∃ q, m' = q + 1 + 1 := ⟨m' - 2, by omega⟩
      show R2 nb (fX9_veer_l32 nb (nI n) (some b) (lo2 (fX9_veer_l32 nb (nI n) (some b)) m) X1 (nI v)) (fX10_veer_l48 (nI i) (nI n) (M.2 78 i) (lo3 (fX10_veer_l48 (nI i) (nI n) (M.2 78 i)) (m'' + 1)) M1 (-1) (nI v))
      have hend : ∀ (M2 : MW) (r z : Nat), vM 78 i M M2 → r < 100 → lo3 (fX10_veer_l48 (nI i) (nI n) (M.2 78 i)) (m'' + 1) M2 (nI r) (nI z) = some (nI r, mA M2 78 (nI i) (M.2 78 i)) := by
        intro M2 r z a2 hr
        show fX10_veer_l48 (nI i) (nI n) (M.2 78 i) (lo3 (fX10_veer_l48 (nI i) (nI n) (M.2 78 i)) m'') M2 (nI r) (nI z) = _
        generalize lo3 (fX10_veer_l48 (nI i) (nI n) (M.2 78 i)) m'' = G
        unfold fX10_veer_l48 fX10_veer_b97
        rw [if_neg (show ¬ nI r = -1 from nI_m1 (by omega)), if_pos it, ite_self]
        rfl
      have ih' := ih (m'' + 1)
      generalize hG : lo2 (fX9_veer_l32 nb (nI n) (some b)) m = G at ih' ⊢
      generalize hK : lo3 (fX10_veer_l48 (nI i) (nI n) (M.2 78 i)) (m'' + 1) = K at ih' hend ⊢
      dsimp only [fX9_veer_l32, fX10_veer_l48, fX10_veer_b97, bd]
      by_cases hv : v = 41
      · rw [if_pos (show (40 : Int32) < nI v from nI_lt (a := 40) (by omega) (by omega)), if_pos (show (40 : Int32) < nI v from nI_lt (a := 40) (by omega) (by omega)), if_pos it]
        exact R2.mk (h.n aX (aM.back (by omega)))
      obtain ⟨w1, w2⟩ := aM.w (by omega) (nI v)
      have E1 : ESim X (mA M1 78 (nI i) (nI v)) All := h.es.b (w1.1 7 (by decide)) (w1.1 22 (by decide)) (w1.1 46 (by decide)) (fun j hj _ h78 => w1.2.1 j hj h78)
      have F1 : flt X (mA M1 78 (nI i) (nI v)) nb nB := by
        refine ⟨hB, (w1.1 8 (by decide)).trans h8, fun j hj => ?_⟩
        obtain ⟨k1, k2, k3, k4⟩ := F.2.2 j hj
        refine ⟨k1.b (fun q hq _ h78 => w1.2.1 q hq h78), ?_⟩
        rw [w1.2.1 77 (by decide) (by decide)]
        unfold pOf
        by_cases e : j = i
        · subst e
          rw [w2, cl_nI (by omega)]
          exact ⟨rfl, by omega, k4⟩
        · rw [w1.2.2 j e]
          exact ⟨k2, k3, k4⟩
      obtain ⟨M2, f1, f2, f3, -, -⟩ := goes_ok E1 F1 ((w1.1 7 (by decide)).trans h7) hn (fun _ _ _ => trivial)
      have r2 := (f3 i hib).2.1
      have ev : pOf (mA M1 78 (nI i) (nI v)) i = v := by unfold pOf; rw [w2, cl_nI (by omega)]
      have etr : trA X (mA M1 78 (nI i) (nI v)) nb h0 i n = trj X nb b (nI v) (nI c) h0 n := by
        unfold trA
        rw [ev, eb, w1.2.1 77 (by decide) (by decide), hcc]
      rw [etr] at r2
      obtain ⟨s, X2, s1, s2, s3⟩ := stays_ok (p := v) h.es kt aX hc (by omega) (show X1.1 0 11 = nI h0 by rw [aX.1 0 (by decide)]; exact h7x) hn (fun _ _ _ => trivial)
      rw [if_neg (show ¬ (40 : Int32) < nI v from nI_nlt (a := 40) (by omega) (by omega)), if_neg (show ¬ (40 : Int32) < nI v from nI_nlt (a := 40) (by omega) (by omega)), if_pos rfl, if_pos it, Option.bind_some, if_pos hN, show X1.1 b 4 = nI c by rw [aX.1 b (by have := hN.1; unfold NS at this; omega), hb.2.2.2.2.2.2.2.1]; exact hcc, s1, bd2_s, f1, bs_M, rd_in it, hcl, r2, Option.bind_some, nI_1]
      rcases trj_AB X nb b (nI v) hc h0 n with ⟨q1, q2⟩ | ⟨⟨u, hu, q1⟩, o, ho, ho2, q2⟩
      · rcases s3 with ⟨rfl, -⟩ | ⟨rfl, u, hu, hu2⟩
        · rw [q2, if_neg n10, if_pos rfl, hend M2 v _ (w1.n (by decide) f2) (by omega)]
          exact R2.mk (h.n (aX.tr s2.n) ((w1.n (by decide) f2).back (by omega)))
        · exact absurd (q1 u hu) hu2
      · rcases s3 with ⟨rfl, q3⟩ | ⟨rfl, -⟩
        · exact absurd (q3 u hu) q1
        · rw [q2, if_pos rfl, if_neg (nI_ne0 (by omega) (by omega))]
          exact ih' (v + 1) X2 M2 (by omega) (by omega) (by omega) (by omega) (aX.tr s2.n) (w1.n (by decide) f2)
  exact lo FU FU 1 X M (by unfold FU; omega) (by unfold FU; omega) (by omega) (by omega) (nX.rf X) (vM.rf 78 i M)

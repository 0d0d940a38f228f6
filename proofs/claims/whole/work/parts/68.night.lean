/-! night, fleet, hit, wake, goOn -/
theorem n_pos {n : Nat} (h : n < 2 ^ 31) : (nI n = 0) ↔ n = 0 := by
  rw [show (0 : Int32) = nI 0 from rfl, nI_eq h (by omega)]
theorem p_night {X : XW} {M : MW} {nb : Nat} (h : Sim X M nb) (l a w : Int32) : R2 nb (fX9_night X nb l a w) (fX10_night M l a w) := by
  unfold fX9_night fX10_night
  rw [in_eq, night_eq h]
  rcases boat_of h a with ⟨c1, c2⟩ | ⟨c1, i, b, rfl, hi, hi8, hb, c2⟩
  · rw [c2, if_pos c1]; exact R2.mk h
  rw [c2, if_neg c1, Option.bind_some]
  dsimp only [oc]
  by_cases c3 : fX9_isNight X l = 0
  · rw [if_pos c3, if_pos c3]; exact R2.mk h
  rw [if_neg c3, if_neg c3]
  by_cases c4 : fX9_within w 0 3 = 0
  · rw [if_pos c4, if_pos c4]; exact R2.mk h
  rw [if_neg c4, if_neg c4]
  obtain ⟨h0, h12, h7, h7x⟩ := g_now h
  obtain ⟨n, rfl, hn⟩ := night_in h h7 h12 c3
  obtain ⟨nB, hB, h8, h8x, F⟩ := h.nB
  have hib : i < nB := by rw [h8, nI_toInt (by omega)] at hi8; omega
  have eb := bOf_at hb
  obtain ⟨X', g1, g2, g3, g4⟩ := sailed_ok h.es F hib (by rw [eb]; exact hb) (nX.rf X) h7x hn (fun _ _ _ => trivial)
  obtain ⟨M', f1, f2, f3, f4, f5⟩ := goes_ok h.es F h7 hn (fun _ _ _ => trivial)
  rw [eb] at g1
  have it : inb (nI i) 6 := in_nI hi (by omega)
  have hcl : (nI i).toNatClampNeg = i := cl_nI (by omega)
  have hS : Sim X' M' nb := h.n (g2.n hi) f2
  obtain ⟨r1, r2, r3⟩ := f3 i hib
  obtain ⟨t1, t2, t3⟩ := g3
  dsimp only [fX9_sailed, bd]
  rw [if_pos it, hcl, g1, bs_X, bd2_s, f1, bs_M]
  by_cases w0 : w = 0
  · rw [if_pos w0, if_pos w0, rd_in it, hcl, Option.bind_some, Option.bind_some, if_pos (kd_co hi).1, t1, r1]; exact R2.mk hS
  rw [if_neg w0, if_neg w0]
  by_cases w1 : w = 1
  · rw [if_pos w1, if_pos w1, rd_in it, hcl, Option.bind_some, Option.bind_some, if_pos (kd_co hi).1, t2, r2]; exact R2.mk hS
  rw [if_neg w1, if_neg w1]
  by_cases w2 : w = 2
  · rw [if_pos w2, if_pos w2, rd_in it, hcl, Option.bind_some, Option.bind_some, if_pos (kd_co hi).1, t3, r3]; exact R2.mk hS
  rw [if_neg w2, if_neg w2]
  by_cases n0 : n = 0
  · rw [if_pos ((n_pos (by omega)).mpr n0), if_pos ((n_pos (by omega)).mpr n0)]; exact R2.mk hS
  have n0' : ¬ nI n = 0 := fun q => n0 ((n_pos (by omega)).mp q)
  have eh : nI h0 + nI n - 1 = nI (h0 + (n - 1)) := by
    rw [nI_add, show nI (h0 + n) - 1 = nI (h0 + n - 1) from pk_sub (b := 1) (by omega), show h0 + n - 1 = h0 + (n - 1) by omega]
  have e6 : (6 : Int32) * nI (h0 + (n - 1)) + nI i = nI (6 * (h0 + (n - 1)) + i) := by rw [show (6 : Int32) * nI (h0 + (n - 1)) = nI (6 * (h0 + (n - 1))) from pk_mul 6 _, nI_add]
  rw [if_neg n0', if_neg n0', Option.bind_some, if_pos (kd_co hi).1, (g2.n hi).1 0 (by decide), h7x, f2.1 7 (by decide), h7, eh, e6, lies_in hi (by omega), rd_in (in_nI (by omega) (by omega)), cl_nI (by omega), Option.bind_some, Option.bind_some, g4 (n - 1) (by omega), f4 (n - 1) (by omega) i hib]
  exact R2.mk hS
/-- the first to drag, and how many are lost -/
def bst (f : Nat → Int32) : Nat → Int32
  | 0 => -1
  | t + 1 => if f t = -1 then bst f t else if bst f t = -1 then nI t else if f (bst f t).toNatClampNeg ≤ f t then bst f t else nI t
def gns (c0 c1 : Nat → Int32) : Nat → Nat
  | 0 => 0
  | t + 1 => if c1 t = -1 ∧ ¬ c0 t = -1 then gns c0 c1 t + 1 else gns c0 c1 t
theorem bst_in (f : Nat → Int32) : ∀ t, bst f t = -1 ∨ ∃ i, i < t ∧ bst f t = nI i := by
  intro t
  induction t with
  | zero => exact Or.inl rfl
  | succ t ih =>
    have up : bst f t = -1 ∨ ∃ i, i < t + 1 ∧ bst f t = nI i := by
      rcases ih with h | ⟨i, hi, h⟩
      · exact Or.inl h
      · exact Or.inr ⟨i, by omega, h⟩
    show (if f t = -1 then bst f t else if bst f t = -1 then nI t else if f (bst f t).toNatClampNeg ≤ f t then bst f t else nI t) = -1 ∨ ∃ i, i < t + 1 ∧ (if f t = -1 then bst f t else if bst f t = -1 then nI t else if f (bst f t).toNatClampNeg ≤ f t then bst f t else nI t) = nI i
    by_cases q1 : f t = -1
    · rw [if_pos q1]; exact up
    rw [if_neg q1]
    by_cases q2 : bst f t = -1
    · rw [if_pos q2]; exact Or.inr ⟨t, by omega, rfl⟩
    rw [if_neg q2]
    by_cases q3 : f (bst f t).toNatClampNeg ≤ f t
    · rw [if_pos q3]; exact up
    · rw [if_neg q3]; exact Or.inr ⟨t, by omega, rfl⟩
theorem gns_le (c0 c1 : Nat → Int32) : ∀ t, gns c0 c1 t ≤ t := by
  intro t
  induction t with
  | zero => exact Nat.le_refl _
  | succ t ih =>
    show (if c1 t = -1 ∧ ¬ c0 t = -1 then gns c0 c1 t + 1 else gns c0 c1 t) ≤ t + 1
    by_cases q : c1 t = -1 ∧ ¬ c0 t = -1
    · rw [if_pos q]; omega
    · rw [if_neg q]; omega
theorem first_X {X : XW} {nB : Nat} {f : Nat → Int32} (h8 : X.1 0 12 = nI nB) (hB : nB ≤ 6) (hf : ∀ i, i < nB → X.1 (27 + 2 * i) 3 = f i) : ∀ (m t : Nat), 6 < m + t → t ≤ nB → lo2 (fX9_firstToDrag_l4 X) m (bst f t) (nI t) = some (bst f nB) := by
  intro m
  induction m with
  | zero => intro t h1 h2; omega
  | succ m ih =>
    intro t h1 h2
    show fX9_firstToDrag_l4 X (lo2 (fX9_firstToDrag_l4 X) m) (bst f t) (nI t) = some (bst f nB)
    generalize hG : lo2 (fX9_firstToDrag_l4 X) m = G at ih ⊢
    dsimp only [fX9_firstToDrag_l4, fX9_firstToDrag_b30, bd]
    rw [h8, nI_1]
    by_cases ht : nB ≤ t
    · rw [if_pos (nI_le ht (by omega)), show t = nB by omega]
    have it : inb (nI t) 6 := in_nI (by omega) (by omega)
    have go := ih (t + 1) (by omega) (by omega)
    have hs : bst f (t + 1) = if f t = -1 then bst f t else if bst f t = -1 then nI t else if f (bst f t).toNatClampNeg ≤ f t then bst f t else nI t := rfl
    rw [if_neg (nI_ge (by omega) (by omega)), if_pos it, cl_nI (show t < 2 ^ 31 by omega), hf t (by omega)]
    by_cases q1 : f t = -1
    · rw [if_pos q1] at hs
      rw [hs] at go
      rw [if_pos q1, if_pos rfl]; exact go
    rw [if_neg q1] at hs
    rw [if_neg q1, if_neg n10]
    by_cases q2 : bst f t = -1
    · rw [if_pos q2] at hs
      rw [hs] at go
      rw [if_pos q2]; exact go
    rw [if_neg q2] at hs
    rw [if_neg q2]
    obtain ⟨i, hi, hbi⟩ := (bst_in f t).resolve_left q2
    have ii : inb (bst f t) 6 := by rw [hbi]; exact in_nI (by omega) (by omega)
    have hcl : (bst f t).toNatClampNeg = i := by rw [hbi]; exact cl_nI (by omega)
    rw [hcl] at hs
    rw [if_pos it, if_pos ii, hcl, hf i (by omega)]
    by_cases q3 : f i ≤ f t
    · rw [if_pos q3] at hs
      rw [hs] at go
      rw [if_pos q3]; exact go
    · rw [if_neg q3] at hs
      rw [hs] at go
      rw [if_neg q3]; exact go
theorem lost_X {X : XW} {M : MW} {nb nB : Nat} {c0 c1 : Nat → Int32} (h8 : X.1 0 12 = nI nB) (hB : nB ≤ 6) (hb : ∀ i, i < nB → boatAt X M nb i (bOf X i)) (hc0 : ∀ i, i < nB → M.2 77 i = c0 i) (hc1 : ∀ i, i < nB → X.1 (27 + 2 * i) 1 = c1 i) : ∀ (m t : Nat), 6 < m + t → t ≤ nB → lo2 (fX9_lost_l4 X nb) m (nI (gns c0 c1 t)) (nI t) = some (nI (gns c0 c1 nB)) := by
  intro m
  induction m with
  | zero => intro t h1 h2; omega
  | succ m ih =>
    intro t h1 h2
    show fX9_lost_l4 X nb (lo2 (fX9_lost_l4 X nb) m) (nI (gns c0 c1 t)) (nI t) = some (nI (gns c0 c1 nB))
    generalize hG : lo2 (fX9_lost_l4 X nb) m = G at ih ⊢
    dsimp only [fX9_lost_l4, bd]
    rw [h8, nI_1, nI_1]
    by_cases ht : nB ≤ t
    · rw [if_pos (nI_le ht (by omega)), show t = nB by omega]
    have it : inb (nI t) 6 := in_nI (by omega) (by omega)
    have go := ih (t + 1) (by omega) (by omega)
    have hs : gns c0 c1 (t + 1) = if c1 t = -1 ∧ ¬ c0 t = -1 then gns c0 c1 t + 1 else gns c0 c1 t := rfl
    have bt := hb t (by omega)
    rw [if_neg (nI_ge (by omega) (by omega)), rdR_in it, cl_nI (show t < 2 ^ 31 by omega), bt.1, Option.bind_some, Option.bind_some, if_pos ⟨bt.2.1, bt.2.2.1⟩, g_gone bt, Option.bind_some, hc0 t (by omega), hc1 t (by omega)]
    by_cases q1 : c0 t = -1
    · rw [if_neg (fun q => q.2 q1)] at hs
      rw [hs] at go
      rw [if_pos q1, if_neg n10]; exact go
    rw [if_neg q1, if_pos rfl, if_pos it]
    by_cases q2 : c1 t = -1
    · rw [if_pos ⟨q2, q1⟩] at hs
      rw [hs] at go
      rw [if_pos q2]; exact go
    · rw [if_neg (fun q => q2 q.1)] at hs
      rw [hs] at go
      rw [if_neg q2]; exact go
theorem fleet_M {M : MW} {nB : Nat} {w : Int32} {c0 c1 f : Nat → Int32} (h8 : M.1 8 = nI nB) (hB : nB ≤ 6) (hc0 : ∀ i, i < nB → M.2 77 i = c0 i) (hc1 : ∀ i, i < nB → M.2 97 i = c1 i) (hf : ∀ i, i < nB → M.2 99 i = f i) : ∀ (m t : Nat), 6 < m + t → t ≤ nB → lo4 (fX10_fleet_l33 w) m M (bst f t) (nI (gns c0 c1 t)) (nI t) = fX10_fleet_b119 M w (bst f nB) (nI (gns c0 c1 nB)) := by
  intro m
  induction m with
  | zero => intro t h1 h2; omega
  | succ m ih =>
    intro t h1 h2
    show fX10_fleet_l33 w (lo4 (fX10_fleet_l33 w) m) M (bst f t) (nI (gns c0 c1 t)) (nI t) = fX10_fleet_b119 M w (bst f nB) (nI (gns c0 c1 nB))
    generalize hG : lo4 (fX10_fleet_l33 w) m = G at ih ⊢
    dsimp only [fX10_fleet_l33, fX10_fleet_b79, fX10_fleet_b74]
    by_cases ht : nB ≤ t
    · rw [h8, if_pos (nI_le ht (by omega)), show t = nB by omega]
    have it : inb (nI t) 6 := in_nI (by omega) (by omega)
    have hcl : (nI t).toNatClampNeg = t := cl_nI (by omega)
    have go := ih (t + 1) (by omega) (by omega)
    have hs : gns c0 c1 (t + 1) = if c1 t = -1 ∧ ¬ c0 t = -1 then gns c0 c1 t + 1 else gns c0 c1 t := rfl
    have hs2 : bst f (t + 1) = if f t = -1 then bst f t else if bst f t = -1 then nI t else if f (bst f t).toNatClampNeg ≤ f t then bst f t else nI t := rfl
    have b80 : ∀ z, z = bst f (t + 1) → fX10_fleet_b80 w G M (nI (gns c0 c1 t)) (nI t) z = fX10_fleet_b119 M w (bst f nB) (nI (gns c0 c1 nB)) := by
      intro z hz
      dsimp only [fX10_fleet_b80, bd]
      rw [rd_in it, rd_in it, hcl, Option.bind_some, Option.bind_some, hc0 t (by omega), hc1 t (by omega), nI_1, nI_1, Int32.add_zero, hz]
      by_cases q2 : c1 t = -1
      · by_cases q1 : c0 t = -1
        · rw [if_neg (fun q => q.2 q1)] at hs
          rw [hs] at go
          rw [if_pos q2, if_pos q1]; exact go
        · rw [if_pos ⟨q2, q1⟩] at hs
          rw [hs] at go
          rw [if_pos q2, if_neg q1]; exact go
      · rw [if_neg (fun q => q2 q.1)] at hs
        rw [hs] at go
        rw [if_neg q2]; exact go
    rw [h8, if_neg (nI_ge (by omega) (by omega)), rd_in it, hcl, Option.bind_some, hf t (by omega)]
    by_cases q1 : f t = -1
    · rw [if_pos q1]
      exact b80 _ (by rw [hs2, if_pos q1])
    rw [if_neg q1]
    by_cases q2 : bst f t = -1
    · rw [if_pos q2]
      exact b80 _ (by rw [hs2, if_neg q1, if_pos q2])
    rw [if_neg q2, Option.bind_some]
    obtain ⟨i, hi, hbi⟩ := (bst_in f t).resolve_left q2
    have ii : inb (bst f t) 6 := by rw [hbi]; exact in_nI (by omega) (by omega)
    have hci : (bst f t).toNatClampNeg = i := by rw [hbi]; exact cl_nI (by omega)
    rw [rd_in ii, hci, Option.bind_some, hf i (by omega)]
    rw [hci] at hs2
    by_cases q3 : f i ≤ f t
    · rw [if_pos q3]
      exact b80 _ (by rw [hs2, if_neg q1, if_neg q2, if_pos q3])
    · rw [if_neg q3]
      exact b80 _ (by rw [hs2, if_neg q1, if_neg q2, if_neg q3])
/-- a night gone through on both sides -/
theorem both {X : XW} {M : MW} {nb nB h0 n : Nat} (h : Sim X M nb) (F : flt X M nb nB) (h8x : X.1 0 12 = nI nB) (h7 : M.1 7 = nI h0) (h7x : X.1 0 11 = nI h0) (hn : h0 + n ≤ 12) : ∃ X' M', fX9_sailAll X nb (nI n) = some X' ∧ fX10_goes M (nI n) = some M' ∧ allX X X' M nb nB h0 n ∧ gone X M M' nb nB h0 n ∧ Sim X' M' nb := by
  obtain ⟨X', g1, g2⟩ := sailAll_ok h.es F (fun i hi => h.at F.2.1 F.1 hi) h8x h7x hn (fun _ _ _ => trivial)
  obtain ⟨M', f1, f2⟩ := goes_ok h.es F h7 hn (fun _ _ _ => trivial)
  exact ⟨X', M', g1, f1, g2, f2, h.n g2.1 f2.1⟩
theorem p_fleet {X : XW} {M : MW} {nb : Nat} (h : Sim X M nb) (l w : Int32) : R2 nb (fX9_fleet X nb l w) (fX10_fleet M l w) := by
  dsimp only [fX9_fleet, fX10_fleet, bd]
  rw [in_eq, night_eq h]
  by_cases c3 : fX9_isNight X l = 0
  · rw [if_pos c3, if_pos c3]; exact R2.mk h
  rw [if_neg c3, if_neg c3]
  by_cases c4 : fX9_within w 0 3 = 0
  · rw [if_pos c4, if_pos c4]; exact R2.mk h
  rw [if_neg c4, if_neg c4]
  obtain ⟨h0, h12, h7, h7x⟩ := g_now h
  obtain ⟨n, rfl, hn⟩ := night_in h h7 h12 c3
  obtain ⟨nB, hB, h8, h8x, F⟩ := h.nB
  obtain ⟨X', M', g1, f1, gA, fA, hS⟩ := both h F h8x h7 h7x hn
  rw [g1, f1, bs_X, bs_M]
  have h8' : M'.1 8 = nI nB := (fA.1.1 8 (by decide)).trans h8
  have h8x' : X'.1 0 12 = nI nB := by rw [gA.1.1 0 (by decide)]; exact h8x
  have h7x' : X'.1 0 11 = nI h0 := by rw [gA.1.1 0 (by decide)]; exact h7x
  have hM := fleet_M (w := w) (c0 := fun i => M'.2 77 i) (c1 := fun i => (trA X M nb h0 i n).1) (f := fun i => (trA X M nb h0 i n).2.2) h8' hB (fun _ _ => rfl) (fun i hi => (fA.2.1 i hi).1) (fun i hi => (fA.2.1 i hi).2.2) FU 0 (by unfold FU; omega) (by omega)
  have hM' : lo4 (fX10_fleet_l33 w) FU M' (-1) 0 0 = fX10_fleet_b119 M' w (bst (fun i => (trA X M nb h0 i n).2.2) nB) (nI (gns (fun i => M'.2 77 i) (fun i => (trA X M nb h0 i n).1) nB)) := hM
  rw [hM']
  have e0 : (0 : Int32).toInt = 0 := rfl
  have e1 : (1 : Int32).toInt = 1 := rfl
  have e2 : (2 : Int32).toInt = 2 := rfl
  have e3 : (3 : Int32).toInt = 3 := rfl
  have hw := wi_ne c4
  unfold fX10_fleet_b119
  by_cases w2 : w = 2
  · obtain ⟨X2, k1, k2, k3⟩ := meet_ok hB h8x' h7x' hn gA
    subst w2
    rw [if_pos rfl, k1, bd2_s, if_neg (show ¬ (2 : Int32) = 0 by decide), if_neg (show ¬ (2 : Int32) = 1 by decide), if_pos rfl, fA.2.2.2.1]
    exact R2.mk (hS.n k2.n (nM.rf M'))
  rw [if_neg w2]
  by_cases w3 : w = 3
  · subst w3
    have hL := lost_X (nb := nb) (M := M') (c0 := fun i => M'.2 77 i) (c1 := fun i => (trA X M nb h0 i n).1) h8x' hB (fun i hi => hS.at h8' hB hi) (fun _ _ => rfl) (fun i hi => (gA.2 i hi).1.1) FU 0 (by unfold FU; omega) (by omega)
    have hL' : fX9_lost X' nb = some (nI (gns (fun i => M'.2 77 i) (fun i => (trA X M nb h0 i n).1) nB)) := hL
    rw [if_pos rfl, hL', Option.bind_some, if_neg (show ¬ (3 : Int32) = 0 by decide), if_neg (show ¬ (3 : Int32) = 1 by decide), if_neg (show ¬ (3 : Int32) = 2 by decide)]
    exact R2.mk hS
  rw [if_neg w3]
  have hF := first_X (f := fun i => (trA X M nb h0 i n).2.2) h8x' hB (fun i hi => (gA.2 i hi).1.2.2) FU 0 (by unfold FU; omega) (by omega)
  have hF' : fX9_firstToDrag X' = some (bst (fun i => (trA X M nb h0 i n).2.2) nB) := hF
  rw [hF', Option.bind_some]
  by_cases w0 : w = 0
  · rw [if_pos w0, if_pos w0]; exact R2.mk hS
  rw [if_neg w0, if_neg w0]
  have w1 : w = 1 := by rw [i_eq, e0] at w0; rw [i_eq, e2] at w2; rw [i_eq, e3] at w3; rw [i_eq, e1]; rw [e0, e3] at hw; omega
  rw [if_pos w1]
  by_cases q : bst (fun i => (trA X M nb h0 i n).2.2) nB = -1
  · rw [if_pos q, if_pos q, q]; exact R2.mk hS
  · obtain ⟨i, hi, hbi⟩ := (bst_in (fun i => (trA X M nb h0 i n).2.2) nB).resolve_left q
    rw [if_neg q, if_neg q, hbi, if_pos (in_nI (show i < 6 by omega) (by omega)), rd_in (in_nI (show i < 6 by omega) (by omega)), cl_nI (show i < 2 ^ 31 by omega), Option.bind_some, (gA.2 i hi).1.2.2, (fA.2.1 i hi).2.2]
    exact R2.mk hS

/-! what a night may write, and one boat's course -/
def nX (X X' : XW) : Prop := (∀ i, i < 27 ∨ 38 < i → X'.1 i = X.1 i) ∧ X'.2.2 = X.2.2 ∧ ∀ i, i ≠ 11 → i ≠ 12 → i ≠ 15 → (i < 28 ∨ 38 < i) → X'.2.1 i = X.2.1 i
def nM (M M' : MW) : Prop := (∀ k, k ≠ 55 → M'.1 k = M.1 k) ∧ ∀ i, i < 94 ∨ i = 96 → M'.2 i = M.2 i
theorem nX.rf (X : XW) : nX X X := ⟨fun _ _ => rfl, rfl, fun _ _ _ _ _ => rfl⟩
theorem nM.rf (M : MW) : nM M M := ⟨fun _ _ => rfl, fun _ _ => rfl⟩
theorem nX.tr {X Y Z : XW} (a : nX X Y) (b : nX Y Z) : nX X Z := ⟨fun i h => (b.1 i h).trans (a.1 i h), b.2.1.trans a.2.1, fun i h1 h2 h3 h4 => (b.2.2 i h1 h2 h3 h4).trans (a.2.2 i h1 h2 h3 h4)⟩
theorem nM.tr {X Y Z : MW} (a : nM X Y) (b : nM Y Z) : nM X Z := ⟨fun i h => (b.1 i h).trans (a.1 i h), fun i h => (b.2 i h).trans (a.2 i h)⟩
theorem eX.n {X X' : XW} (a : eX X X') : nX X X' := ⟨fun i _ => by rw [a.1], a.2.1, fun i h1 h2 _ _ => a.2.2 i h1 h2⟩
theorem eM.n {M M' : MW} (a : eM M M') : nM M M' := ⟨fun i _ => by rw [a.1], fun i h => a.2 i (by omega) (by omega)⟩
theorem nX.e {X X' : XW} (a : nX X X') : EX X X' := by
  refine ⟨fun i k h => ?_, fun i h => a.2.2 i ?_ ?_ ?_ ?_, by rw [a.2.1], by rw [a.2.1]⟩
  · rw [a.1 i (by unfold eX1 NS at h; omega)]
  · unfold eX2 at h; omega
  · unfold eX2 at h; omega
  · unfold eX2 at h; omega
  · unfold eX2 at h; omega
theorem nM.e {M M' : MW} (a : nM M M') : EM M M' := ⟨fun i h => a.1 i (by unfold eM1 at h; omega), fun i h => a.2 i (by unfold eM2 at h; omega)⟩
theorem Sim.n {X X' : XW} {M M' : MW} {nb : Nat} (h : Sim X M nb) (a : nX X X') (b : nM M M') : Sim X' M' nb := h.c a.e b.e
theorem ESim.n {X X' : XW} {M M' : MW} {H : Nat → Prop} (h : ESim X M H) (a : nX X X') (b : nM M M') : ESim X' M' H := by
  obtain ⟨h1, ⟨r, hr, l1, l2, l3⟩, w, hw, h3, h4⟩ := h
  refine ⟨?_, ⟨r, hr, (b.1 22 (by decide)).trans l1, by rw [a.2.1]; exact l2, ?_⟩, w, hw, by rw [a.2.1]; exact h3, fun k hk hk' => ?_⟩
  · unfold SBay at h1 ⊢
    rw [a.2.2 2 (by decide) (by decide) (by decide) (by decide), a.2.2 3 (by decide) (by decide) (by decide) (by decide), a.2.2 4 (by decide) (by decide) (by decide) (by decide), a.2.2 5 (by decide) (by decide) (by decide) (by decide), a.2.2 6 (by decide) (by decide) (by decide) (by decide), a.1 0 (by decide), b.1 7 (by decide), b.2 66 (by decide), b.2 67 (by decide), b.2 68 (by decide), b.2 69 (by decide), b.2 70 (by decide), b.2 71 (by decide), b.2 72 (by decide), b.2 92 (by decide)]
    exact h1
  · unfold STx at l3 ⊢
    rw [b.2 83 (by decide), b.2 82 (by decide), a.2.2 (49 + 3 * r) (by omega) (by omega) (by omega) (by omega), a.2.2 (48 + 3 * r) (by omega) (by omega) (by omega) (by omega)]
    exact l3
  · have e : fX10_windIn M' (nI k) = fX10_windIn M (nI k) := by
      unfold fX10_windIn
      rw [b.1 46 (by decide), b.2 69 (by decide), b.2 96 (by decide)]
    rw [e, a.2.2 w (by omega) (by omega) (by omega) (by omega)]
    exact h4 k hk hk'
theorem kAt.n {X X' : XW} {M M' : MW} {nb i b : Nat} (h : kAt X M nb i b) (a : nX X X') (c : nM M M') : kAt X' M' nb i b := by
  have hN := h.2.1
  unfold NS at hN
  unfold kAt at h ⊢
  rw [a.1 b (by omega), c.2 73 (by decide), c.2 74 (by decide), c.2 75 (by decide), c.2 76 (by decide)]
  exact h
def All : Nat → Prop := fun _ => True
theorem Sim.es {X : XW} {M : MW} {nb : Nat} (h : Sim X M nb) : ESim X M All := by
  obtain ⟨h1, h2, h3, h4, h5, -⟩ := h
  obtain ⟨r, hr, -, hri⟩ := nn_ge h4.2.1.1
  have h6 := h3.2.1.2
  have hlt := h4.2.1.2
  refine ⟨h1, ⟨r, by omega, hr, ?_, h3.2.2 r (by omega)⟩, 5, Or.inl rfl, h5.1, fun k hk _ => ?_⟩
  · rw [h4.2.2, hr, cl_nI (by omega)]
  · unfold fX10_windIn
    rw [if_pos h5.2, rd_in (in_nI hk (by omega)), cl_nI (show k < 2 ^ 31 by omega), Option.bind_some, h1.2.2.2.1]
theorem boatAt.k {X : XW} {M : MW} {nb i b : Nat} (hb : boatAt X M nb i b) (hi : i < 6) : kAt X M nb i b := ⟨hi, hb.2.1, hb.2.2.1, hb.2.2.2.1, hb.2.2.2.2.1, hb.2.2.2.2.2.1, hb.2.2.2.2.2.2.1⟩
/-- what the class says, as values -/
def dvX (X : XW) (nb b : Nat) (c p : Int32) (h : Nat) : Int32 := ((fX7_goesOn X nb b c p (nI h) 0 0).map Prod.fst).getD 0
def fuX (X : XW) (c : Int32) (h : Nat) : Int32 := (fX0_oneOn X c (nI h)).getD (-1)
def lyX (X : XW) (c p : Int32) (h : Nat) : Int32 := ((rd (X.2.1 4) 12 (nI h)).bind fun w => fX0_liesAt X c p (nI h) w).getD (-1)
/-- a boat's course: cell, how often, in which first -/
def tst (X : XW) (nb b : Nat) (p : Int32) (h : Nat) (s : Int32 × Int32 × Int32) : Int32 × Int32 × Int32 := if s.1 = -1 then s else if dvX X nb b s.1 p h = 0 then s else (fuX X s.1 h, s.2.1 + 1, if s.2.2 = -1 then nI h else s.2.2)
def trj (X : XW) (nb b : Nat) (p c0 : Int32) (h0 : Nat) : Nat → Int32 × Int32 × Int32
  | 0 => (c0, 0, -1)
  | k + 1 => tst X nb b p (h0 + k) (trj X nb b p c0 h0 k)
def lyT (X : XW) (nb b : Nat) (p c0 : Int32) (h0 k : Nat) : Int32 := if (trj X nb b p c0 h0 (k + 1)).1 = -1 then -1 else lyX X (trj X nb b p c0 h0 (k + 1)).1 p (h0 + k)
def cOk (c : Int32) : Prop := c = -1 ∨ ∃ k, k < 100 ∧ c = nI k
theorem tst_c {X : XW} {M : MW} {nb b h : Nat} {p : Int32} {s : Int32 × Int32 × Int32} (hB : SBay X M) (hh : h < 12) (hs : cOk s.1) : cOk (tst X nb b p h s).1 := by
  unfold tst
  rcases hs with hs | ⟨k, hk, hs⟩
  · rw [if_pos hs]; exact Or.inl hs
  · rw [if_neg (by rw [hs]; exact nI_m1 (by omega))]
    by_cases q : dvX X nb b s.1 p h = 0
    · rw [if_pos q]; exact Or.inr ⟨k, hk, hs⟩
    · rw [if_neg q]
      obtain ⟨d, h1, h2, -⟩ := g_one hB hk hh
      show cOk (fuX X s.1 h)
      unfold fuX
      rw [hs, h2]
      exact h1
theorem trj_c {X : XW} {M : MW} {nb b h0 : Nat} {p c0 : Int32} (hB : SBay X M) (hc : cOk c0) : ∀ k, h0 + k ≤ 12 → cOk (trj X nb b p c0 h0 k).1 := by
  intro k
  induction k with
  | zero => intro _; exact hc
  | succ k ih => intro h; exact tst_c hB (by omega) (ih (by omega))
/-- the values are the same in all worlds that a night makes -/
theorem go_X {X X' : XW} {M : MW} {H : Nat → Prop} {nb i b c h p : Nat} (E : ESim X M H) (k : kAt X M nb i b) (a : nX X X') (hc : c < 100) (hh : h < 12) (hH : H h) (hp : p ≤ 45) : ∃ X'', fX7_goesOn X' nb b (nI c) (nI p) (nI h) 0 0 = some (dvX X nb b (nI c) (nI p) h, X'') ∧ eX X' X'' := by
  obtain ⟨v, X1, M1, -, g1, g2, -⟩ := e_goes 0 0 E k hc hh hH hp
  obtain ⟨v', X2, M2, -, g1', g2', e1, -⟩ := e_goes 0 0 (E.n a (nM.rf M)) (k.n a (nM.rf M)) hc hh hH hp
  have hv : v' = v := by
    have := g2'.symm.trans g2
    exact congrArg Prod.fst (Option.some.inj this)
  refine ⟨X2, ?_, e1⟩
  rw [g1', hv]
  unfold dvX
  rw [g1]
  rfl
theorem go_M {X : XW} {M M' : MW} {H : Nat → Prop} {nb i b c h p : Nat} (E : ESim X M H) (k : kAt X M nb i b) (a : nM M M') (hc : c < 100) (hh : h < 12) (hH : H h) (hp : p ≤ 45) : ∃ M'', fX10_drags M' (nI i) (nI c) (nI h) (nI p) 0 0 = some (dvX X nb b (nI c) (nI p) h, M'') ∧ eM M' M'' := by
  obtain ⟨v', X2, M2, -, g1', g2', -, e2⟩ := e_goes 0 0 (E.n (nX.rf X) a) (k.n (nX.rf X) a) hc hh hH hp
  refine ⟨M2, ?_, e2⟩
  rw [g2']
  unfold dvX
  rw [g1']
  rfl
theorem bay_nX {X X' : XW} {M M' : MW} (h : SBay X M) (a : nX X X') (b : nM M M') : SBay X' M' := by
  unfold SBay at h ⊢
  rw [a.2.2 2 (by decide) (by decide) (by decide) (by decide), a.2.2 3 (by decide) (by decide) (by decide) (by decide), a.2.2 4 (by decide) (by decide) (by decide) (by decide), a.2.2 5 (by decide) (by decide) (by decide) (by decide), a.2.2 6 (by decide) (by decide) (by decide) (by decide), a.1 0 (by decide), b.1 7 (by decide), b.2 66 (by decide), b.2 67 (by decide), b.2 68 (by decide), b.2 69 (by decide), b.2 70 (by decide), b.2 71 (by decide), b.2 72 (by decide), b.2 92 (by decide)]
  exact h
theorem fu_X {X X' : XW} {M : MW} {c h : Nat} (hB : SBay X M) (a : nX X X') (hc : c < 100) (hh : h < 12) : fX0_oneOn X' (nI c) (nI h) = some (fuX X (nI c) h) := by
  obtain ⟨d, -, h1, h2⟩ := g_one hB hc hh
  obtain ⟨d', -, h1', h2'⟩ := g_one (bay_nX hB a (nM.rf M)) hc hh
  have : d' = d := Option.some.inj (h2'.symm.trans h2)
  unfold fuX
  rw [h1', h1, this]
  rfl
theorem fu_M {X : XW} {M M' : MW} {c h : Nat} (hB : SBay X M) (a : nM M M') (hc : c < 100) (hh : h < 12) : fX10_further M' (nI c) (nI h) = some (fuX X (nI c) h) := by
  obtain ⟨d', -, h1', h2'⟩ := g_one (bay_nX hB (nX.rf X) a) hc hh
  unfold fuX
  rw [h1', h2']
  rfl
theorem way_at {X : XW} {M : MW} {h : Nat} (hB : SBay X M) (hh : h < 12) : ∃ w : Nat, w < 8 ∧ X.2.1 4 h = nI w ∧ M.2 68 h = nI w ∧ rd (X.2.1 4) 12 (nI h) = some (nI w) ∧ rd (M.2 68) 12 (nI h) = some (nI w) := by
  obtain ⟨w, hw, e⟩ := g_way hB h
  have e' : X.2.1 4 h = nI w := by rw [hB.2.2.1]; exact e
  refine ⟨w, hw, e', e, ?_, ?_⟩
  · rw [rd_in (in_nI hh (by omega)), cl_nI (show h < 2 ^ 31 by omega), e']
  · rw [rd_in (in_nI hh (by omega)), cl_nI (show h < 2 ^ 31 by omega), e]
theorem ly_X {X X' : XW} {M : MW} {c h p : Nat} (hB : SBay X M) (a : nX X X') (hc : c < 100) (hh : h < 12) (hp : p ≤ 40) : ∃ w, rd (X'.2.1 4) 12 (nI h) = some w ∧ fX0_liesAt X' (nI c) (nI p) (nI h) w = some (lyX X (nI c) (nI p) h) ∧ ∃ d, d < 100 ∧ lyX X (nI c) (nI p) h = nI d := by
  obtain ⟨w, hw, e1, e2, e3, e4⟩ := way_at hB hh
  obtain ⟨w', hw', e1', e2', e3', e4'⟩ := way_at (bay_nX hB a (nM.rf M)) hh
  have hww : nI w' = nI w := e2'.symm.trans e2
  obtain ⟨r, d, -, hd, g1, g2, g3⟩ := g_lies hB hc hh hp hw
  obtain ⟨r', d', -, hd', g1', g2', g3'⟩ := g_lies (bay_nX hB a (nM.rf M)) hc hh hp hw
  have hr : nI r' = nI r := Option.some.inj (g2'.symm.trans g2)
  rw [hr] at g3'
  have hdd : nI d' = nI d := Option.some.inj (g3'.symm.trans g3)
  have hv : lyX X (nI c) (nI p) h = nI d := by
    unfold lyX
    rw [e3, Option.bind_some, g1]
    rfl
  exact ⟨nI w, by rw [e3', hww], by rw [g1', hv, hdd], d, hd, hv⟩
theorem ly_M {X : XW} {M M' : MW} {c h p : Nat} (hB : SBay X M) (a : nM M M') (hc : c < 100) (hh : h < 12) (hp : p ≤ 40) : ∃ w r, rd (M'.2 68) 12 (nI h) = some w ∧ fX10_farOff M' (nI c) (nI h) (nI p) = some r ∧ fX10_lies M' (nI c) w r = some (lyX X (nI c) (nI p) h) := by
  obtain ⟨w, hw, e1, e2, e3, e4⟩ := way_at (bay_nX hB (nX.rf X) a) hh
  obtain ⟨r, d, -, hd, g1, g2, g3⟩ := g_lies (bay_nX hB (nX.rf X) a) hc hh hp hw
  refine ⟨nI w, nI r, e4, g2, ?_⟩
  rw [g3]
  unfold lyX
  rw [e3, Option.bind_some, g1]
  rfl

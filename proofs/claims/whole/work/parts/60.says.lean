/-! what a law says, for any relation of the winds -/
def ELaw (X : XW) (M : MW) : Prop := ∃ r : Nat, r < 6 ∧ M.1 22 = nI r ∧ X.2.2 10 3 = some (47 + 3 * r) ∧ STx X M r
theorem clamp_eq {m v : Int32} (hm : 0 ≤ m.toInt) : jmax 0 (jmin m v) = fX10_within v 0 m := by
  have e0 : (0 : Int32).toInt = 0 := rfl
  unfold jmin fX10_within
  rw [jmax0]
  by_cases h1 : v < m
  · rw [if_pos h1]
    rw [i_lt] at h1
    by_cases h2 : 0 ≤ v
    · rw [if_pos h2, if_pos h2, if_pos (by rw [i_le]; omega)]
    · rw [if_neg h2, if_neg h2]
  · rw [if_neg h1, if_pos (by rw [i_le]; omega)]
    rw [i_lt] at h1
    rw [if_pos (by rw [i_le]; omega)]
    by_cases h3 : v ≤ m
    · rw [if_pos h3, i_eq]; rw [i_le] at h3; omega
    · rw [if_neg h3]
theorem within_ge {v m : Int32} (hm : 0 ≤ m.toInt) : 0 ≤ (fX10_within v 0 m).toInt ∧ (fX10_within v 0 m).toInt ≤ m.toInt := by
  have e0 : (0 : Int32).toInt = 0 := rfl
  unfold fX10_within
  by_cases h2 : 0 ≤ v
  · rw [if_pos h2]
    rw [i_le, e0] at h2
    by_cases h3 : v ≤ m
    · rw [if_pos h3]; rw [i_le] at h3; omega
    · rw [if_neg h3]; omega
  · rw [if_neg h2]; omega
theorem ELaw.c {X X' : XW} {M M' : MW} (h : ELaw X M) (a : eX X X') (b : eM M M') : ELaw X' M' := by
  obtain ⟨r, hr, h1, h2, h3⟩ := h
  refine ⟨r, hr, by rw [b.1]; exact h1, by rw [a.2.1]; exact h2, ?_⟩
  unfold STx at h3 ⊢
  rw [b.2 83 (by decide) (by decide), b.2 82 (by decide) (by decide), a.2.2 (49 + 3 * r) (by omega) (by omega), a.2.2 (48 + 3 * r) (by omega) (by omega)]
  exact h3
theorem stF2 {p : Nat} (hp : p < 3) : stF 2 p = if p = 2 then 100 else 999 := by
  have : p = 0 ∨ p = 1 ∨ p = 2 := by omega
  rcases this with rfl | rfl | rfl <;> rfl
theorem ev_says {X : XW} {M : MW} {p : Nat} (h : ELaw X M) (hp : p < 3) (hn : ∀ q, q < 6 → X.2.1 11 q = M.2 95 q) : ∃ v X' M', fX7_says X (nI p) = some (v, X') ∧ fX10_worth M (nI p) = some (v, M') ∧ eX X X' ∧ eM M M' ∧ X'.2.1 11 = X.2.1 11 ∧ M'.2 95 = M.2 95 ∧ 0 ≤ v.toInt ∧ v.toInt ≤ (if p = 2 then (100 : Int32) else 999).toInt := by
  obtain ⟨r, hr, h1, h2, e, g0, g1, g2, g3, g4, g5, g6, g7⟩ := h
  have hle : e p ≤ e (p + 1) ∧ e (p + 1) ≤ e 3 := by
    have : p = 0 ∨ p = 1 ∨ p = 2 := by omega
    rcases this with rfl | rfl | rfl
    · exact ⟨g1, Nat.le_trans g2 g3⟩
    · exact ⟨g2, g3⟩
    · exact ⟨g3, Nat.le_refl _⟩
  obtain ⟨k1, k2, k3⟩ := g6 p hp
  have hN : e p + (e (p + 1) - e p) = e (p + 1) := by omega
  obtain ⟨v, X', M', f1, f2, f3, f4, f5, f6⟩ := ev_lo (X := X) (M := M) (s := e p) (N := e (p + 1) - e p) hr hp h1 (by omega) (by rw [hN]; exact k1) (by rw [hN]; exact k2) (fun j hj => g7 j (by omega)) k3 FU 0 0 X M (by unfold FU; omega) (by omega) rfl (eX.rf X) (eM.rf M) hn (fun q hq => by omega)
  rw [Nat.add_zero] at f1 f2
  have hm0 : 0 ≤ (if p = 2 then (100 : Int32) else 999).toInt := by
    by_cases p2 : p = 2
    · rw [if_pos p2]; decide
    · rw [if_neg p2]; decide
  have hwi : ¬ fX9_within (nI p) 0 2 = 0 := by
    rw [show fX9_within (nI p) 0 2 = if 0 ≤ p ∧ p ≤ 2 then 1 else 0 from wi_nI (a := 0) (b := 2) (by omega) (by decide) (by decide), if_pos (by omega)]
    decide
  have hs : M.2 83 (4 * r + p) = nI (e p) := by
    by_cases p0 : p = 0
    · subst p0; exact g5
    · have := (g6 (p - 1) (by omega)).2.1
      rw [show p - 1 + 1 = p by omega] at this
      exact this
  refine ⟨fX10_within v 0 (if p = 2 then 100 else 999), X', M', ?_, ?_, f3, f4, f5, f6, (within_ge hm0).1, (within_ge hm0).2⟩
  · dsimp only [fX7_says, bd]
    rw [h2]
    dsimp only [oc]
    rw [if_neg hwi, rd_in (in_nI hp (by omega)), cl_nI (show p < 2 ^ 31 by omega), Option.bind_some, Option.bind_some, if_pos (kd_pr hr), stF2 hp]
    have hv : fX5_valueOf X (47 + 3 * r) (nI p) 11 12 = some (v, X') := by
      unfold fX5_valueOf fX5_valueOf_b30
      rw [if_neg hwi]
      by_cases p0 : p = 0
      · subst p0
        rw [g0] at f1
        rw [if_pos (show nI 0 = 0 from rfl)]
        exact f1
      · have hx := (g6 (p - 1) (by omega)).1
        rw [show p - 1 + 1 = p by omega] at hx
        rw [if_neg (nI_ne0 (by omega) (by omega)), if_pos (kd_pr hr), show 47 + 3 * r + 2 = 49 + 3 * r by omega, show nI p - 1 = nI (p - 1) from pk_sub (b := 1) (by omega), rd_in (in_nI (show p - 1 < 3 by omega) (by omega)), cl_nI (show p - 1 < 2 ^ 31 by omega), hx, Option.bind_some]
        exact f1
    rw [hv, bd2_s, clamp_eq hm0]
  · unfold fX10_worth
    rw [h1, show (4 : Int32) * nI r = nI (4 * r) from pk_mul 4 r, nI_add, rd_in (in_nI (show 4 * r + p < 24 by omega) (by omega)), cl_nI (show 4 * r + p < 2 ^ 31 by omega), hs, Option.bind_some]
    exact f2
/-- the winds -/
def SWn (X : XW) (M : MW) (H : Nat → Prop) : Prop := ∃ w, (w = 5 ∨ w = 16) ∧ X.2.2 10 4 = some w ∧ ∀ h, h < 12 → H h → fX10_windIn M (nI h) = some (X.2.1 w h)
def ESim (X : XW) (M : MW) (H : Nat → Prop) : Prop := SBay X M ∧ ELaw X M ∧ SWn X M H
/-- a boat's kind, area, heavy, more -/
def kAt (X : XW) (M : MW) (nb i b : Nat) : Prop := i < 6 ∧ NS ≤ b ∧ b < TT nb ∧ X.1 b 0 = M.2 73 i ∧ X.1 b 1 = M.2 74 i ∧ X.1 b 2 = M.2 75 i ∧ X.1 b 3 = M.2 76 i
theorem kAt.c {X X' : XW} {M M' : MW} {nb i b : Nat} (h : kAt X M nb i b) (a : eX X X') (c : eM M M') : kAt X' M' nb i b := by
  unfold kAt at h ⊢
  rw [a.1, c.2 73 (by decide) (by decide), c.2 74 (by decide) (by decide), c.2 75 (by decide) (by decide), c.2 76 (by decide) (by decide)]
  exact h
theorem SBay.e {X X' : XW} {M M' : MW} (h : SBay X M) (a : eX X X') (b : eM M M') : SBay X' M' := by
  unfold SBay at h ⊢
  rw [a.2.2 2 (by decide) (by decide), a.2.2 3 (by decide) (by decide), a.2.2 4 (by decide) (by decide), a.2.2 5 (by decide) (by decide), a.2.2 6 (by decide) (by decide), a.1, b.1, b.2 66 (by decide) (by decide), b.2 67 (by decide) (by decide), b.2 68 (by decide) (by decide), b.2 69 (by decide) (by decide), b.2 70 (by decide) (by decide), b.2 71 (by decide) (by decide), b.2 72 (by decide) (by decide), b.2 92 (by decide) (by decide)]
  exact h
theorem wind_c {M M' : MW} (b : eM M M') (x : Int32) : fX10_windIn M' x = fX10_windIn M x := by
  unfold fX10_windIn
  rw [b.1, b.2 69 (by decide) (by decide), b.2 96 (by decide) (by decide)]
theorem deep_c {M M' : MW} (b : eM M M') (x y : Int32) : fX10_deepAt M' x y = fX10_deepAt M x y := by
  unfold fX10_deepAt
  rw [b.2 66 (by decide) (by decide), b.2 70 (by decide) (by decide)]
theorem ESim.c {X X' : XW} {M M' : MW} {H : Nat → Prop} (h : ESim X M H) (a : eX X X') (b : eM M M') : ESim X' M' H := by
  obtain ⟨h1, h2, w, hw, h3, h4⟩ := h
  refine ⟨h1.e a b, h2.c a b, w, hw, by rw [a.2.1]; exact h3, fun k hk hk' => ?_⟩
  rw [wind_c b, a.2.2 w (by omega) (by omega)]
  exact h4 k hk hk'
/-- the names told -/
def nmX (X : XW) (v0 v1 v2 v3 v4 v5 : Int32) : XW := xA (xA (xA (xA (xA (xA X 11 0 v0) 11 1 v1) 11 2 v2) 11 3 v3) 11 4 v4) 11 5 v5
def nmM (M : MW) (v0 v1 v2 v3 v4 v5 : Int32) : MW := mA (mA (mA (mA (mA (mA M 95 0 v0) 95 1 v1) 95 2 v2) 95 3 v3) 95 4 v4) 95 5 v5
theorem cn_1 : (1 : Int32).toNatClampNeg = 1 := rfl
theorem cn_0 : (0 : Int32).toNatClampNeg = 0 := rfl
theorem cn_2 : (2 : Int32).toNatClampNeg = 2 := rfl
theorem cn_3 : (3 : Int32).toNatClampNeg = 3 := rfl
theorem cn_4 : (4 : Int32).toNatClampNeg = 4 := rfl
theorem cn_5 : (5 : Int32).toNatClampNeg = 5 := rfl
theorem nm_X (X : XW) (v0 v1 v2 v3 v4 v5 : Int32) : (nmX X v0 v1 v2 v3 v4 v5).2.1 11 0 = v0 ∧ (nmX X v0 v1 v2 v3 v4 v5).2.1 11 1 = v1 ∧ (nmX X v0 v1 v2 v3 v4 v5).2.1 11 2 = v2 ∧ (nmX X v0 v1 v2 v3 v4 v5).2.1 11 3 = v3 ∧ (nmX X v0 v1 v2 v3 v4 v5).2.1 11 4 = v4 ∧ (nmX X v0 v1 v2 v3 v4 v5).2.1 11 5 = v5 := by
  unfold nmX
  simp only [xA_at, upd, cn_0, cn_1, cn_2, cn_3, cn_4, cn_5]
  exact ⟨rfl, rfl, rfl, rfl, rfl, rfl⟩
theorem nm_M (M : MW) (v0 v1 v2 v3 v4 v5 : Int32) : (nmM M v0 v1 v2 v3 v4 v5).2 95 0 = v0 ∧ (nmM M v0 v1 v2 v3 v4 v5).2 95 1 = v1 ∧ (nmM M v0 v1 v2 v3 v4 v5).2 95 2 = v2 ∧ (nmM M v0 v1 v2 v3 v4 v5).2 95 3 = v3 ∧ (nmM M v0 v1 v2 v3 v4 v5).2 95 4 = v4 ∧ (nmM M v0 v1 v2 v3 v4 v5).2 95 5 = v5 := by
  unfold nmM
  simp only [mA_at, upd, cn_0, cn_1, cn_2, cn_3, cn_4, cn_5]
  exact ⟨rfl, rfl, rfl, rfl, rfl, rfl⟩
theorem nm_eq (X : XW) (M : MW) (v0 v1 v2 v3 v4 v5 : Int32) : ∀ q, q < 6 → (nmX X v0 v1 v2 v3 v4 v5).2.1 11 q = (nmM M v0 v1 v2 v3 v4 v5).2 95 q := by
  intro q hq
  obtain ⟨a0, a1, a2, a3, a4, a5⟩ := nm_X X v0 v1 v2 v3 v4 v5
  obtain ⟨b0, b1, b2, b3, b4, b5⟩ := nm_M M v0 v1 v2 v3 v4 v5
  have : q = 0 ∨ q = 1 ∨ q = 2 ∨ q = 3 ∨ q = 4 ∨ q = 5 := by omega
  rcases this with rfl | rfl | rfl | rfl | rfl | rfl
  · rw [a0, b0]
  · rw [a1, b1]
  · rw [a2, b2]
  · rw [a3, b3]
  · rw [a4, b4]
  · rw [a5, b5]
theorem nmX_e (X : XW) (v0 v1 v2 v3 v4 v5 : Int32) : eX X (nmX X v0 v1 v2 v3 v4 v5) := (((((((eX.rf X).up (Or.inl rfl) _ _).up (Or.inl rfl) _ _).up (Or.inl rfl) _ _).up (Or.inl rfl) _ _).up (Or.inl rfl) _ _).up (Or.inl rfl) _ _)
theorem nmM_e (M : MW) (v0 v1 v2 v3 v4 v5 : Int32) : eM M (nmM M v0 v1 v2 v3 v4 v5) := (((((((eM.rf M).up (Or.inr rfl) _ _).up (Or.inr rfl) _ _).up (Or.inr rfl) _ _).up (Or.inr rfl) _ _).up (Or.inr rfl) _ _).up (Or.inr rfl) _ _)
theorem names_ok (M : MW) (v0 v1 v2 v3 v4 v5 : Int32) : fX10_names M v0 v1 v2 v3 v4 v5 = some (nmM M v0 v1 v2 v3 v4 v5) := by
  dsimp only [fX10_names, bd]
  rw [if_pos (show inb (0 : Int32) 6 by decide), if_pos (show inb (1 : Int32) 6 by decide), if_pos (show inb (2 : Int32) 6 by decide), if_pos (show inb (3 : Int32) 6 by decide), if_pos (show inb (4 : Int32) 6 by decide), if_pos (show inb (5 : Int32) 6 by decide)]
  rfl

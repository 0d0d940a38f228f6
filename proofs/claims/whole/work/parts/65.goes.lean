/-! the model's night -/
theorem bs_M {α : Type} (M : MW) (f : MW → Option α) : (some M).bind f = f M := rfl
theorem bs_X {α : Type} (X : XW) (f : XW → Option α) : (some X).bind f = f X := rfl
theorem bs_I {α : Type} (v : Int32) (f : Int32 → Option α) : (some v).bind f = f v := rfl
theorem bs_N {α : Type} (v : Nat) (f : Nat → Option α) : (some v).bind f = f v := rfl
theorem mI_at (M : MW) (k : Nat) (v : Int32) : (mI M k v).1 k = v := va_up_self M.1 k v
theorem nM.up {M M' : MW} (a : nM M M') {i : Nat} (hi : 94 ≤ i ∧ i ≠ 96) (k v : Int32) : nM M (mA M' i k v) := ⟨a.1, fun j h => (mA_ne _ _ _ (by omega)).trans (a.2 j h)⟩
theorem nM.u5 {M M' : MW} (a : nM M M') (v : Int32) : nM M (mI M' 55 v) := ⟨fun k hk => (va_up_ne _ _ hk).trans (a.1 k hk), a.2⟩
def row3 (M : MW) (i : Nat) (s : Int32 × Int32 × Int32) : Prop := M.2 97 i = s.1 ∧ M.2 98 i = s.2.1 ∧ M.2 99 i = s.2.2
theorem row3_w {M M' : MW} {t i : Nat} {s S : Int32 × Int32 × Int32} (h97 : M'.2 97 = upd (M.2 97) t s.1) (h98 : M'.2 98 = upd (M.2 98) t s.2.1) (h99 : M'.2 99 = upd (M.2 99) t s.2.2) (h : i ≠ t → row3 M i S) (h2 : i = t → S = s) : row3 M' i S := by
  unfold row3
  rw [h97, h98, h99]
  unfold upd
  by_cases c : i = t
  · rw [if_pos c, if_pos c, if_pos c, h2 c]; exact ⟨rfl, rfl, rfl⟩
  · rw [if_neg c, if_neg c, if_neg c]; exact h c
theorem row3.e {M M' : MW} {i : Nat} {s : Int32 × Int32 × Int32} (h : row3 M i s) (a : M'.2 97 = M.2 97) (b : M'.2 98 = M.2 98) (c : M'.2 99 = M.2 99) : row3 M' i s := by
  unfold row3
  rw [a, b, c]
  exact h
theorem begins_lo {M : MW} {nB : Nat} (h8 : M.1 8 = nI nB) (hB : nB ≤ 6) : ∀ (m t : Nat) (M' : MW), 6 < m + t → t ≤ 6 → nM M M' → (∀ i, i < t → i < nB → row3 M' i (M.2 77 i, 0, -1)) → ∃ M'', lo2 (fX10_begins_l2) m M' (nI t) = some M'' ∧ nM M M'' ∧ M''.1 55 = 0 ∧ ∀ i, i < nB → row3 M'' i (M.2 77 i, 0, -1) := by
  intro m
  induction m with
  | zero => intro t M' h1 h2; omega
  | succ m ih =>
    intro t M' h1 h2 a hr
    show ∃ M'', fX10_begins_l2 (lo2 (fX10_begins_l2) m) M' (nI t) = some M'' ∧ _
    generalize hL : lo2 (fX10_begins_l2) m = L at ih ⊢
    dsimp only [fX10_begins_l2, fX10_begins_b31, fX10_begins_b52, bd]
    by_cases ht : 6 ≤ t
    · rw [if_pos (show (6 : Int32) ≤ nI t from nI_le (a := 6) ht (by omega))]
      refine ⟨_, rfl, a.u5 0, mI_at _ _ _, fun i hi => (hr i (by omega) hi).e rfl rfl rfl⟩
    rw [if_neg (show ¬ (6 : Int32) ≤ nI t from nI_ge (b := 6) (by omega) (by omega))]
    have it : inb (nI t) 6 := in_nI (by omega) (by omega)
    have h8' : M'.1 8 = nI nB := (a.1 8 (by decide)).trans h8
    have h77 : M'.2 77 = M.2 77 := a.2 77 (by decide)
    rw [h8', nI_1]
    have step : ∀ v : Int32, (t < nB → v = M.2 77 t) → ∃ M'', L (mA (mA (mA M' 97 (nI t) v) 98 (nI t) 0) 99 (nI t) (-1)) (nI (t + 1)) = some M'' ∧ nM M M'' ∧ M''.1 55 = 0 ∧ ∀ i, i < nB → row3 M'' i (M.2 77 i, 0, -1) := by
      intro v hv
      refine ih (t + 1) _ (by omega) (by omega) (((a.up (by decide) _ _).up (by decide) _ _).up (by decide) _ _) (fun i hi hib => ?_)
      refine row3_w (M := M') (t := t) (s := (v, 0, -1)) ?_ ?_ ?_ (fun q => hr i (by omega) hib) (fun q => by subst q; rw [hv hib])
      · rw [mA_ne _ _ _ (by decide), mA_ne _ _ _ (by decide), mA_at, cl_nI (by omega)]
      · rw [mA_ne _ _ _ (by decide), mA_at, mA_ne _ _ _ (by decide), cl_nI (by omega)]
      · rw [mA_at, mA_ne _ _ _ (by decide), mA_ne _ _ _ (by decide), cl_nI (by omega)]
    by_cases hb : nB ≤ t
    · rw [if_pos (nI_le hb (by omega)), if_pos it, if_pos it, if_pos it]
      exact step _ (fun q => by omega)
    · rw [if_neg (nI_ge (by omega) (by omega)), rd_in it, Option.bind_some, if_pos it, if_pos it, if_pos it, h77, cl_nI (show t < 2 ^ 31 by omega)]
      exact step _ (fun _ => rfl)
def bOf (X : XW) (i : Nat) : Nat := (X.2.2 13 i).getD 0
def pOf (M : MW) (i : Nat) : Nat := (M.2 78 i).toNatClampNeg
def flt (X : XW) (M : MW) (nb nB : Nat) : Prop := nB ≤ 6 ∧ M.1 8 = nI nB ∧ ∀ i, i < nB → kAt X M nb i (bOf X i) ∧ M.2 78 i = nI (pOf M i) ∧ pOf M i ≤ 40 ∧ cOk (M.2 77 i)
theorem pass1 {X : XW} {M : MW} {H : Nat → Prop} {nb nB h : Nat} (E : ESim X M H) (F : flt X M nb nB) (hh : h < 12) (hH : H h) (S : Nat → Int32 × Int32 × Int32) (hS : ∀ i, i < nB → cOk (S i).1) : ∀ (m t : Nat) (M' : MW), 6 < m + t → t ≤ nB → nM M M' → (∀ i, i < nB → row3 M' i (if i < t then tst X nb (bOf X i) (nI (pOf M i)) h (S i) else S i)) → ∃ M'', lo2 (fX10_passes_l2 (nI h)) m M' (nI t) = fX10_passes_b102 M'' (nI h) ∧ nM M M'' ∧ (∀ i, i < nB → row3 M'' i (tst X nb (bOf X i) (nI (pOf M i)) h (S i))) ∧ M''.1 = M'.1 ∧ ∀ i, 100 ≤ i → M''.2 i = M'.2 i := by
  obtain ⟨hB, h8, F⟩ := F
  intro m
  induction m with
  | zero => intro t M' h1 h2; omega
  | succ m ih =>
    intro t M' h1 h2 a hr
    show ∃ M'', fX10_passes_l2 (nI h) (lo2 (fX10_passes_l2 (nI h)) m) M' (nI t) = fX10_passes_b102 M'' (nI h) ∧ _
    generalize hL : lo2 (fX10_passes_l2 (nI h)) m = L at ih ⊢
    have h8' : M'.1 8 = nI nB := (a.1 8 (by decide)).trans h8
    dsimp only [fX10_passes_l2, fX10_passes_b95, bd]
    rw [h8']
    by_cases ht : nB ≤ t
    · rw [if_pos (nI_le ht (by omega))]
      refine ⟨M', rfl, a, fun i hi => ?_, rfl, fun _ _ => rfl⟩
      have := hr i hi
      rw [if_pos (by omega)] at this
      exact this
    rw [if_neg (nI_ge (by omega) (by omega)), nI_1]
    have it : inb (nI t) 6 := in_nI (by omega) (by omega)
    have hcl : (nI t).toNatClampNeg = t := cl_nI (by omega)
    have ht' : t < nB := by omega
    have rt := hr t ht'
    rw [if_neg (Nat.lt_irrefl t)] at rt
    obtain ⟨r1, r2, r3⟩ := rt
    obtain ⟨kt, pt, pt2, -⟩ := F t ht'
    rw [rd_in it, Option.bind_some, hcl, r1]
    have same : tst X nb (bOf X t) (nI (pOf M t)) h (S t) = S t → ∀ M1 : MW, nM M M1 → M1.1 = M'.1 → (∀ i, i ≠ 94 → i ≠ 95 → M1.2 i = M'.2 i) → ∃ M'', L M1 (nI (t + 1)) = fX10_passes_b102 M'' (nI h) ∧ nM M M'' ∧ (∀ i, i < nB → row3 M'' i (tst X nb (bOf X i) (nI (pOf M i)) h (S i))) ∧ M''.1 = M'.1 ∧ ∀ i, 100 ≤ i → M''.2 i = M'.2 i := by
      intro q M1 a1 a2 a3
      obtain ⟨M'', g1, g2, g3, g4, g5⟩ := ih (t + 1) M1 (by omega) (by omega) a1 (fun i hi => by
        refine row3.e ?_ (a3 97 (by decide) (by decide)) (a3 98 (by decide) (by decide)) (a3 99 (by decide) (by decide))
        by_cases e : i = t
        · subst e
          rw [if_pos (by omega), q]; exact ⟨r1, r2, r3⟩
        · have := hr i hi
          by_cases e2 : i < t
          · rw [if_pos (by omega)]; rw [if_pos e2] at this; exact this
          · rw [if_neg (by omega)]; rw [if_neg e2] at this; exact this)
      exact ⟨M'', g1, g2, g3, g4.trans a2, fun i hi => (g5 i hi).trans (a3 i (by omega) (by omega))⟩
    rcases hS t ht' with hc | ⟨c, hc, hcc⟩
    · rw [if_pos hc]
      exact same (if_pos hc) M' a rfl (fun _ _ _ => rfl)
    · have hm : ¬ (S t).1 = -1 := by rw [hcc]; exact nI_m1 (by omega)
      rw [if_neg hm, Option.bind_some, rd_in it, Option.bind_some, hcl, a.2 78 (by decide), pt]
      obtain ⟨M1, g1, g2⟩ := go_M E kt a hc hh hH (show pOf M t ≤ 45 by omega)
      rw [hcc, g1, bd2_s]
      by_cases hv : dvX X nb (bOf X t) (nI c) (nI (pOf M t)) h = 0
      · rw [if_pos hv]
        exact same (by unfold tst; rw [if_neg hm, hcc, if_pos hv]) M1 (a.tr g2.n) g2.1 g2.2
      · rw [if_neg hv]
        have hfu := fu_M (h := h) E.1 (a.tr g2.n) hc hh
        rw [rd_in it, Option.bind_some, hcl, g2.2 97 (by decide) (by decide), r1, hcc, hfu, Option.bind_some, if_pos it, rd_in it, Option.bind_some, if_pos it, rd_in it, Option.bind_some, hcl]
        have s2 : (mA M1 97 (nI t) (fuX X (nI c) h)).2 98 t = (S t).2.1 := by rw [mA_ne _ _ _ (by decide), g2.2 98 (by decide) (by decide), r2]
        rw [s2]
        have s3 : (mA (mA M1 97 (nI t) (fuX X (nI c) h)) 98 (nI t) ((S t).2.1 + 1)).2 99 t = (S t).2.2 := by rw [mA_ne _ _ _ (by decide), mA_ne _ _ _ (by decide), g2.2 99 (by decide) (by decide), r3]
        rw [s3, Option.bind_some]
        have hst : tst X nb (bOf X t) (nI (pOf M t)) h (S t) = (fuX X (nI c) h, (S t).2.1 + 1, if (S t).2.2 = -1 then nI h else (S t).2.2) := by unfold tst; rw [if_neg hm, hcc, if_neg hv]
        have tail : ∀ z, z = (if (S t).2.2 = -1 then nI h else (S t).2.2) → ∃ M'', (if inb (nI t) 6 then L (mA (mA (mA M1 97 (nI t) (fuX X (nI c) h)) 98 (nI t) ((S t).2.1 + 1)) 99 (nI t) z) (nI (t + 1)) else none) = fX10_passes_b102 M'' (nI h) ∧ nM M M'' ∧ (∀ i, i < nB → row3 M'' i (tst X nb (bOf X i) (nI (pOf M i)) h (S i))) ∧ M''.1 = M'.1 ∧ ∀ i, 100 ≤ i → M''.2 i = M'.2 i := by
          intro z hz
          rw [if_pos it]
          obtain ⟨M'', q1, q2, q3, q4, q5⟩ := ih (t + 1) (mA (mA (mA M1 97 (nI t) (fuX X (nI c) h)) 98 (nI t) ((S t).2.1 + 1)) 99 (nI t) z) (by omega) (by omega) ((((a.tr g2.n).up (by decide) _ _).up (by decide) _ _).up (by decide) _ _) (fun i hi => by
            refine row3_w (M := M1) (t := t) (s := (fuX X (nI c) h, (S t).2.1 + 1, z)) ?_ ?_ ?_ (fun q => ?_) (fun q => ?_)
            · rw [mA_ne _ _ _ (by decide), mA_ne _ _ _ (by decide), mA_at, hcl]
            · rw [mA_ne _ _ _ (by decide), mA_at, mA_ne _ _ _ (by decide), hcl]
            · rw [mA_at, mA_ne _ _ _ (by decide), mA_ne _ _ _ (by decide), hcl]
            · refine row3.e ?_ (g2.2 97 (by decide) (by decide)) (g2.2 98 (by decide) (by decide)) (g2.2 99 (by decide) (by decide))
              have := hr i hi
              by_cases e2 : i < t
              · rw [if_pos (by omega)]; rw [if_pos e2] at this; exact this
              · rw [if_neg (by omega)]; rw [if_neg e2] at this; exact this
            · subst q
              rw [if_pos (by omega), hst, hz])
          refine ⟨M'', q1, q2, q3, q4.trans g2.1, fun i hi => (q5 i hi).trans ?_⟩
          rw [mA_ne _ _ _ (by omega), mA_ne _ _ _ (by omega), mA_ne _ _ _ (by omega), g2.2 i (by omega) (by omega)]
        by_cases hf : (S t).2.2 = -1
        · rw [if_pos hf]
          exact tail _ (by rw [if_pos hf])
        · rw [if_neg hf]
          exact tail _ (by rw [if_neg hf])
theorem pass2 {X : XW} {M : MW} {H : Nat → Prop} {nb nB h : Nat} (E : ESim X M H) (F : flt X M nb nB) (hh : h < 12) (S : Nat → Int32 × Int32 × Int32) (hS : ∀ i, i < nB → cOk (S i).1) : ∀ (m t : Nat) (M' : MW), 6 < m + t → t ≤ nB → nM M M' → (∀ i, i < nB → row3 M' i (S i)) → (∀ i, i < t → M'.2 100 (6 * h + i) = if (S i).1 = -1 then -1 else lyX X (S i).1 (nI (pOf M i)) h) → ∃ M'', lo2 (fX10_passes_l104 (nI h)) m M' (nI t) = fX10_passes_b176 M'' (nI h) ∧ nM M M'' ∧ (∀ i, i < nB → row3 M'' i (S i)) ∧ (∀ i, i < nB → M''.2 100 (6 * h + i) = if (S i).1 = -1 then -1 else lyX X (S i).1 (nI (pOf M i)) h) ∧ M''.1 = M'.1 ∧ (∀ i, 101 ≤ i → M''.2 i = M'.2 i) ∧ ∀ x, x < 6 * h → M''.2 100 x = M'.2 100 x := by
  obtain ⟨hB, h8, F⟩ := F
  intro m
  induction m with
  | zero => intro t M' h1 h2; omega
  | succ m ih =>
    intro t M' h1 h2 a hr hl
    show ∃ M'', fX10_passes_l104 (nI h) (lo2 (fX10_passes_l104 (nI h)) m) M' (nI t) = fX10_passes_b176 M'' (nI h) ∧ _
    generalize hL : lo2 (fX10_passes_l104 (nI h)) m = L at ih ⊢
    have h8' : M'.1 8 = nI nB := (a.1 8 (by decide)).trans h8
    dsimp only [fX10_passes_l104, fX10_passes_b169, bd]
    rw [h8']
    by_cases ht : nB ≤ t
    · rw [if_pos (nI_le ht (by omega))]
      exact ⟨M', rfl, a, hr, fun i hi => hl i (by omega), rfl, fun _ _ => rfl, fun _ _ => rfl⟩
    rw [if_neg (nI_ge (by omega) (by omega)), nI_1]
    have it : inb (nI t) 6 := in_nI (by omega) (by omega)
    have hcl : (nI t).toNatClampNeg = t := cl_nI (by omega)
    have ht' : t < nB := by omega
    obtain ⟨r1, r2, r3⟩ := hr t ht'
    obtain ⟨kt, pt, pt2, -⟩ := F t ht'
    have e6 : (6 : Int32) * nI h + nI t = nI (6 * h + t) := by rw [show (6 : Int32) * nI h = nI (6 * h) from pk_mul 6 h, nI_add]
    have i72 : inb (nI (6 * h + t)) 72 := in_nI (by omega) (by omega)
    rw [rd_in it, Option.bind_some, hcl, r1, e6]
    have tail : ∀ z, z = (if (S t).1 = -1 then -1 else lyX X (S t).1 (nI (pOf M t)) h) → ∃ M'', (if inb (nI (6 * h + t)) 72 then L (mA M' 100 (nI (6 * h + t)) z) (nI (t + 1)) else none) = fX10_passes_b176 M'' (nI h) ∧ nM M M'' ∧ (∀ i, i < nB → row3 M'' i (S i)) ∧ (∀ i, i < nB → M''.2 100 (6 * h + i) = if (S i).1 = -1 then -1 else lyX X (S i).1 (nI (pOf M i)) h) ∧ M''.1 = M'.1 ∧ (∀ i, 101 ≤ i → M''.2 i = M'.2 i) ∧ ∀ x, x < 6 * h → M''.2 100 x = M'.2 100 x := by
      intro z hz
      rw [if_pos i72]
      obtain ⟨M'', q1, q2, q3, q4, q5, q6, q7⟩ := ih (t + 1) (mA M' 100 (nI (6 * h + t)) z) (by omega) (by omega) (a.up (by decide) _ _) (fun i hi => (hr i hi).e (mA_ne _ _ _ (by decide)) (mA_ne _ _ _ (by decide)) (mA_ne _ _ _ (by decide))) (fun i hi => by
        rw [mA_at, cl_nI (show 6 * h + t < 2 ^ 31 by omega)]
        unfold upd
        by_cases e : i = t
        · subst e; rw [if_pos rfl]; exact hz
        · rw [if_neg (by omega)]; exact hl i (by omega))
      refine ⟨M'', q1, q2, q3, q4, q5, fun i hi => (q6 i hi).trans (mA_ne _ _ _ (by omega)), fun x hx => (q7 x hx).trans ?_⟩
      rw [mA_at, cl_nI (show 6 * h + t < 2 ^ 31 by omega)]
      exact if_neg (by omega)
    rcases hS t ht' with hc | ⟨c, hc, hcc⟩
    · rw [if_pos hc]
      exact tail _ (by rw [if_pos hc])
    · have hm : ¬ (S t).1 = -1 := by rw [hcc]; exact nI_m1 (by omega)
      obtain ⟨w, r, g1, g2, g3⟩ := ly_M E.1 a hc hh pt2
      rw [if_neg hm, Option.bind_some, g1, Option.bind_some, Option.bind_some, rd_in it, Option.bind_some, hcl, a.2 78 (by decide), pt, hcc, g2, Option.bind_some, g3, Option.bind_some]
      exact tail _ (by rw [if_neg hm, hcc])

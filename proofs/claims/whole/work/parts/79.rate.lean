/-! rate, copy, boatsBy -/
theorem L_add {k j : Nat} (hk : k ≤ 20000) (hj : j ≤ 10) : (nI k).toInt64 + (nI j).toInt64 = (nI (k + j)).toInt64 := by
  rw [← Int64.toInt_inj, Int64.toInt_add, L_toInt (by omega), L_toInt (by omega), L_toInt (by omega)]
  rw [show ((k : Int) + (j : Int)) = ((k + j : Nat) : Int) by omega]
  exact bmod64 (by omega) (by omega)
theorem p_rate {X : XW} {M : MW} {nb : Nat} (h : Sim X M nb) (a b c : Int32) : R1 (fX9_rate X a b c) (fX10_rate M a b c) := by
  unfold fX9_rate fX10_rate
  rw [in_eq, isTrial_eq]
  by_cases c1 : fX9_isFormIn a b = 0
  · rw [if_pos c1, if_pos c1]; exact ⟨_, rfl, rfl⟩
  rw [if_neg c1, if_neg c1]
  by_cases c2 : fX9_within c 0 1 = 0
  · rw [if_pos c2, if_pos c2]; exact ⟨_, rfl, rfl⟩
  rw [if_neg c2, if_neg c2]
  have w4 := wi_ne c2
  have e0 : (0 : Int32).toInt = 0 := rfl
  have e1 : (1 : Int32).toInt = 1 := rfl
  rw [e0, e1] at w4
  have w01 : c = 0 ∨ c = 1 := by
    by_cases z : c = 0
    · exact Or.inl z
    · refine Or.inr ?_
      rw [i_eq, e0] at z
      rw [i_eq, e1]
      omega
  obtain ⟨f, d, hf, hd, rfl, rfl⟩ := form_in c1
  have hF := h.2.2.2.2.2.2.1
  obtain ⟨g1, g2⟩ := g_abv hF hf hd
  obtain ⟨p, q, hpq, hq, ep, eq⟩ := g_form hF (4 * f + d)
  have hin : inb (nI (4 * f + d)) 20 := in_nI (by omega) (by omega)
  rw [g1, g2, Option.bind_some, Option.bind_some, t4, rd_in hin, rd_in hin, cl_nI (show 4 * f + d < 2 ^ 31 by omega), ep, eq, nI_1, show nI q + 2 = nI (q + 2) from nI_add q 2, po_ok c (by omega) (by omega) (Or.inl (by omega)), Option.bind_some, Option.bind_some, Option.bind_some, show (1 : Int64) = (nI 1).toInt64 from rfl, show (2 : Int64) = (nI 2).toInt64 from rfl, L_add (by omega) (by omega), L_add (by omega) (by omega), lw_ok c w01 (by omega) (by omega) (by omega), Option.bind_some]
  exact ⟨_, rfl, rfl⟩
/-- runs on sheets -/
theorem run_ok {X : XW} {s z : Nat} {i n : Int32} (hs : s < 4) (h2 : X.1 (39 + 2 * s) 2 = nI z) (hz : z ≤ 40) : fX8_hasRun X (39 + 2 * s) i n = some (if 0 ≤ i.toInt ∧ 0 ≤ n.toInt ∧ i.toInt + n.toInt ≤ z then 1 else 0) := by
  have e0 : (0 : Int32).toInt = 0 := rfl
  unfold fX8_hasRun
  rw [h2, if_pos (kd_sh hs)]
  by_cases c1 : i < 0
  · rw [if_pos c1, if_neg (by rw [i_lt, e0] at c1; omega)]
  rw [if_neg c1]
  by_cases c2 : n < 0
  · rw [if_pos c2, if_neg (by rw [i_lt, e0] at c2; omega)]
  rw [if_neg c2]
  rw [i_lt, e0] at c1 c2
  by_cases c3 : nI z < n
  · rw [if_pos c3, if_neg (by rw [i_lt, nI_toInt (by omega)] at c3; omega)]
  rw [if_neg c3]
  rw [i_lt, nI_toInt (by omega)] at c3
  have hs := i_sub (a := nI z) (b := n) (by rw [nI_toInt (by omega)]; omega) (by rw [nI_toInt (by omega)]; omega)
  rw [nI_toInt (by omega)] at hs
  by_cases c4 : nI z - n < i
  · rw [if_pos c4, if_neg (by rw [i_lt, hs] at c4; omega)]
  · rw [if_neg c4, if_pos (by rw [i_lt, hs] at c4; omega)]
theorem copy_M {M : MW} {a b n : Nat} (ha : a + n ≤ 160) (hb : b + n ≤ 160) : ∃ M', lo2 (fX10_copy_l147 (nI n) (nI a) (nI b)) FU M 0 = some (nI n, M') ∧ M'.1 = M.1 ∧ (∀ k, k ≠ 90 → M'.2 k = M.2 k) ∧ ∀ q, M'.2 90 q = if b ≤ q ∧ q < b + n then M.2 90 (a + (q - b)) else M.2 90 q := by
  have step : ∀ (K : MW → Int32 → Option (Int32 × MW)) (M1 : MW) (t x : Nat), x < n → fX10_copy_b173 (nI n) (nI a) (nI b) K M1 (nI t) (nI x) = K (mA M1 90 (nI (b + x)) (M1.2 90 (a + x))) (nI (t + 1)) := by
    intro K M1 t x hx
    dsimp only [fX10_copy_b173, bd]
    rw [nI_add, nI_add, rd_in (in_nI (show a + x < 160 by omega) (by omega)), cl_nI (show a + x < 2 ^ 31 by omega), Option.bind_some, if_pos (in_nI (show b + x < 160 by omega) (by omega)), nI_1]
  by_cases hab : b ≤ a
  · have lo : ∀ (m t : Nat) (M1 : MW), n < m + t → t ≤ n → M1.1 = M.1 → (∀ k, k ≠ 90 → M1.2 k = M.2 k) → (∀ q, M1.2 90 q = if b ≤ q ∧ q < b + t then M.2 90 (a + (q - b)) else M.2 90 q) → ∃ M', lo2 (fX10_copy_l147 (nI n) (nI a) (nI b)) m M1 (nI t) = some (nI n, M') ∧ M'.1 = M.1 ∧ (∀ k, k ≠ 90 → M'.2 k = M.2 k) ∧ ∀ q, M'.2 90 q = if b ≤ q ∧ q < b + n then M.2 90 (a + (q - b)) else M.2 90 q := by
      intro m
      induction m with
      | zero => intro t M1 g1 g2; omega
      | succ m ih =>
        intro t M1 g1 g2 a1 a2 a3
        show ∃ M', fX10_copy_l147 (nI n) (nI a) (nI b) (lo2 (fX10_copy_l147 (nI n) (nI a) (nI b)) m) M1 (nI t) = some (nI n, M') ∧ _
        generalize hG : lo2 (fX10_copy_l147 (nI n) (nI a) (nI b)) m = G at ih ⊢
        unfold fX10_copy_l147
        by_cases ht : t = n
        · subst ht
          rw [if_pos (nI_le (Nat.le_refl _) (by omega))]
          exact ⟨M1, rfl, a1, a2, a3⟩
        rw [if_neg (nI_ge (by omega) (by omega)), if_pos (nI_le hab (by omega)), step G M1 t t (by omega)]
        refine ih (t + 1) _ (by omega) (by omega) a1 (fun k hk => (mA_ne _ _ _ hk).trans (a2 k hk)) (fun q => ?_)
        rw [mA_at, cl_nI (show b + t < 2 ^ 31 by omega), a3 (a + t), if_neg (show ¬ (b ≤ a + t ∧ a + t < b + t) by omega)]
        unfold upd
        by_cases e : q = b + t
        · rw [if_pos e, if_pos (show b ≤ q ∧ q < b + (t + 1) by omega), show a + (q - b) = a + t by omega]
        · rw [if_neg e, a3 q]
          by_cases e2 : b ≤ q ∧ q < b + t
          · rw [if_pos e2, if_pos (show b ≤ q ∧ q < b + (t + 1) by omega)]
          · rw [if_neg e2, if_neg (show ¬ (b ≤ q ∧ q < b + (t + 1)) by omega)]
    exact lo FU 0 M (by unfold FU; omega) (by omega) rfl (fun _ _ => rfl) (fun q => by rw [if_neg (show ¬ (b ≤ q ∧ q < b + 0) by omega)])
  · have lo : ∀ (m t : Nat) (M1 : MW), n < m + t → t ≤ n → M1.1 = M.1 → (∀ k, k ≠ 90 → M1.2 k = M.2 k) → (∀ q, M1.2 90 q = if b + n ≤ q + t ∧ q < b + n then M.2 90 (a + (q - b)) else M.2 90 q) → ∃ M', lo2 (fX10_copy_l147 (nI n) (nI a) (nI b)) m M1 (nI t) = some (nI n, M') ∧ M'.1 = M.1 ∧ (∀ k, k ≠ 90 → M'.2 k = M.2 k) ∧ ∀ q, M'.2 90 q = if b ≤ q ∧ q < b + n then M.2 90 (a + (q - b)) else M.2 90 q := by
      intro m
      induction m with
      | zero => intro t M1 g1 g2; omega
      | succ m ih =>
        intro t M1 g1 g2 a1 a2 a3
        show ∃ M', fX10_copy_l147 (nI n) (nI a) (nI b) (lo2 (fX10_copy_l147 (nI n) (nI a) (nI b)) m) M1 (nI t) = some (nI n, M') ∧ _
        generalize hG : lo2 (fX10_copy_l147 (nI n) (nI a) (nI b)) m = G at ih ⊢
        unfold fX10_copy_l147
        by_cases ht : t = n
        · subst ht
          rw [if_pos (nI_le (Nat.le_refl _) (by omega))]
          refine ⟨M1, rfl, a1, a2, fun q => ?_⟩
          rw [a3 q]
          by_cases e : b ≤ q ∧ q < b + t
          · rw [if_pos e, if_pos (by omega)]
          · rw [if_neg e, if_neg (by omega)]
        have ex : nI n - 1 - nI t = nI (n - 1 - t) := by
          rw [show nI n - 1 = nI (n - 1) from pk_sub (b := 1) (by omega)]
          exact pk_sub (by omega)
        rw [if_neg (nI_ge (by omega) (by omega)), if_neg (nI_ge (by omega) (by omega)), ex, step G M1 t (n - 1 - t) (by omega)]
        refine ih (t + 1) _ (by omega) (by omega) a1 (fun k hk => (mA_ne _ _ _ hk).trans (a2 k hk)) (fun q => ?_)
        rw [mA_at, cl_nI (show b + (n - 1 - t) < 2 ^ 31 by omega), a3 (a + (n - 1 - t)), if_neg (show ¬ (b + n ≤ a + (n - 1 - t) + t ∧ a + (n - 1 - t) < b + n) by omega)]
        unfold upd
        by_cases e : q = b + (n - 1 - t)
        · rw [if_pos e, if_pos (show b + n ≤ q + (t + 1) ∧ q < b + n by omega), show a + (q - b) = a + (n - 1 - t) by omega]
        · rw [if_neg e, a3 q]
          by_cases e2 : b + n ≤ q + t ∧ q < b + n
          · rw [if_pos e2, if_pos (show b + n ≤ q + (t + 1) ∧ q < b + n by omega)]
          · rw [if_neg e2, if_neg (show ¬ (b + n ≤ q + (t + 1) ∧ q < b + n) by omega)]
    exact lo FU 0 M (by unfold FU; omega) (by omega) rfl (fun _ _ => rfl) (fun q => by rw [if_neg (show ¬ (b + n ≤ q + 0 ∧ q < b + n) by omega)])
theorem p_copy {X : XW} {M : MW} {nb : Nat} (h : Sim X M nb) (a i c j n : Int32) : R2 nb (fX9_copy X a i c j n) (fX10_copy M a i c j n) := by
  dsimp only [fX9_copy, fX10_copy, bd]
  rw [in_eq]
  rcases sheet_of X a with ⟨a1, a2⟩ | ⟨a1, s, hs, rfl, a2⟩
  · rw [a2, if_pos a1, Option.bind_some]
    rcases sheet_of X c with ⟨b1, b2⟩ | ⟨b1, o, ho, rfl, b2⟩
    · rw [b2, Option.bind_some]; exact R2.mk h
    · rw [b2, Option.bind_some]; exact R2.mk h
  rw [a2, if_neg a1, Option.bind_some]
  rcases sheet_of X c with ⟨b1, b2⟩ | ⟨b1, o, ho, rfl, b2⟩
  · rw [b2, if_pos b1, Option.bind_some]; exact R2.mk h
  rw [b2, if_neg b1, Option.bind_some]
  dsimp only [oc]
  have is : inb (nI s) 4 := in_nI hs (by omega)
  have io : inb (nI o) 4 := in_nI ho (by omega)
  obtain ⟨g1, g2, g3, g4, g5⟩ := h.2.2.2.2.2.2.2.1 s hs
  obtain ⟨k1, k2, k3, k4, k5⟩ := h.2.2.2.2.2.2.2.1 o ho
  rw [if_pos (kd_sh hs), if_pos (kd_sh ho), g_miss h hs, g_miss h ho, rd_in is, rd_in io, rd_in is, rd_in io, cl_nI (show s < 2 ^ 31 by omega), cl_nI (show o < 2 ^ 31 by omega), g1, k1]
  simp only [Option.bind_some]
  by_cases c3 : M.2 88 s = -1
  · rw [if_pos c3, if_pos c3, if_neg n10]; exact R2.mk h
  rw [if_neg c3, if_neg c3, if_pos rfl]
  by_cases c4 : M.2 88 o = -1
  · rw [if_pos c4, if_pos c4, if_neg n10]; exact R2.mk h
  rw [if_neg c4, if_neg c4, if_pos rfl]
  by_cases c5 : M.2 88 s = M.2 88 o
  rotate_left
  · rw [if_neg c5, if_neg c5]; exact R2.mk h
  rw [if_pos c5, if_pos c5]
  obtain ⟨z, ez, -, hz⟩ := nn_ge g3.1
  obtain ⟨y, ey, -, hy⟩ := nn_ge k3.1
  rw [run_ok hs (g2.trans ez) (by omega), run_ok ho (k2.trans ey) (by omega), ez, ey, Option.bind_some, Option.bind_some]
  have e0 : (0 : Int32).toInt = 0 := rfl
  by_cases q1 : n < 0
  · rw [if_pos q1]
    rw [i_lt, e0] at q1
    rw [if_neg (show ¬ (0 ≤ i.toInt ∧ 0 ≤ n.toInt ∧ i.toInt + n.toInt ≤ (z : Int)) by omega), if_pos rfl]
    exact R2.mk h
  rw [if_neg q1]
  by_cases q2 : i < 0
  · rw [if_pos q2]
    rw [i_lt, e0] at q2
    rw [if_neg (show ¬ (0 ≤ i.toInt ∧ 0 ≤ n.toInt ∧ i.toInt + n.toInt ≤ (z : Int)) by omega), if_pos rfl]
    exact R2.mk h
  rw [if_neg q2]
  rw [i_lt, e0] at q1 q2
  obtain ⟨n', rfl, hn31, hn'⟩ := nn_ge (i := n) (by omega)
  obtain ⟨i', rfl, hi31, hi'⟩ := nn_ge (i := i) (by omega)
  rw [hn', hi']
  by_cases q3 : j < 0
  · rw [if_pos q3]
    rw [i_lt, e0] at q3
    by_cases q4 : 0 ≤ (i' : Int) ∧ 0 ≤ (n' : Int) ∧ (i' : Int) + (n' : Int) ≤ (z : Int)
    · rw [if_pos q4, if_neg n10, if_neg (show ¬ (0 ≤ j.toInt ∧ 0 ≤ (n' : Int) ∧ j.toInt + (n' : Int) ≤ (y : Int)) by omega), if_pos rfl]; exact R2.mk h
    · rw [if_neg q4, if_pos rfl]; exact R2.mk h
  rw [if_neg q3]
  rw [i_lt, e0] at q3
  obtain ⟨j', rfl, hj31, hj'⟩ := nn_ge (i := j) (by omega)
  rw [hj']
  have no : ¬ (i' + n' ≤ z ∧ j' + n' ≤ y) → R2 nb (if (if 0 ≤ (i' : Int) ∧ 0 ≤ (n' : Int) ∧ (i' : Int) + (n' : Int) ≤ (z : Int) then (1 : Int32) else 0) = 0 then some (-12, X) else if (if 0 ≤ (j' : Int) ∧ 0 ≤ (n' : Int) ∧ (j' : Int) + (n' : Int) ≤ (y : Int) then (1 : Int32) else 0) = 0 then some (-12, X) else if cpOk 40 40 (nI i') (nI j') (nI n') then some (nI n', xC X (39 + 2 * s + 1) (nI i') (39 + 2 * o + 1) (nI j') (nI n')) else none) (some (-12, M)) := by
    intro q
    by_cases q4 : 0 ≤ (i' : Int) ∧ 0 ≤ (n' : Int) ∧ (i' : Int) + (n' : Int) ≤ (z : Int)
    · rw [if_pos q4, if_neg n10, if_neg (show ¬ (0 ≤ (j' : Int) ∧ 0 ≤ (n' : Int) ∧ (j' : Int) + (n' : Int) ≤ (y : Int)) by omega), if_pos rfl]; exact R2.mk h
    · rw [if_neg q4, if_pos rfl]; exact R2.mk h
  by_cases q4 : z < i'
  · rw [if_pos (nI_lt q4 (by omega))]; exact no (by omega)
  rw [if_neg (nI_nlt (by omega) (by omega))]
  by_cases q5 : y < j'
  · rw [if_pos (nI_lt q5 (by omega))]; exact no (by omega)
  rw [if_neg (nI_nlt (by omega) (by omega)), pk_sub (show i' ≤ z by omega), pk_sub (show j' ≤ y by omega)]
  by_cases q6 : z - i' < n'
  · rw [if_pos (nI_lt q6 (by omega))]; exact no (by omega)
  rw [if_neg (nI_nlt (by omega) (by omega))]
  by_cases q7 : n' ≤ y - j'
  rotate_left
  · rw [if_neg (nI_ge (by omega) (by omega))]; exact no (by omega)
  have e40 : ∀ s i : Nat, (40 : Int32) * nI s + nI i = nI (40 * s + i) := fun s i => by rw [show (40 : Int32) * nI s = nI (40 * s) from pk_mul 40 s, nI_add]
  obtain ⟨M', m1, m2, m3, m4⟩ := copy_M (M := M) (a := 40 * s + i') (b := 40 * o + j') (n := n') (by omega) (by omega)
  have hcp : cpOk 40 40 (nI i') (nI j') (nI n') := by
    refine ⟨nI_pos hi31, nI_pos hj31, nI_pos hn31, ?_, ?_⟩
    · rw [cl_nI hi31, cl_nI hn31]; omega
    · rw [cl_nI hj31, cl_nI hn31]; omega
  rw [if_pos (nI_le q7 (by omega)), e40, e40, m1, if_pos (show 0 ≤ (i' : Int) ∧ 0 ≤ (n' : Int) ∧ (i' : Int) + (n' : Int) ≤ (z : Int) by omega), if_neg n10, if_pos (show 0 ≤ (j' : Int) ∧ 0 ≤ (n' : Int) ∧ (j' : Int) + (n' : Int) ≤ (y : Int) by omega), if_neg n10, if_pos hcp]
  have xr : ∀ q, (xC X (39 + 2 * s + 1) (nI i') (39 + 2 * o + 1) (nI j') (nI n')).2.1 q = if q = 39 + 2 * o + 1 then va_cpy (X.2.1 (39 + 2 * s + 1)) (X.2.1 (39 + 2 * o + 1)) i' j' n' else X.2.1 q := by
    intro q
    unfold xC xG
    rw [cl_nI hi31, cl_nI hj31, cl_nI hn31]
  refine R2.mk (h.sh (fun q _ => rfl) (fun q hq => ?_) rfl m2 (fun q hq => m3 q (by omega)) ?_)
  · rw [xr, if_neg (by omega)]
  intro s' hs'
  obtain ⟨r1, r2, r3, r4, r5⟩ := h.2.2.2.2.2.2.2.1 s' hs'
  rw [m3 88 (by decide), m3 89 (by decide)]
  refine ⟨r1, r2, r3, r4, fun q hq => ?_⟩
  rw [m4, xr]
  by_cases e : s' = o
  · subst e
    rw [if_pos (show 40 + 2 * s' = 39 + 2 * s' + 1 by omega)]
    by_cases e2 : j' ≤ q ∧ q < j' + n'
    · rw [pk_cpy_in e2.1 e2.2, if_pos (show 40 * s' + j' ≤ 40 * s' + q ∧ 40 * s' + q < 40 * s' + j' + n' by omega), show 39 + 2 * s + 1 = 40 + 2 * s by omega, g5 _ (by omega), show 40 * s + i' + (40 * s' + q - (40 * s' + j')) = 40 * s + (i' + (q - j')) by omega]
    · rw [pk_cpy_out (by omega), if_neg (show ¬ (40 * s' + j' ≤ 40 * s' + q ∧ 40 * s' + q < 40 * s' + j' + n') by omega), show 39 + 2 * s' + 1 = 40 + 2 * s' by omega]
      exact r5 q hq
  · rw [if_neg (show ¬ 40 + 2 * s' = 39 + 2 * o + 1 by omega), if_neg (show ¬ (40 * o + j' ≤ 40 * s' + q ∧ 40 * s' + q < 40 * o + j' + n') by omega)]
    exact r5 q hq
theorem p_boatsBy {X : XW} {M : MW} {nb : Nat} (h : Sim X M nb) (h1nb : 1 ≤ nb) (a t at0 n : Int32) : R3 nb (fX9_boatsBy X nb a t at0 n) (fX10_boatsBy M a t at0 n) := by
  unfold fX9_boatsBy fX10_boatsBy
  rw [in_eq]
  have no : ∀ v : Int32, R3 nb (some (v, X, nb)) (some (v, M)) := fun v => ⟨v, X, M, nb, rfl, rfl, Nat.le_refl _, h⟩
  rcases sheet_of X a with ⟨a1, a2⟩ | ⟨a1, s, hs, rfl, a2⟩
  · rw [a2, if_pos a1]; exact no _
  rw [a2, if_neg a1, Option.bind_some]
  dsimp only [oc]
  by_cases c2 : fX9_within t 0 2 = 0
  · rw [if_pos c2, if_pos c2]; exact no _
  rw [if_neg c2, if_neg c2]
  by_cases c3 : fX9_within n 0 6 = 0
  · rw [if_pos c3, if_pos c3]; exact no _
  rw [if_neg c3, if_neg c3]
  have is : inb (nI s) 4 := in_nI hs (by omega)
  have hcs : (nI s).toNatClampNeg = s := cl_nI (by omega)
  obtain ⟨g1, g2, g3, g4, g5⟩ := h.2.2.2.2.2.2.2.1 s hs
  rw [if_pos (kd_sh hs), g_miss h hs, rd_in is, hcs, g1]
  simp only [Option.bind_some]
  by_cases c4 : M.2 88 s = -1
  · rw [if_pos c4, if_pos c4, if_neg n10]; exact no _
  rw [if_neg c4, if_neg c4, if_pos rfl]
  by_cases c5 : M.2 88 s = t
  rotate_left
  · rw [if_neg c5, if_neg c5]; exact no _
  rw [if_pos c5, if_pos c5]
  have w := wi_ne c3
  have e0 : (0 : Int32).toInt = 0 := rfl
  have e6 : (6 : Int32).toInt = 6 := rfl
  rw [e0, e6] at w
  obtain ⟨N, rfl, -, hN⟩ := nn_ge w.1
  have lo : ∀ (m m' u k : Nat) (X1 : XW) (M1 : MW) (n1 : Nat), N < m + u → N < m' + u → u ≤ N → nb ≤ n1 → Sim X1 M1 n1 → (u = 0 ∨ ∃ a0, at0 = nI a0 ∧ a0 ≤ 36) → k ≤ u → R3 nb (lo4 (fX9_boatsBy_l64 at0 (nI N) (some (39 + 2 * s))) m X1 n1 (nI k) (nI u)) (lo3 (fX10_boatsBy_l64 (nI s) at0 (nI N)) m' M1 (nI k) (nI u)) := by
    intro m
    induction m with
    | zero => intro m' u k X1 M1 n1 q1 q1' q2; omega
    | succ m ih =>
      intro m' u k X1 M1 n1 q1 q1' q2 q3 hS hu hk
      obtain ⟨m2, rfl⟩ : ∃ q, m' = q + 1 := ⟨m' - 1, by omega⟩
      replace ih := ih m2
      show R3 nb (fX9_boatsBy_l64 at0 (nI N) (some (39 + 2 * s)) (lo4 (fX9_boatsBy_l64 at0 (nI N) (some (39 + 2 * s))) m) X1 n1 (nI k) (nI u)) (fX10_boatsBy_l64 (nI s) at0 (nI N) (lo3 (fX10_boatsBy_l64 (nI s) at0 (nI N)) m2) M1 (nI k) (nI u))
      generalize hG : lo4 (fX9_boatsBy_l64 at0 (nI N) (some (39 + 2 * s))) m = G at ih ⊢
      generalize hK : lo3 (fX10_boatsBy_l64 (nI s) at0 (nI N)) m2 = K at ih ⊢
      dsimp only [fX9_boatsBy_l64, fX10_boatsBy_l64, bd]
      have no1 : ∀ v : Int32, R3 nb (some (v, X1, n1)) (some (v, M1)) := fun v => ⟨v, X1, M1, n1, rfl, rfl, q3, hS⟩
      by_cases hd : u = N
      · rw [if_pos (nI_le (by omega) (by omega)), if_pos (nI_le (by omega) (by omega))]; exact no1 _
      obtain ⟨k1, k2, k3, k4, k5⟩ := hS.2.2.2.2.2.2.2.1 s hs
      obtain ⟨z, ez, -, hz⟩ := nn_ge k3.1
      have m4 : (4 : Int32) * nI u = nI (4 * u) := pk_mul 4 u
      rw [if_neg (nI_ge (by omega) (by omega)), if_neg (nI_ge (by omega) (by omega)), Option.bind_some, if_pos (kd_sh hs), run_ok hs (k2.trans ez) (by omega), Option.bind_some, rd_in is, hcs, ez, Option.bind_some, m4, show (4 : Int32).toInt = 4 from rfl, nI_1, nI_1, Int32.add_zero]
      by_cases p0 : at0 < 0
      · rw [if_pos p0]
        have hu0 : u = 0 := by
          rcases hu with hu | ⟨a0, rfl, ha⟩
          · exact hu
          · exact absurd p0 (nI_pos (by omega))
        subst hu0
        rw [show nI (4 * 0) = 0 from rfl, Int32.add_zero]
        rw [i_lt, e0] at p0
        rw [if_neg (show ¬ (0 ≤ at0.toInt ∧ (0 : Int) ≤ 4 ∧ at0.toInt + 4 ≤ (z : Int)) by omega), if_pos rfl]
        exact no1 _
      rw [if_neg p0]
      rw [i_lt, e0] at p0
      obtain ⟨b0, rfl, hb31, hb0⟩ := nn_ge (i := at0) (by omega)
      by_cases big : 36 < b0
      · have hu0 : u = 0 := by
          rcases hu with hu | ⟨a0, ha, ha2⟩
          · exact hu
          · have := (nI_eq hb31 (by omega)).mp ha
            omega
        subst hu0
        rw [show nI (4 * 0) = 0 from rfl, Int32.add_zero, if_neg (show ¬ nI b0 < nI b0 from nI_nlt (Nat.le_refl _) hb31)]
        have hle : ¬ nI b0 ≤ nI z - 4 := by
          rw [i_le, show (4 : Int32) = nI 4 from rfl, pk_sub_toInt (by omega) (by omega), hb0]
          omega
        rw [if_neg hle, hb0, if_neg (show ¬ (0 ≤ (b0 : Int) ∧ (0 : Int) ≤ 4 ∧ (b0 : Int) + 4 ≤ (z : Int)) by omega), if_pos rfl]
        exact no1 _
      have hp : nI b0 + nI (4 * u) = nI (b0 + 4 * u) := nI_add _ _
      rw [hp, nI_toInt (show b0 + 4 * u < 2 ^ 31 by omega), if_neg (nI_nlt (show b0 ≤ b0 + 4 * u by omega) (by omega))]
      by_cases r : b0 + 4 * u + 4 ≤ z
      rotate_left
      · have hle : ¬ nI (b0 + 4 * u) ≤ nI z - 4 := by
          rw [i_le, show (4 : Int32) = nI 4 from rfl, pk_sub_toInt (by omega) (by omega), nI_toInt (by omega)]
          omega
        rw [if_neg hle, if_neg (show ¬ (0 ≤ ((b0 + 4 * u : Nat) : Int) ∧ (0 : Int) ≤ 4 ∧ ((b0 + 4 * u : Nat) : Int) + 4 ≤ (z : Int)) by omega), if_pos rfl]
        exact no1 _
      have hle : nI (b0 + 4 * u) ≤ nI z - 4 := by
        rw [i_le, show (4 : Int32) = nI 4 from rfl, pk_sub_toInt (by omega) (by omega), nI_toInt (by omega)]
        omega
      rw [if_pos hle, if_pos (show 0 ≤ ((b0 + 4 * u : Nat) : Int) ∧ (0 : Int) ≤ 4 ∧ ((b0 + 4 * u : Nat) : Int) + 4 ≤ (z : Int) by omega), if_neg n10]
      have e40 : (40 : Int32) * nI s + nI (b0 + 4 * u) = nI (40 * s + (b0 + 4 * u)) := by rw [show (40 : Int32) * nI s = nI (40 * s) from pk_mul 40 s, nI_add]
      have rx : ∀ e, e < 4 → rd (X1.2.1 (39 + 2 * s + 1)) 40 (nI (b0 + 4 * u + e)) = some (M1.2 90 (40 * s + (b0 + 4 * u) + e)) := fun e he => by
        rw [rd_in (in_nI (by omega) (by omega)), cl_nI (by omega), show 39 + 2 * s + 1 = 40 + 2 * s by omega, k5 _ (by omega), show 40 * s + (b0 + 4 * u + e) = 40 * s + (b0 + 4 * u) + e by omega]
      have rm : ∀ e, e < 4 → rd (M1.2 90) 160 (nI (40 * s + (b0 + 4 * u) + e)) = some (M1.2 90 (40 * s + (b0 + 4 * u) + e)) := fun e he => by
        rw [rd_in (in_nI (by omega) (by omega)), cl_nI (by omega)]
      have x0 := rx 0 (by omega)
      have x1 := rx 1 (by omega)
      have x2 := rx 2 (by omega)
      have x3 := rx 3 (by omega)
      have y0 := rm 0 (by omega)
      have y1 := rm 1 (by omega)
      have y2 := rm 2 (by omega)
      have y3 := rm 3 (by omega)
      simp only [Nat.add_zero] at x0 y0
      rw [e40, nI_1, nI_1, show nI (b0 + 4 * u) + 2 = nI (b0 + 4 * u + 2) from nI_add _ 2, show nI (b0 + 4 * u) + 3 = nI (b0 + 4 * u + 3) from nI_add _ 3, show nI (40 * s + (b0 + 4 * u)) + 2 = nI (40 * s + (b0 + 4 * u) + 2) from nI_add _ 2, show nI (40 * s + (b0 + 4 * u)) + 3 = nI (40 * s + (b0 + 4 * u) + 3) from nI_add _ 3, x0, x1, x2, x3, y0, y1, y2, y3]
      simp only [Option.bind_some]
      obtain ⟨v, X2, M2, n2, f1, f2, f3, f4⟩ := p_boat hS (by omega) (M1.2 90 (40 * s + (b0 + 4 * u))) (M1.2 90 (40 * s + (b0 + 4 * u) + 1)) (M1.2 90 (40 * s + (b0 + 4 * u) + 2)) (M1.2 90 (40 * s + (b0 + 4 * u) + 3))
      rw [f1, f2, bd2_s]
      show R3 nb (if v < 0 then G X2 n2 (nI k) (nI (u + 1)) else G X2 n2 (nI (k + 1)) (nI (u + 1))) _
      by_cases v0 : v < 0
      · rw [if_pos v0, if_pos v0]
        exact ih (u + 1) k X2 M2 n2 (by omega) (by omega) (by omega) (by omega) f4 (Or.inr ⟨b0, rfl, by omega⟩) (by omega)
      · rw [if_neg v0, if_neg v0]
        exact ih (u + 1) (k + 1) X2 M2 n2 (by omega) (by omega) (by omega) (by omega) f4 (Or.inr ⟨b0, rfl, by omega⟩) (by omega)
  exact lo 7 FU 0 0 X M nb (by omega) (by unfold FU; omega) (by omega) (Nat.le_refl _) h (Or.inl rfl) (Nat.le_refl _)

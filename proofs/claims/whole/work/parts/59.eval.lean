/-! the two walks over one text -/
theorem vx_98 {X : XW} {a : Nat} {l1 l4 l5 l6 l7 t : Int32} {K : XW → Int32 → Int32 → Option (Int32 × XW)} (h : ¬ t = 0) : fX5_valueOf_b98 a l1 11 12 K X l4 l5 l6 l7 t = fX5_valueOf_b147 a l1 11 12 K X l4 l5 l7 t := if_neg h
theorem vx_bin {X : XW} {a : Nat} {l1 l4 l5 c : Int32} {K : XW → Int32 → Int32 → Option (Int32 × XW)} (h : kiC c = 2) : (if 0 ≤ c - 20000 then if c - 20000 = 31 then fX5_valueOf_b98 a l1 11 12 K X l4 l5 c (c - 20000) 1 else if c - 20000 = 11 then fX5_valueOf_b98 a l1 11 12 K X l4 l5 c (c - 20000) 1 else fX5_valueOf_b98 a l1 11 12 K X l4 l5 c (c - 20000) 2 else fX5_valueOf_b98 a l1 11 12 K X l4 l5 c (c - 20000) 0) = fX5_valueOf_b147 a l1 11 12 K X l4 l5 (c - 20000) (nI 2) := by
  rcases ki2 h with rfl | rfl | rfl | rfl | rfl | rfl | rfl
  all_goals
    rw [if_pos (by decide), if_neg (by decide), if_neg (by decide)]
    exact vx_98 (by decide)
theorem bin_cv {c : Int32} (h : kiC c = 2) : ¬ 100000 ≤ cvC c ∧ 11 ≤ cvC c ∧ ¬ cvC c = 13 ∧ ¬ cvC c = 19 := by
  rcases ki2 h with rfl | rfl | rfl | rfl | rfl | rfl | rfl <;> decide
theorem bin_eq {c : Int32} (h : kiC c = 2) (a b : Int32) : fX5_outcome (c - 20000) a b = fX10_two (cvC c) a b := by
  rcases ki2 h with rfl | rfl | rfl | rfl | rfl | rfl | rfl
  · rw [show (20006 : Int32) - 20000 = 6 by decide, show cvC 20006 = 16 by decide]; rfl
  · rw [show (20007 : Int32) - 20000 = 7 by decide, show cvC 20007 = 17 by decide]; rfl
  · rw [show (20008 : Int32) - 20000 = 8 by decide, show cvC 20008 = 18 by decide]; rfl
  · rw [show (20009 : Int32) - 20000 = 9 by decide, show cvC 20009 = 14 by decide]; rfl
  · rw [show (20010 : Int32) - 20000 = 10 by decide, show cvC 20010 = 15 by decide]; rfl
  · rw [show (20029 : Int32) - 20000 = 29 by decide, show cvC 20029 = 11 by decide]; rfl
  · rw [show (20030 : Int32) - 20000 = 30 by decide, show cvC 20030 = 12 by decide]; rfl
theorem ev_lo {X : XW} {M : MW} {r p s N : Nat} (hr : r < 6) (hp : p < 3) (hM : M.1 22 = nI r) (hN : s + N ≤ 160) (he : X.2.1 (49 + 3 * r) p = nI (s + N)) (heM : M.2 83 (4 * r + (p + 1)) = nI (s + N)) (hc : ∀ j, j < s + N → M.2 82 (200 * r + j) = cvC (X.2.1 (48 + 3 * r) j)) (hd : dpS (X.2.1 (48 + 3 * r)) s N 0 = some 1) : ∀ (n j d : Nat) (X' : XW) (M' : MW), N < n + j → j ≤ N → dpS (X.2.1 (48 + 3 * r)) s j 0 = some d → eX X X' → eM M M' → (∀ q, q < 6 → X'.2.1 11 q = M'.2 95 q) → (∀ q, q < d → X'.2.1 12 q = M'.2 94 q) → ∃ v X'' M'', lo3 (fX5_valueOf_l32 (47 + 3 * r) (nI p) 11 12) n X' (nI d) (nI (s + j)) = some (v, X'') ∧ lo3 (fX10_worth_l16 (nI p)) n M' (nI d) (nI (s + j)) = some (fX10_within v 0 (if p = 2 then 100 else 999), M'') ∧ eX X X'' ∧ eM M M'' ∧ X''.2.1 11 = X'.2.1 11 ∧ M''.2 95 = M'.2 95 := by
  intro n
  induction n with
  | zero => intro j d X' M' h1 h2; omega
  | succ n ih =>
    intro j d X' M' h1 h2 hq aX aM hnm hst
    show ∃ v X'' M'', fX5_valueOf_l32 (47 + 3 * r) (nI p) 11 12 (lo3 (fX5_valueOf_l32 (47 + 3 * r) (nI p) 11 12) n) X' (nI d) (nI (s + j)) = some (v, X'') ∧ fX10_worth_l16 (nI p) (lo3 (fX10_worth_l16 (nI p)) n) M' (nI d) (nI (s + j)) = some (fX10_within v 0 (if p = 2 then 100 else 999), M'') ∧ _
    generalize hL : lo3 (fX5_valueOf_l32 (47 + 3 * r) (nI p) 11 12) n = L at ih ⊢
    generalize hG : lo3 (fX10_worth_l16 (nI p)) n = G at ih ⊢
    have hE' : X'.2.1 (49 + 3 * r) p = nI (s + N) := by rw [aX.2.2 _ (by omega) (by omega)]; exact he
    have hC' : X'.2.1 (48 + 3 * r) = X.2.1 (48 + 3 * r) := aX.2.2 _ (by omega) (by omega)
    have hM' : M'.1 22 = nI r := by rw [aM.1]; exact hM
    have hEM' : M'.2 83 (4 * r + (p + 1)) = nI (s + N) := by rw [aM.2 83 (by decide) (by decide)]; exact heM
    have h82 : M'.2 82 = M.2 82 := aM.2 82 (by decide) (by decide)
    by_cases hj : j = N
    · subst hj
      have d1 : d = 1 := Option.some.inj (hq.symm.trans hd)
      subst d1
      refine ⟨X'.2.1 12 0, X', M', ?_, ?_, aX, aM, rfl, rfl⟩
      · unfold fX5_valueOf_l32 fX5_valueOf_b199
        rw [if_pos (kd_pr hr), show 47 + 3 * r + 2 = 49 + 3 * r by omega, rd_in (in_nI hp (by omega)), cl_nI (show p < 2 ^ 31 by omega), hE', Option.bind_some, if_pos (nI_le (Nat.le_refl _) (by omega)), if_neg (nI_nle (by omega) (by omega)), if_pos (show kd 12 = 11 by decide), show ln 12 = 160 from rfl, show (0 : Int32) = nI 0 from rfl, rd_in (in_nI (by omega) (by omega)), cl_nI (by omega), Option.bind_some]
      · have e1 : (4 : Int32) * nI r + nI p + 1 = nI (4 * r + (p + 1)) := by rw [show (4 : Int32) * nI r = nI (4 * r) from pk_mul 4 r, nI_add, nI_1, Nat.add_assoc]
        unfold fX10_worth_l16 fX10_worth_b197 fX10_worth_b217
        rw [hM', e1, rd_in (in_nI (show 4 * r + (p + 1) < 24 by omega) (by omega)), cl_nI (show 4 * r + (p + 1) < 2 ^ 31 by omega), hEM', Option.bind_some, if_pos (nI_le (Nat.le_refl _) (by omega))]
        rw [show rd (M'.2 94) 200 0 = some (M'.2 94 0) from rd_in (i := nI 0) (in_nI (by omega) (by omega)), Option.bind_some, hst 0 (by omega)]
        by_cases p2 : p = 2
        · rw [if_pos p2, if_pos (show nI p = 2 by rw [p2]; rfl)]
        · rw [if_neg p2, if_neg (show ¬ nI p = 2 from fun q => p2 ((nI_eq (a := p) (b := 2) (by omega) (by omega)).mp q))]
    · obtain ⟨d', hd'⟩ := dp_pre (n := j + 1) (N - (j + 1)) 1 (by rw [show j + 1 + (N - (j + 1)) = N by omega]; exact hd)
      obtain ⟨q, hq', hk⟩ := dp_suc hd'
      have hqd : q = d := Option.some.inj (hq'.symm.trans hq)
      rw [hqd] at hk
      have hdn := dp_le j d hq
      have go : ∀ (v : Int32) (t : Nat), d' = t + 1 → t ≤ d → ∃ v' X'' M'', L (xA X' 12 (nI t) v) (nI d') (nI (s + j + 1)) = some (v', X'') ∧ G (mA M' 94 (nI t) v) (nI d') (nI (s + j + 1)) = some (fX10_within v' 0 (if p = 2 then 100 else 999), M'') ∧ eX X X'' ∧ eM M M'' ∧ X''.2.1 11 = X'.2.1 11 ∧ M''.2 95 = M'.2 95 := by
        intro v t ht htd
        have f11 : (xA X' 12 (nI t) v).2.1 11 = X'.2.1 11 := xA_ne _ _ _ (by decide)
        have f95 : (mA M' 94 (nI t) v).2 95 = M'.2 95 := mA_ne _ _ _ (by decide)
        obtain ⟨v', X'', M'', g1, g2, g3, g4, g5, g6⟩ := ih (j + 1) d' (xA X' 12 (nI t) v) (mA M' 94 (nI t) v) (by omega) (by omega) hd' (aX.up (Or.inr rfl) _ _) (aM.up (Or.inl rfl) _ _) (fun q hq => by rw [f11, f95]; exact hnm q hq) (fun q hq => by
          rw [xA_at, mA_at, cl_nI (show t < 2 ^ 31 by omega)]
          unfold upd
          by_cases c : q = t
          · rw [if_pos c, if_pos c]
          · rw [if_neg c, if_neg c]; exact hst q (by omega))
        exact ⟨v', X'', M'', g1, g2, g3, g4, g5.trans f11, g6.trans f95⟩
      generalize hcc : X.2.1 (48 + 3 * r) (s + j) = c at hk
      have hcX : X'.2.1 (48 + 3 * r) (s + j) = c := by rw [hC', hcc]
      have hcM : M'.2 82 (200 * r + (s + j)) = cvC c := by rw [h82, hc _ (by omega), hcc]
      rw [vx_hd hr hp hE' hN (by omega) hcX, wm_hd hr hM' hp hEM' hN (by omega) hcM]
      rcases hk with ⟨k0, hk'⟩ | ⟨k1, k1', hk'⟩ | ⟨k2, k2', hk'⟩
      · have hx := ki0 k0
        have e20 : (20000 : Int32).toInt = 20000 := rfl
        have e0 : (0 : Int32).toInt = 0 := rfl
        have hsub := i_sub (a := c) (b := 20000) (by omega) (by omega)
        rw [if_neg (show ¬ 0 ≤ c - 20000 by rw [i_le, hsub, e20, e0]; omega)]
        rcases hx with ⟨x1, x2⟩ | ⟨x1, x2⟩
        · rw [vx_push (v := c) (by omega) (Or.inl ⟨by omega, rfl⟩), if_pos (cv_num x1 x2).1, wm_push (v := c) (by omega) (Or.inl ⟨x1, x2, rfl⟩), ← hk']
          exact go c d hk' (Nat.le_refl _)
        · rw [vx_push (v := X'.2.1 11 (c.toInt - 10000).toNat) (by omega) (Or.inr ⟨x1, x2, rfl⟩), if_neg (cv_name x1 x2).1, if_neg (cv_name x1 x2).2.1, wm_push (v := X'.2.1 11 (c.toInt - 10000).toNat) (by omega) (Or.inr ⟨x1, x2, hnm _ (by omega)⟩), ← hk']
          exact go _ d hk' (Nat.le_refl _)
      · have hk2 := hk'.symm
        subst hk2
        have hd1 : nI d - 1 = nI (d - 1) := pk_sub (b := 1) (by omega)
        have hi : inb (nI (d - 1)) 200 := in_nI (by omega) (by omega)
        have hsx := hst (d - 1) (by omega)
        have hdd : d - 1 + 1 = d := by omega
        rcases ki1 k1 with rfl | rfl
        · have ho : fX5_outcome (20011 - 20000) (X'.2.1 12 (d - 1)) (X'.2.1 12 (d - 1)) = -X'.2.1 12 (d - 1) := by
            rw [show (20011 : Int32) - 20000 = 11 by decide]; rfl
          rw [if_pos (by decide), if_neg (by decide), if_pos (by decide), vx_98 (by decide), show (1 : Int32) = nI 1 from rfl, vx_b147 (Nat.le_refl _) k1' (by omega) (by omega), ho, if_neg (by decide), if_pos (by decide), if_neg (by decide), if_pos (by decide), show (nI 1 : Int32) = 1 from rfl, hd1, rd_in hi, Option.bind_some, if_pos hi, cl_nI (show d - 1 < 2 ^ 31 by omega), ← hsx, hdd, nI_1]
          exact go _ (d - 1) (by omega) (by omega)
        · rw [if_pos (by decide), if_pos (by decide), vx_98 (by decide), show (1 : Int32) = nI 1 from rfl, vx_b147 (Nat.le_refl _) k1' (by omega) (by omega), if_neg (by decide), if_pos (by decide), if_pos (by decide), show (nI 1 : Int32) = 1 from rfl, hd1, rd_in hi, Option.bind_some, cl_nI (show d - 1 < 2 ^ 31 by omega), ← hsx, hdd]
          dsimp only [fX10_worth_b130, bd]
          rw [if_pos hi, if_pos hi, nI_1]
          have g := go (fX5_outcome 31 (X'.2.1 12 (d - 1)) (X'.2.1 12 (d - 1))) (d - 1) (by omega) (by omega)
          by_cases c0 : X'.2.1 12 (d - 1) = 0
          · rw [if_pos c0]
            have ho : fX5_outcome 31 (X'.2.1 12 (d - 1)) (X'.2.1 12 (d - 1)) = 1 := by rw [c0]; decide
            rw [ho] at g
            rw [show (20031 : Int32) - 20000 = 31 by decide, ho]
            exact g
          · rw [if_neg c0]
            have ho : fX5_outcome 31 (X'.2.1 12 (d - 1)) (X'.2.1 12 (d - 1)) = 0 := if_neg c0
            rw [ho] at g
            rw [show (20031 : Int32) - 20000 = 31 by decide, ho]
            exact g
      · have hd1 : nI d + -1 = nI (d - 1) := by rw [show d = d - 1 + 1 by omega, pk_m1]; rfl
        have hd2 : nI (d - 1) - 1 = nI (d - 2) := by rw [show nI (d - 1) - 1 = nI (d - 1 - 1) from pk_sub (b := 1) (by omega)]; rfl
        have i1 : inb (nI (d - 1)) 200 := in_nI (by omega) (by omega)
        have i2 : inb (nI (d - 2)) 200 := in_nI (by omega) (by omega)
        have hb := bin_cv k2
        rw [vx_bin k2, vx_b147 (by omega) k2' (by omega) (by omega), if_neg hb.1, if_pos hb.2.1, if_neg hb.2.2.1, if_neg hb.2.2.2, hd1, hd2, rd_in i2, rd_in i1, Option.bind_some, Option.bind_some, if_pos i2, cl_nI (show d - 1 < 2 ^ 31 by omega), cl_nI (show d - 2 < 2 ^ 31 by omega), ← hst (d - 1) (by omega), ← hst (d - 2) (by omega), bin_eq k2, show d - 2 + 1 = d' by omega, nI_1, show d - 1 = d' by omega]
        exact go _ (d - 2) (by omega) (by omega)

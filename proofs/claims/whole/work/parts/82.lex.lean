/-! numbers, signs; one token -/
theorem num_run {n s : Nat} : ∀ (m m' k a : Nat) (X : XW) (M : MW), n < m + a → n < m' + a → a = s + k → a ≤ n → TP X M n → X.1 7 3 = nI a → X.1 7 4 = nI s → M.1 35 = nI a → (k ≤ 4 → ∃ v, v < 10 ^ k ∧ X.1 7 6 = nI v ∧ M.1 38 = nI v) → ∃ p X' M', lo2 (fX6_readNumber_l7) m X (nI k) = some X' ∧ lo2 (fX10_next_l230) m' M (nI k) = some M' ∧ zX X X' ∧ zL M M' ∧ X'.1 7 3 = nI p ∧ M'.1 35 = nI p ∧ X'.1 7 4 = nI s ∧ M'.1 36 = M.1 36 ∧ a ≤ p ∧ p ≤ n ∧ ((X'.1 7 5 = 2 ∧ M'.1 37 = 1 ∧ ∃ v, v < 10000 ∧ X'.1 7 6 = nI v ∧ M'.1 38 = nI v) ∨ (X'.1 7 5 = 1 ∧ M'.1 37 = -1)) ∧ (a < n → ¬ fX9_within (M.2 81 a) 48 57 = 0 → a < p) := by
  intro m
  induction m with
  | zero => intro m' k a X M h1 h2 h3 h4; omega
  | succ m ih =>
    intro m' k a X M h1 h2 h3 h4 T x3 x4 m35 hv
    obtain ⟨m2, rfl⟩ : ∃ q, m' = q + 1 := ⟨m' - 1, by omega⟩
    show ∃ p X' M', fX6_readNumber_l7 (lo2 (fX6_readNumber_l7) m) X (nI k) = some X' ∧ fX10_next_l230 (lo2 (fX10_next_l230) m2) M (nI k) = some M' ∧ _
    have ih' := ih m2
    generalize hG : lo2 (fX6_readNumber_l7) m = G at ih' ⊢
    generalize hK : lo2 (fX10_next_l230) m2 = K at ih' ⊢
    have n160 := T.2.2.1
    have fin : ∃ X' M', fX6_readNumber_b79 X = some X' ∧ fX10_next_b309 M (nI k) = some M' ∧ zX X X' ∧ zL M M' ∧ X'.1 7 3 = nI a ∧ M'.1 35 = nI a ∧ X'.1 7 4 = nI s ∧ M'.1 36 = M.1 36 ∧ ((X'.1 7 5 = 2 ∧ M'.1 37 = 1 ∧ ∃ v, v < 10000 ∧ X'.1 7 6 = nI v ∧ M'.1 38 = nI v) ∨ (X'.1 7 5 = 1 ∧ M'.1 37 = -1)) := by
      dsimp only [fX6_readNumber_b79, fX6_readNumber_b98, fX10_next_b309, fX10_next_b320, bd]
      rw [x3, x4, pk_sub (show s ≤ a by omega), show a - s = k by omega]
      by_cases q : k ≤ 4
      · obtain ⟨v, v1, v2, v3⟩ := hv q
        have hp : (10 : Nat) ^ k ≤ 10 ^ 4 := Nat.pow_le_pow_right (by omega) q
        rw [if_pos (show nI k ≤ 4 from nI_le (b := 4) q (by omega)), if_pos (show nI k ≤ 4 from nI_le (b := 4) q (by omega))]
        exact ⟨_, _, rfl, rfl, (zX.rf X).w (by omega) _, (zL.rf M).w (by omega) _, by rw [xI_k _ _ _ (by decide)]; exact x3, by rw [mI_ne _ _ (by decide)]; exact m35, by rw [xI_k _ _ _ (by decide)]; exact x4, mI_ne _ _ (by decide), Or.inl ⟨xI_at _ _ _ _, mI_at _ _ _, v, by omega, by rw [xI_k _ _ _ (by decide)]; exact v2, by rw [mI_ne _ _ (by decide)]; exact v3⟩⟩
      · rw [if_neg (show ¬ nI k ≤ 4 from nI_ge (a := 4) (by omega) (by omega)), if_neg (show ¬ nI k ≤ 4 from nI_ge (a := 4) (by omega) (by omega))]
        exact ⟨_, _, rfl, rfl, (zX.rf X).w (by omega) _, (zL.rf M).w (by omega) _, by rw [xI_k _ _ _ (by decide)]; exact x3, by rw [mI_ne _ _ (by decide)]; exact m35, by rw [xI_k _ _ _ (by decide)]; exact x4, mI_ne _ _ (by decide), Or.inr ⟨xI_at _ _ _ _, mI_at _ _ _⟩⟩
    obtain ⟨Xf, Mf, f1, f2, f3, f4, f5, f6, f7, f8, f9⟩ := fin
    dsimp only [fX6_readNumber_l7, fX10_next_l230, fX6_readNumber_b60, fX10_next_b290, bd]
    rw [x3, m35, T.2.1, in_eq]
    by_cases ha : a = n
    · refine ⟨a, Xf, Mf, ?_, ?_, f3, f4, f5, f6, f7, f8, Nat.le_refl _, h4, f9, fun q => by omega⟩
      · by_cases k160 : 160 ≤ k
        · rw [if_pos (show (160 : Int32) ≤ nI k from nI_le (a := 160) k160 (by omega))]; exact f1
        · rw [if_neg (show ¬ (160 : Int32) ≤ nI k from nI_ge (b := 160) (by omega) (by omega)), by_out T (by omega) (by omega), Option.bind_some, dig_eq, if_pos (by decide)]; exact f1
      · rw [if_pos (nI_le (by omega) (by omega))]; exact f2
    have han : a < n := by omega
    rw [if_neg (show ¬ (160 : Int32) ≤ nI k from nI_ge (b := 160) (by omega) (by omega)), if_neg (nI_ge han (by omega)), by_in T han, md_in T han, Option.bind_some, Option.bind_some, Option.bind_some, Option.bind_some, dig_eq]
    by_cases c1 : fX9_within (M.2 81 a) 48 57 = 0
    · rw [if_pos c1, if_pos c1]
      exact ⟨a, Xf, Mf, f1, f2, f3, f4, f5, f6, f7, f8, Nat.le_refl _, h4, f9, fun _ q => absurd c1 q⟩
    rw [if_neg c1, if_neg c1]
    have w := wi_ne c1
    have e48 : (48 : Int32).toInt = 48 := rfl
    have e57 : (57 : Int32).toInt = 57 := rfl
    rw [e48, e57] at w
    obtain ⟨d', ed, -, hd⟩ := nn_ge (i := M.2 81 a) (by omega)
    have step : ∀ x y : Int32, (k + 1 ≤ 4 → ∃ v, v < 10 ^ (k + 1) ∧ x = nI v ∧ y = nI v) → ∃ p X' M', G (xI (xI X 7 6 x) 7 3 ((xI X 7 6 x).1 7 3 + 1)) (nI k + 1) = some X' ∧ K (mI (mI M 38 y) 35 ((mI M 38 y).1 35 + 1)) (nI k + 1) = some M' ∧ zX X X' ∧ zL M M' ∧ X'.1 7 3 = nI p ∧ M'.1 35 = nI p ∧ X'.1 7 4 = nI s ∧ M'.1 36 = M.1 36 ∧ a ≤ p ∧ p ≤ n ∧ ((X'.1 7 5 = 2 ∧ M'.1 37 = 1 ∧ ∃ v, v < 10000 ∧ X'.1 7 6 = nI v ∧ M'.1 38 = nI v) ∨ (X'.1 7 5 = 1 ∧ M'.1 37 = -1)) ∧ (a < n → ¬ fX9_within (M.2 81 a) 48 57 = 0 → a < p) := by
      intro x y hxy
      have a1 := ((zX.rf X).w (k := 6) (by omega) x).w (k := 3) (by omega) ((xI X 7 6 x).1 7 3 + 1)
      have b1 := ((zL.rf M).w (k := 38) (by omega) y).w (k := 35) (by omega) ((mI M 38 y).1 35 + 1)
      obtain ⟨p, X', M', g1, g2, g3, g4, g5, g6, g7, g8, g9, g10, g11, -⟩ := ih' (k + 1) (a + 1) _ _ (by omega) (by omega) (by omega) (by omega) (T.z a1 b1) (by rw [xI_at, xI_k _ _ _ (by decide), x3, nI_1]) (by rw [xI_k _ _ _ (by decide), xI_k _ _ _ (by decide)]; exact x4) (by rw [mI_at, mI_ne _ _ (by decide), m35, nI_1]) (fun q => by
        obtain ⟨v, v1, v2, v3⟩ := hxy q
        exact ⟨v, v1, by rw [xI_k _ _ _ (by decide), xI_at]; exact v2, by rw [mI_ne _ _ (by decide), mI_at]; exact v3⟩)
      rw [nI_1 k]
      exact ⟨p, X', M', g1, g2, a1.tr g3, b1.tr g4, g5, g6, g7, by rw [g8, mI_ne _ _ (by decide), mI_ne _ _ (by decide)], by omega, g10, g11, fun _ _ => by omega⟩
    by_cases k4 : 4 ≤ k
    · rw [if_pos (show (4 : Int32) ≤ nI k from nI_le (a := 4) k4 (by omega)), if_pos (show (4 : Int32) ≤ nI k from nI_le (a := 4) k4 (by omega))]
      exact step _ _ (fun q => by omega)
    · rw [if_neg (show ¬ (4 : Int32) ≤ nI k from nI_ge (b := 4) (by omega) (by omega)), if_neg (show ¬ (4 : Int32) ≤ nI k from nI_ge (b := 4) (by omega) (by omega))]
      obtain ⟨v, v1, v2, v3⟩ := hv (by omega)
      have hp : (10 : Nat) ^ (k + 1) = 10 * 10 ^ k := by rw [Nat.pow_succ]; omega
      have hp4 : (10 : Nat) ^ k ≤ 10 ^ 4 := Nat.pow_le_pow_right (by omega) (by omega)
      have e1 : (10 : Int32) * nI v + nI d' - 48 = nI (10 * v + (d' - 48)) := by
        rw [t10, nI_add, show nI (10 * v + d') - 48 = nI (10 * v + d' - 48) from pk_sub (b := 48) (by omega), show 10 * v + d' - 48 = 10 * v + (d' - 48) by omega]
      rw [show (10 : Int32) * X.1 7 6 + M.2 81 a - 48 = nI (10 * v + (d' - 48)) by rw [v2, ed]; exact e1, show (10 : Int32) * M.1 38 + M.2 81 a - 48 = nI (10 * v + (d' - 48)) by rw [v3, ed]; exact e1]
      exact step _ _ (fun _ => ⟨10 * v + (d' - 48), by omega, rfl, rfl⟩)
/-- a token of both -/
def tkR (c num t v : Int32) : Prop := (c = 0 ∧ t = 0) ∨ (c = 1 ∧ t = -1) ∨ (c = 2 ∧ t = 1 ∧ ∃ k, k < 10000 ∧ num = nI k ∧ v = nI k) ∨ (c = 3 ∧ t = 40) ∨ (c = 4 ∧ t = 41) ∨ (c = 5 ∧ t = 59) ∨ (c = 6 ∧ t = 43) ∨ (c = 7 ∧ t = 45) ∨ (c = 8 ∧ t = 42) ∨ (c = 9 ∧ t = 60) ∨ (c = 10 ∧ t = 61) ∨ (∃ k, k < 6 ∧ c = nI (20 + k) ∧ t = 2 ∧ v = nI k) ∨ (∃ k, k < 3 ∧ c = nI (26 + k) ∧ t = 3 ∧ v = nI k) ∨ (c = 29 ∧ t = 4) ∨ (c = 30 ∧ t = 5) ∨ (c = 31 ∧ t = 6)
theorem pm_inv : ∀ j : Fin 12, ∃ k : Fin 12, pmW k.1 = j.1 := by decide
theorem sign_1 {c : Int32} (h40 : ¬ c = 40) (h41 : ¬ c = 41) (h42 : ¬ c = 42) (h43 : ¬ c = 43) (h45 : ¬ c = 45) (h59 : ¬ c = 59) (h60 : ¬ c = 60) (h61 : ¬ c = 61) : fX6_signOf c = 1 := by
  unfold fX6_signOf
  simp only [if_neg h40, if_neg h41, if_neg h42, if_neg h43, if_neg h45, if_neg h59, if_neg h60, if_neg h61, ite_self]
theorem lex_ok {X : XW} {M : MW} {n a : Nat} (T0 : TP X M n) (ha : a ≤ n) (x30 : X.1 7 3 = nI a) (m350 : M.1 35 = nI a) : ∃ X' M' s e, fX6_advance X = some X' ∧ fX10_next M = some M' ∧ zX X X' ∧ zL M M' ∧ X'.1 7 4 = nI s ∧ M'.1 36 = nI s ∧ X'.1 7 3 = nI e ∧ M'.1 35 = nI e ∧ a ≤ s ∧ s ≤ e ∧ e ≤ n ∧ (X'.1 7 5 = 0 ∨ s < e) ∧ tkR (X'.1 7 5) (X'.1 7 6) (M'.1 37) (M'.1 38) := by
  have n160 := T0.2.2.1
  obtain ⟨p, X1, M1, k1, k2, zx, zl, x3, m35, hap, hpn⟩ := skip (n := n) FU FU 0 a X M (by unfold FU; omega) (by unfold FU; omega) (by omega) ha T0 x30 m350
  have k1 : fX6_advance X = fX6_advance_b51 X1 := k1
  have k2 : fX10_next M = fX10_next_b52 M1 := k2
  have T1 := T0.z zx zl
  rw [k1, k2]
  dsimp only [fX6_advance_b51, fX10_next_b52, bd]
  rw [x3, m35]
  generalize hX2 : xI X1 7 4 (nI p) = X2
  generalize hM2 : mI (mI (mI M1 36 (nI p)) 37 0) 38 0 = M2
  have zx2 : zX X1 X2 := by rw [← hX2]; exact (zX.rf X1).w (by omega) _
  have zl2 : zL M1 M2 := by rw [← hM2]; exact (((zL.rf M1).w (by omega) _).w (by omega) _).w (by omega) _
  have y3 : X2.1 7 3 = nI p := by rw [← hX2, xI_k _ _ _ (by decide)]; exact x3
  have y4 : X2.1 7 4 = nI p := by rw [← hX2, xI_at]
  have m35' : M2.1 35 = nI p := by rw [← hM2, mI_ne _ _ (by decide), mI_ne _ _ (by decide), mI_ne _ _ (by decide)]; exact m35
  have m36' : M2.1 36 = nI p := by rw [← hM2, mI_ne _ _ (by decide), mI_ne _ _ (by decide), mI_at]
  have m37' : M2.1 37 = 0 := by rw [← hM2, mI_ne _ _ (by decide), mI_at]
  have m38' : M2.1 38 = 0 := by rw [← hM2, mI_at]
  have T2 := T1.z zx2 zl2
  rw [y3, m35', T2.2.1]
  by_cases hpn' : p = n
  · rw [by_out T2 (by omega) (by omega), Option.bind_some, if_pos rfl, if_pos (by rw [hpn'])]
    refine ⟨_, M2, p, p, rfl, rfl, zx.tr (zx2.w (by omega) _), zl.tr zl2, by rw [xI_k _ _ _ (by decide)]; exact y4, m36', by rw [xI_k _ _ _ (by decide)]; exact y3, m35', hap, Nat.le_refl _, hpn, Or.inl (xI_at _ _ _ _), ?_⟩
    rw [xI_at]
    exact Or.inl ⟨rfl, m37'⟩
  have hlt : p < n := by omega
  rw [by_in T2 hlt, Option.bind_some, if_neg (tp_ne T2 p), if_neg (fun q => hpn' ((nI_eq (by omega) (by omega)).mp q)), md_in T2 hlt, Option.bind_some, dig_eq, let_eq, in_eq]
  by_cases cl : fX9_within (M2.2 81 p) 97 122 = 0
  rotate_left
  · -- a word
    have w := wi_ne cl
    have e97 : (97 : Int32).toInt = 97 := rfl
    have cd : fX9_within (M2.2 81 p) 48 57 = 0 := by
      refine Decidable.byContradiction fun q => ?_
      have w2 := (wi_ne q).2
      have e57 : (57 : Int32).toInt = 57 := rfl
      omega
    rw [if_pos cd, if_neg cl, if_neg cl]
    obtain ⟨e, X3, M3, r1, r2, r3, r4, r5, r6, r7, r8, r9, r10, r11, r12⟩ := word_run (n := n) FU FU 0 p X2 M2 (by unfold FU; omega) (by unfold FU; omega) (by omega) hpn T2 y3 m35'
    have r1 : fX6_readWord X2 = fX6_readWord_b39 X3 := r1
    have hpe : p < e := r12 hlt cl
    have T3 := T2.z r3 r4
    have h81 : M3.2 81 = M2.2 81 := by rw [r4.2]
    obtain ⟨X4, c, u1, u2, u3, u4, u5, u6⟩ := words_X T3 r5 (r7.trans y4) (by omega) r10
    obtain ⟨v, v1, v2⟩ := words_M T3 hpe r10 (fun j j1 j2 => by rw [h81]; exact r11 j j1 j2)
    rw [r1, u1, Option.bind_some, r2]
    dsimp only [fX10_next_b146, fX10_next_b195, fX10_next_b211, bd]
    rw [r8.trans m36', r6, v1, Option.bind_some]
    have done : ∀ t z : Int32, tkR c (X4.1 7 6) t z → ∃ X' M' s e', some X4 = some X' ∧ some (mI (mI M3 37 t) 38 z) = some M' ∧ zX X X' ∧ zL M M' ∧ X'.1 7 4 = nI s ∧ M'.1 36 = nI s ∧ X'.1 7 3 = nI e' ∧ M'.1 35 = nI e' ∧ a ≤ s ∧ s ≤ e' ∧ e' ≤ n ∧ (X'.1 7 5 = 0 ∨ s < e') ∧ tkR (X'.1 7 5) (X'.1 7 6) (M'.1 37) (M'.1 38) := by
      intro t z htz
      refine ⟨X4, _, p, e, rfl, rfl, ((zx.tr zx2).tr r3).tr u2, (((zl.tr zl2).tr r4).w (by omega) _).w (by omega) _, u4, ?_, u3, ?_, hap, by omega, r10, Or.inr hpe, ?_⟩
      · rw [mI_ne _ _ (by decide), mI_ne _ _ (by decide), r8, m36']
      · rw [mI_ne _ _ (by decide), mI_ne _ _ (by decide), r6]
      · rw [u5, mI_at, mI_ne _ _ (by decide), mI_at]; exact htz
    rcases v2 with ⟨rfl, v2⟩ | ⟨v3, v2⟩
    · have hc : c = 1 := by
        rcases u6 with ⟨u6, -⟩ | ⟨j, hj, -, u7⟩
        · exact u6
        · obtain ⟨k, hk⟩ := pm_inv ⟨j, hj⟩
          have hk : pmW k.1 = j := hk
          exact absurd (by rw [hk]; exact u7) (v2 k.1 k.2)
      rw [if_pos (by decide), if_pos (by decide), if_pos (by decide), if_pos (by decide)]
      exact done _ _ (Or.inr (Or.inl ⟨hc, rfl⟩))
    · have hc : c = nI (20 + pmW v) := by
        rcases u6 with ⟨-, u6⟩ | ⟨j, hj, u6, u7⟩
        · exact absurd v2 (u6 _ (pm_tab ⟨v, v3⟩))
        · rw [u6, wmt_un hj (pm_tab ⟨v, v3⟩) u7 v2]
      by_cases q3 : v < 3
      · rw [if_neg (show ¬ (3 : Int32) ≤ nI v from nI_ge (b := 3) q3 (by omega)), if_neg (show ¬ (3 : Int32) ≤ nI v from nI_ge (b := 3) q3 (by omega))]
        refine done _ _ (Or.inr (Or.inr (Or.inr (Or.inr (Or.inr (Or.inr (Or.inr (Or.inr (Or.inr (Or.inr (Or.inr (Or.inr (Or.inl ⟨v, q3, ?_, rfl, rfl⟩)))))))))))))
        rw [hc]
        unfold pmW
        rw [if_pos q3, show 20 + (6 + v) = 26 + v by omega]
      rw [if_pos (show (3 : Int32) ≤ nI v from nI_le (a := 3) (by omega) (by omega)), if_pos (show (3 : Int32) ≤ nI v from nI_le (a := 3) (by omega) (by omega)), if_pos (show (3 : Int32) ≤ nI v from nI_le (a := 3) (by omega) (by omega)), if_pos (show (3 : Int32) ≤ nI v from nI_le (a := 3) (by omega) (by omega)), show nI v - 3 = nI (v - 3) from pk_sub (b := 3) (by omega)]
      by_cases q9 : v < 9
      · rw [if_neg (show ¬ (9 : Int32) ≤ nI v from nI_ge (b := 9) q9 (by omega))]
        refine done _ _ (Or.inr (Or.inr (Or.inr (Or.inr (Or.inr (Or.inr (Or.inr (Or.inr (Or.inr (Or.inr (Or.inr (Or.inl ⟨v - 3, by omega, ?_, rfl, rfl⟩))))))))))))
        rw [hc]
        unfold pmW
        rw [if_neg q3, if_pos q9]
      · rw [if_pos (show (9 : Int32) ≤ nI v from nI_le (a := 9) (by omega) (by omega)), if_neg (show ¬ nI v = 12 from fun q => by have := (nI_eq (a := v) (b := 12) (by omega) (by omega)).mp q; omega)]
        have : v = 9 ∨ v = 10 ∨ v = 11 := by omega
        rcases this with rfl | rfl | rfl
        · exact done _ _ (Or.inr (Or.inr (Or.inr (Or.inr (Or.inr (Or.inr (Or.inr (Or.inr (Or.inr (Or.inr (Or.inr (Or.inr (Or.inr (Or.inl ⟨hc, by decide⟩))))))))))))))
        · exact done _ _ (Or.inr (Or.inr (Or.inr (Or.inr (Or.inr (Or.inr (Or.inr (Or.inr (Or.inr (Or.inr (Or.inr (Or.inr (Or.inr (Or.inr (Or.inl ⟨hc, by decide⟩)))))))))))))))
        · exact done _ _ (Or.inr (Or.inr (Or.inr (Or.inr (Or.inr (Or.inr (Or.inr (Or.inr (Or.inr (Or.inr (Or.inr (Or.inr (Or.inr (Or.inr (Or.inr ⟨hc, by decide⟩)))))))))))))))
  rw [if_pos cl, if_pos cl]
  by_cases cd : fX9_within (M2.2 81 p) 48 57 = 0
  rotate_left
  · -- a number
    rw [if_neg cd, if_neg cd]
    have y6 : (xI X2 7 6 0).1 7 6 = 0 := xI_at _ _ _ _
    have a1 := (zX.rf X2).w (k := 6) (by omega) 0
    obtain ⟨e, X3, M3, r1, r2, r3, r4, r5, r6, r7, r8, r9, r10, r11, r12⟩ := num_run (n := n) (s := p) FU FU 0 p (xI X2 7 6 0) M2 (by unfold FU; omega) (by unfold FU; omega) rfl hpn (T2.z a1 (zL.rf M2)) (by rw [xI_k _ _ _ (by decide)]; exact y3) (by rw [xI_k _ _ _ (by decide)]; exact y4) m35' (fun _ => ⟨0, by decide, y6, m38'⟩)
    have r1 : fX6_readNumber X2 = some X3 := r1
    have r2 : lo2 (fX10_next_l230) FU M2 0 = some M3 := r2
    have hpe : p < e := r12 hlt cd
    rw [r1, Option.bind_some, r2]
    refine ⟨X3, M3, p, e, rfl, rfl, (zx.tr zx2).tr (a1.tr r3), (zl.tr zl2).tr r4, r7, r8.trans m36', r5, r6, hap, by omega, r10, Or.inr hpe, ?_⟩
    rcases r11 with ⟨q1, q2, v, q3, q4, q5⟩ | ⟨q1, q2⟩
    · exact Or.inr (Or.inr (Or.inl ⟨q1, q2, v, q3, q4, q5⟩))
    · exact Or.inr (Or.inl ⟨q1, q2⟩)
  · -- a sign
    rw [if_pos cd, if_pos cd]
    dsimp only [fX10_next_b374, fX10_next_b379, fX10_next_b390, bd]
    rw [if_neg n10, if_pos rfl]
    generalize hc : M2.2 81 p = c
    have done : ∀ t : Int32, tkR (fX6_signOf c) (X2.1 7 6) t (M2.1 38) → ∃ X' M' s e', some (xI (xI X2 7 5 (fX6_signOf c)) 7 3 ((xI X2 7 5 (fX6_signOf c)).1 7 3 + 1)) = some X' ∧ some (mI (mI M2 37 t) 35 ((mI M2 37 t).1 35 + 1)) = some M' ∧ zX X X' ∧ zL M M' ∧ X'.1 7 4 = nI s ∧ M'.1 36 = nI s ∧ X'.1 7 3 = nI e' ∧ M'.1 35 = nI e' ∧ a ≤ s ∧ s ≤ e' ∧ e' ≤ n ∧ (X'.1 7 5 = 0 ∨ s < e') ∧ tkR (X'.1 7 5) (X'.1 7 6) (M'.1 37) (M'.1 38) := by
      intro t ht
      refine ⟨_, _, p, p + 1, rfl, rfl, zx.tr ((zx2.w (by omega) _).w (by omega) _), zl.tr ((zl2.w (by omega) _).w (by omega) _), ?_, ?_, ?_, ?_, hap, by omega, by omega, Or.inr (by omega), ?_⟩
      · rw [xI_k _ _ _ (by decide), xI_k _ _ _ (by decide)]; exact y4
      · rw [mI_ne _ _ (by decide), mI_ne _ _ (by decide)]; exact m36'
      · rw [xI_at, xI_k _ _ _ (by decide), y3, nI_1]
      · rw [mI_at, mI_ne _ _ (by decide), m35', nI_1]
      · rw [xI_k _ _ _ (by decide), xI_at, xI_k _ _ _ (by decide), xI_k _ _ _ (by decide), mI_ne _ _ (by decide), mI_at, mI_ne _ _ (by decide), mI_ne _ _ (by decide)]; exact ht
    by_cases h40 : c = 40
    · rw [if_pos h40]; subst h40; exact done _ (Or.inr (Or.inr (Or.inr (Or.inl ⟨rfl, rfl⟩))))
    rw [if_neg h40]
    by_cases h41 : c = 41
    · rw [if_pos h41]; subst h41; exact done _ (Or.inr (Or.inr (Or.inr (Or.inr (Or.inl ⟨rfl, rfl⟩)))))
    rw [if_neg h41]
    by_cases h59 : c = 59
    · rw [if_pos h59]; subst h59; exact done _ (Or.inr (Or.inr (Or.inr (Or.inr (Or.inr (Or.inl ⟨rfl, rfl⟩))))))
    rw [if_neg h59]
    by_cases h43 : c = 43
    · rw [if_pos h43]; subst h43; exact done _ (Or.inr (Or.inr (Or.inr (Or.inr (Or.inr (Or.inr (Or.inl ⟨rfl, rfl⟩)))))))
    rw [if_neg h43]
    by_cases h45 : c = 45
    · rw [if_pos h45]; subst h45; exact done _ (Or.inr (Or.inr (Or.inr (Or.inr (Or.inr (Or.inr (Or.inr (Or.inl ⟨rfl, rfl⟩))))))))
    rw [if_neg h45]
    by_cases h42 : c = 42
    · rw [if_pos h42]; subst h42; exact done _ (Or.inr (Or.inr (Or.inr (Or.inr (Or.inr (Or.inr (Or.inr (Or.inr (Or.inl ⟨rfl, rfl⟩)))))))))
    rw [if_neg h42]
    by_cases h60 : c = 60
    · rw [if_pos h60]; subst h60; exact done _ (Or.inr (Or.inr (Or.inr (Or.inr (Or.inr (Or.inr (Or.inr (Or.inr (Or.inr (Or.inl ⟨rfl, rfl⟩))))))))))
    rw [if_neg h60]
    by_cases h61 : c = 61
    · rw [if_pos h61]; subst h61; exact done _ (Or.inr (Or.inr (Or.inr (Or.inr (Or.inr (Or.inr (Or.inr (Or.inr (Or.inr (Or.inr (Or.inl ⟨rfl, rfl⟩)))))))))))
    rw [if_neg h61]
    exact done _ (Or.inr (Or.inl ⟨sign_1 h40 h41 h42 h43 h45 h59 h60 h61, rfl⟩))

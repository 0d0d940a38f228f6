/-! a text, part by part -/
theorem EN.suc {tx p : Nat} {X X' : XW} {M M' : MW} {C D : List Int32} (h : EN tx p X M C) (hD : EC D) (h1 : ∀ q, q < p → X'.2.1 (49 + 3 * tx) q = X.2.1 (49 + 3 * tx) q) (h2 : X'.2.1 (49 + 3 * tx) p = nI (C ++ D).length) (h3 : ∀ q, q < p → M'.2 83 (4 * tx + q) = M.2 83 (4 * tx + q)) (h4 : M'.2 83 (4 * tx + p) = nI C.length) : EN tx (p + 1) X' M' (C ++ D) := by
  obtain ⟨ee, e0, ep, hE⟩ := h
  have l1 : ∀ q, q ≤ p → (fun q => if q ≤ p then ee q else (C ++ D).length) q = ee q := fun q hq => if_pos hq
  have l2 : (fun q => if q ≤ p then ee q else (C ++ D).length) (p + 1) = (C ++ D).length := if_neg (by omega)
  refine ⟨fun q => if q ≤ p then ee q else (C ++ D).length, ?_, l2, fun q hq => ?_⟩
  · rw [l1 0 (by omega)]; exact e0
  · by_cases c : q = p
    · subst c
      rw [l2, l1 q (by omega)]
      refine ⟨h2, by rw [ep]; exact h4, C, D, [], by rw [List.append_nil], hD, ep.symm, rfl⟩
    · rw [l1 q (by omega), l1 (q + 1) (by omega), h1 q (by omega), h3 q (by omega)]
      obtain ⟨a1, a2, A, E, B, a3, a4, a5, a6⟩ := hE q (by omega)
      exact ⟨a1, a2, A, E, B ++ D, by rw [a3, List.append_assoc], a4, a5, a6⟩
theorem PW.pd {tx n : Nat} {X : XW} {M : MW} {e : Nat} {C O : List Int32} (h : PW tx n X M e C O) (h1 : M.1 41 = 0) (h2 : M.1 42 = 0) : PD tx n X M e C [] 0 O := ⟨h.1, h.2.1, h.2.2.1, h.2.2.2.1, h.2.2.2.2.1, ⟨h1, fun i c hc => by cases hc⟩, h2, h.2.2.2.2.2⟩
theorem bs_P {α : Type} (v : Int32) (X : XW) (f : Int32 × XW → Option α) : (some (v, X)).bind f = f (v, X) := rfl
theorem bs_Q {α : Type} (v : Int32) (M : MW) (f : Int32 × MW → Option α) : (some (v, M)).bind f = f (v, M) := rfl
theorem win_M {tx : Nat} {M : MW} {l : Nat} (h21 : M.1 21 = nI tx) (htx : tx < 6) (h43 : M.1 43 = nI l) : ∃ M', fX10_text_b121 M 1 = some (nI (tx + 1) - 1, M') ∧ rM tx M M' ∧ M'.1 18 = 0 ∧ M'.1 21 = nI (tx + 1) ∧ M'.2 83 (4 * tx + 3) = nI l ∧ (∀ q, q < 3 → M'.2 83 (4 * tx + q) = M.2 83 (4 * tx + q)) ∧ M'.2 82 = M.2 82 ∧ M'.1 43 = M.1 43 := by
  have e3 : (4 : Int32) * nI tx + 3 = nI (4 * tx + 3) := by rw [show (4 : Int32) * nI tx = nI (4 * tx) from pk_mul 4 tx]; exact nI_add _ 3
  dsimp only [fX10_text_b121, fX10_text_b122, bd]
  rw [h21, e3, if_pos (in_nI (by omega) (by omega)), if_neg n10]
  have e21 : (mI (mA M 83 (nI (4 * tx + 3)) (M.1 43)) 18 0).1 21 = nI tx := by rw [mI_ne _ _ (by decide)]; exact h21
  rw [e21, nI_1, mI_at]
  refine ⟨mI (mI (mA M 83 (nI (4 * tx + 3)) (M.1 43)) 18 0) 21 (nI (tx + 1)), rfl, ⟨fun k k1 k2 k3 k4 => ?_, fun i i1 i2 i3 => mA_ne _ _ _ i2, fun q hq => ?_, fun q hq => ?_⟩, ?_, mI_at _ _ _, ?_, fun q hq => ?_, ?_, ?_⟩
  · rw [mI_ne _ _ k2, mI_ne _ _ k1]; rfl
  · show (mA M 83 (nI (4 * tx + 3)) (M.1 43)).2 82 q = _
    rw [mA_ne _ _ _ (by decide)]
  · show (mA M 83 (nI (4 * tx + 3)) (M.1 43)).2 83 q = _
    rw [mA_at, cl_nI (by omega)]
    exact if_neg (by omega)
  · rw [mI_ne _ _ (by decide), mI_at]
  · show (mA M 83 (nI (4 * tx + 3)) (M.1 43)).2 83 (4 * tx + 3) = _
    rw [mA_at, cl_nI (by omega), h43]
    exact if_pos rfl
  · show (mA M 83 (nI (4 * tx + 3)) (M.1 43)).2 83 (4 * tx + q) = _
    rw [mA_at, cl_nI (by omega)]
    exact if_neg (by omega)
  · show (mA M 83 (nI (4 * tx + 3)) (M.1 43)).2 82 = _
    exact mA_ne _ _ _ (by decide)
  · rw [mI_ne _ _ (by decide), mI_ne _ _ (by decide)]; rfl
theorem dead_M {tx : Nat} {M : MW} {s : Nat} (m : Nat) (l : Int32) (h21 : M.1 21 = nI tx) (htx : tx < 6) (h36 : M.1 36 = nI s) : ∃ M', lo3 fX10_text_l26 (m + 1) M 0 l = some (-100 - nI s, M') ∧ rM tx M M' ∧ M'.1 18 = 0 ∧ M'.1 21 = nI tx := by
  have hs : lo3 fX10_text_l26 (m + 1) M 0 l = fX10_text_b101 M 0 := by
    show fX10_text_l26 (lo3 fX10_text_l26 m) M 0 l = _
    unfold fX10_text_l26
    by_cases q : (3 : Int32) ≤ l
    · rw [if_pos q]
    · rw [if_neg q, if_pos rfl]
  rw [hs]
  exact fail_M h21 htx h36
theorem RES.fl {tx : Nat} {X X' : XW} {M M' : MW} {s : Nat} {v : Int32} {b : Option (Int32 × MW)} (hs : s ≤ 160) (hv : v = nI s) (hx : rX tx X X') (hm : rM tx M M') (hb : ∃ M2, b = some (-100 - nI s, M2) ∧ rM tx M' M2 ∧ M2.1 18 = 0 ∧ M2.1 21 = nI tx) : RES tx X M (some (v, X')) b := by
  obtain ⟨M2, b1, b2, b3, b4⟩ := hb
  exact ⟨v, X', _, M2, rfl, b1, hx, hm.tr b2, b3, Or.inl ⟨s, hs, hv, rfl, b4⟩⟩
theorem rd_loop {tx n : Nat} : ∀ (k p : Nat) (X : XW) (M N : MW) (s e : Nat) (C : List Int32) (m m' : Nat), p + k = 3 → PW tx n X N e C (C.map cvC) → TK X N s e → s ≤ n → C.length ≤ s → EN tx p X N C → fX10_next M = some N → rM tx M N → k < m → k < m' → RES tx X M (lo2 fX6_read_l23 m X (nI p)) (lo3 fX10_text_l26 m' M 1 (nI p)) := by
  intro k
  induction k with
  | zero =>
    intro p X M N s e C m m' hp hW hT hs hC hE hN hMN hm hm'
    obtain ⟨m, rfl⟩ : ∃ q, m = q + 1 := ⟨m - 1, by omega⟩
    obtain ⟨m', rfl⟩ : ∃ q, m' = q + 1 := ⟨m' - 1, by omega⟩
    obtain rfl : p = 3 := by omega
    have n160 := hW.1.1.2.2.1
    have a1 : lo2 fX6_read_l23 (m + 1) X (nI 3) = fX6_read_b88 X := by
      show fX6_read_l23 (lo2 fX6_read_l23 m) X (nI 3) = _
      unfold fX6_read_l23
      rw [if_pos (by decide)]
    have a2 : lo3 fX10_text_l26 (m' + 1) M 1 (nI 3) = if N.1 37 = 0 then fX10_text_b121 N 1 else fX10_text_b101 N 0 := by
      show fX10_text_l26 (lo3 fX10_text_l26 m') M 1 (nI 3) = _
      unfold fX10_text_l26 fX10_text_b101
      rw [if_pos (by decide), if_neg n10, hN, Option.bind_some, if_pos rfl]
      rfl
    rw [a1, a2]
    unfold fX6_read_b88
    have hz := (tkA hT.2.2.2.2).2.2.2.2.2.2
    by_cases q : X.1 7 5 = 0
    · rw [if_pos q, if_pos (hz.mp q)]
      obtain ⟨M2, b1, b2, b3, b4, b5, b6, b7, b8⟩ := win_M hW.1.2.2.1 hW.1.2.2.2 hW.2.2.2.2.2.1
      rw [List.length_map] at b5
      refine ⟨_, _, _, M2, rfl, b1, rX.rf tx X, hMN.tr b2, b3, Or.inr ⟨rfl, rfl, b4, ?_⟩⟩
      refine stx_of (by omega) hW.2.2.2.2.1 ?_ ?_ b5
      · have := hW.2.2.2.2.2
        unfold ouM at this ⊢
        rw [b8, b7]; exact this
      · obtain ⟨ee, e0, ep, hE⟩ := hE
        exact ⟨ee, e0, ep, fun q hq => ⟨(hE q hq).1, by rw [b6 q hq]; exact (hE q hq).2.1, (hE q hq).2.2⟩⟩
    · rw [if_neg q, if_neg (fun z => q (hz.mpr z))]
      exact RES.fl (by omega) hT.1 (rX.rf tx X) hMN (fail_M hW.1.2.2.1 hW.1.2.2.2 hT.2.1)
  | succ k ih =>
    intro p X M N s e C m m' hp hW hT hs hC hE hN hMN hm hm'
    obtain ⟨m, rfl⟩ : ∃ q, m = q + 1 := ⟨m - 1, by omega⟩
    obtain ⟨m', rfl⟩ : ∃ q, m' = q + 1 := ⟨m' - 1, by omega⟩
    have n160 := hW.1.1.2.2.1
    have htx := hW.1.2.2.2
    have h21 := hW.1.2.2.1
    have e3 : (4 : Int32) * nI tx + nI p = nI (4 * tx + p) := by rw [show (4 : Int32) * nI tx = nI (4 * tx) from pk_mul 4 tx, nI_add]
    have e26 : (26 : Int32) + nI p = nI (26 + p) := nI_add 26 p
    have hw := tkW (p := p) hT.2.2.2.2 (by omega)
    have a1 : lo2 fX6_read_l23 (m + 1) X (nI p) = fX6_read_l23 (lo2 fX6_read_l23 m) X (nI p) := rfl
    have a2 : lo3 fX10_text_l26 (m' + 1) M 1 (nI p) = if N.1 37 = 3 ∧ N.1 38 = nI p then fX10_text_b60 (lo3 fX10_text_l26 m') N (nI p) 1 else fX10_text_b60 (lo3 fX10_text_l26 m') N (nI p) 0 := by
      show fX10_text_l26 (lo3 fX10_text_l26 m') M 1 (nI p) = _
      unfold fX10_text_l26 fX10_text_b59
      rw [if_neg (show ¬ (3 : Int32) ≤ nI p from nI_ge (b := 3) (by omega) (by omega)), if_neg n10, hN, Option.bind_some]
      by_cases q1 : N.1 37 = 3
      · by_cases q2 : N.1 38 = nI p
        · rw [if_pos q1, if_pos q2, if_pos ⟨q1, q2⟩]
        · rw [if_pos q1, if_neg q2, if_neg (fun z => q2 z.2)]
      · rw [if_neg q1, if_neg (fun z => q1 z.1)]
    rw [a1, a2]
    obtain ⟨u, rfl⟩ : ∃ q, m' = q + 1 := ⟨m' - 1, by omega⟩
    dsimp only [fX6_read_l23, fX10_text_b60, bd, bd2]
    rw [if_neg (show ¬ (3 : Int32) ≤ nI p from nI_ge (b := 3) (by omega) (by omega)), e26, h21, e3, nI_1]
    have hin : inb (nI (4 * tx + p)) 24 := in_nI (by omega) (by omega)
    have hr20 : rM tx N (mA N 83 (nI (4 * tx + p)) (N.1 43)) := by
      refine ⟨fun _ _ _ _ _ => rfl, fun i i1 i2 i3 => mA_ne _ _ _ i2, fun q hq => by rw [mA_ne _ _ _ (by decide)], fun q hq => ?_⟩
      rw [mA_at, cl_nI (by omega)]
      exact if_neg (by omega)
    have h83 : (mA N 83 (nI (4 * tx + p)) (N.1 43)).2 83 (4 * tx + p) = nI C.length ∧ ∀ q, q < p → (mA N 83 (nI (4 * tx + p)) (N.1 43)).2 83 (4 * tx + q) = N.2 83 (4 * tx + q) := by
      rw [mA_at, cl_nI (by omega), hW.2.2.2.2.2.1, List.length_map]
      exact ⟨if_pos rfl, fun q hq => if_neg (by omega)⟩
    have h82 : (mA N 83 (nI (4 * tx + p)) (N.1 43)).2 82 = N.2 82 := mA_ne _ _ _ (by decide)
    have h81 : (mA N 83 (nI (4 * tx + p)) (N.1 43)).2 81 = N.2 81 := mA_ne _ _ _ (by decide)
    have h92 : (mA N 83 (nI (4 * tx + p)) (N.1 43)).2 92 = N.2 92 := mA_ne _ _ _ (by decide)
    have h1 : (mA N 83 (nI (4 * tx + p)) (N.1 43)).1 = N.1 := rfl
    generalize mA N 83 (nI (4 * tx + p)) (N.1 43) = N1 at hr20 h83 h82 h81 h92 h1 ⊢
    by_cases q : X.1 7 5 = nI (26 + p)
    · rw [if_pos q, if_pos (hw.mp q), if_pos hin, if_neg n10]
      have hW1 : PW tx n X (mI (mI N1 41 0) 42 0) e C (C.map cvC) := by
        obtain ⟨⟨⟨t1, t2, t3, t4, t5, t6⟩, v2, v3, v4⟩, w2, w3, w4, w5, w6, w7⟩ := hW
        have hk : ∀ k, k ≠ 41 → k ≠ 42 → (mI (mI N1 41 0) 42 0).1 k = N.1 k := fun k k1 k2 => by rw [mI_ne _ _ k2, mI_ne _ _ k1, h1]
        refine ⟨⟨⟨t1, by rw [hk 18 (by decide) (by decide)]; exact t2, t3, ?_, ?_, ?_⟩, v2, by rw [hk 21 (by decide) (by decide)]; exact v3, v4⟩, w2, by rw [hk 35 (by decide) (by decide)]; exact w3, w4, w5, by rw [hk 43 (by decide) (by decide)]; exact w6, ?_⟩
        · show X.2.1 8 = N1.2 81
          rw [h81]; exact t4
        · show ∀ k, 0 ≤ (N1.2 81 k).toInt
          rw [h81]; exact t5
        · show N1.2 92 = _
          rw [h92]; exact t6
        · intro i c hc
          show N1.2 82 (200 * tx + i) = c
          rw [h82]; exact w7 i c hc
      have hrr : rM tx N1 (mI (mI N1 41 0) 42 0) := ⟨fun k k1 k2 k3 k4 => by rw [mI_ne _ _ (by omega), mI_ne _ _ (by omega)], fun _ _ _ _ => rfl, fun _ _ => rfl, fun _ _ => rfl⟩
      have h83' : (mI (mI N1 41 0) 42 0).2 83 = N1.2 83 := rfl
      have h41 : (mI (mI N1 41 0) 42 0).1 41 = 0 := by rw [mI_ne _ _ (by decide)]; exact mI_at _ _ _
      have h42 : (mI (mI N1 41 0) 42 0).1 42 = 0 := mI_at _ _ _
      have hR : fX10_eRead N1 = lo3 fX10_eRead_l14 FU (mI (mI N1 41 0) 42 0) 1 1 := rfl
      rw [hR]
      generalize mI (mI N1 41 0) 42 0 = N3 at hW1 hrr h83' h41 h42 ⊢
      obtain ⟨X2, N5, s2, e2, g1, g2, gW, gT, gs, gn, gx, gm⟩ := advW hW1
      have hse : s ≤ e := hT.2.2.1
      have h41' : N5.1 41 = 0 := by rw [gm.1 41 (by omega)]; exact h41
      have h42' : N5.1 42 = 0 := by rw [gm.1 42 (by omega)]; exact h42
      rw [g1, Option.bind_some, show lo3 fX10_eRead_l14 FU N3 1 1 = RUN 3999 N5 1 1 from kstep g2 1 1]
      have hcl := (cl_all tx n 60).1 0 0 X2 N5 s2 e2 C [] (C.map cvC) 1 3999 (by omega) (by omega) (by omega) (gW.pd h41' h42') gT gn rfl (by rw [List.length_map, List.length_nil]; omega) (by omega) (fun S' c hc => by simp at hc) (fun _ => n10) (fun z => by omega)
      obtain ⟨v, X3, f1, f2, f3⟩ := hcl
      have f1 : fX6_readFrom 60 X2 0 0 = some (v, X3) := f1
      rw [f1, bs_P]
      have hx3 : rX tx X X3 := ((gx.p tx).tr f2).r
      have hm5 : rM tx M N5 := (hMN.tr hr20).tr (hrr.tr (gm.p tx).r)
      have h215 : N5.1 21 = nI tx := gW.1.2.2.1
      rcases f3 with ⟨rfl, fb, s3, M3, fs, fr, fm, f160, fp⟩ | ⟨rfl, M3, s3, e3, D, Q, m3, l3, O3, jP, jT, jn, jr, jm, jO, jE, jQ, jK, jl, jp⟩
      · rw [if_pos (show ((0 : Int32), X3).1 = 0 from rfl), fr, bs_Q, if_pos (show ((0 : Int32), M3).1 = 0 from rfl)]
        exact RES.fl f160 fs hx3 (hm5.tr fp.r) (dead_M _ _ (by rw [fp.1 21 (by omega) (by omega)]; exact h215) htx fm)
      · rw [if_neg (show ¬ ((1 : Int32), X3).1 = 0 from n10), jr]
        show RES tx X M (if X3.1 7 5 = 5 then _ else _) _
        have hCD : O3.length + Q.length = (C ++ D).length := by rw [← List.length_append, jO, List.length_map]
        rw [List.length_nil] at jl
        by_cases q5 : X3.1 7 5 = 5
        · rw [if_pos q5]
          have t59 : M3.1 37 = 59 := (tkA jT.2.2.2.2).2.2.2.2.1 q5
          obtain ⟨M4, k1, k2, k3, k4⟩ := munw (r := 1) (S := []) jP (by omega) (fun S' c hc => by simp at hc) jQ (by rw [List.length_nil]; omega) (by omega)
          have hrun : RUN m3 M3 0 l3 = some (1, M4) := by
            unfold RUN eB fX10_eRead_b159
            rw [if_pos rfl, if_pos t59, show fX10_unwinds M3 1 = some M4 from k1, bs_M, k2.2.2.2.2.2.1.1]
            rfl
          rw [hrun, bs_Q, if_neg (show ¬ ((1 : Int32), M4).1 = 0 from n10)]
          rw [jO] at k2
          obtain ⟨X5, M6, s6, e6, l1, l2, lW, lT, ls, ln, lx, lm⟩ := advW k2.w
          have hse3 : s3 ≤ e3 := jT.2.2.1
          rw [l1, bs_X]
          show RES tx X M ((X5.2.2 7 2).bind _) _
          rw [lW.1.2.1, bs_N, if_pos (kd_pr htx)]
          have hep : fX5_endPart X5 (47 + 3 * tx) (nI p) = some (xA X5 (49 + 3 * tx) (nI p) (nI (C ++ D).length)) := by
            have hwi : ¬ fX9_within (nI p) 0 2 = 0 := by
              have : p = 0 ∨ p = 1 ∨ p = 2 := by omega
              rcases this with rfl | rfl | rfl <;> decide
            unfold fX5_endPart
            rw [if_neg hwi, if_pos (kd_pr htx), if_pos (in_nI (by omega) (by omega)), lW.2.2.2.2.1.1, show 47 + 3 * tx + 2 = 49 + 3 * tx by omega]
            rfl
          rw [hep, bs_X]
          have hA : ∀ i, i ≠ 49 + 3 * tx → (xA X5 (49 + 3 * tx) (nI p) (nI (C ++ D).length)).2.1 i = X5.2.1 i := fun i hi => xA_ne _ _ _ hi
          have hB : (xA X5 (49 + 3 * tx) (nI p) (nI (C ++ D).length)).2.1 (49 + 3 * tx) p = nI (C ++ D).length ∧ ∀ q, q ≠ p → (xA X5 (49 + 3 * tx) (nI p) (nI (C ++ D).length)).2.1 (49 + 3 * tx) q = X5.2.1 (49 + 3 * tx) q := by
            rw [xA_at, cl_nI (by omega)]
            exact ⟨if_pos rfl, fun q hq => if_neg hq⟩
          have hc1 : (xA X5 (49 + 3 * tx) (nI p) (nI (C ++ D).length)).1 = X5.1 := rfl
          have hc2 : (xA X5 (49 + 3 * tx) (nI p) (nI (C ++ D).length)).2.2 = X5.2.2 := rfl
          generalize xA X5 (49 + 3 * tx) (nI p) (nI (C ++ D).length) = X6 at hA hB hc1 hc2 ⊢
          have hW6 : PW tx n X6 M6 e6 (C ++ D) ((C ++ D).map cvC) := by
            obtain ⟨⟨⟨t1, t2, t3, t4, t5, t6⟩, v2, v3, v4⟩, w2, w3, w4, w5, w6⟩ := lW
            refine ⟨⟨⟨by rw [hc1]; exact t1, t2, t3, by rw [hA 8 (by omega)]; exact t4, t5, t6⟩, by rw [hc2]; exact v2, v3, v4⟩, by rw [hc1]; exact w2, w3, w4, ?_, w6⟩
            unfold pcX at w5 ⊢
            rw [hc1, hA (48 + 3 * tx) (by omega)]; exact w5
          have hT6 : TK X6 M6 s6 e6 := by
            unfold TK at lT ⊢
            rw [hc1]; exact lT
          have hx6 : rX tx X X6 := hx3.tr ((lx.p tx).r.tr ⟨fun i k _ _ => by rw [hc1], fun j k _ => by rw [hc2], fun i _ h => hA i h⟩)
          have hm4 : rM tx M M4 := hm5.tr (jp.r.tr k4.r)
          have h836 : M6.2 83 = N1.2 83 := by rw [lm.2, k4.2.1 83 (by decide) (by decide), jp.2.1 83 (by decide) (by decide), gm.2, h83']
          have hE6 : EN tx (p + 1) X6 M6 (C ++ D) := by
            refine hE.suc jE (fun q hq => ?_) hB.1 (fun q hq => ?_) ?_
            · rw [hB.2 q (by omega), lx.2, f2.2.2 _ (by omega), gx.2]
            · rw [h836]; exact h83.2 q hq
            · rw [h836]; exact h83.1
          have key := ih (p + 1) X6 M4 M6 s6 e6 (C ++ D) m (u + 1) (by omega) hW6 hT6 ln (by omega) hE6 l2 (lm.p tx).r (by omega) (by omega)
          obtain ⟨v, Y, w, W, y1, y2, y3, y4, y5⟩ := key
          exact ⟨v, Y, w, W, y1, y2, hx6.tr y3, hm4.tr y4, y5⟩
        · rw [if_neg q5]
          obtain ⟨M4, k1, k2, k3⟩ := eb_end m3 l3 jP jT (fun S' c hc => by simp at hc) jQ jK (by rw [List.length_nil]; omega) (by omega) (fun _ => rfl) (fun z => absurd z q5)
          rw [k1, bs_Q, if_pos (show ((0 : Int32), M4).1 = 0 from rfl)]
          exact RES.fl (by omega) jT.1 hx3 (hm5.tr (jp.tr k3).r) (dead_M _ _ (by rw [k3.1 21 (by omega) (by omega), jp.1 21 (by omega) (by omega)]; exact h215) htx (by rw [k2]; exact jT.2.1))
    · rw [if_neg q, if_neg (fun z => q (hw.mpr z)), if_pos hin, if_pos rfl]
      exact RES.fl (by omega) hT.1 (rX.rf tx X) (hMN.tr hr20) (dead_M _ _ (by rw [h1]; exact h21) htx (by rw [h1]; exact hT.2.1))
theorem xR7_a (X : XW) (v : Option Nat) : (xR X 7 2 v).2.2 7 2 = v := by
  unfold xR
  simp [va_up]
theorem xR7_n (X : XW) (v : Option Nat) {j k : Nat} (h : ¬ (j = 7 ∧ k = 2)) : (xR X 7 2 v).2.2 j k = X.2.2 j k := by
  unfold xR
  by_cases c : j = 7
  · subst c
    have : k ≠ 2 := fun z => h ⟨rfl, z⟩
    simp [va_up, this]
  · simp [c]
theorem read_ok {tx n : Nat} {X : XW} {M : MW} (T : TP X M n) (h21 : M.1 21 = nI tx) (htx : tx < 6) : RES tx X M (fX6_read X (47 + 3 * tx)) (fX10_text M) := by
  dsimp only [fX6_read, fX10_text, fX5_clear, bd]
  rw [h21, if_neg (show ¬ nI tx = 6 from fun z => by have := (nI_eq (a := tx) (b := 6) (by omega) (by omega)).mp z; omega)]
  have e2 := xR7_a X (some (47 + 3 * tx))
  have er : ∀ j k, ¬ (j = 7 ∧ k = 2) → (xR X 7 2 (some (47 + 3 * tx))).2.2 j k = X.2.2 j k := fun j k h => xR7_n X _ h
  have e1 : (xR X 7 2 (some (47 + 3 * tx))).1 = X.1 := rfl
  have e3 : (xR X 7 2 (some (47 + 3 * tx))).2.1 = X.2.1 := rfl
  generalize xR X 7 2 (some (47 + 3 * tx)) = X1 at e1 e2 e3 er ⊢
  rw [e2, bs_N, if_pos (kd_pr htx), if_pos (kd_pr htx), bs_X]
  have hk : ∀ i k, ¬ (i = 7 ∧ 3 ≤ k ∧ k ≤ 6) → ¬ (i = 47 + 3 * tx ∧ k = 2) → (xI (xI X1 (47 + 3 * tx) 2 0) 7 3 0).1 i k = X.1 i k := by
    intro i k k1 k2
    rw [← e1]
    by_cases c : i = 7
    · subst c
      rw [xI_k _ _ _ (by omega), xI_ne _ _ _ (by omega)]
    · rw [xI_ne _ _ _ c]
      by_cases d : i = 47 + 3 * tx
      · subst d; rw [xI_k _ _ _ (by omega)]
      · rw [xI_ne _ _ _ d]
  have h73 : (xI (xI X1 (47 + 3 * tx) 2 0) 7 3 0).1 7 3 = 0 := xI_at _ _ _ _
  have hp2 : (xI (xI X1 (47 + 3 * tx) 2 0) 7 3 0).1 (47 + 3 * tx) 2 = 0 := by rw [xI_ne _ _ _ (by omega)]; exact xI_at _ _ _ _
  have hr : (xI (xI X1 (47 + 3 * tx) 2 0) 7 3 0).2 = X1.2 := rfl
  generalize xI (xI X1 (47 + 3 * tx) 2 0) 7 3 0 = X3 at hk h73 hp2 hr ⊢
  have mk : ∀ k, ¬ (35 ≤ k ∧ k ≤ 38) → ¬ (41 ≤ k ∧ k ≤ 43) → (mI (mI M 35 0) 43 0).1 k = M.1 k := fun k k1 k2 => by rw [mI_ne _ _ (by omega), mI_ne _ _ (by omega)]
  have m35 : (mI (mI M 35 0) 43 0).1 35 = 0 := by rw [mI_ne _ _ (by decide)]; exact mI_at _ _ _
  have m43 : (mI (mI M 35 0) 43 0).1 43 = 0 := mI_at _ _ _
  have mr : (mI (mI M 35 0) 43 0).2 = M.2 := rfl
  generalize mI (mI M 35 0) 43 0 = M3 at mk m35 m43 mr ⊢
  have hW : PW tx n X3 M3 0 [] ([].map cvC) := by
    obtain ⟨t1, t2, t3, t4, t5, t6⟩ := T
    refine ⟨⟨⟨by rw [hk 7 1 (by omega) (by omega)]; exact t1, by rw [mk 18 (by omega) (by omega)]; exact t2, t3, ?_, by rw [mr]; exact t5, by rw [mr]; exact t6⟩, by rw [hr]; exact e2, by rw [mk 21 (by omega) (by omega)]; exact h21, htx⟩, h73, m35, Nat.zero_le _, ⟨hp2, fun i c h => by cases h⟩, ⟨m43, fun i c h => by cases h⟩⟩
    rw [hr, e3, mr]; exact t4
  obtain ⟨X5, N, s, e, g1, g2, gW, gT, gs, gn, gx, gm⟩ := advW hW
  rw [g1, bs_X]
  have key := rd_loop 3 0 X5 M3 N s e [] FU FU (by omega) gW gT gn (by rw [List.length_nil]; omega) ⟨fun _ => 0, rfl, rfl, fun q hq => by omega⟩ g2 (gm.p tx).r (by decide) (by decide)
  obtain ⟨v, Y, w, W, y1, y2, y3, y4, y5⟩ := key
  refine ⟨v, Y, w, W, y1, y2, rX.tr ?_ y3, rM.tr ?_ y4, y5⟩
  · exact rX.tr ⟨hk, fun j k h => by rw [hr]; exact er j k h, fun i _ _ => by rw [hr, e3]⟩ (gx.p tx).r
  · exact ⟨fun k _ _ k3 k4 => mk k k3 k4, fun i _ _ _ => by rw [mr], fun q _ => by rw [mr], fun q _ => by rw [mr]⟩

/-! one expression -/
theorem jn_of {t : Int32} {L : Nat} (hL : L ≤ 4) : (¬ fX6_joins t (nI L) = 0 ∧ ((L = 0 ∧ t = 29) ∨ (L = 1 ∧ t = 30) ∨ (L = 2 ∧ (t = 9 ∨ t = 10)) ∨ (L = 3 ∧ (t = 6 ∨ t = 7)) ∨ (L = 4 ∧ t = 8))) ∨ (fX6_joins t (nI L) = 0 ∧ ¬ ((L = 0 ∧ t = 29) ∨ (L = 1 ∧ t = 30) ∨ (L = 2 ∧ (t = 9 ∨ t = 10)) ∨ (L = 3 ∧ (t = 6 ∨ t = 7)) ∨ (L = 4 ∧ t = 8))) := by
  unfold fX6_joins
  have : L = 0 ∨ L = 1 ∨ L = 2 ∨ L = 3 ∨ L = 4 := by omega
  rcases this with rfl | rfl | rfl | rfl | rfl
  · rw [if_pos (show nI 0 = 0 from rfl)]
    by_cases q : t = 29
    · rw [if_pos q]; exact Or.inl ⟨n10, Or.inl ⟨rfl, q⟩⟩
    · rw [if_neg q]; exact Or.inr ⟨rfl, fun z => by
        rcases z with ⟨-, z⟩ | ⟨z, -⟩ | ⟨z, -⟩ | ⟨z, -⟩ | ⟨z, -⟩
        · exact q z
        · omega
        · omega
        · omega
        · omega⟩
  · rw [if_neg (by decide), if_pos (show nI 1 = 1 from rfl)]
    by_cases q : t = 30
    · rw [if_pos q]; exact Or.inl ⟨n10, Or.inr (Or.inl ⟨rfl, q⟩)⟩
    · rw [if_neg q]; exact Or.inr ⟨rfl, fun z => by
        rcases z with ⟨z, -⟩ | ⟨-, z⟩ | ⟨z, -⟩ | ⟨z, -⟩ | ⟨z, -⟩
        · omega
        · exact q z
        · omega
        · omega
        · omega⟩
  · rw [if_neg (by decide), if_neg (by decide), if_pos (show nI 2 = 2 from rfl)]
    by_cases q : t = 9
    · rw [if_pos q]; exact Or.inl ⟨n10, Or.inr (Or.inr (Or.inl ⟨rfl, Or.inl q⟩))⟩
    · rw [if_neg q]
      by_cases q2 : t = 10
      · rw [if_pos q2]; exact Or.inl ⟨n10, Or.inr (Or.inr (Or.inl ⟨rfl, Or.inr q2⟩))⟩
      · rw [if_neg q2]; exact Or.inr ⟨rfl, fun z => by
        rcases z with ⟨z, -⟩ | ⟨z, -⟩ | ⟨-, z | z⟩ | ⟨z, -⟩ | ⟨z, -⟩
        · omega
        · omega
        · exact q z
        · exact q2 z
        · omega
        · omega⟩
  · rw [if_neg (by decide), if_neg (by decide), if_neg (by decide), if_pos (show nI 3 = 3 from rfl)]
    by_cases q : t = 6
    · rw [if_pos q]; exact Or.inl ⟨n10, Or.inr (Or.inr (Or.inr (Or.inl ⟨rfl, Or.inl q⟩)))⟩
    · rw [if_neg q]
      by_cases q2 : t = 7
      · rw [if_pos q2]; exact Or.inl ⟨n10, Or.inr (Or.inr (Or.inr (Or.inl ⟨rfl, Or.inr q2⟩)))⟩
      · rw [if_neg q2]; exact Or.inr ⟨rfl, fun z => by
        rcases z with ⟨z, -⟩ | ⟨z, -⟩ | ⟨z, -⟩ | ⟨-, z | z⟩ | ⟨z, -⟩
        · omega
        · omega
        · omega
        · exact q z
        · exact q2 z
        · omega⟩
  · rw [if_neg (by decide), if_neg (by decide), if_neg (by decide), if_neg (by decide), if_pos (show nI 4 = 4 from rfl)]
    by_cases q : t = 8
    · rw [if_pos q]; exact Or.inl ⟨n10, Or.inr (Or.inr (Or.inr (Or.inr ⟨rfl, q⟩)))⟩
    · rw [if_neg q]; exact Or.inr ⟨rfl, fun z => by
        rcases z with ⟨z, -⟩ | ⟨z, -⟩ | ⟨z, -⟩ | ⟨z, -⟩ | ⟨-, z⟩
        · omega
        · omega
        · omega
        · omega
        · exact q z⟩
/-- a sign that joins at its level -/
theorem jn_sg {t c : Int32} {L : Nat} (h : (L = 0 ∧ t = 29) ∨ (L = 1 ∧ t = 30) ∨ (L = 2 ∧ (t = 9 ∨ t = 10)) ∨ (L = 3 ∧ (t = 6 ∨ t = 7)) ∨ (L = 4 ∧ t = 8)) (hs : sgT t c) : rN c = (if L < 2 then L + 1 else L + 2) ∧ (12 < c ↔ 2 ≤ L) := by
  unfold sgT at hs
  rcases hs with ⟨rfl, rfl⟩ | ⟨rfl, rfl⟩ | ⟨rfl, rfl⟩ | ⟨rfl, rfl⟩ | ⟨rfl, rfl⟩ | ⟨rfl, rfl⟩ | ⟨rfl, rfl⟩
  · have : L = 0 := by
      rcases h with h | h | h | h | h
      · exact h.1
      · exact absurd h.2 (by decide)
      · exact absurd h.2 (by decide)
      · exact absurd h.2 (by decide)
      · exact absurd h.2 (by decide)
    subst this; decide
  · have : L = 1 := by
      rcases h with h | h | h | h | h
      · exact absurd h.2 (by decide)
      · exact h.1
      · exact absurd h.2 (by decide)
      · exact absurd h.2 (by decide)
      · exact absurd h.2 (by decide)
    subst this; decide
  · have : L = 2 := by
      rcases h with h | h | h | h | h
      · exact absurd h.2 (by decide)
      · exact absurd h.2 (by decide)
      · exact h.1
      · exact absurd h.2 (by decide)
      · exact absurd h.2 (by decide)
    subst this; decide
  · have : L = 2 := by
      rcases h with h | h | h | h | h
      · exact absurd h.2 (by decide)
      · exact absurd h.2 (by decide)
      · exact h.1
      · exact absurd h.2 (by decide)
      · exact absurd h.2 (by decide)
    subst this; decide
  · have : L = 3 := by
      rcases h with h | h | h | h | h
      · exact absurd h.2 (by decide)
      · exact absurd h.2 (by decide)
      · exact absurd h.2 (by decide)
      · exact h.1
      · exact absurd h.2 (by decide)
    subst this; decide
  · have : L = 3 := by
      rcases h with h | h | h | h | h
      · exact absurd h.2 (by decide)
      · exact absurd h.2 (by decide)
      · exact absurd h.2 (by decide)
      · exact h.1
      · exact absurd h.2 (by decide)
    subst this; decide
  · have : L = 4 := by
      rcases h with h | h | h | h | h
      · exact absurd h.2 (by decide)
      · exact absurd h.2 (by decide)
      · exact absurd h.2 (by decide)
      · exact absurd h.2 (by decide)
      · exact h.1
    subst this; decide
theorem eOK.app {L : Nat} {t : Int32} {Q : List Int32} (h : eOK L t Q) (x : Int32) : eOK L t (Q ++ [x]) := by
  obtain ⟨h1, h2, h3, h4⟩ := h
  refine ⟨h1, h2, fun a b => ?_, h4⟩
  obtain ⟨Q1, c, Q2, rfl, e1, e2⟩ := h3 a b
  exact ⟨Q1, c, Q2 ++ [x], by simp, e1, e2⟩
theorem lvl_loop {tx n d : Nat} (F : clF tx n d) {L o : Nat} {C S : List Int32} (hL : L ≤ 4) (ho : o ≤ 5) (hd : 7 * (5 - o) + (6 - L) ≤ d) (hT : tO (th L) S) : ∀ (f k : Nat) (X1 : XW) (M1 : MW) (s1 e1 m1 : Nat) (D Q O : List Int32) (l2 : Int32), 200 < f + k → k ≤ D.length → PD tx n X1 M1 e1 (C ++ D) (S ++ Q.reverse) (o + cN Q) O → TK X1 M1 s1 e1 → s1 ≤ n → 200 ≤ m1 + s1 → O ++ Q = (C ++ D).map cvC → EC D → (∀ x, x ∈ Q → VV x ∧ rk L ≤ rN x) → (L = 2 → k = 0 → ∀ x, x ∈ Q → 5 ≤ rN x) → (L = 2 → k = 0 ∨ (k = 1 ∧ eOK 2 (X1.1 7 5) Q)) → eOK (L + 1) (X1.1 7 5) Q → S.length + Q.length + O.length ≤ s1 → ∃ v X', lo3 (fX6_readFrom_l79 (fX6_readFrom d) (fX6_readOne d) (nI L) (nI o) (nI (if L = 2 then 1 else 160))) f X1 1 (nI k) = some (v, X') ∧ pX tx X1 X' ∧ ((v = 0 ∧ BAD tx X' M1 (RUN m1 M1 0 l2)) ∨ (v = 1 ∧ OKF tx n L o X' M1 C S (RUN m1 M1 0 l2))) := by
  intro f
  induction f with
  | zero =>
    intro k X1 M1 s1 e1 m1 D Q O l2 h1 h2 h3 h4 h5 h6 h7 h8 h9 h10 h11 h12 h13
    have a := h3.n160
    have b := congrArg List.length h7
    rw [List.length_append, List.length_map, List.length_append] at b
    omega
  | succ f ih =>
    intro k X1 M1 s1 e1 m1 D Q O l2 hf hk h htk hsn hm hO hD hQ hQ5 hk2 hE hlen
    have n160 := h.n160
    have hen := h.2.2.2.1
    have hlD : O.length + Q.length = C.length + D.length := by
      have := congrArg List.length hO
      rw [List.length_append, List.length_map, List.length_append] at this
      exact this
    have hmost : (if L = 2 then 1 else 160) ≤ 160 := by by_cases q : L = 2 <;> simp [q]
    have hG0 : ∀ X2 z, lo3 (fX6_readFrom_l79 (fX6_readFrom d) (fX6_readOne d) (nI L) (nI o) (nI (if L = 2 then 1 else 160))) f X2 0 z = some (0, X2) := by
      intro X2 z
      obtain ⟨f', rfl⟩ : ∃ q, f = q + 1 := ⟨f - 1, by omega⟩
      show fX6_readFrom_l79 (fX6_readFrom d) (fX6_readOne d) (nI L) (nI o) (nI (if L = 2 then 1 else 160)) (lo3 (fX6_readFrom_l79 (fX6_readFrom d) (fX6_readOne d) (nI L) (nI o) (nI (if L = 2 then 1 else 160))) f') X2 0 z = _
      generalize lo3 (fX6_readFrom_l79 (fX6_readFrom d) (fX6_readOne d) (nI L) (nI o) (nI (if L = 2 then 1 else 160))) f' = G
      unfold fX6_readFrom_l79
      rw [if_pos rfl, if_pos (Or.inl rfl), ite_self]
    show ∃ v X', fX6_readFrom_l79 (fX6_readFrom d) (fX6_readOne d) (nI L) (nI o) (nI (if L = 2 then 1 else 160)) (lo3 (fX6_readFrom_l79 (fX6_readFrom d) (fX6_readOne d) (nI L) (nI o) (nI (if L = 2 then 1 else 160))) f) X1 1 (nI k) = some (v, X') ∧ _
    generalize hGG : lo3 (fX6_readFrom_l79 (fX6_readFrom d) (fX6_readOne d) (nI L) (nI o) (nI (if L = 2 then 1 else 160))) f = G at ih hG0 ⊢
    dsimp only [fX6_readFrom_l79, bd]
    rw [if_pos (Or.inr rfl), if_neg n10]
    have done : eOK L (X1.1 7 5) Q → ∃ v X', some ((1 : Int32), X1) = some (v, X') ∧ pX tx X1 X' ∧ ((v = 0 ∧ BAD tx X' M1 (RUN m1 M1 0 l2)) ∨ (v = 1 ∧ OKF tx n L o X' M1 C S (RUN m1 M1 0 l2))) := fun q => ⟨1, X1, rfl, pX.rf tx X1, Or.inr ⟨rfl, M1, s1, e1, D, Q, m1, l2, O, h, htk, hsn, rfl, hm, hO, hD, hQ, q, hlen, pM.rf tx M1⟩⟩
    by_cases hmk : (if L = 2 then 1 else 160) ≤ k
    · rw [if_pos (nI_le hmk (by omega))]
      refine done ?_
      by_cases q : L = 2
      · subst q
        rcases hk2 rfl with z | ⟨-, z⟩
        · rw [if_pos rfl] at hmk; omega
        · exact z
      · rw [if_neg q] at hmk
        have t0 : X1.1 7 5 = 0 := by
          rcases htk.2.2.2.1 with z | z
          · exact z
          · omega
        obtain ⟨a1, a2, a3, a4, a5⟩ := hE
        rw [t0]
        exact ⟨fun _ => by decide, fun _ => by decide, fun _ z => absurd z (by decide), fun _ => by decide, fun _ => by decide⟩
    rw [if_neg (nI_ge (by omega) (by omega))]
    rcases jn_of (t := X1.1 7 5) hL with ⟨j1, j2⟩ | ⟨j1, j2⟩
    rotate_left
    · rw [if_pos j1]
      refine done ?_
      obtain ⟨a1, a2, a3, a4, a5⟩ := hE
      refine ⟨fun z w => j2 (Or.inl ⟨by omega, w⟩), fun z w => ?_, fun z w => ?_, fun z => ?_, fun z w => ?_⟩
      · by_cases e : L = 1
        · exact j2 (Or.inr (Or.inl ⟨e, w⟩))
        · exact a2 (by omega) w
      · by_cases e : L = 2
        · exact absurd (Or.inr (Or.inr (Or.inl ⟨e, w⟩))) j2
        · exact a3 (by omega) w
      · by_cases e : L = 3
        · exact ⟨fun w => j2 (Or.inr (Or.inr (Or.inr (Or.inl ⟨e, Or.inl w⟩)))), fun w => j2 (Or.inr (Or.inr (Or.inr (Or.inl ⟨e, Or.inr w⟩))))⟩
        · exact a4 (by omega)
      · by_cases e : L = 4
        · exact j2 (Or.inr (Or.inr (Or.inr (Or.inr ⟨e, w⟩))))
        · exact a5 (by omega) w
    rw [if_neg j1]
    have hk0 : L = 2 → k = 0 := fun q => by
      rw [if_pos q] at hmk; omega
    rcases sg_of htk.2.2.2.2 with ⟨q1, q2, q3⟩ | ⟨-, -, -, q4, -⟩ | ⟨q1, -⟩ | ⟨q1, -⟩
    rotate_left
    · exfalso
      refine q4 ?_
      rcases j2 with z | z | z | z | z
      · exact Or.inl z.2
      · exact Or.inr (Or.inl z.2)
      · rcases z.2 with w | w
        · exact Or.inr (Or.inr (Or.inl w))
        · exact Or.inr (Or.inr (Or.inr (Or.inl w)))
      · rcases z.2 with w | w
        · exact Or.inr (Or.inr (Or.inr (Or.inr (Or.inl w))))
        · exact Or.inr (Or.inr (Or.inr (Or.inr (Or.inr (Or.inl w)))))
      · exact Or.inr (Or.inr (Or.inr (Or.inr (Or.inr (Or.inr z.2)))))
    · exact absurd (jn_of (t := X1.1 7 5) hL) (by
        rw [q1] at j2 ⊢
        rcases j2 with z | z | z | z | z
        · exact absurd z.2 (by decide)
        · exact absurd z.2 (by decide)
        · exact absurd z.2 (by decide)
        · exact absurd z.2 (by decide)
        · exact absurd z.2 (by decide))
    · exact absurd (jn_of (t := X1.1 7 5) hL) (by
        rw [q1] at j2 ⊢
        rcases j2 with z | z | z | z | z
        · exact absurd z.2 (by decide)
        · exact absurd z.2 (by decide)
        · exact absurd z.2 (by decide)
        · exact absurd z.2 (by decide)
        · exact absurd z.2 (by decide))
    obtain ⟨r1, r2⟩ := jn_sg j2 q1
    obtain ⟨v1, v2, v13, v19, v3, v4⟩ := sgT_v q1
    generalize hc : fX10_signOf M1 = c at q1 r1 r2 v1 v2 v13 v19 v3 v4
    have hse : s1 < e1 := by
      rcases htk.2.2.2.1 with z | z
      · rw [z] at j2
        exfalso
        rcases j2 with z | z | z | z | z
        · exact absurd z.2 (by decide)
        · exact absurd z.2 (by decide)
        · exact absurd z.2 (by decide)
        · exact absurd z.2 (by decide)
        · exact absurd z.2 (by decide)
      · exact z
    have hTb : tO (if rN c = 4 then 4 else rN c) S := fun S' x hx => by
      obtain ⟨w1, w2⟩ := hT S' x hx
      refine ⟨w1, ?_⟩
      unfold th at w2
      by_cases e : L < 2
      · rw [if_pos e] at r1 w2
        rw [r1, if_neg (by omega)]; omega
      · rw [if_neg e] at r1 w2
        rw [r1]
        by_cases e2 : L = 2
        · subst e2; exact w2
        · rw [if_neg (by omega)]; exact w2
    obtain ⟨M2, p1, p2, p3, p4⟩ := mbet q1 h hTb (fun x hx => by
      obtain ⟨w1, w2⟩ := hQ x hx
      refine ⟨w1, ?_⟩
      unfold rk at w2
      rw [r1]
      by_cases e2 : L = 2
      · have := hQ5 e2 (hk0 e2) x hx
        rw [if_pos (by subst e2; rfl)]; exact this
      · by_cases e : L < 2
        · rw [if_pos e, if_neg (by omega)]
          rw [if_pos (by omega)] at w2; exact w2
        · rw [if_neg e, if_neg (by omega)]
          rw [if_neg (by omega)] at w2; exact w2) (by omega) (by omega)
    obtain ⟨m2, rfl⟩ : ∃ q, m1 = q + 1 := ⟨m1 - 1, by omega⟩
    obtain ⟨X2, M3, s2, e2, a1, a2, a3, a4, a5, a6, a7, a8⟩ := adv p2
    have hR : ∃ mn : Int32, RUN (m2 + 1) M1 0 l2 = RUN m2 M3 1 mn ∧ (L < 2 → mn = 1) ∧ (2 ≤ L → mn = 0) := by
      have : RUN (m2 + 1) M1 0 l2 = if (12 : Int32) < c then lo3 fX10_eRead_l14 (m2 + 1) M2 (1 : Int32) (0 : Int32) else lo3 fX10_eRead_l14 (m2 + 1) M2 (1 : Int32) (1 : Int32) := by
        unfold RUN eB
        rw [if_pos rfl, if_neg q2, if_neg q3, bd, hc, if_neg v2, p1, bd2_s, if_neg n10]
      rw [this]
      by_cases e : 2 ≤ L
      · rw [if_pos (r2.mpr e), kstep a2]
        exact ⟨0, rfl, fun z => by omega, fun _ => rfl⟩
      · rw [if_neg (fun z => e (r2.mp z)), kstep a2]
        exact ⟨1, rfl, fun _ => rfl, fun z => absurd z e⟩
    obtain ⟨mn, hR1, hR2, hR3⟩ := hR
    have hT1 : tO (th (L + 1)) (S ++ [c]) := fun S' x hx => by
      have := List.append_inj_right' hx rfl
      have hx : c = x := by simpa using this
      subst hx
      refine ⟨v1, ?_⟩
      rw [r1]
      unfold th
      by_cases e : L < 2
      · rw [if_pos e]
        by_cases e2 : L + 1 < 2
        · rw [if_pos e2]; omega
        · rw [if_neg e2]; omega
      · rw [if_neg e, if_neg (by omega)]; omega
    obtain ⟨v, X3, g1, g2, g3⟩ := F (L + 1) o X2 M3 s2 e2 (C ++ D) (S ++ [c]) (O ++ Q) mn m2 (by omega) ho (by omega) a3 a4 a6 hO (by rw [List.length_append, List.length_append, List.length_singleton]; omega) (by omega) hT1 (fun z => by rw [hR2 (by omega)]; exact n10) (fun z _ => hR3 (by omega))
    rw [a1, Option.bind_some, nI_1, g1, bd2_s]
    rcases g3 with ⟨rfl, b1, s', M', b2, b3, b4, b5, b6⟩ | ⟨rfl, M', s', e', D2, Q2, m', l2', O', b1, b2, b3, b4, b5, b6, b7, b8, b9, b10, b11⟩
    · obtain ⟨X4, c1, c2, c3, c4⟩ := bemit b1 (X1.1 7 5)
      rw [c1, Option.bind_some, hG0]
      exact ⟨0, X4, rfl, (a7.tr g2).tr c3, Or.inl ⟨rfl, c2, s', M', by rw [c4]; exact b2, by rw [hR1]; exact b3, b4, b5, (p4.tr a8).tr b6⟩⟩
    · have hlD2 : O'.length + Q2.length = C.length + D.length + D2.length := by
        have := congrArg List.length b6
        rw [List.length_append, List.length_map, List.length_append, List.length_append] at this
        exact this
      rw [List.length_append, List.length_singleton] at b10
      obtain ⟨X4, c1, c2, c3, c4⟩ := cemit b1 (by rw [List.length_append, List.length_append]; omega) (X1.1 7 5)
      have hst : S ++ [c] ++ Q2.reverse = S ++ (Q2 ++ [c]).reverse := by simp
      have hcn : cN (Q2 ++ [c]) = cN Q2 := by
        rw [cN_app]
        show cN Q2 + ((if c = 13 ∨ c = 19 then 1 else 0) + 0) = _
        rw [if_neg (fun z => z.elim v13 v19)]
        omega
      have hCD : C ++ D ++ D2 ++ [20000 + X1.1 7 5] = C ++ (D ++ D2 ++ [20000 + X1.1 7 5]) := by simp
      rw [hst, hCD, ← hcn] at c2
      have htk4 : TK X4 M' s' e' := by
        unfold TK at b2 ⊢
        rw [c4]; exact b2
      obtain ⟨v', X5, w1, w2, w3⟩ := ih (k + 1) X4 M' s' e' m' (D ++ D2 ++ [20000 + X1.1 7 5]) (Q2 ++ [c]) O' l2' (by omega) (by rw [List.length_append, List.length_append, List.length_singleton]; omega) c2 htk4 b3 b5 (by
        rw [← hCD, List.map_append, ← b6]
        show O' ++ (Q2 ++ [c]) = O' ++ Q2 ++ [cvC (20000 + X1.1 7 5)]
        rw [v3, List.append_assoc]) (hD.bin b7 v4) (fun x hx => by
        rcases List.mem_append.mp hx with z | z
        · obtain ⟨y1, y2⟩ := b8 x z
          refine ⟨y1, Nat.le_trans ?_ y2⟩
          unfold rk
          by_cases e : L < 3
          · rw [if_pos e]
            by_cases e2 : L + 1 < 3
            · rw [if_pos e2]; omega
            · rw [if_neg e2]; omega
          · rw [if_neg e, if_neg (by omega)]; omega
        · have : x = c := by simpa using z
          subst this
          refine ⟨v1, ?_⟩
          rw [r1]
          unfold rk
          by_cases e : L < 2
          · rw [if_pos e, if_pos (by omega)]; exact Nat.le_refl _
          · rw [if_neg e]
            by_cases e2 : L < 3
            · rw [if_pos e2]; omega
            · rw [if_neg e2]; exact Nat.le_refl _) (fun _ z => by omega) (fun z => by
        subst z
        have hk00 := hk0 rfl
        refine Or.inr ⟨by omega, fun y => by omega, fun y => by omega, fun _ y => ⟨Q2, c, [], rfl, r1, fun x hx => (b8 x hx).2⟩, ?_, ?_⟩
        · rw [c4]; exact fun _ => b9.2.2.2.1 (by omega)
        · rw [c4]; exact fun _ => b9.2.2.2.2 (by omega)) (by rw [c4]; exact b9.app c) (by rw [List.length_append, List.length_singleton]; omega)
      rw [c1, Option.bind_some, nI_1, w1]
      refine ⟨v', X5, rfl, ((a7.tr g2).tr c3).tr w2, ?_⟩
      rcases w3 with ⟨rfl, y1, ys, yM, y2, y3, y4, y5, y6⟩ | ⟨rfl, yM, ys, ye, yD, yQ, ym, yl, yO, y1, y2, y3, y4, y5, y6, y7, y8, y9, y10, y11⟩
      · exact Or.inl ⟨rfl, y1, ys, yM, y2, by rw [hR1, b4]; exact y3, y4, y5, ((p4.tr a8).tr b11).tr y6⟩
      · exact Or.inr ⟨rfl, yM, ys, ye, yD, yQ, ym, yl, yO, y1, y2, y3, by rw [hR1, b4]; exact y4, y5, y6, y7, y8, y9, y10, ((p4.tr a8).tr b11).tr y11⟩

/-! every expression -/
theorem lvl_ok {tx n d : Nat} (F : clF tx n d) {L o : Nat} {X : XW} {M : MW} {s e : Nat} {C S O : List Int32} {mn : Int32} {m : Nat} (hL : L ≤ 4) (ho : o ≤ 5) (hd : 7 * (5 - o) + (6 - L) ≤ d) (h : PD tx n X M e C S o O) (htk : TK X M s e) (hsn : s ≤ n) (hO : O = C.map cvC) (hlen : S.length + O.length ≤ s) (hm : 200 ≤ m + s) (hT : tO (th L) S) (hmn : L ≤ 2 → ¬ mn = 0) (hmn2 : 2 ≤ L → X.1 7 5 = 31 → mn = 0) : ∃ v X', fX6_readFrom_b53 (fX6_readFrom d) (fX6_readOne d) X (nI L) (nI o) = some (v, X') ∧ pX tx X X' ∧ ((v = 0 ∧ BAD tx X' M (RUN m M 1 mn)) ∨ (v = 1 ∧ OKF tx n L o X' M C S (RUN m M 1 mn))) := by
  have hT1 : tO (th (L + 1)) S := fun S' x hx => by
    obtain ⟨w1, w2⟩ := hT S' x hx
    refine ⟨w1, Nat.lt_of_lt_of_le w2 ?_⟩
    unfold th
    by_cases e1 : L < 2
    · rw [if_pos e1]
      by_cases e2 : L + 1 < 2
      · rw [if_pos e2]; omega
      · rw [if_neg e2]; omega
    · rw [if_neg e1, if_neg (by omega)]; omega
  obtain ⟨v, X1, g1, g2, g3⟩ := F (L + 1) o X M s e C S O mn m (by omega) ho (by omega) h htk hsn hO hlen hm hT1 (fun z => hmn (by omega)) (fun z => hmn2 (by omega))
  have key : fX6_readFrom_b53 (fX6_readFrom d) (fX6_readOne d) X (nI L) (nI o) = lo3 (fX6_readFrom_l79 (fX6_readFrom d) (fX6_readOne d) (nI L) (nI o) (nI (if L = 2 then 1 else 160))) FU X1 v (nI 0) := by
    unfold fX6_readFrom_b53 fX6_readFrom_b74
    rw [nI_1, g1, bd2_s]
    by_cases q : L = 2
    · rw [if_pos (by rw [q]; rfl), if_pos q]; rfl
    · rw [if_neg (show ¬ nI L = 2 from fun z => q ((nI_eq (a := L) (b := 2) (by omega) (by omega)).mp z)), if_neg q]; rfl
  rw [key]
  rcases g3 with ⟨rfl, b1⟩ | ⟨rfl, M', s', e', D, Q, m', l2', O', b1, b2, b3, b4, b5, b6, b7, b8, b9, b10, b11⟩
  · refine ⟨0, X1, ?_, g2, Or.inl ⟨rfl, b1⟩⟩
    have hF : FU = 3999 + 1 := rfl
    have hs : lo3 (fX6_readFrom_l79 (fX6_readFrom d) (fX6_readOne d) (nI L) (nI o) (nI (if L = 2 then 1 else 160))) (3999 + 1) = fX6_readFrom_l79 (fX6_readFrom d) (fX6_readOne d) (nI L) (nI o) (nI (if L = 2 then 1 else 160)) (lo3 (fX6_readFrom_l79 (fX6_readFrom d) (fX6_readOne d) (nI L) (nI o) (nI (if L = 2 then 1 else 160))) 3999) := rfl
    rw [hF, hs]
    generalize lo3 (fX6_readFrom_l79 (fX6_readFrom d) (fX6_readOne d) (nI L) (nI o) (nI (if L = 2 then 1 else 160))) 3999 = G
    unfold fX6_readFrom_l79
    rw [if_pos rfl, if_pos (Or.inl rfl), ite_self]
  · obtain ⟨v', X2, w1, w2, w3⟩ := lvl_loop F hL ho hd hT FU 0 X1 M' s' e' m' D Q O' l2' (by unfold FU; omega) (Nat.zero_le _) b1 b2 b3 b5 b6 b7 (fun x hx => by
      obtain ⟨y1, y2⟩ := b8 x hx
      refine ⟨y1, Nat.le_trans ?_ y2⟩
      unfold rk
      by_cases e1 : L < 3
      · rw [if_pos e1]
        by_cases e2 : L + 1 < 3
        · rw [if_pos e2]; omega
        · rw [if_neg e2]; omega
      · rw [if_neg e1, if_neg (by omega)]; omega) (fun z _ x hx => by
      subst z
      exact (b8 x hx).2) (fun _ => Or.inl rfl) b9 b10
    refine ⟨v', X2, w1, g2.tr w2, ?_⟩
    rcases w3 with ⟨rfl, y1, ys, yM, y2, y3, y4, y5, y6⟩ | ⟨rfl, yM, ys, ye, yD, yQ, ym, yl, yO, y1, y2, y3, y4, y5, y6, y7, y8, y9, y10, y11⟩
    · exact Or.inl ⟨rfl, y1, ys, yM, y2, by rw [b4]; exact y3, y4, y5, b11.tr y6⟩
    · exact Or.inr ⟨rfl, yM, ys, ye, yD, yQ, ym, yl, yO, y1, y2, y3, by rw [b4]; exact y4, y5, y6, y7, y8, y9, y10, b11.tr y11⟩
theorem clF_suc {tx n d : Nat} (F : clF tx n d) (O1 : clO tx n d) : clF tx n (d + 1) := by
  intro L o X M s e C S O mn m hL ho hd h htk hsn hO hlen hm hT hmn hmn2
  have n160 := h.n160
  have hen := h.2.2.2.1
  have hlO := map_len hO
  show ∃ v X', fX6_readFrom_r (fX6_readFrom d) (fX6_readOne d) X (nI L) (nI o) = some (v, X') ∧ _
  unfold fX6_readFrom_r
  by_cases L5 : L = 5
  · subst L5
    rw [if_pos (show nI 5 = 5 from rfl)]
    have h0 : PD tx n X M e C (S ++ List.replicate 0 19) o O := by
      rw [show List.replicate 0 (19 : Int32) = [] from rfl, List.append_nil]; exact h
    obtain ⟨v, X', g1, g2, g3⟩ := O1 o 0 X M s e C S O mn m ho (by omega) (by omega) h0 htk hsn hO (by omega) hm hT (hmn2 (by omega))
    rw [g1, bd2_s]
    rcases g3 with ⟨rfl, b1⟩ | ⟨rfl, M', s', e', D, m', l2', b1, b2, b3, b4, b5, b6, b7, b8⟩
    · rw [if_pos (Or.inl rfl)]
      exact ⟨0, X', rfl, g2, Or.inl ⟨rfl, b1⟩⟩
    · rw [if_pos (Or.inr rfl)]
      rw [show List.replicate 0 (20011 : Int32) = [] from rfl, List.append_nil] at b1
      refine ⟨1, X', rfl, g2, Or.inr ⟨rfl, M', s', e', D, [], m', l2', (C ++ D).map cvC, ?_, b2, b3, b4, b5, List.append_nil _, b6, fun x hx => absurd hx List.not_mem_nil, ⟨fun z => by omega, fun z => by omega, fun z => by omega, fun z => by omega, fun z => by omega⟩, ?_, b8⟩⟩
      · rw [List.reverse_nil, List.append_nil]; exact b1
      · rw [List.length_map, List.length_append, List.length_nil]; omega
  rw [if_neg (show ¬ nI L = 5 from fun z => L5 ((nI_eq (a := L) (b := 5) (by omega) (by omega)).mp z))]
  by_cases L2 : L = 2
  rotate_left
  · rw [if_neg (show ¬ nI L = 2 from fun z => L2 ((nI_eq (a := L) (b := 2) (by omega) (by omega)).mp z))]
    exact lvl_ok F (by omega) ho (by omega) h htk hsn hO hlen hm hT hmn (fun z => hmn2 (by omega))
  subst L2
  rw [if_pos (show nI 2 = 2 from rfl)]
  by_cases t31 : X.1 7 5 = 31
  rotate_left
  · rw [if_neg t31]
    exact lvl_ok F (by omega) ho (by omega) h htk hsn hO hlen hm hT hmn (fun _ z => absurd z t31)
  rw [if_pos t31]
  have hse : s < e := by
    rcases htk.2.2.2.1 with z | z
    · rw [t31] at z; exact absurd z (by decide)
    · exact z
  obtain ⟨m1, rfl⟩ : ∃ q, m = q + 1 := ⟨m - 1, by omega⟩
  have tt := (tkA htk.2.2.2.2).2.2.1 t31
  have hmn0 := hmn (by omega)
  have h42 := h.2.2.2.2.2.2.1
  have o5 : nI o < 5 ↔ o < 5 := nI_ltI (b := 5) (by omega) (by omega)
  have hR : RUN (m1 + 1) M 1 mn = bd2 (fX10_opensOne M (13 : Int32)) fun v47 M46 => if v47 = 0 then some ((0 : Int32), M46) else lo3 fX10_eRead_l14 (m1 + 1) M46 1 mn := by
    unfold RUN eB
    rw [if_neg n10, tt, if_neg (by decide), if_neg (by decide), if_pos rfl, if_neg hmn0]
  by_cases h5 : o < 5
  rotate_left
  · rw [if_neg (fun z => h5 (o5.mp z))]
    refine ⟨0, X, rfl, pX.rf tx X, Or.inl ⟨rfl, h.bad (by omega), s, M, htk.1, ?_, htk.2.1, by omega, pM.rf tx M⟩⟩
    rw [hR]
    unfold fX10_opensOne
    rw [h42, show o = 5 by omega, if_pos (show nI 5 = 5 from rfl), bd2_s, if_pos rfl]
  rw [if_pos (o5.mpr h5)]
  obtain ⟨M1, p1, p2, p3, p4⟩ := mopen h (by omega) h5 13
  obtain ⟨X2, M2, s2, e2, a1, a2, a3, a4, a5, a6, a7, a8⟩ := adv p2
  have v13 : VV 13 ∧ rN 13 = 3 := ⟨by unfold VV; decide, by decide⟩
  have hT1 : tO (th 2) (S ++ [13]) := fun S' x hx => by
    have := List.append_inj_right' hx rfl
    have hx : (13 : Int32) = x := by simpa using this
    subst hx
    exact ⟨v13.1, by rw [v13.2]; decide⟩
  obtain ⟨v, X3, g1, g2, g3⟩ := F 2 (o + 1) X2 M2 s2 e2 C (S ++ [13]) O mn m1 (by omega) (by omega) (by omega) a3 a4 a6 hO (by rw [List.length_append, List.length_singleton]; omega) (by omega) hT1 (fun _ => hmn0) (fun z => by omega)
  have g1 : fX6_readFrom d X2 2 (nI (o + 1)) = some (v, X3) := g1
  have hR2 : RUN (m1 + 1) M 1 mn = RUN m1 M2 1 mn := by rw [hR, p1, bd2_s, if_neg n10, kstep a2]
  rw [a1, Option.bind_some, nI_1, g1, bd2_s]
  rcases g3 with ⟨rfl, b1, s', M', b2, b3, b4, b5, b6⟩ | ⟨rfl, M', s', e', D, Q, m', l2', O', b1, b2, b3, b4, b5, b6, b7, b8, b9, b10, b11⟩
  · obtain ⟨X4, c1, c2, c3, c4⟩ := bemit b1 31
    rw [c1, Option.bind_some, if_pos (Or.inl rfl)]
    exact ⟨0, X4, rfl, (a7.tr g2).tr c3, Or.inl ⟨rfl, c2, s', M', by rw [c4]; exact b2, by rw [hR2]; exact b3, b4, b5, (p4.tr a8).tr b6⟩⟩
  · have hlD : O'.length + Q.length = C.length + D.length := by
      have := congrArg List.length b6
      rw [List.length_append, List.length_map, List.length_append] at this
      exact this
    rw [List.length_append, List.length_singleton] at b10
    obtain ⟨X4, c1, c2, c3, c4⟩ := cemit b1 (by rw [List.length_append]; omega) 31
    rw [c1, Option.bind_some, if_pos (Or.inr rfl)]
    have e31 : (20000 : Int32) + 31 = 20031 := by decide
    have hst : S ++ [13] ++ Q.reverse = S ++ (Q ++ [13]).reverse := by simp
    have hcn : o + 1 + cN Q = o + cN (Q ++ [13]) := by
      rw [cN_app]
      show _ = o + (cN Q + ((if (13 : Int32) = 13 ∨ (13 : Int32) = 19 then 1 else 0) + 0))
      rw [if_pos (Or.inl rfl)]
      omega
    rw [e31, hst, hcn, List.append_assoc C D [20031]] at c2
    refine ⟨1, X4, rfl, (a7.tr g2).tr c3, Or.inr ⟨rfl, M', s', e', D ++ [20031], Q ++ [13], m', l2', O', c2, ?_, b3, by rw [hR2]; exact b4, b5, ?_, b7.un (by decide), fun x hx => ?_, by rw [c4]; exact b9.app 13, by rw [List.length_append, List.length_singleton]; omega, (p4.tr a8).tr b11⟩⟩
    · unfold TK at b2 ⊢
      rw [c4]; exact b2
    · rw [← List.append_assoc, ← List.append_assoc, List.map_append, ← b6]
      show O' ++ Q ++ [13] = O' ++ Q ++ [cvC 20031]
      rw [show cvC 20031 = 13 by decide]
    · rcases List.mem_append.mp hx with z | z
      · exact b8 x z
      · have : x = 13 := by simpa using z
        subst this
        exact ⟨v13.1, by rw [v13.2]; decide⟩
theorem cl_all (tx n : Nat) : ∀ d, clF tx n d ∧ clO tx n d := by
  intro d
  induction d with
  | zero => exact ⟨fun L o X M s e C S O mn m h1 h2 h3 => by omega, fun o k X M s e C S O mn m h1 h2 h3 => by omega⟩
  | succ d ih => exact ⟨clF_suc ih.1 ih.2, clO_suc ih.1 ih.2⟩

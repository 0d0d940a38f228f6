/-! one ONE -/
theorem tkA {c num t v : Int32} (h : tkR c num t v) : (c = 7 → t = 45) ∧ (c = 3 → t = 40) ∧ (c = 31 → t = 6) ∧ (c = 4 → t = 41) ∧ (c = 5 → t = 59) ∧ (¬ c = 7 → ¬ c = 3 → ¬ c = 2 → fX9_within c 20 25 = 0 → ¬ t = 1 ∧ ¬ t = 2 ∧ ¬ t = 45 ∧ ¬ t = 40 ∧ (t = 6 → c = 31)) ∧ (c = 0 ↔ t = 0) := by
  unfold tkR at h
  rcases h with ⟨rfl, rfl⟩ | ⟨rfl, rfl⟩ | ⟨rfl, rfl, -⟩ | ⟨rfl, rfl⟩ | ⟨rfl, rfl⟩ | ⟨rfl, rfl⟩ | ⟨rfl, rfl⟩ | ⟨rfl, rfl⟩ | ⟨rfl, rfl⟩ | ⟨rfl, rfl⟩ | ⟨rfl, rfl⟩ | ⟨k, hk, rfl, rfl, -⟩ | ⟨k, hk, rfl, rfl, -⟩ | ⟨rfl, rfl⟩ | ⟨rfl, rfl⟩ | ⟨rfl, rfl⟩
  · decide
  · decide
  · decide
  · decide
  · decide
  · decide
  · decide
  · decide
  · decide
  · decide
  · decide
  · have : k = 0 ∨ k = 1 ∨ k = 2 ∨ k = 3 ∨ k = 4 ∨ k = 5 := by omega
    rcases this with rfl | rfl | rfl | rfl | rfl | rfl <;> decide
  · have : k = 0 ∨ k = 1 ∨ k = 2 := by omega
    rcases this with rfl | rfl | rfl <;> decide
  · decide
  · decide
  · decide
theorem tk2 {c num t v : Int32} (h : tkR c num t v) (hc : c = 2) : t = 1 ∧ ∃ k, k < 10000 ∧ num = nI k ∧ v = nI k := by
  subst hc
  unfold tkR at h
  rcases h with ⟨q, -⟩ | ⟨q, -⟩ | ⟨-, q1, q2⟩ | ⟨q, -⟩ | ⟨q, -⟩ | ⟨q, -⟩ | ⟨q, -⟩ | ⟨q, -⟩ | ⟨q, -⟩ | ⟨q, -⟩ | ⟨q, -⟩ | ⟨k, hk, q, -⟩ | ⟨k, hk, q, -⟩ | ⟨q, -⟩ | ⟨q, -⟩ | ⟨q, -⟩
  case inr.inr.inl => exact ⟨q1, q2⟩
  case inr.inr.inr.inr.inr.inr.inr.inr.inr.inr.inr.inl =>
    have := (nI_eq (a := 2) (b := 20 + k) (by omega) (by omega)).mp q
    omega
  case inr.inr.inr.inr.inr.inr.inr.inr.inr.inr.inr.inr.inl =>
    have := (nI_eq (a := 2) (b := 26 + k) (by omega) (by omega)).mp q
    omega
  all_goals exact absurd q (by decide)
theorem tkN {c num t v : Int32} (h : tkR c num t v) (hc : ¬ fX9_within c 20 25 = 0) : ∃ k, k < 6 ∧ c = nI (20 + k) ∧ t = 2 ∧ v = nI k := by
  unfold tkR at h
  rcases h with ⟨q, -⟩ | ⟨q, -⟩ | ⟨q, -⟩ | ⟨q, -⟩ | ⟨q, -⟩ | ⟨q, -⟩ | ⟨q, -⟩ | ⟨q, -⟩ | ⟨q, -⟩ | ⟨q, -⟩ | ⟨q, -⟩ | q | ⟨k, hk, q, -⟩ | ⟨q, -⟩ | ⟨q, -⟩ | ⟨q, -⟩
  case inr.inr.inr.inr.inr.inr.inr.inr.inr.inr.inr.inl => exact q
  case inr.inr.inr.inr.inr.inr.inr.inr.inr.inr.inr.inr.inl =>
    have w := (wi_ne hc).2
    rw [q, nI_toInt (by omega)] at w
    have e25 : (25 : Int32).toInt = 25 := rfl
    omega
  all_goals exact absurd (by rw [q]; decide) hc
theorem ki_num {k : Nat} (hk : k < 10000) : kiC (nI k) = 0 ∧ cvC (nI k) = 100000 + nI k := by
  have e1 : (9999 : Int32).toInt = 9999 := rfl
  have e2 : (10000 : Int32).toInt = 10000 := rfl
  have e0 : (0 : Int32).toInt = 0 := rfl
  have hn := nI_toInt (n := k) (by omega)
  exact ⟨if_pos (Or.inl (by rw [i_le, i_le, hn]; omega)), if_pos (by rw [i_lt, hn]; omega)⟩
theorem ki_nam : ∀ k : Fin 6, kiC (10000 + nI (20 + k.1) - 20) = 0 ∧ cvC (10000 + nI (20 + k.1) - 20) = nI k.1 := by decide +kernel
theorem map_len {C O : List Int32} (h : O = C.map cvC) : O.length = C.length := by rw [h, List.length_map]
theorem cN_rep : ∀ k, cN (List.replicate k 19) = k := by
  intro k
  induction k with
  | zero => rfl
  | succ k ih =>
    show (if (19 : Int32) = 13 ∨ (19 : Int32) = 19 then 1 else 0) + cN (List.replicate k 19) = k + 1
    rw [ih, if_pos (by decide)]; omega
theorem vv19 : VV 19 ∧ 7 ≤ rN 19 := ⟨by unfold VV; decide, by decide⟩
theorem vv0 : VV 0 ∧ rN 0 < 1 := ⟨by unfold VV; decide, by decide⟩
/-- an operand -/
theorem ope {tx n : Nat} {X : XW} {M : MW} {s e : Nat} {C S O : List Int32} {o k m1 : Nat} {c : Int32} (l2 : Int32) (h : PD tx n X M e C (S ++ List.replicate k 19) o O) (hse : s < e) (hko : k ≤ o) (ho : o ≤ 5) (hO : O = C.map cvC) (hlen : S.length + k + O.length ≤ s) (hm : 200 ≤ m1 + 1 + s) (hT : tO 7 S) (hc : kiC c = 0) : ∃ X6, ((fX5_add X (47 + 3 * tx) c).bind fun X33 => (fX6_advance X33).bind fun X6 => some ((1 : Int32), X6)) = some (1, X6) ∧ pX tx X X6 ∧ OKO tx n o k X6 M C S ((fX10_puts M (cvC c)).bind fun M31 => (fX10_unwinds M31 7).bind fun M33 => lo3 fX10_eRead_l14 (m1 + 1) M33 0 l2) := by
  have n160 := h.n160
  have hen := h.2.2.2.1
  have hlO := map_len hO
  obtain ⟨X1, g1, g2, g3, -⟩ := cadd h (by omega) c
  obtain ⟨M1, k1, k2, k3, k4, -⟩ := mputs g2 (by omega) (cvC c)
  have hrev : (List.replicate k (19 : Int32)).reverse = List.replicate k 19 := List.reverse_replicate
  have k2' : PD tx n X1 M1 e (C ++ [c]) (S ++ (List.replicate k (19 : Int32)).reverse) (o - k + cN (List.replicate k 19)) (O ++ [cvC c]) := by
    rw [hrev, cN_rep, show o - k + k = o by omega]; exact k2
  obtain ⟨M2, u1, u2, u3, u4⟩ := munw (r := 7) k2' (by omega) hT (fun x hx => by
    have := List.eq_of_mem_replicate hx
    subst this
    exact vv19) (by rw [List.length_replicate, List.length_append, List.length_singleton]; omega) (by omega)
  have u1 : fX10_unwinds M1 7 = some M2 := u1
  obtain ⟨X6, M6, s6, e6, a1, a2, a3, a4, a5, a6, a7, a8⟩ := adv u2
  refine ⟨X6, ?_, g3.tr a7, M6, s6, e6, [c], m1, l2, ?_, a4, a6, ?_, by omega, EC.one hc, ?_, (k4.tr u4).tr a8⟩
  · rw [g1, Option.bind_some, a1, Option.bind_some]
  · have hmp : (C ++ [c] ++ List.replicate k (20011 : Int32)).map cvC = O ++ [cvC c] ++ List.replicate k 19 := by
      rw [List.map_append, List.map_append, List.map_replicate, hO, show cvC 20011 = 19 by decide]; rfl
    rw [hmp]
    exact a3
  · rw [k1, Option.bind_some, u1, Option.bind_some, kstep a2]
  · rw [List.length_singleton]; omega
theorem clO_suc {tx n d : Nat} (F : clF tx n d) (O1 : clO tx n d) : clO tx n (d + 1) := by
  intro o k X M s e C S O mn m ho hko hd h htk hsn hO hlen hm hT hmn
  have n160 := h.n160
  have hen := h.2.2.2.1
  have hlO := map_len hO
  obtain ⟨m1, rfl⟩ : ∃ q, m = q + 1 + 1 := ⟨m - 2, by omega⟩
  obtain ⟨t7, t3, t31, t4, t5, tot, -⟩ := tkA htk.2.2.2.2
  have hptr := h.1.2.1
  have htx := h.1.2.2.2
  show ∃ v X', fX6_readOne_r (fX6_readFrom d) (fX6_readOne d) X (nI o) = some (v, X') ∧ _
  have hbad : bad tx X := h.bad (by omega)
  have fail : (RUN (m1 + 1 + 1) M 1 mn = some (0, M)) → ∃ v X', some ((0 : Int32), X) = some (v, X') ∧ pX tx X X' ∧ ((v = 0 ∧ BAD tx X' M (RUN (m1 + 1 + 1) M 1 mn)) ∨ (v = 1 ∧ OKO tx n o k X' M C S (RUN (m1 + 1 + 1) M 1 mn))) := fun q => ⟨0, X, rfl, pX.rf tx X, Or.inl ⟨rfl, hbad, s, M, htk.1, q, htk.2.1, by omega, pM.rf tx M⟩⟩
  have o5 : nI o < 5 ↔ o < 5 := nI_ltI (b := 5) (by omega) (by omega)
  have h42 := h.2.2.2.2.2.2.1
  dsimp only [fX6_readOne_r, fX6_readOne_b14, fX6_readOne_b27, fX6_readOne_b138, bd]
  by_cases q7 : X.1 7 5 = 7
  · have hse : s < e := by
      rcases htk.2.2.2.1 with z | z
      · rw [q7] at z; exact absurd z (by decide)
      · exact z
    have hR : RUN (m1 + 1 + 1) M 1 mn = bd2 (fX10_opensOne M (19 : Int32)) fun v42 M41 => if v42 = 0 then some ((0 : Int32), M41) else lo3 fX10_eRead_l14 (m1 + 1 + 1) M41 1 0 := by
      unfold RUN eB fX10_eRead_b99
      rw [if_neg n10, t7 q7, if_neg (by decide), if_neg (by decide), if_neg (by decide), if_pos rfl]
    rw [if_pos q7, if_neg n10]
    by_cases h5 : o < 5
    rotate_left
    · rw [if_neg (fun z => h5 (o5.mp z))]
      refine fail ?_
      rw [hR]
      unfold fX10_opensOne
      rw [h42, show o = 5 by omega, if_pos (show nI 5 = 5 from rfl), bd2_s, if_pos rfl]
    rw [if_pos (o5.mpr h5)]
    obtain ⟨M1, p1, p2, p3, p4⟩ := mopen h (by rw [List.length_append, List.length_replicate]; omega) h5 19
    obtain ⟨X2, M2, s2, e2, a1, a2, a3, a4, a5, a6, a7, a8⟩ := adv p2
    have hst : S ++ List.replicate k (19 : Int32) ++ [19] = S ++ List.replicate (k + 1) 19 := by rw [List.replicate_succ', List.append_assoc]
    rw [hst] at a3
    obtain ⟨v, X3, g1, g2, g3⟩ := O1 (o + 1) (k + 1) X2 M2 s2 e2 C S O 0 (m1 + 1) (by omega) (by omega) (by omega) a3 a4 a6 hO (by omega) (by omega) hT (fun _ => rfl)
    have hR2 : RUN (m1 + 1 + 1) M 1 mn = RUN (m1 + 1) M2 1 0 := by rw [hR, p1, bd2_s, if_neg n10, kstep a2]
    rw [a1, Option.bind_some, if_neg n10, nI_1, g1, bd2_s]
    rcases g3 with ⟨rfl, b1, s', M', b2, b3, b4, b5, b6⟩ | ⟨rfl, M', s', e', D, m', l2', b1, b2, b3, b4, b5, b6, b7, b8⟩
    · obtain ⟨X4, c1, c2, c3, c4⟩ := bemit b1 11
      rw [c1, Option.bind_some, if_pos (Or.inl rfl)]
      exact ⟨0, X4, rfl, (a7.tr g2).tr c3, Or.inl ⟨rfl, c2, s', M', by rw [c4]; exact b2, by rw [hR2]; exact b3, b4, b5, (p4.tr a8).tr b6⟩⟩
    · obtain ⟨X4, c1, c2, c3, c4⟩ := cemit b1 (by rw [List.length_append]; omega) 11
      rw [c1, Option.bind_some, if_pos (Or.inr rfl)]
      have e11 : (20000 : Int32) + 11 = 20011 := by decide
      rw [e11] at c2
      refine ⟨1, X4, rfl, (a7.tr g2).tr c3, Or.inr ⟨rfl, M', s', e', D ++ [20011], m', l2', ?_, ?_, b3, by rw [hR2]; exact b4, b5, b6.un (by decide), ?_, (p4.tr a8).tr b8⟩⟩
      · rw [show o + 1 - (k + 1) = o - k by omega, show C ++ D ++ List.replicate (k + 1) (20011 : Int32) = C ++ (D ++ [20011]) ++ List.replicate k 20011 by simp [List.replicate_succ], List.append_assoc C D [20011]] at c2
        exact c2
      · unfold TK at b2 ⊢
        rw [c4]; exact b2
      · rw [List.length_append, List.length_singleton]; omega
  rw [if_neg q7, if_pos rfl]
  by_cases q3 : X.1 7 5 = 3
  · have hse : s < e := by
      rcases htk.2.2.2.1 with z | z
      · rw [q3] at z; exact absurd z (by decide)
      · exact z
    have hR : RUN (m1 + 1 + 1) M 1 mn = bd2 (fX10_opensOne M (0 : Int32)) fun v42 M41 => if v42 = 0 then some ((0 : Int32), M41) else lo3 fX10_eRead_l14 (m1 + 1 + 1) M41 1 1 := by
      unfold RUN eB fX10_eRead_b99
      rw [if_neg n10, t3 q3, if_neg (by decide), if_neg (by decide), if_neg (by decide), if_neg (by decide), if_pos rfl]
    rw [if_pos q3]
    by_cases h5 : o < 5
    rotate_left
    · rw [if_neg (fun z => h5 (o5.mp z))]
      refine fail ?_
      rw [hR]
      unfold fX10_opensOne
      rw [h42, show o = 5 by omega, if_pos (show nI 5 = 5 from rfl), bd2_s, if_pos rfl]
    rw [if_pos (o5.mpr h5)]
    have hl1 : (S ++ List.replicate k (19 : Int32)).length = S.length + k := by rw [List.length_append, List.length_replicate]
    obtain ⟨M1, p1, p2, p3, p4⟩ := mopen h (by omega) h5 0
    obtain ⟨X2, M2, s2, e2, a1, a2, a3, a4, a5, a6, a7, a8⟩ := adv p2
    have hl2 : (S ++ List.replicate k (19 : Int32) ++ [0]).length = S.length + k + 1 := by rw [List.length_append, hl1, List.length_singleton]
    have hT0 : tO 1 (S ++ List.replicate k (19 : Int32) ++ [0]) := fun S' x hx => by
      have := List.append_inj_right' hx rfl
      have hx : (0 : Int32) = x := by simpa using this
      subst hx
      exact vv0
    obtain ⟨v, X3, g1, g2, g3⟩ := F 0 (o + 1) X2 M2 s2 e2 C _ O 1 (m1 + 1) (by omega) (by omega) (by omega) a3 a4 a6 hO (by omega) (by omega) hT0 (fun _ => n10) (fun z => by omega)
    have g1 : fX6_readFrom d X2 0 (nI (o + 1)) = some (v, X3) := g1
    have hR2 : RUN (m1 + 1 + 1) M 1 mn = RUN (m1 + 1) M2 1 1 := by rw [hR, p1, bd2_s, if_neg n10, kstep a2]
    rw [a1, Option.bind_some, if_pos rfl, nI_1, g1, bd2_s]
    rcases g3 with ⟨rfl, b1, s', M', b2, b3, b4, b5, b6⟩ | ⟨rfl, M', s', e', D, Q, m', l2', O', b1, b2, b3, b4, b5, b6, b7, b8, b9, b10, b11⟩
    · rw [if_pos rfl]
      exact ⟨0, X3, rfl, a7.tr g2, Or.inl ⟨rfl, b1, s', M', b2, by rw [hR2]; exact b3, b4, b5, (p4.tr a8).tr b6⟩⟩
    rw [if_neg n10]
    have hlD : O'.length + Q.length = C.length + D.length := by
      have := congrArg List.length b6
      rw [List.length_append, List.length_map, List.length_append] at this
      exact this
    have hQ1 : ∀ x, x ∈ Q → VV x ∧ 1 ≤ rN x := fun x hx => ⟨(b8 x hx).1, (b8 x hx).2⟩
    by_cases q4 : X3.1 7 5 = 4
    rotate_left
    · rw [if_neg q4]
      obtain ⟨M4, r1, r2, r3⟩ := eb_end m' l2' b1 b2 hT0 hQ1 b9 (by omega) (by omega) (fun z => absurd z q4) (fun _ z => by rw [z] at hl2; simp at hl2)
      exact ⟨0, X3, rfl, a7.tr g2, Or.inl ⟨rfl, b1.bad (by rw [List.length_append]; omega), s', M4, b2.1, by rw [hR2, b4]; exact r1, r2.trans b2.2.1, by omega, ((p4.tr a8).tr b11).tr r3⟩⟩
    · rw [if_pos q4]
      have hse' : s' < e' := by
        rcases b2.2.2.2.1 with z | z
        · rw [q4] at z; exact absurd z (by decide)
        · exact z
      have he' := b1.2.2.2.1
      obtain ⟨m2, rfl⟩ : ∃ q, m' = q + 1 := ⟨m' - 1, by omega⟩
      obtain ⟨M4, r1, r2, r3, r4⟩ := munw (r := 1) b1 (by omega) hT0 hQ1 (by omega) (by omega)
      have r1 : fX10_unwinds M' 1 = some M4 := r1
      obtain ⟨w1, w2, w3, w4⟩ := r2.pop
      rw [hl1] at w1 w2 w4
      obtain ⟨w5, w6⟩ := w1.m42 o
      have hrev : (List.replicate k (19 : Int32)).reverse = List.replicate k 19 := List.reverse_replicate
      have w7 : PD tx n X3 (mI (mI M4 41 (nI (S.length + k))) 42 (nI o)) e' (C ++ D) (S ++ (List.replicate k (19 : Int32)).reverse) (o - k + cN (List.replicate k 19)) (O' ++ Q) := by
        rw [hrev, cN_rep, show o - k + k = o by omega]; exact w5
      obtain ⟨M5, u1, u2, u3, u4⟩ := munw (r := 7) w7 (by omega) hT (fun x hx => by
        have := List.eq_of_mem_replicate hx
        subst this
        exact vv19) (by rw [List.length_replicate, List.length_append]; omega) (by omega)
      have u1 : fX10_unwinds (mI (mI M4 41 (nI (S.length + k))) 42 (nI o)) 7 = some M5 := u1
      obtain ⟨X6, M6, s6, e6, v1, v2, v3, v4, v5, v6, v7, v8⟩ := adv u2
      have tk4 := (tkA b2.2.2.2.2).2.2.2.1 q4
      rw [v1, Option.bind_some]
      have h421 : (mI M4 41 (nI (S.length + k))).1 42 - 1 = nI o := by
        rw [mI_ne _ _ (by decide), r2.2.2.2.2.2.2.1]; exact nI_pred o
      refine ⟨1, X6, rfl, (a7.tr g2).tr v7, Or.inr ⟨rfl, M6, s6, e6, D, m2, l2', ?_, v4, v6, ?_, by omega, b7, by omega, (((((p4.tr a8).tr b11).tr r4).tr w2).tr w6).tr (u4.tr v8)⟩⟩
      · rw [show (C ++ D ++ List.replicate k (20011 : Int32)).map cvC = O' ++ Q ++ List.replicate k 19 by
          rw [List.map_append, ← b6, List.map_replicate, show cvC 20011 = 19 by decide]]
        exact v3
      · rw [hR2, b4]
        have : RUN (m2 + 1) M' 0 l2' = (fX10_unwinds M' (1 : Int32)).bind fun M17 => if (M17.1 41) = 0 then some ((0 : Int32), M17) else bd (mI M17 41 ((M17.1 41) - (1 : Int32))) fun M19 => bd (mI M19 42 ((M19.1 42) - (1 : Int32))) fun M21 => (fX10_unwinds M21 (7 : Int32)).bind fun M23 => lo3 fX10_eRead_l14 (m2 + 1) M23 0 l2' := by
          unfold RUN eB
          rw [if_pos rfl, tk4, if_neg (by decide), if_pos rfl]
        rw [this, r1, Option.bind_some, w4, if_neg (nI_ne0 (by omega) (by omega)), bd, show nI (S.length + k + 1) - 1 = nI (S.length + k) from nI_pred _, bd, h421, u1, Option.bind_some, kstep v2]
  rw [if_neg q3]
  by_cases q2 : X.1 7 5 = 2
  · have hse : s < e := by
      rcases htk.2.2.2.1 with z | z
      · rw [q2] at z; exact absurd z (by decide)
      · exact z
    obtain ⟨tt, j, hj, j1, j2⟩ := tk2 htk.2.2.2.2 q2
    obtain ⟨i1, i2⟩ := ki_num hj
    obtain ⟨X6, p1, p2, p3⟩ := ope mn h hse hko ho hO hlen hm hT i1
    rw [if_pos q2, hptr, Option.bind_some, if_pos (kd_pr htx), j1, p1]
    refine ⟨1, X6, rfl, p2, Or.inr ⟨rfl, ?_⟩⟩
    have hR : RUN (m1 + 1 + 1) M 1 mn = (fX10_puts M (cvC (nI j))).bind fun M31 => (fX10_unwinds M31 7).bind fun M33 => lo3 fX10_eRead_l14 (m1 + 1 + 1) M33 0 mn := by
      unfold RUN eB fX10_eRead_b38 fX10_eRead_b61
      rw [if_neg n10, tt, if_pos rfl, if_pos rfl, j2, i2]
    rw [hR]
    exact p3
  rw [if_neg q2]
  by_cases qn : fX9_within (X.1 7 5) 20 25 = 0
  · rw [if_pos qn]
    refine fail ?_
    obtain ⟨z1, z2, z3, z4, z5⟩ := tot q7 q3 q2 qn
    exact eb_w _ M mn z1 z2 z3 z4 (fun z => hmn (z5 z))
  · rw [if_neg qn]
    obtain ⟨j, hj, j1, j2, j3⟩ := tkN htk.2.2.2.2 qn
    have hse : s < e := by
      rcases htk.2.2.2.1 with z | z
      · rw [j1] at z
        have := (nI_eq (a := 20 + j) (b := 0) (by omega) (by omega)).mp z
        omega
      · exact z
    obtain ⟨i1, i2⟩ := ki_nam ⟨j, hj⟩
    have i1 : kiC (10000 + nI (20 + j) - 20) = 0 := i1
    have i2 : cvC (10000 + nI (20 + j) - 20) = nI j := i2
    obtain ⟨X6, p1, p2, p3⟩ := ope mn h hse hko ho hO hlen hm hT i1
    rw [hptr, Option.bind_some, if_pos (kd_pr htx), j1, p1]
    refine ⟨1, X6, rfl, p2, Or.inr ⟨rfl, ?_⟩⟩
    have hR : RUN (m1 + 1 + 1) M 1 mn = (fX10_puts M (cvC (10000 + nI (20 + j) - 20))).bind fun M31 => (fX10_unwinds M31 7).bind fun M33 => lo3 fX10_eRead_l14 (m1 + 1 + 1) M33 0 mn := by
      unfold RUN eB fX10_eRead_b38 fX10_eRead_b61
      rw [if_neg n10, j2, if_neg (by decide), if_pos rfl, if_neg (by decide), j3, i2]
    rw [hR]
    exact p3

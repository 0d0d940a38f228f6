def fX9_leastDue_l28 (rX9_dueWith : XW → Nat → Int32 → Nat → Int32 → Int32 → Int32 → Int32 → Int32 → Option (Int32 × XW)) (nb : Nat) (l1f28 : Nat) (l2f28 : Int32) (l3f28 : Int32) (l4f28 : Int32) (l5f28 : Int32) (l6f28 : Int32) (K28 : XW → Int32 → Int32 → Option (Int32 × XW)) (X : XW) (l7 : Int32) (l8 : Int32) : Option (Int32 × XW) :=
  if (5 : Int32) ≤ l8 then some (l7, X)
  else bd2 (rX9_dueWith X nb l8 l1f28 l2f28 l3f28 l4f28 l5f28 l6f28) fun v5 X4 =>
  bd (jmin l7 v5) fun v7 =>
  K28 X4 v7 (l8 + (1 : Int32))
def fX9_leastDue_r (rX9_dueWith : XW → Nat → Int32 → Nat → Int32 → Int32 → Int32 → Int32 → Int32 → Option (Int32 × XW)) (X : XW) (nb : Nat) (l1 : Nat) (l2 : Int32) (l3 : Int32) (l4 : Int32) (l5 : Int32) (l6 : Int32) : Option (Int32 × XW) :=
  if l5 < l6 then bd2 (rX9_dueWith X nb (0 : Int32) l1 l2 l3 l4 l5 l6) fun v2 X1 =>
  lo3 (fX9_leastDue_l28 rX9_dueWith nb l1 l2 l3 l4 l5 l6) FU X1 v2 (1 : Int32)
  else some ((0 : Int32), X)
set_option maxRecDepth 100000 in
set_option maxHeartbeats 4000000 in
theorem c_X9_leastDue_r {l : Launch} {s0 : State} {D : va_G} {ev : Nat → Nat} (G0 : Gl s0 D ev) {X : XW} {M : MW} {nb : Nat} {l1 : Nat} {l2 : Int32} {l3 : Int32} {l4 : Int32} {l5 : Int32} {l6 : Int32} {r' : Int32} {X' : XW}  {d9 : Nat} {rX9_dueWith : XW → Nat → Int32 → Nat → Int32 → Int32 → Int32 → Int32 → Int32 → Option (Int32 × XW)} (IH_X9_dueWith : ∀ {X1 : XW} {X2 : XW} {q1 : Int32} {q2 : Nat} {q3 : Int32} {q4 : Int32} {q5 : Int32} {q6 : Int32} {q7 : Int32} {r2 : Int32}, rX9_dueWith X1 nb q1 q2 q3 q4 q5 q6 q7 = some (r2, X2) → CT l s0 D ev yX9_dueWith cX9_dueWith 13 (some .int) (4 + 2 * d9 + 1) 0 0 [.ref (ev 0 + 0), .int q1, .ref (ev 0 + q2), .int q3, .int q4, .int q5, .int q6, .int q7] (cells ev X1 M nb) (QI s0 D ev r2 (cells ev X2 M nb))) (h : fX9_leastDue_r rX9_dueWith X nb l1 l2 l3 l4 l5 l6 = some (r', X')) : CT l s0 D ev yX9_leastDue cX9_leastDue 9 (some .int) (4 + 2 * d9 + 2) 0 0 [.ref (ev 0 + 0), .ref (ev 0 + l1), .int l2, .int l3, .int l4, .int l5, .int l6] (cells ev X M nb) (QI s0 D ev r' (cells ev X' M nb)) := by
  refine ct_of G0 (by decide) (Nat.le_of_ble_eq_true rfl) ?_
  intro p9 e9 s9 m9 args9 below9 meth9 c9 F hr9 hl9 hin9 hargs9 hts9
  have L28 : ∀ (l1f28 : Nat) (l2f28 : Int32) (l3f28 : Int32) (l4f28 : Int32) (l5f28 : Int32) (l6f28 : Int32) (N28 : Nat) (X : XW) (l7 : Int32) (l8 : Int32), lo3 (fX9_leastDue_l28 rX9_dueWith nb l1f28 l2f28 l3f28 l4f28 l5f28 l6f28) N28 X l7 l8 = some (r', X') → GJ p9 l e9 (rg (4 + 2 * d9 + 2) 0 0) s9 m9 args9 below9 meth9 c9 (MQ below9 (QI s0 D ev r' (cells ev X' M nb)) args9 s9 0 0 (frA ev)) s0 D ev 9 0 0 28 [(0, .ref (ev 0 + 0)), (1, .ref (ev 0 + l1f28)), (2, .int l2f28), (3, .int l3f28), (4, .int l4f28), (5, .int l5f28), (6, .int l6f28), (7, .int l7), (8, .int l8)] ([]) (cells ev X M nb) := by
    intro l1f28 l2f28 l3f28 l4f28 l5f28 l6f28 N28
    induction N28 with
    | zero => intro X l7 l8 h; cases h
    | succ N28 ih28 =>
      intro X l7 l8 h
      change fX9_leastDue_l28 rX9_dueWith nb l1f28 l2f28 l3f28 l4f28 l5f28 l6f28 (lo3 (fX9_leastDue_l28 rX9_dueWith nb l1f28 l2f28 l3f28 l4f28 l5f28 l6f28) N28) X l7 l8 = some (r', X') at h
      rw [fX9_leastDue_l28] at h
      refine g_iload (i := 8) F dX9_leastDue_28 rfl ?_
      refine g_iconst F dX9_leastDue_30 (v := 5) (by decide) ?_
      refine g_icmp_ge (tgt := 62) F dX9_leastDue_31 (by decide) h (fun a9 h => ?_) (fun a9 h => ?_)
      · refine g_iload (i := 7) F dX9_leastDue_62 rfl ?_
        have hp := Prod.mk.inj (Option.some.inj h)
        exact g_iret F hr9 rfl hl9 hp.1 (by rw [hp.2]) (by decide) (by decide) dX9_leastDue_64
      · refine g_iload (i := 7) F dX9_leastDue_34 rfl ?_
        refine g_aload_n (i := 0) F dX9_leastDue_36 rfl rfl ?_
        refine g_iload (i := 8) F dX9_leastDue_37 rfl ?_
        refine g_aload_n (i := 1) F dX9_leastDue_39 rfl rfl ?_
        refine g_iload_n (i := 2) F dX9_leastDue_40 rfl rfl ?_
        refine g_iload_n (i := 3) F dX9_leastDue_41 rfl rfl ?_
        refine g_iload (i := 4) F dX9_leastDue_42 rfl ?_
        refine g_iload (i := 5) F dX9_leastDue_44 rfl ?_
        refine g_iload (i := 6) F dX9_leastDue_46 rfl ?_
        obtain ⟨v5, X4, e6, h⟩ := bd2_at h
        refine g_callVI F (mcR := 0) (msR := 0) (id := 0) (cells_at (kd_lit (i := 0) (by decide)) (xc_9 rfl)) (ci := 9) rfl rfl rfl (IH_X9_dueWith e6) wd_38_12 wd_38_9 wd_38_10 wd_38_11 wd_1_2 ⟨by decide, by decide⟩ (nn := 7) (by decide) (As := [.int l8, .ref (ev 0 + l1f28), .int l2f28, .int l3f28, .int l4f28, .int l5f28, .int l6f28]) rfl rfl (Nat.le_of_ble_eq_true rfl) (by omega) (by omega) ⟨by decide, by decide⟩ dX9_leastDue_48 ?_
        refine g_mmin F wd_16_19 wd_16_20 wd_16_21 wd_16_22 (show 1 ≤ (4 + 2 * d9 + 2) by omega) (Nat.le_trans (m := 40) (Nat.le_of_ble_eq_true rfl) (show 40 ≤ 40 * (4 + 2 * d9 + 2) by omega)) (Nat.zero_le _) (Nat.zero_le _) dX9_leastDue_51 ?_
        refine g_topi F h (fun v7 e8 h => ?_)
        refine g_istore (i := 7) (lv' := [(7, .int v7), (0, .ref (ev 0 + 0)), (1, .ref (ev 0 + l1f28)), (2, .int l2f28), (3, .int l3f28), (4, .int l4f28), (5, .int l5f28), (6, .int l6f28), (8, .int l8)]) F dX9_leastDue_54 (by decide) rfl ?_
        refine g_iinc (i := 8) (v := (l8 + (1 : Int32))) (lv' := [(8, .int (l8 + (1 : Int32))), (7, .int v7), (0, .ref (ev 0 + 0)), (1, .ref (ev 0 + l1f28)), (2, .int l2f28), (3, .int l3f28), (4, .int l4f28), (5, .int l5f28), (6, .int l6f28)]) F dX9_leastDue_56 rfl rfl (by decide) rfl ?_
        refine g_goto (tgt := 28) F dX9_leastDue_59 (by decide) ?_
        refine g_lv (lv' := [(0, .ref (ev 0 + 0)), (1, .ref (ev 0 + l1f28)), (2, .int l2f28), (3, .int l3f28), (4, .int l4f28), (5, .int l5f28), (6, .int l6f28), (7, .int v7), (8, .int (l8 + (1 : Int32)))]) ⟨rfl, rfl, rfl, rfl, rfl, rfl, rfl, rfl, rfl, trivial⟩ ?_
        exact ih28 _ _ _ h
  rw [fX9_leastDue_r] at h
  refine g_lv (lv' := [(0, .ref (ev 0 + 0)), (1, .ref (ev 0 + l1)), (2, .int l2), (3, .int l3), (4, .int l4), (5, .int l5), (6, .int l6)]) ⟨rfl, rfl, rfl, rfl, rfl, rfl, rfl, trivial⟩ ?_
  refine g_iload (i := 5) F dX9_leastDue_0 rfl ?_
  refine g_iload (i := 6) F dX9_leastDue_2 rfl ?_
  refine g_icmp_lt (tgt := 9) F dX9_leastDue_4 (by decide) h (fun a10 h => ?_) (fun a10 h => ?_)
  · refine g_aload_n (i := 0) F dX9_leastDue_9 rfl rfl ?_
    refine g_iconst F dX9_leastDue_10 (v := 0) (by decide) ?_
    refine g_aload_n (i := 1) F dX9_leastDue_11 rfl rfl ?_
    refine g_iload_n (i := 2) F dX9_leastDue_12 rfl rfl ?_
    refine g_iload_n (i := 3) F dX9_leastDue_13 rfl rfl ?_
    refine g_iload (i := 4) F dX9_leastDue_14 rfl ?_
    refine g_iload (i := 5) F dX9_leastDue_16 rfl ?_
    refine g_iload (i := 6) F dX9_leastDue_18 rfl ?_
    obtain ⟨v2, X1, e3, h⟩ := bd2_at h
    refine g_callVI F (mcR := 0) (msR := 0) (id := 0) (cells_at (kd_lit (i := 0) (by decide)) (xc_9 rfl)) (ci := 9) rfl rfl rfl (IH_X9_dueWith e3) wd_38_12 wd_38_9 wd_38_10 wd_38_11 wd_1_2 ⟨by decide, by decide⟩ (nn := 7) (by decide) (As := [.int (0 : Int32), .ref (ev 0 + l1), .int l2, .int l3, .int l4, .int l5, .int l6]) rfl rfl (Nat.le_of_ble_eq_true rfl) (by omega) (by omega) ⟨by decide, by decide⟩ dX9_leastDue_20 ?_
    refine g_istore (i := 7) (lv' := [(7, .int v2), (0, .ref (ev 0 + 0)), (1, .ref (ev 0 + l1)), (2, .int l2), (3, .int l3), (4, .int l4), (5, .int l5), (6, .int l6)]) F dX9_leastDue_23 (by decide) rfl ?_
    refine g_iconst F dX9_leastDue_25 (v := 1) (by decide) ?_
    refine g_istore (i := 8) (lv' := [(8, .int (1 : Int32)), (7, .int v2), (0, .ref (ev 0 + 0)), (1, .ref (ev 0 + l1)), (2, .int l2), (3, .int l3), (4, .int l4), (5, .int l5), (6, .int l6)]) F dX9_leastDue_26 (by decide) rfl ?_
    refine g_lv (lv' := [(0, .ref (ev 0 + 0)), (1, .ref (ev 0 + l1)), (2, .int l2), (3, .int l3), (4, .int l4), (5, .int l5), (6, .int l6), (7, .int v2), (8, .int (1 : Int32))]) ⟨rfl, rfl, rfl, rfl, rfl, rfl, rfl, rfl, rfl, trivial⟩ ?_
    exact L28 _ _ _ _ _ _ FU _ _ _ h
  · refine g_iconst F dX9_leastDue_7 (v := 0) (by decide) ?_
    have hp := Prod.mk.inj (Option.some.inj h)
    exact g_iret F hr9 rfl hl9 hp.1 (by rw [hp.2]) (by decide) (by decide) dX9_leastDue_8
def fX9_dueWith_b71 (rX9_leastDue : XW → Nat → Nat → Int32 → Int32 → Int32 → Int32 → Int32 → Option (Int32 × XW)) (nb : Nat) (X : XW) (l2 : Nat) (l3 : Int32) (l6 : Int32) (l7 : Int32) (l8 : Int32) (l9 : Int32) (l10 : Int32) (t0 : Int32) : Option (Int32 × XW) :=
  bd2 (fX7_goesOn X nb l2 l3 l9 l6 t0 l10) fun v4 X3 =>
  if v4 = 0 then bd2 (rX9_leastDue X3 nb l2 l3 l9 l10 (l6 + (1 : Int32)) l7) fun v13 X12 =>
  some ((l8 + v13), X12)
  else (fX0_oneOn X3 l3 l6).bind fun v6 =>
  if v6 = (-1 : Int32) then some ((l8 + (50 : Int32)), X3)
  else bd2 (rX9_leastDue X3 nb l2 v6 l9 l10 (l6 + (1 : Int32)) l7) fun v9 X8 =>
  some (((l8 + (5 : Int32)) + v9), X8)
def fX9_dueWith_b58 (rX9_leastDue : XW → Nat → Nat → Int32 → Int32 → Int32 → Int32 → Int32 → Option (Int32 × XW)) (nb : Nat) (X : XW) (l1 : Int32) (l2 : Nat) (l3 : Int32) (l6 : Int32) (l7 : Int32) (l8 : Int32) (l9 : Int32) (t0 : Int32) : Option (Int32 × XW) :=
  if l1 = (2 : Int32) then fX9_dueWith_b71 rX9_leastDue nb X l2 l3 l6 l7 l8 l9 t0 (40 : Int32)
  else fX9_dueWith_b71 rX9_leastDue nb X l2 l3 l6 l7 l8 l9 t0 (0 : Int32)
def fX9_dueWith_b41 (rX9_leastDue : XW → Nat → Nat → Int32 → Int32 → Int32 → Int32 → Int32 → Option (Int32 × XW)) (nb : Nat) (X : XW) (l1 : Int32) (l2 : Nat) (l3 : Int32) (l5 : Int32) (l6 : Int32) (l7 : Int32) (l8 : Int32) (t0 : Int32) : Option (Int32 × XW) :=
  if l1 = (3 : Int32) then fX9_dueWith_b58 rX9_leastDue nb X l1 l2 l3 l6 l7 l8 t0 (l5 + (50 : Int32))
  else fX9_dueWith_b58 rX9_leastDue nb X l1 l2 l3 l6 l7 l8 t0 l5
def fX9_dueWith_r (rX9_leastDue : XW → Nat → Nat → Int32 → Int32 → Int32 → Int32 → Int32 → Option (Int32 × XW)) (X : XW) (nb : Nat) (l1 : Int32) (l2 : Nat) (l3 : Int32) (l4 : Int32) (l5 : Int32) (l6 : Int32) (l7 : Int32) : Option (Int32 × XW) :=
  (rd (stF 3) 5 l1).bind fun v1 =>
  if l1 = (4 : Int32) then some (v1, X)
  else if l6 < l7 then if l1 = (1 : Int32) then fX9_dueWith_b41 rX9_leastDue nb X l1 l2 l3 l5 l6 l7 v1 (jmin (40 : Int32) (l4 + (5 : Int32)))
  else fX9_dueWith_b41 rX9_leastDue nb X l1 l2 l3 l5 l6 l7 v1 l4
  else some (v1, X)
set_option maxRecDepth 100000 in
set_option maxHeartbeats 4000000 in
theorem c_X9_dueWith_r {l : Launch} {s0 : State} {D : va_G} {ev : Nat → Nat} (G0 : Gl s0 D ev) {X : XW} {M : MW} {nb : Nat} {l1 : Int32} {l2 : Nat} {l3 : Int32} {l4 : Int32} {l5 : Int32} {l6 : Int32} {l7 : Int32} {r' : Int32} {X' : XW}  {d9 : Nat} {rX9_leastDue : XW → Nat → Nat → Int32 → Int32 → Int32 → Int32 → Int32 → Option (Int32 × XW)} (IH_X9_leastDue : ∀ {X1 : XW} {X2 : XW} {q1 : Nat} {q2 : Int32} {q3 : Int32} {q4 : Int32} {q5 : Int32} {q6 : Int32} {r2 : Int32}, rX9_leastDue X1 nb q1 q2 q3 q4 q5 q6 = some (r2, X2) → CT l s0 D ev yX9_leastDue cX9_leastDue 9 (some .int) (4 + 2 * d9) 0 0 [.ref (ev 0 + 0), .ref (ev 0 + q1), .int q2, .int q3, .int q4, .int q5, .int q6] (cells ev X1 M nb) (QI s0 D ev r2 (cells ev X2 M nb))) (h : fX9_dueWith_r rX9_leastDue X nb l1 l2 l3 l4 l5 l6 l7 = some (r', X')) : CT l s0 D ev yX9_dueWith cX9_dueWith 13 (some .int) (4 + 2 * d9 + 1) 0 0 [.ref (ev 0 + 0), .int l1, .ref (ev 0 + l2), .int l3, .int l4, .int l5, .int l6, .int l7] (cells ev X M nb) (QI s0 D ev r' (cells ev X' M nb)) := by
  refine ct_of G0 (by decide) (Nat.le_of_ble_eq_true rfl) ?_
  intro p9 e9 s9 m9 args9 below9 meth9 c9 F hr9 hl9 hin9 hargs9 hts9
  have U71 : ∀ (X : XW) (l2 : Nat) (l3 : Int32) (l6 : Int32) (l7 : Int32) (l8 : Int32) (l9 : Int32) (l10 : Int32) (t0 : Int32), fX9_dueWith_b71 rX9_leastDue nb X l2 l3 l6 l7 l8 l9 l10 t0 = some (r', X') → GJ p9 l e9 (rg (4 + 2 * d9 + 1) 0 0) s9 m9 args9 below9 meth9 c9 (MQ below9 (QI s0 D ev r' (cells ev X' M nb)) args9 s9 0 0 (frA ev)) s0 D ev 13 0 0 71 [(0, .ref (ev 0 + 0)), (2, .ref (ev 0 + l2)), (3, .int l3), (6, .int l6), (7, .int l7), (8, .int l8), (9, .int l9), (10, .int l10)] (.int t0 :: []) (cells ev X M nb) := by
    intro X l2 l3 l6 l7 l8 l9 l10 t0 h
    rw [fX9_dueWith_b71] at h
    refine g_istore (i := 11) (lv' := [(11, .int t0), (0, .ref (ev 0 + 0)), (2, .ref (ev 0 + l2)), (3, .int l3), (6, .int l6), (7, .int l7), (8, .int l8), (9, .int l9), (10, .int l10)]) F dX9_dueWith_71 (by decide) rfl ?_
    refine g_aload_n (i := 0) F dX9_dueWith_73 rfl rfl ?_
    refine g_get_9_3 F rfl (kd_lit (by decide)) wd_2_1 dX9_dueWith_74 ?_
    refine g_aload_n (i := 2) F dX9_dueWith_77 rfl rfl ?_
    refine g_iload_n (i := 3) F dX9_dueWith_78 rfl rfl ?_
    refine g_iload (i := 9) F dX9_dueWith_79 rfl ?_
    refine g_iload (i := 6) F dX9_dueWith_81 rfl ?_
    refine g_iload (i := 11) F dX9_dueWith_83 rfl ?_
    refine g_iload (i := 10) F dX9_dueWith_85 rfl ?_
    obtain ⟨v4, X3, e5, h⟩ := bd2_at h
    refine g_callVI F (mcR := 0) (msR := 0) (id := 10) (cells_at (kd_lit (i := 10) (by decide)) (xc_7 rfl)) (ci := 7) rfl rfl rfl (c_X7_goesOn G0 e5) wd_28_0 wd_33_18 wd_27_22 wd_27_23 wd_2_0 ⟨by decide, by decide⟩ (nn := 6) (by decide) (As := [.ref (ev 0 + l2), .int l3, .int l9, .int l6, .int t0, .int l10]) rfl rfl (Nat.le_of_ble_eq_true rfl) (by omega) (by omega) ⟨by decide, by decide⟩ dX9_dueWith_87 ?_
    refine g_if_ne (tgt := 113) F dX9_dueWith_90 (by decide) h (fun a15 h => ?_) (fun a15 h => ?_)
    · refine g_aload_n (i := 0) F dX9_dueWith_113 rfl rfl ?_
      refine g_get_9_0 F rfl (kd_lit (by decide)) wd_1_15 dX9_dueWith_114 ?_
      refine g_iload_n (i := 3) F dX9_dueWith_117 rfl rfl ?_
      refine g_iload (i := 6) F dX9_dueWith_118 rfl ?_
      obtain ⟨v6, e7, h⟩ := bind_at h
      refine g_callVI F (mcR := 0) (msR := 0) (id := 1) (cells_at (kd_lit (i := 1) (by decide)) (xc_0 rfl)) (ci := 0) rfl rfl rfl (c_X0_oneOn G0 e7) wd_28_20 wd_38_17 wd_28_18 wd_28_19 wd_1_14 ⟨by decide, by decide⟩ (nn := 2) (by decide) (As := [.int l3, .int l6]) rfl rfl (Nat.le_of_ble_eq_true rfl) (by omega) (by omega) ⟨by decide, by decide⟩ dX9_dueWith_120 ?_
      refine g_istore (i := 12) (lv' := [(12, .int v6), (11, .int t0), (0, .ref (ev 0 + 0)), (2, .ref (ev 0 + l2)), (3, .int l3), (6, .int l6), (7, .int l7), (8, .int l8), (9, .int l9), (10, .int l10)]) F dX9_dueWith_123 (by decide) rfl ?_
      refine g_iload (i := 12) F dX9_dueWith_125 rfl ?_
      refine g_iconst F dX9_dueWith_127 (v := -1) (by decide) ?_
      refine g_icmp_ne (tgt := 137) F dX9_dueWith_128 (by decide) h (fun a11 h => ?_) (fun a11 h => ?_)
      · refine g_iload (i := 8) F dX9_dueWith_137 rfl ?_
        refine g_iconst F dX9_dueWith_139 (v := 5) (by decide) ?_
        refine g_iadd F dX9_dueWith_140 ?_
        refine g_aload_n (i := 0) F dX9_dueWith_141 rfl rfl ?_
        refine g_aload_n (i := 2) F dX9_dueWith_142 rfl rfl ?_
        refine g_iload (i := 12) F dX9_dueWith_143 rfl ?_
        refine g_iload (i := 9) F dX9_dueWith_145 rfl ?_
        refine g_iload (i := 10) F dX9_dueWith_147 rfl ?_
        refine g_iload (i := 6) F dX9_dueWith_149 rfl ?_
        refine g_iconst F dX9_dueWith_151 (v := 1) (by decide) ?_
        refine g_iadd F dX9_dueWith_152 ?_
        refine g_iload (i := 7) F dX9_dueWith_153 rfl ?_
        obtain ⟨v9, X8, e10, h⟩ := bd2_at h
        refine g_callVI F (mcR := 0) (msR := 0) (id := 0) (cells_at (kd_lit (i := 0) (by decide)) (xc_9 rfl)) (ci := 9) rfl rfl rfl (IH_X9_leastDue e10) wd_38_18 wd_38_14 wd_38_15 wd_38_16 wd_1_2 ⟨by decide, by decide⟩ (nn := 6) (by decide) (As := [.ref (ev 0 + l2), .int v6, .int l9, .int l10, .int (l6 + (1 : Int32)), .int l7]) rfl rfl (Nat.le_of_ble_eq_true rfl) (by omega) (by omega) ⟨by decide, by decide⟩ dX9_dueWith_155 ?_
        refine g_iadd F dX9_dueWith_158 ?_
        have hp := Prod.mk.inj (Option.some.inj h)
        exact g_iret F hr9 rfl hl9 hp.1 (by rw [hp.2]) (by decide) (by decide) dX9_dueWith_159
      · refine g_iload (i := 8) F dX9_dueWith_131 rfl ?_
        refine g_bipush F dX9_dueWith_133 (v := 50) (by decide) ?_
        refine g_iadd F dX9_dueWith_135 ?_
        have hp := Prod.mk.inj (Option.some.inj h)
        exact g_iret F hr9 rfl hl9 hp.1 (by rw [hp.2]) (by decide) (by decide) dX9_dueWith_136
    · refine g_iload (i := 8) F dX9_dueWith_93 rfl ?_
      refine g_aload_n (i := 0) F dX9_dueWith_95 rfl rfl ?_
      refine g_aload_n (i := 2) F dX9_dueWith_96 rfl rfl ?_
      refine g_iload_n (i := 3) F dX9_dueWith_97 rfl rfl ?_
      refine g_iload (i := 9) F dX9_dueWith_98 rfl ?_
      refine g_iload (i := 10) F dX9_dueWith_100 rfl ?_
      refine g_iload (i := 6) F dX9_dueWith_102 rfl ?_
      refine g_iconst F dX9_dueWith_104 (v := 1) (by decide) ?_
      refine g_iadd F dX9_dueWith_105 ?_
      refine g_iload (i := 7) F dX9_dueWith_106 rfl ?_
      obtain ⟨v13, X12, e14, h⟩ := bd2_at h
      refine g_callVI F (mcR := 0) (msR := 0) (id := 0) (cells_at (kd_lit (i := 0) (by decide)) (xc_9 rfl)) (ci := 9) rfl rfl rfl (IH_X9_leastDue e14) wd_38_18 wd_38_14 wd_38_15 wd_38_16 wd_1_2 ⟨by decide, by decide⟩ (nn := 6) (by decide) (As := [.ref (ev 0 + l2), .int l3, .int l9, .int l10, .int (l6 + (1 : Int32)), .int l7]) rfl rfl (Nat.le_of_ble_eq_true rfl) (by omega) (by omega) ⟨by decide, by decide⟩ dX9_dueWith_108 ?_
      refine g_iadd F dX9_dueWith_111 ?_
      have hp := Prod.mk.inj (Option.some.inj h)
      exact g_iret F hr9 rfl hl9 hp.1 (by rw [hp.2]) (by decide) (by decide) dX9_dueWith_112
  have U58 : ∀ (X : XW) (l1 : Int32) (l2 : Nat) (l3 : Int32) (l6 : Int32) (l7 : Int32) (l8 : Int32) (l9 : Int32) (t0 : Int32), fX9_dueWith_b58 rX9_leastDue nb X l1 l2 l3 l6 l7 l8 l9 t0 = some (r', X') → GJ p9 l e9 (rg (4 + 2 * d9 + 1) 0 0) s9 m9 args9 below9 meth9 c9 (MQ below9 (QI s0 D ev r' (cells ev X' M nb)) args9 s9 0 0 (frA ev)) s0 D ev 13 0 0 58 [(0, .ref (ev 0 + 0)), (1, .int l1), (2, .ref (ev 0 + l2)), (3, .int l3), (6, .int l6), (7, .int l7), (8, .int l8), (9, .int l9)] (.int t0 :: []) (cells ev X M nb) := by
    intro X l1 l2 l3 l6 l7 l8 l9 t0 h
    rw [fX9_dueWith_b58] at h
    refine g_istore (i := 10) (lv' := [(10, .int t0), (0, .ref (ev 0 + 0)), (1, .int l1), (2, .ref (ev 0 + l2)), (3, .int l3), (6, .int l6), (7, .int l7), (8, .int l8), (9, .int l9)]) F dX9_dueWith_58 (by decide) rfl ?_
    refine g_iload_n (i := 1) F dX9_dueWith_60 rfl rfl ?_
    refine g_iconst F dX9_dueWith_61 (v := 2) (by decide) ?_
    refine g_icmp_ne (tgt := 70) F dX9_dueWith_62 (by decide) h (fun a16 h => ?_) (fun a16 h => ?_)
    · refine g_iconst F dX9_dueWith_70 (v := 0) (by decide) ?_
      refine g_lv (lv' := [(0, .ref (ev 0 + 0)), (2, .ref (ev 0 + l2)), (3, .int l3), (6, .int l6), (7, .int l7), (8, .int l8), (9, .int l9), (10, .int t0)]) ⟨rfl, rfl, rfl, rfl, rfl, rfl, rfl, rfl, trivial⟩ ?_
      exact U71 _ _ _ _ _ _ _ _ _ h
    · refine g_bipush F dX9_dueWith_65 (v := 40) (by decide) ?_
      refine g_goto (tgt := 71) F dX9_dueWith_67 (by decide) ?_
      refine g_lv (lv' := [(0, .ref (ev 0 + 0)), (2, .ref (ev 0 + l2)), (3, .int l3), (6, .int l6), (7, .int l7), (8, .int l8), (9, .int l9), (10, .int t0)]) ⟨rfl, rfl, rfl, rfl, rfl, rfl, rfl, rfl, trivial⟩ ?_
      exact U71 _ _ _ _ _ _ _ _ _ h
  have U41 : ∀ (X : XW) (l1 : Int32) (l2 : Nat) (l3 : Int32) (l5 : Int32) (l6 : Int32) (l7 : Int32) (l8 : Int32) (t0 : Int32), fX9_dueWith_b41 rX9_leastDue nb X l1 l2 l3 l5 l6 l7 l8 t0 = some (r', X') → GJ p9 l e9 (rg (4 + 2 * d9 + 1) 0 0) s9 m9 args9 below9 meth9 c9 (MQ below9 (QI s0 D ev r' (cells ev X' M nb)) args9 s9 0 0 (frA ev)) s0 D ev 13 0 0 41 [(0, .ref (ev 0 + 0)), (1, .int l1), (2, .ref (ev 0 + l2)), (3, .int l3), (5, .int l5), (6, .int l6), (7, .int l7), (8, .int l8)] (.int t0 :: []) (cells ev X M nb) := by
    intro X l1 l2 l3 l5 l6 l7 l8 t0 h
    rw [fX9_dueWith_b41] at h
    refine g_istore (i := 9) (lv' := [(9, .int t0), (0, .ref (ev 0 + 0)), (1, .int l1), (2, .ref (ev 0 + l2)), (3, .int l3), (5, .int l5), (6, .int l6), (7, .int l7), (8, .int l8)]) F dX9_dueWith_41 (by decide) rfl ?_
    refine g_iload_n (i := 1) F dX9_dueWith_43 rfl rfl ?_
    refine g_iconst F dX9_dueWith_44 (v := 3) (by decide) ?_
    refine g_icmp_ne (tgt := 56) F dX9_dueWith_45 (by decide) h (fun a17 h => ?_) (fun a17 h => ?_)
    · refine g_iload (i := 5) F dX9_dueWith_56 rfl ?_
      refine g_lv (lv' := [(0, .ref (ev 0 + 0)), (1, .int l1), (2, .ref (ev 0 + l2)), (3, .int l3), (6, .int l6), (7, .int l7), (8, .int l8), (9, .int t0)]) ⟨rfl, rfl, rfl, rfl, rfl, rfl, rfl, rfl, trivial⟩ ?_
      exact U58 _ _ _ _ _ _ _ _ _ h
    · refine g_iload (i := 5) F dX9_dueWith_48 rfl ?_
      refine g_bipush F dX9_dueWith_50 (v := 50) (by decide) ?_
      refine g_iadd F dX9_dueWith_52 ?_
      refine g_goto (tgt := 58) F dX9_dueWith_53 (by decide) ?_
      refine g_lv (lv' := [(0, .ref (ev 0 + 0)), (1, .int l1), (2, .ref (ev 0 + l2)), (3, .int l3), (6, .int l6), (7, .int l7), (8, .int l8), (9, .int t0)]) ⟨rfl, rfl, rfl, rfl, rfl, rfl, rfl, rfl, trivial⟩ ?_
      exact U58 _ _ _ _ _ _ _ _ _ h
  rw [fX9_dueWith_r] at h
  refine g_lv (lv' := [(0, .ref (ev 0 + 0)), (1, .int l1), (2, .ref (ev 0 + l2)), (3, .int l3), (4, .int l4), (5, .int l5), (6, .int l6), (7, .int l7)]) ⟨rfl, rfl, rfl, rfl, rfl, rfl, rfl, rfl, trivial⟩ ?_
  refine g_gets (i := 3) F (by decide) rfl wd_38_13 dX9_dueWith_0 ?_
  refine g_iload_n (i := 1) F dX9_dueWith_3 rfl rfl ?_
  obtain ⟨v1, e2, h⟩ := bind_at h
  refine g_strd F (by decide) (by decide) e2 dX9_dueWith_4 ?_
  refine g_istore (i := 8) (lv' := [(8, .int v1), (0, .ref (ev 0 + 0)), (1, .int l1), (2, .ref (ev 0 + l2)), (3, .int l3), (4, .int l4), (5, .int l5), (6, .int l6), (7, .int l7)]) F dX9_dueWith_5 (by decide) rfl ?_
  refine g_iload_n (i := 1) F dX9_dueWith_7 rfl rfl ?_
  refine g_iconst F dX9_dueWith_8 (v := 4) (by decide) ?_
  refine g_icmp_eq (tgt := 19) F dX9_dueWith_9 (by decide) h (fun a20 h => ?_) (fun a20 h => ?_)
  · refine g_iload (i := 8) F dX9_dueWith_19 rfl ?_
    have hp := Prod.mk.inj (Option.some.inj h)
    exact g_iret F hr9 rfl hl9 hp.1 (by rw [hp.2]) (by decide) (by decide) dX9_dueWith_21
  · refine g_iload (i := 6) F dX9_dueWith_12 rfl ?_
    refine g_iload (i := 7) F dX9_dueWith_14 rfl ?_
    refine g_icmp_lt (tgt := 22) F dX9_dueWith_16 (by decide) h (fun a19 h => ?_) (fun a19 h => ?_)
    · refine g_iload_n (i := 1) F dX9_dueWith_22 rfl rfl ?_
      refine g_iconst F dX9_dueWith_23 (v := 1) (by decide) ?_
      refine g_icmp_ne (tgt := 39) F dX9_dueWith_24 (by decide) h (fun a18 h => ?_) (fun a18 h => ?_)
      · refine g_iload (i := 4) F dX9_dueWith_39 rfl ?_
        refine g_lv (lv' := [(0, .ref (ev 0 + 0)), (1, .int l1), (2, .ref (ev 0 + l2)), (3, .int l3), (5, .int l5), (6, .int l6), (7, .int l7), (8, .int v1)]) ⟨rfl, rfl, rfl, rfl, rfl, rfl, rfl, rfl, trivial⟩ ?_
        exact U41 _ _ _ _ _ _ _ _ _ h
      · refine g_bipush F dX9_dueWith_27 (v := 40) (by decide) ?_
        refine g_iload (i := 4) F dX9_dueWith_29 rfl ?_
        refine g_iconst F dX9_dueWith_31 (v := 5) (by decide) ?_
        refine g_iadd F dX9_dueWith_32 ?_
        refine g_mmin F wd_16_19 wd_16_20 wd_16_21 wd_16_22 (show 1 ≤ (4 + 2 * d9 + 1) by omega) (Nat.le_trans (m := 40) (Nat.le_of_ble_eq_true rfl) (show 40 ≤ 40 * (4 + 2 * d9 + 1) by omega)) (Nat.zero_le _) (Nat.zero_le _) dX9_dueWith_33 ?_
        refine g_goto (tgt := 41) F dX9_dueWith_36 (by decide) ?_
        refine g_lv (lv' := [(0, .ref (ev 0 + 0)), (1, .int l1), (2, .ref (ev 0 + l2)), (3, .int l3), (5, .int l5), (6, .int l6), (7, .int l7), (8, .int v1)]) ⟨rfl, rfl, rfl, rfl, rfl, rfl, rfl, rfl, trivial⟩ ?_
        exact U41 _ _ _ _ _ _ _ _ _ h
    · refine g_iload (i := 8) F dX9_dueWith_19 rfl ?_
      have hp := Prod.mk.inj (Option.some.inj h)
      exact g_iret F hr9 rfl hl9 hp.1 (by rw [hp.2]) (by decide) (by decide) dX9_dueWith_21
def fX9_LD : Nat → XW → Nat → Nat → Int32 → Int32 → Int32 → Int32 → Int32 → Option (Int32 × XW)
  | 0 => fun _ _ _ _ _ _ _ _ => none
  | d + 1 => fX9_leastDue_r (fX9_dueWith_r (fX9_LD d))
def fX9_dueWith (d : Nat) : XW → Nat → Int32 → Nat → Int32 → Int32 → Int32 → Int32 → Int32 → Option (Int32 × XW) := fX9_dueWith_r (fX9_LD d)
theorem c_X9_LD {l : Launch} {s0 : State} {D : va_G} {ev : Nat → Nat} (G0 : Gl s0 D ev) {M : MW} {nb : Nat} : ∀ (d : Nat) {X1 : XW} {X2 : XW} {q1 : Nat} {q2 : Int32} {q3 : Int32} {q4 : Int32} {q5 : Int32} {q6 : Int32} {r2 : Int32}, fX9_LD d X1 nb q1 q2 q3 q4 q5 q6 = some (r2, X2) → CT l s0 D ev yX9_leastDue cX9_leastDue 9 (some .int) (4 + 2 * d) 0 0 [.ref (ev 0 + 0), .ref (ev 0 + q1), .int q2, .int q3, .int q4, .int q5, .int q6] (cells ev X1 M nb) (QI s0 D ev r2 (cells ev X2 M nb)) := by
  intro d
  induction d with
  | zero => intro u0 u1 u2 u3 u4 u5 u6 u7 u8 h; cases h
  | succ d ih => intro u0 u1 u2 u3 u4 u5 u6 u7 u8 h; exact c_X9_leastDue_r (d9 := d) G0 (rX9_dueWith := fX9_dueWith_r (fX9_LD d)) (fun h2 => c_X9_dueWith_r (d9 := d) G0 (rX9_leastDue := fX9_LD d) (fun h3 => ih h3) h2) h
theorem c_X9_dueWith {l : Launch} {s0 : State} {D : va_G} {ev : Nat → Nat} (G0 : Gl s0 D ev) {M : MW} {nb : Nat} {d : Nat} {X1 : XW} {X2 : XW} {q1 : Int32} {q2 : Nat} {q3 : Int32} {q4 : Int32} {q5 : Int32} {q6 : Int32} {q7 : Int32} {r2 : Int32} : fX9_dueWith d X1 nb q1 q2 q3 q4 q5 q6 q7 = some (r2, X2) → CT l s0 D ev yX9_dueWith cX9_dueWith 13 (some .int) (4 + 2 * d + 1) 0 0 [.ref (ev 0 + 0), .int q1, .ref (ev 0 + q2), .int q3, .int q4, .int q5, .int q6, .int q7] (cells ev X1 M nb) (QI s0 D ev r2 (cells ev X2 M nb)) := fun h => c_X9_dueWith_r (d9 := d) G0 (rX9_leastDue := fX9_LD d) (fun h3 => c_X9_LD G0 d h3) h
def fX9_next_b149 (nb : Nat) (X : XW) (l3 : Int32) (l7 : Int32) (l8 : Int32) : Option (Int32 × XW) :=
  if l3 = 0 then some (l7, X)
  else some (l8, X)
def fX9_next_l95 (nb : Nat) (l3f95 : Int32) (l4f95 : Option Nat) (l6f95 : Int32) (K95 : XW → Int32 → Int32 → Int32 → Option (Int32 × XW)) (X : XW) (l7 : Int32) (l8 : Int32) (l9 : Int32) : Option (Int32 × XW) :=
  if (5 : Int32) ≤ l9 then fX9_next_b149 nb X l3f95 l7 l8
  else (l4f95).bind fun b16 =>
  if NS ≤ b16 ∧ b16 < TT nb then bd2 (fX9_dueWith 8 X nb l9 b16 (X.1 b16 4) (X.1 b16 5) (0 : Int32) (X.1 0 11) l6f95) fun v20 X19 =>
  if l8 ≤ v20 then K95 X19 l7 l8 (l9 + (1 : Int32))
  else K95 X19 l9 v20 (l9 + (1 : Int32)) else none
def fX9_next_b32 (nb : Nat) (X : XW) (l2 : Int32) (l3 : Int32) (l4 : Option Nat) (t0 : Option Nat) (t1 : Int32) : Option (Int32 × XW) :=
  (fX9_refusal X nb t0 t1).bind fun v5 =>
  oc l4 (some (v5, X)) (fun b7 => if v5 = 0 then bd (jmin (12 : Int32) ((X.1 0 11) + l2)) fun v9 =>
  if NS ≤ b7 ∧ b7 < TT nb then bd2 (fX9_dueWith 8 X nb (0 : Int32) b7 (X.1 b7 4) (X.1 b7 5) (0 : Int32) (X.1 0 11) v9) fun v13 X12 =>
  lo4 (fX9_next_l95 nb l3 (some b7) v9) FU X12 (0 : Int32) v13 (1 : Int32) else none
  else some (v5, X))
def fX9_next_b31 (nb : Nat) (X : XW) (l2 : Int32) (l3 : Int32) (l4 : Option Nat) (t0 : Option Nat) : Option (Int32 × XW) :=
  fX9_next_b32 nb X l2 l3 l4 t0 (0 : Int32)
def fX9_next (X : XW) (nb : Nat) (l1 : Int32) (l2 : Int32) (l3 : Int32) : Option (Int32 × XW) :=
  (fX9_boatOf X l1).bind fun r1 =>
  if (fX9_within l2 (1 : Int32) (4 : Int32)) = 0 then fX9_next_b31 nb X l2 l3 r1 r1
  else if (fX9_within l3 (0 : Int32) (1 : Int32)) = 0 then fX9_next_b31 nb X l2 l3 r1 r1
  else fX9_next_b32 nb X l2 l3 r1 r1 (1 : Int32)
set_option maxRecDepth 100000 in
set_option maxHeartbeats 4000000 in
theorem c_X9_next {l : Launch} {s0 : State} {D : va_G} {ev : Nat → Nat} (G0 : Gl s0 D ev) {X : XW} {M : MW} {nb : Nat} {l1 : Int32} {l2 : Int32} {l3 : Int32} {r' : Int32} {X' : XW}  (h : fX9_next X nb l1 l2 l3 = some (r', X')) : CT l s0 D ev yX9_next cX9_next 11 (some .int) 23 0 0 [.ref (ev 0 + 0), .int l1, .int l2, .int l3] (cells ev X M nb) (QI s0 D ev r' (cells ev X' M nb)) := by
  refine ct_of G0 (by decide) (Nat.le_of_ble_eq_true rfl) ?_
  intro p9 e9 s9 m9 args9 below9 meth9 c9 F hr9 hl9 hin9 hargs9 hts9
  have U149 : ∀ (X : XW) (l3 : Int32) (l7 : Int32) (l8 : Int32), fX9_next_b149 nb X l3 l7 l8 = some (r', X') → GJ p9 l e9 (rg 23 0 0) s9 m9 args9 below9 meth9 c9 (MQ below9 (QI s0 D ev r' (cells ev X' M nb)) args9 s9 0 0 (frA ev)) s0 D ev 11 0 0 149 [(3, .int l3), (7, .int l7), (8, .int l8)] ([]) (cells ev X M nb) := by
    intro X l3 l7 l8 h
    rw [fX9_next_b149] at h
    refine g_iload_n (i := 3) F dX9_next_149 rfl rfl ?_
    refine g_if_ne (tgt := 158) F dX9_next_150 (by decide) h (fun a15 h => ?_) (fun a15 h => ?_)
    · refine g_iload (i := 8) F dX9_next_158 rfl ?_
      have hp := Prod.mk.inj (Option.some.inj h)
      exact g_iret F hr9 rfl hl9 hp.1 (by rw [hp.2]) (by decide) (by decide) dX9_next_160
    · refine g_iload (i := 7) F dX9_next_153 rfl ?_
      refine g_goto (tgt := 160) F dX9_next_155 (by decide) ?_
      have hp := Prod.mk.inj (Option.some.inj h)
      exact g_iret F hr9 rfl hl9 hp.1 (by rw [hp.2]) (by decide) (by decide) dX9_next_160
  have L95 : ∀ (l3f95 : Int32) (l4f95 : Option Nat) (l6f95 : Int32) (N95 : Nat) (X : XW) (l7 : Int32) (l8 : Int32) (l9 : Int32), lo4 (fX9_next_l95 nb l3f95 l4f95 l6f95) N95 X l7 l8 l9 = some (r', X') → GJ p9 l e9 (rg 23 0 0) s9 m9 args9 below9 meth9 c9 (MQ below9 (QI s0 D ev r' (cells ev X' M nb)) args9 s9 0 0 (frA ev)) s0 D ev 11 0 0 95 [(0, .ref (ev 0 + 0)), (3, .int l3f95), (4, zr ev l4f95), (6, .int l6f95), (7, .int l7), (8, .int l8), (9, .int l9)] ([]) (cells ev X M nb) := by
    intro l3f95 l4f95 l6f95 N95
    induction N95 with
    | zero => intro X l7 l8 l9 h; cases h
    | succ N95 ih95 =>
      intro X l7 l8 l9 h
      change fX9_next_l95 nb l3f95 l4f95 l6f95 (lo4 (fX9_next_l95 nb l3f95 l4f95 l6f95) N95) X l7 l8 l9 = some (r', X') at h
      rw [fX9_next_l95] at h
      refine g_iload (i := 9) F dX9_next_95 rfl ?_
      refine g_iconst F dX9_next_97 (v := 5) (by decide) ?_
      refine g_icmp_ge (tgt := 149) F dX9_next_98 (by decide) h (fun a23 h => ?_) (fun a23 h => ?_)
      · refine g_lv (lv' := [(3, .int l3f95), (7, .int l7), (8, .int l8)]) ⟨rfl, rfl, rfl, trivial⟩ ?_
        exact U149 _ _ _ _ h
      · refine g_aload_n (i := 0) F dX9_next_101 rfl rfl ?_
        refine g_iload (i := 9) F dX9_next_102 rfl ?_
        refine g_zaload (i := 4) F dX9_next_104 rfl ?_
        refine g_zaload (i := 4) F dX9_next_106 rfl ?_
        obtain ⟨b16, e17, h⟩ := bind_at h
        rw [e17]
        obtain ⟨h18, h⟩ := if_at h
        refine g_get_1_4 F (kd_b h18) h18.2 wd_22_18 dX9_next_108 ?_
        refine g_aload (i := 4) F dX9_next_111 rfl ?_
        refine g_get_1_5 F (kd_b h18) h18.2 wd_22_19 dX9_next_113 ?_
        refine g_iconst F dX9_next_116 (v := 0) (by decide) ?_
        refine g_aload_n (i := 0) F dX9_next_117 rfl rfl ?_
        refine g_get_9_11 F rfl (kd_lit (by decide)) wd_2_19 dX9_next_118 ?_
        refine g_iload (i := 6) F dX9_next_121 rfl ?_
        obtain ⟨v20, X19, e21, h⟩ := bd2_at h
        refine g_callVI F (mcR := 0) (msR := 0) (id := 0) (cells_at (kd_lit (i := 0) (by decide)) (xc_9 rfl)) (ci := 9) rfl rfl rfl (c_X9_dueWith G0 e21) wd_38_12 wd_38_9 wd_38_10 wd_38_11 wd_1_2 ⟨by decide, by decide⟩ (nn := 7) (by decide) (As := [.int l9, .ref (ev 0 + b16), .int (X.1 b16 4), .int (X.1 b16 5), .int (0 : Int32), .int (X.1 0 11), .int l6f95]) rfl rfl (Nat.le_of_ble_eq_true rfl) (by decide) (by decide) ⟨by decide, by decide⟩ dX9_next_123 ?_
        refine g_istore (i := 10) (lv' := [(10, .int v20), (0, .ref (ev 0 + 0)), (3, .int l3f95), (4, .ref (ev 0 + b16)), (6, .int l6f95), (7, .int l7), (8, .int l8), (9, .int l9)]) F dX9_next_126 (by decide) rfl ?_
        refine g_iload (i := 10) F dX9_next_128 rfl ?_
        refine g_iload (i := 8) F dX9_next_130 rfl ?_
        refine g_icmp_ge (tgt := 143) F dX9_next_132 (by decide) h (fun a22 h => ?_) (fun a22 h => ?_)
        · refine g_iinc (i := 9) (v := (l9 + (1 : Int32))) (lv' := [(9, .int (l9 + (1 : Int32))), (10, .int v20), (0, .ref (ev 0 + 0)), (3, .int l3f95), (4, .ref (ev 0 + b16)), (6, .int l6f95), (7, .int l7), (8, .int l8)]) F dX9_next_143 rfl rfl (by decide) rfl ?_
          refine g_goto (tgt := 95) F dX9_next_146 (by decide) ?_
          refine g_lv (lv' := [(0, .ref (ev 0 + 0)), (3, .int l3f95), (4, zr ev l4f95), (6, .int l6f95), (7, .int l7), (8, .int l8), (9, .int (l9 + (1 : Int32)))]) ⟨rfl, rfl, (by rw [e17]; rfl), rfl, rfl, rfl, rfl, trivial⟩ ?_
          exact ih95 _ _ _ _ h
        · refine g_iload (i := 9) F dX9_next_135 rfl ?_
          refine g_istore (i := 7) (lv' := [(7, .int l9), (10, .int v20), (0, .ref (ev 0 + 0)), (3, .int l3f95), (4, .ref (ev 0 + b16)), (6, .int l6f95), (8, .int l8), (9, .int l9)]) F dX9_next_137 (by decide) rfl ?_
          refine g_iload (i := 10) F dX9_next_139 rfl ?_
          refine g_istore (i := 8) (lv' := [(8, .int v20), (7, .int l9), (10, .int v20), (0, .ref (ev 0 + 0)), (3, .int l3f95), (4, .ref (ev 0 + b16)), (6, .int l6f95), (9, .int l9)]) F dX9_next_141 (by decide) rfl ?_
          refine g_iinc (i := 9) (v := (l9 + (1 : Int32))) (lv' := [(9, .int (l9 + (1 : Int32))), (8, .int v20), (7, .int l9), (10, .int v20), (0, .ref (ev 0 + 0)), (3, .int l3f95), (4, .ref (ev 0 + b16)), (6, .int l6f95)]) F dX9_next_143 rfl rfl (by decide) rfl ?_
          refine g_goto (tgt := 95) F dX9_next_146 (by decide) ?_
          refine g_lv (lv' := [(0, .ref (ev 0 + 0)), (3, .int l3f95), (4, zr ev l4f95), (6, .int l6f95), (7, .int l9), (8, .int v20), (9, .int (l9 + (1 : Int32)))]) ⟨rfl, rfl, (by rw [e17]; rfl), rfl, rfl, rfl, rfl, trivial⟩ ?_
          exact ih95 _ _ _ _ h
  have U32 : ∀ (X : XW) (l2 : Int32) (l3 : Int32) (l4 : Option Nat) (t0 : Option Nat) (t1 : Int32), fX9_next_b32 nb X l2 l3 l4 t0 t1 = some (r', X') → GJ p9 l e9 (rg 23 0 0) s9 m9 args9 below9 meth9 c9 (MQ below9 (QI s0 D ev r' (cells ev X' M nb)) args9 s9 0 0 (frA ev)) s0 D ev 11 0 0 32 [(0, .ref (ev 0 + 0)), (2, .int l2), (3, .int l3), (4, zr ev l4)] (.int t1 :: zr ev t0 :: []) (cells ev X M nb) := by
    intro X l2 l3 l4 t0 t1 h
    rw [fX9_next_b32] at h
    obtain ⟨v5, e6, h⟩ := bind_at h
    refine g_callSI F (mcR := 0) (msR := 0) (c_X9_refusal G0 e6) wd_24_2 wd_24_0 wd_24_1 wd_1_2 ⟨by decide, by decide⟩ (nn := 2) (by decide) (As := [zr ev t0, .int t1]) rfl rfl (Nat.le_of_ble_eq_true rfl) (by decide) (by decide) ⟨by decide, by decide⟩ dX9_next_32 ?_
    refine g_istore (i := 5) (lv' := [(5, .int v5), (0, .ref (ev 0 + 0)), (2, .int l2), (3, .int l3), (4, zr ev l4)]) F dX9_next_35 (by decide) (by cases l4 <;> exact rfl) ?_
    refine g_zaload (i := 4) F dX9_next_37 rfl ?_
    rcases oc_at h with ⟨e8, h⟩ | ⟨b7, e8, h⟩
    · rw [e8]
      refine g_ifnN (tgt := 47) F dX9_next_39 (by decide) ?_
      refine g_iload (i := 5) F dX9_next_47 rfl ?_
      have hp := Prod.mk.inj (Option.some.inj h)
      exact g_iret F hr9 rfl hl9 hp.1 (by rw [hp.2]) (by decide) (by decide) dX9_next_49
    · rw [e8]
      refine g_ifn F dX9_next_39 ?_
      refine g_iload (i := 5) F dX9_next_42 rfl ?_
      refine g_if_eq (tgt := 50) F dX9_next_44 (by decide) h (fun a24 h => ?_) (fun a24 h => ?_)
      · refine g_bipush F dX9_next_50 (v := 12) (by decide) ?_
        refine g_aload_n (i := 0) F dX9_next_52 rfl rfl ?_
        refine g_get_9_11 F rfl (kd_lit (by decide)) wd_2_19 dX9_next_53 ?_
        refine g_iload_n (i := 2) F dX9_next_56 rfl rfl ?_
        refine g_iadd F dX9_next_57 ?_
        refine g_mmin F wd_16_19 wd_16_20 wd_16_21 wd_16_22 (Nat.le_of_ble_eq_true rfl) (Nat.le_of_ble_eq_true rfl) (Nat.zero_le _) (Nat.zero_le _) dX9_next_58 ?_
        refine g_topi F h (fun v9 e10 h => ?_)
        refine g_istore (i := 6) (lv' := [(6, .int v9), (5, .int v5), (0, .ref (ev 0 + 0)), (2, .int l2), (3, .int l3), (4, .ref (ev 0 + b7))]) F dX9_next_61 (by decide) rfl ?_
        refine g_iconst F dX9_next_63 (v := 0) (by decide) ?_
        refine g_istore (i := 7) (lv' := [(7, .int (0 : Int32)), (6, .int v9), (5, .int v5), (0, .ref (ev 0 + 0)), (2, .int l2), (3, .int l3), (4, .ref (ev 0 + b7))]) F dX9_next_64 (by decide) rfl ?_
        refine g_aload_n (i := 0) F dX9_next_66 rfl rfl ?_
        refine g_iconst F dX9_next_67 (v := 0) (by decide) ?_
        refine g_aload (i := 4) F dX9_next_68 rfl ?_
        refine g_aload (i := 4) F dX9_next_70 rfl ?_
        obtain ⟨h11, h⟩ := if_at h
        refine g_get_1_4 F (kd_b h11) h11.2 wd_22_18 dX9_next_72 ?_
        refine g_aload (i := 4) F dX9_next_75 rfl ?_
        refine g_get_1_5 F (kd_b h11) h11.2 wd_22_19 dX9_next_77 ?_
        refine g_iconst F dX9_next_80 (v := 0) (by decide) ?_
        refine g_aload_n (i := 0) F dX9_next_81 rfl rfl ?_
        refine g_get_9_11 F rfl (kd_lit (by decide)) wd_2_19 dX9_next_82 ?_
        refine g_iload (i := 6) F dX9_next_85 rfl ?_
        obtain ⟨v13, X12, e14, h⟩ := bd2_at h
        refine g_callVI F (mcR := 0) (msR := 0) (id := 0) (cells_at (kd_lit (i := 0) (by decide)) (xc_9 rfl)) (ci := 9) rfl rfl rfl (c_X9_dueWith G0 e14) wd_38_12 wd_38_9 wd_38_10 wd_38_11 wd_1_2 ⟨by decide, by decide⟩ (nn := 7) (by decide) (As := [.int (0 : Int32), .ref (ev 0 + b7), .int (X.1 b7 4), .int (X.1 b7 5), .int (0 : Int32), .int (X.1 0 11), .int v9]) rfl rfl (Nat.le_of_ble_eq_true rfl) (by decide) (by decide) ⟨by decide, by decide⟩ dX9_next_87 ?_
        refine g_istore (i := 8) (lv' := [(8, .int v13), (7, .int (0 : Int32)), (6, .int v9), (5, .int v5), (0, .ref (ev 0 + 0)), (2, .int l2), (3, .int l3), (4, .ref (ev 0 + b7))]) F dX9_next_90 (by decide) rfl ?_
        refine g_iconst F dX9_next_92 (v := 1) (by decide) ?_
        refine g_istore (i := 9) (lv' := [(9, .int (1 : Int32)), (8, .int v13), (7, .int (0 : Int32)), (6, .int v9), (5, .int v5), (0, .ref (ev 0 + 0)), (2, .int l2), (3, .int l3), (4, .ref (ev 0 + b7))]) F dX9_next_93 (by decide) rfl ?_
        refine g_lv (lv' := [(0, .ref (ev 0 + 0)), (3, .int l3), (4, zr ev (some b7)), (6, .int v9), (7, .int (0 : Int32)), (8, .int v13), (9, .int (1 : Int32))]) ⟨rfl, rfl, rfl, rfl, rfl, rfl, rfl, trivial⟩ ?_
        exact L95 _ _ _ FU _ _ _ _ h
      · refine g_iload (i := 5) F dX9_next_47 rfl ?_
        have hp := Prod.mk.inj (Option.some.inj h)
        exact g_iret F hr9 rfl hl9 hp.1 (by rw [hp.2]) (by decide) (by decide) dX9_next_49
  have U31 : ∀ (X : XW) (l2 : Int32) (l3 : Int32) (l4 : Option Nat) (t0 : Option Nat), fX9_next_b31 nb X l2 l3 l4 t0 = some (r', X') → GJ p9 l e9 (rg 23 0 0) s9 m9 args9 below9 meth9 c9 (MQ below9 (QI s0 D ev r' (cells ev X' M nb)) args9 s9 0 0 (frA ev)) s0 D ev 11 0 0 31 [(0, .ref (ev 0 + 0)), (2, .int l2), (3, .int l3), (4, zr ev l4)] (zr ev t0 :: []) (cells ev X M nb) := by
    intro X l2 l3 l4 t0 h
    rw [fX9_next_b31] at h
    refine g_iconst F dX9_next_31 (v := 0) (by decide) ?_
    refine g_lv (lv' := [(0, .ref (ev 0 + 0)), (2, .int l2), (3, .int l3), (4, zr ev l4)]) ⟨rfl, rfl, rfl, rfl, trivial⟩ ?_
    exact U32 _ _ _ _ _ _ h
  rw [fX9_next] at h
  refine g_lv (lv' := [(0, .ref (ev 0 + 0)), (1, .int l1), (2, .int l2), (3, .int l3)]) ⟨rfl, rfl, rfl, rfl, trivial⟩ ?_
  refine g_aload_n (i := 0) F dX9_next_0 rfl rfl ?_
  refine g_iload_n (i := 1) F dX9_next_1 rfl rfl ?_
  obtain ⟨r1, e2, h⟩ := bind_at h
  refine g_callVR F (mcR := 0) (msR := 0) (id := 0) (cells_at (kd_lit (i := 0) (by decide)) (xc_9 rfl)) (ci := 9) rfl rfl rfl (c_X9_boatOf G0 e2) wd_22_23 wd_22_20 wd_22_21 wd_22_22 wd_1_2 ⟨by decide, by decide⟩ (nn := 1) (by decide) (As := [.int l1]) rfl rfl (Nat.le_of_ble_eq_true rfl) (by decide) (by decide) ⟨by decide, by decide⟩ dX9_next_2 ?_
  refine g_zastore (i := 4) (lv' := [(4, zr ev r1), (0, .ref (ev 0 + 0)), (1, .int l1), (2, .int l2), (3, .int l3)]) F dX9_next_5 (by decide) rfl ?_
  refine g_zaload (i := 4) F dX9_next_7 rfl ?_
  refine g_iload_n (i := 2) F dX9_next_9 rfl rfl ?_
  refine g_iconst F dX9_next_10 (v := 1) (by decide) ?_
  refine g_iconst F dX9_next_11 (v := 4) (by decide) ?_
  refine g_callSI F (mcR := 0) (msR := 0) (c_X9_within G0 (X := X) (M := M) (nb := nb) rfl) wd_9_7 wd_15_21 wd_9_6 wd_1_2 ⟨by decide, by decide⟩ (nn := 3) (by decide) (As := [.int l2, .int (1 : Int32), .int (4 : Int32)]) rfl rfl (by cases r1 <;> exact (Nat.le_of_ble_eq_true rfl)) (by decide) (by decide) ⟨by decide, by decide⟩ dX9_next_12 ?_
  refine g_if_eq (tgt := 31) F dX9_next_15 (by decide) h (fun a28 h => ?_) (fun a28 h => ?_)
  · refine g_lv (lv' := [(0, .ref (ev 0 + 0)), (2, .int l2), (3, .int l3), (4, zr ev r1)]) ⟨rfl, rfl, rfl, rfl, trivial⟩ ?_
    exact U31 _ _ _ _ _ h
  · refine g_iload_n (i := 3) F dX9_next_18 rfl rfl ?_
    refine g_iconst F dX9_next_19 (v := 0) (by decide) ?_
    refine g_iconst F dX9_next_20 (v := 1) (by decide) ?_
    refine g_callSI F (mcR := 0) (msR := 0) (c_X9_within G0 (X := X) (M := M) (nb := nb) rfl) wd_9_7 wd_15_21 wd_9_6 wd_1_2 ⟨by decide, by decide⟩ (nn := 3) (by decide) (As := [.int l3, .int (0 : Int32), .int (1 : Int32)]) rfl rfl (by cases r1 <;> exact (Nat.le_of_ble_eq_true rfl)) (by decide) (by decide) ⟨by decide, by decide⟩ dX9_next_21 ?_
    refine g_if_eq (tgt := 31) F dX9_next_24 (by decide) h (fun a27 h => ?_) (fun a27 h => ?_)
    · refine g_lv (lv' := [(0, .ref (ev 0 + 0)), (2, .int l2), (3, .int l3), (4, zr ev r1)]) ⟨rfl, rfl, rfl, rfl, trivial⟩ ?_
      exact U31 _ _ _ _ _ h
    · refine g_iconst F dX9_next_27 (v := 1) (by decide) ?_
      refine g_goto (tgt := 32) F dX9_next_28 (by decide) ?_
      refine g_lv (lv' := [(0, .ref (ev 0 + 0)), (2, .int l2), (3, .int l3), (4, zr ev r1)]) ⟨rfl, rfl, rfl, rfl, trivial⟩ ?_
      exact U32 _ _ _ _ _ _ h
def fX10_leastFrom_l32 (rX10_byAct : MW → Int32 → Int32 → Int32 → Int32 → Int32 → Int32 → Int32 → Option (Int32 × MW)) (l1f32 : Int32) (l2f32 : Int32) (l3f32 : Int32) (l4f32 : Int32) (l5f32 : Int32) (l6f32 : Int32) (K32 : MW → Int32 → Int32 → Option (Int32 × MW)) (M : MW) (l7 : Int32) (l8 : Int32) : Option (Int32 × MW) :=
  if (4 : Int32) < l8 then some (l7, M)
  else bd2 (rX10_byAct M l1f32 l2f32 l3f32 l4f32 l5f32 l6f32 l8) fun v5 M4 =>
  if l7 ≤ v5 then K32 M4 l7 (l8 + (1 : Int32))
  else K32 M4 v5 (l8 + (1 : Int32))
def fX10_leastFrom_r (rX10_byAct : MW → Int32 → Int32 → Int32 → Int32 → Int32 → Int32 → Int32 → Option (Int32 × MW)) (M : MW) (l1 : Int32) (l2 : Int32) (l3 : Int32) (l4 : Int32) (l5 : Int32) (l6 : Int32) : Option (Int32 × MW) :=
  if l4 = 0 then some ((0 : Int32), M)
  else if l3 < (12 : Int32) then bd2 (rX10_byAct M l1 l2 l3 l4 l5 l6 (0 : Int32)) fun v2 M1 =>
  lo3 (fX10_leastFrom_l32 rX10_byAct l1 l2 l3 l4 l5 l6) FU M1 v2 (1 : Int32)
  else some ((0 : Int32), M)
set_option maxRecDepth 100000 in
set_option maxHeartbeats 4000000 in
theorem c_X10_leastFrom_r {l : Launch} {s0 : State} {D : va_G} {ev : Nat → Nat} (G0 : Gl s0 D ev) {X : XW} {M : MW} {nb : Nat} {l1 : Int32} {l2 : Int32} {l3 : Int32} {l4 : Int32} {l5 : Int32} {l6 : Int32} {r' : Int32} {M' : MW}  {d9 : Nat} {rX10_byAct : MW → Int32 → Int32 → Int32 → Int32 → Int32 → Int32 → Int32 → Option (Int32 × MW)} (IH_X10_byAct : ∀ {M1 : MW} {M2 : MW} {q1 : Int32} {q2 : Int32} {q3 : Int32} {q4 : Int32} {q5 : Int32} {q6 : Int32} {q7 : Int32} {r2 : Int32}, rX10_byAct M1 q1 q2 q3 q4 q5 q6 q7 = some (r2, M2) → CT l s0 D ev yX10_byAct cX10_byAct 12 (some .int) (4 + 2 * d9 + 1) 0 0 [.ref (ev 0 + 65), .int q1, .int q2, .int q3, .int q4, .int q5, .int q6, .int q7] (cells ev X M1 (nb + 1)) (QI s0 D ev r2 (cells ev X M2 (nb + 1)))) (h : fX10_leastFrom_r rX10_byAct M l1 l2 l3 l4 l5 l6 = some (r', M')) : CT l s0 D ev yX10_leastFrom cX10_leastFrom 10 (some .int) (4 + 2 * d9 + 2) 0 0 [.ref (ev 0 + 65), .int l1, .int l2, .int l3, .int l4, .int l5, .int l6] (cells ev X M (nb + 1)) (QI s0 D ev r' (cells ev X M' (nb + 1))) := by
  refine ct_of G0 (by decide) (Nat.le_of_ble_eq_true rfl) ?_
  intro p9 e9 s9 m9 args9 below9 meth9 c9 F hr9 hl9 hin9 hargs9 hts9
  have L32 : ∀ (l1f32 : Int32) (l2f32 : Int32) (l3f32 : Int32) (l4f32 : Int32) (l5f32 : Int32) (l6f32 : Int32) (N32 : Nat) (M : MW) (l7 : Int32) (l8 : Int32), lo3 (fX10_leastFrom_l32 rX10_byAct l1f32 l2f32 l3f32 l4f32 l5f32 l6f32) N32 M l7 l8 = some (r', M') → GJ p9 l e9 (rg (4 + 2 * d9 + 2) 0 0) s9 m9 args9 below9 meth9 c9 (MQ below9 (QI s0 D ev r' (cells ev X M' (nb + 1))) args9 s9 0 0 (frA ev)) s0 D ev 10 0 0 32 [(0, .ref (ev 0 + 65)), (1, .int l1f32), (2, .int l2f32), (3, .int l3f32), (4, .int l4f32), (5, .int l5f32), (6, .int l6f32), (7, .int l7), (8, .int l8)] ([]) (cells ev X M (nb + 1)) := by
    intro l1f32 l2f32 l3f32 l4f32 l5f32 l6f32 N32
    induction N32 with
    | zero => intro M l7 l8 h; cases h
    | succ N32 ih32 =>
      intro M l7 l8 h
      change fX10_leastFrom_l32 rX10_byAct l1f32 l2f32 l3f32 l4f32 l5f32 l6f32 (lo3 (fX10_leastFrom_l32 rX10_byAct l1f32 l2f32 l3f32 l4f32 l5f32 l6f32) N32) M l7 l8 = some (r', M') at h
      rw [fX10_leastFrom_l32] at h
      refine g_iload (i := 8) F dX10_leastFrom_32 rfl ?_
      refine g_iconst F dX10_leastFrom_34 (v := 4) (by decide) ?_
      refine g_icmp_gt (tgt := 77) F dX10_leastFrom_35 (by decide) h (fun a8 h => ?_) (fun a8 h => ?_)
      · refine g_iload (i := 7) F dX10_leastFrom_77 rfl ?_
        have hp := Prod.mk.inj (Option.some.inj h)
        exact g_iret F hr9 rfl hl9 hp.1 (by rw [hp.2]) (by decide) (by decide) dX10_leastFrom_79
      · refine g_aload_n (i := 0) F dX10_leastFrom_38 rfl rfl ?_
        refine g_iload_n (i := 1) F dX10_leastFrom_39 rfl rfl ?_
        refine g_iload_n (i := 2) F dX10_leastFrom_40 rfl rfl ?_
        refine g_iload_n (i := 3) F dX10_leastFrom_41 rfl rfl ?_
        refine g_iload (i := 4) F dX10_leastFrom_42 rfl ?_
        refine g_iload (i := 5) F dX10_leastFrom_44 rfl ?_
        refine g_iload (i := 6) F dX10_leastFrom_46 rfl ?_
        refine g_iload (i := 8) F dX10_leastFrom_48 rfl ?_
        obtain ⟨v5, M4, e6, h⟩ := bd2_at h
        refine g_callVI F (mcR := 0) (msR := 0) (id := 65) (cells_at (kd_hidM (show kd 65 = 10 from rfl) (by decide)) (xc_10 rfl)) (ci := 10) rfl rfl rfl (IH_X10_byAct e6) wd_39_2 wd_38_23 wd_39_0 wd_39_1 wd_1_5 ⟨by decide, by decide⟩ (nn := 7) (by decide) (As := [.int l1f32, .int l2f32, .int l3f32, .int l4f32, .int l5f32, .int l6f32, .int l8]) rfl rfl (Nat.le_of_ble_eq_true rfl) (by omega) (by omega) ⟨by decide, by decide⟩ dX10_leastFrom_50 ?_
        refine g_istore (i := 9) (lv' := [(9, .int v5), (0, .ref (ev 0 + 65)), (1, .int l1f32), (2, .int l2f32), (3, .int l3f32), (4, .int l4f32), (5, .int l5f32), (6, .int l6f32), (7, .int l7), (8, .int l8)]) F dX10_leastFrom_53 (by decide) rfl ?_
        refine g_iload (i := 9) F dX10_leastFrom_55 rfl ?_
        refine g_iload (i := 7) F dX10_leastFrom_57 rfl ?_
        refine g_icmp_ge (tgt := 67) F dX10_leastFrom_59 (by decide) h (fun a7 h => ?_) (fun a7 h => ?_)
        · refine g_iload (i := 7) F dX10_leastFrom_67 rfl ?_
          refine g_istore (i := 7) (lv' := [(7, .int l7), (9, .int v5), (0, .ref (ev 0 + 65)), (1, .int l1f32), (2, .int l2f32), (3, .int l3f32), (4, .int l4f32), (5, .int l5f32), (6, .int l6f32), (8, .int l8)]) F dX10_leastFrom_69 (by decide) rfl ?_
          refine g_iinc (i := 8) (v := (l8 + (1 : Int32))) (lv' := [(8, .int (l8 + (1 : Int32))), (7, .int l7), (9, .int v5), (0, .ref (ev 0 + 65)), (1, .int l1f32), (2, .int l2f32), (3, .int l3f32), (4, .int l4f32), (5, .int l5f32), (6, .int l6f32)]) F dX10_leastFrom_71 rfl rfl (by decide) rfl ?_
          refine g_goto (tgt := 32) F dX10_leastFrom_74 (by decide) ?_
          refine g_lv (lv' := [(0, .ref (ev 0 + 65)), (1, .int l1f32), (2, .int l2f32), (3, .int l3f32), (4, .int l4f32), (5, .int l5f32), (6, .int l6f32), (7, .int l7), (8, .int (l8 + (1 : Int32)))]) ⟨rfl, rfl, rfl, rfl, rfl, rfl, rfl, rfl, rfl, trivial⟩ ?_
          exact ih32 _ _ _ h
        · refine g_iload (i := 9) F dX10_leastFrom_62 rfl ?_
          refine g_goto (tgt := 69) F dX10_leastFrom_64 (by decide) ?_
          refine g_istore (i := 7) (lv' := [(7, .int v5), (9, .int v5), (0, .ref (ev 0 + 65)), (1, .int l1f32), (2, .int l2f32), (3, .int l3f32), (4, .int l4f32), (5, .int l5f32), (6, .int l6f32), (8, .int l8)]) F dX10_leastFrom_69 (by decide) rfl ?_
          refine g_iinc (i := 8) (v := (l8 + (1 : Int32))) (lv' := [(8, .int (l8 + (1 : Int32))), (7, .int v5), (9, .int v5), (0, .ref (ev 0 + 65)), (1, .int l1f32), (2, .int l2f32), (3, .int l3f32), (4, .int l4f32), (5, .int l5f32), (6, .int l6f32)]) F dX10_leastFrom_71 rfl rfl (by decide) rfl ?_
          refine g_goto (tgt := 32) F dX10_leastFrom_74 (by decide) ?_
          refine g_lv (lv' := [(0, .ref (ev 0 + 65)), (1, .int l1f32), (2, .int l2f32), (3, .int l3f32), (4, .int l4f32), (5, .int l5f32), (6, .int l6f32), (7, .int v5), (8, .int (l8 + (1 : Int32)))]) ⟨rfl, rfl, rfl, rfl, rfl, rfl, rfl, rfl, rfl, trivial⟩ ?_
          exact ih32 _ _ _ h
  rw [fX10_leastFrom_r] at h
  refine g_lv (lv' := [(0, .ref (ev 0 + 65)), (1, .int l1), (2, .int l2), (3, .int l3), (4, .int l4), (5, .int l5), (6, .int l6)]) ⟨rfl, rfl, rfl, rfl, rfl, rfl, rfl, trivial⟩ ?_
  refine g_iload (i := 4) F dX10_leastFrom_0 rfl ?_
  refine g_if_eq (tgt := 11) F dX10_leastFrom_2 (by decide) h (fun a10 h => ?_) (fun a10 h => ?_)
  · refine g_iconst F dX10_leastFrom_11 (v := 0) (by decide) ?_
    have hp := Prod.mk.inj (Option.some.inj h)
    exact g_iret F hr9 rfl hl9 hp.1 (by rw [hp.2]) (by decide) (by decide) dX10_leastFrom_12
  · refine g_iload_n (i := 3) F dX10_leastFrom_5 rfl rfl ?_
    refine g_bipush F dX10_leastFrom_6 (v := 12) (by decide) ?_
    refine g_icmp_lt (tgt := 13) F dX10_leastFrom_8 (by decide) h (fun a9 h => ?_) (fun a9 h => ?_)
    · refine g_aload_n (i := 0) F dX10_leastFrom_13 rfl rfl ?_
      refine g_iload_n (i := 1) F dX10_leastFrom_14 rfl rfl ?_
      refine g_iload_n (i := 2) F dX10_leastFrom_15 rfl rfl ?_
      refine g_iload_n (i := 3) F dX10_leastFrom_16 rfl rfl ?_
      refine g_iload (i := 4) F dX10_leastFrom_17 rfl ?_
      refine g_iload (i := 5) F dX10_leastFrom_19 rfl ?_
      refine g_iload (i := 6) F dX10_leastFrom_21 rfl ?_
      refine g_iconst F dX10_leastFrom_23 (v := 0) (by decide) ?_
      obtain ⟨v2, M1, e3, h⟩ := bd2_at h
      refine g_callVI F (mcR := 0) (msR := 0) (id := 65) (cells_at (kd_hidM (show kd 65 = 10 from rfl) (by decide)) (xc_10 rfl)) (ci := 10) rfl rfl rfl (IH_X10_byAct e3) wd_39_2 wd_38_23 wd_39_0 wd_39_1 wd_1_5 ⟨by decide, by decide⟩ (nn := 7) (by decide) (As := [.int l1, .int l2, .int l3, .int l4, .int l5, .int l6, .int (0 : Int32)]) rfl rfl (Nat.le_of_ble_eq_true rfl) (by omega) (by omega) ⟨by decide, by decide⟩ dX10_leastFrom_24 ?_
      refine g_istore (i := 7) (lv' := [(7, .int v2), (0, .ref (ev 0 + 65)), (1, .int l1), (2, .int l2), (3, .int l3), (4, .int l4), (5, .int l5), (6, .int l6)]) F dX10_leastFrom_27 (by decide) rfl ?_
      refine g_iconst F dX10_leastFrom_29 (v := 1) (by decide) ?_
      refine g_istore (i := 8) (lv' := [(8, .int (1 : Int32)), (7, .int v2), (0, .ref (ev 0 + 65)), (1, .int l1), (2, .int l2), (3, .int l3), (4, .int l4), (5, .int l5), (6, .int l6)]) F dX10_leastFrom_30 (by decide) rfl ?_
      refine g_lv (lv' := [(0, .ref (ev 0 + 65)), (1, .int l1), (2, .int l2), (3, .int l3), (4, .int l4), (5, .int l5), (6, .int l6), (7, .int v2), (8, .int (1 : Int32))]) ⟨rfl, rfl, rfl, rfl, rfl, rfl, rfl, rfl, rfl, trivial⟩ ?_
      exact L32 _ _ _ _ _ _ FU _ _ _ h
    · refine g_iconst F dX10_leastFrom_11 (v := 0) (by decide) ?_
      have hp := Prod.mk.inj (Option.some.inj h)
      exact g_iret F hr9 rfl hl9 hp.1 (by rw [hp.2]) (by decide) (by decide) dX10_leastFrom_12
def fX10_byAct_b82 (rX10_leastFrom : MW → Int32 → Int32 → Int32 → Int32 → Int32 → Int32 → Option (Int32 × MW)) (M : MW) (l1 : Int32) (l2 : Int32) (l3 : Int32) (l4 : Int32) (l8 : Int32) (l9 : Int32) (l10 : Int32) (t1 : Int32) (t2 : Int32) (t3 : Int32) (t4 : Int32) (t5 : Int32) : Option (Int32 × MW) :=
  bd2 (fX10_drags M t1 t2 t3 t4 t5 l9) fun v2 M1 =>
  if v2 = 0 then bd2 (rX10_leastFrom M1 l1 l2 (l3 + (1 : Int32)) (l4 - (1 : Int32)) l8 l9) fun v11 M10 =>
  some ((l10 + v11), M10)
  else (fX10_further M1 l2 l3).bind fun v4 =>
  if v4 = (-1 : Int32) then some ((l10 + (50 : Int32)), M1)
  else bd2 (rX10_leastFrom M1 l1 v4 (l3 + (1 : Int32)) (l4 - (1 : Int32)) l8 l9) fun v7 M6 =>
  some (((l10 + (5 : Int32)) + v7), M6)
def fX10_byAct_b62 (rX10_leastFrom : MW → Int32 → Int32 → Int32 → Int32 → Int32 → Int32 → Option (Int32 × MW)) (M : MW) (l1 : Int32) (l2 : Int32) (l3 : Int32) (l4 : Int32) (l7 : Int32) (l8 : Int32) (l9 : Int32) (t0 : Int32) : Option (Int32 × MW) :=
  if l7 = (2 : Int32) then fX10_byAct_b82 rX10_leastFrom M l1 l2 l3 l4 l8 l9 t0 l1 l2 l3 l8 (40 : Int32)
  else fX10_byAct_b82 rX10_leastFrom M l1 l2 l3 l4 l8 l9 t0 l1 l2 l3 l8 (0 : Int32)
def fX10_byAct_b48 (rX10_leastFrom : MW → Int32 → Int32 → Int32 → Int32 → Int32 → Int32 → Option (Int32 × MW)) (M : MW) (l1 : Int32) (l2 : Int32) (l3 : Int32) (l4 : Int32) (l7 : Int32) (l8 : Int32) (t0 : Int32) : Option (Int32 × MW) :=
  if l7 = (3 : Int32) then fX10_byAct_b62 rX10_leastFrom M l1 l2 l3 l4 l7 l8 t0 (4 : Int32)
  else fX10_byAct_b62 rX10_leastFrom M l1 l2 l3 l4 l7 l8 t0 l7
def fX10_byAct_b30 (rX10_leastFrom : MW → Int32 → Int32 → Int32 → Int32 → Int32 → Int32 → Option (Int32 × MW)) (M : MW) (l1 : Int32) (l2 : Int32) (l3 : Int32) (l4 : Int32) (l6 : Int32) (l7 : Int32) (t0 : Int32) : Option (Int32 × MW) :=
  if l7 = (3 : Int32) then fX10_byAct_b48 rX10_leastFrom M l1 l2 l3 l4 l7 t0 (l6 + (50 : Int32))
  else fX10_byAct_b48 rX10_leastFrom M l1 l2 l3 l4 l7 t0 l6
def fX10_byAct_r (rX10_leastFrom : MW → Int32 → Int32 → Int32 → Int32 → Int32 → Int32 → Option (Int32 × MW)) (M : MW) (l1 : Int32) (l2 : Int32) (l3 : Int32) (l4 : Int32) (l5 : Int32) (l6 : Int32) (l7 : Int32) : Option (Int32 × MW) :=
  if l7 = (4 : Int32) then some ((9 : Int32), M)
  else if l7 = (1 : Int32) then fX10_byAct_b30 rX10_leastFrom M l1 l2 l3 l4 l6 l7 (fX10_within (l5 + (5 : Int32)) (1 : Int32) (40 : Int32))
  else fX10_byAct_b30 rX10_leastFrom M l1 l2 l3 l4 l6 l7 l5
set_option maxRecDepth 100000 in
set_option maxHeartbeats 4000000 in
theorem c_X10_byAct_r {l : Launch} {s0 : State} {D : va_G} {ev : Nat → Nat} (G0 : Gl s0 D ev) {X : XW} {M : MW} {nb : Nat} {l1 : Int32} {l2 : Int32} {l3 : Int32} {l4 : Int32} {l5 : Int32} {l6 : Int32} {l7 : Int32} {r' : Int32} {M' : MW}  {d9 : Nat} {rX10_leastFrom : MW → Int32 → Int32 → Int32 → Int32 → Int32 → Int32 → Option (Int32 × MW)} (IH_X10_leastFrom : ∀ {M1 : MW} {M2 : MW} {q1 : Int32} {q2 : Int32} {q3 : Int32} {q4 : Int32} {q5 : Int32} {q6 : Int32} {r2 : Int32}, rX10_leastFrom M1 q1 q2 q3 q4 q5 q6 = some (r2, M2) → CT l s0 D ev yX10_leastFrom cX10_leastFrom 10 (some .int) (4 + 2 * d9) 0 0 [.ref (ev 0 + 65), .int q1, .int q2, .int q3, .int q4, .int q5, .int q6] (cells ev X M1 (nb + 1)) (QI s0 D ev r2 (cells ev X M2 (nb + 1)))) (h : fX10_byAct_r rX10_leastFrom M l1 l2 l3 l4 l5 l6 l7 = some (r', M')) : CT l s0 D ev yX10_byAct cX10_byAct 12 (some .int) (4 + 2 * d9 + 1) 0 0 [.ref (ev 0 + 65), .int l1, .int l2, .int l3, .int l4, .int l5, .int l6, .int l7] (cells ev X M (nb + 1)) (QI s0 D ev r' (cells ev X M' (nb + 1))) := by
  refine ct_of G0 (by decide) (Nat.le_of_ble_eq_true rfl) ?_
  intro p9 e9 s9 m9 args9 below9 meth9 c9 F hr9 hl9 hin9 hargs9 hts9
  have U82 : ∀ (M : MW) (l1 : Int32) (l2 : Int32) (l3 : Int32) (l4 : Int32) (l8 : Int32) (l9 : Int32) (l10 : Int32) (t1 : Int32) (t2 : Int32) (t3 : Int32) (t4 : Int32) (t5 : Int32), fX10_byAct_b82 rX10_leastFrom M l1 l2 l3 l4 l8 l9 l10 t1 t2 t3 t4 t5 = some (r', M') → GJ p9 l e9 (rg (4 + 2 * d9 + 1) 0 0) s9 m9 args9 below9 meth9 c9 (MQ below9 (QI s0 D ev r' (cells ev X M' (nb + 1))) args9 s9 0 0 (frA ev)) s0 D ev 12 0 0 82 [(0, .ref (ev 0 + 65)), (1, .int l1), (2, .int l2), (3, .int l3), (4, .int l4), (8, .int l8), (9, .int l9), (10, .int l10)] (.int t5 :: .int t4 :: .int t3 :: .int t2 :: .int t1 :: .ref (ev 0 + 65) :: []) (cells ev X M (nb + 1)) := by
    intro M l1 l2 l3 l4 l8 l9 l10 t1 t2 t3 t4 t5 h
    rw [fX10_byAct_b82] at h
    refine g_iload (i := 9) F dX10_byAct_82 rfl ?_
    obtain ⟨v2, M1, e3, h⟩ := bd2_at h
    refine g_callVI F (mcR := 0) (msR := 0) (id := 65) (cells_at (kd_hidM (show kd 65 = 10 from rfl) (by decide)) (xc_10 rfl)) (ci := 10) rfl rfl rfl (c_X10_drags G0 e3) wd_30_10 wd_30_7 wd_30_8 wd_30_9 wd_1_5 ⟨by decide, by decide⟩ (nn := 6) (by decide) (As := [.int t1, .int t2, .int t3, .int t4, .int t5, .int l9]) rfl rfl (Nat.le_of_ble_eq_true rfl) (by omega) (by omega) ⟨by decide, by decide⟩ dX10_byAct_84 ?_
    refine g_if_ne (tgt := 111) F dX10_byAct_87 (by decide) h (fun a13 h => ?_) (fun a13 h => ?_)
    · refine g_aload_n (i := 0) F dX10_byAct_111 rfl rfl ?_
      refine g_iload_n (i := 2) F dX10_byAct_112 rfl rfl ?_
      refine g_iload_n (i := 3) F dX10_byAct_113 rfl rfl ?_
      obtain ⟨v4, e5, h⟩ := bind_at h
      refine g_callVI F (mcR := 0) (msR := 0) (id := 65) (cells_at (kd_hidM (show kd 65 = 10 from rfl) (by decide)) (xc_10 rfl)) (ci := 10) rfl rfl rfl (c_X10_further G0 e5) wd_30_21 wd_30_18 wd_30_19 wd_30_20 wd_1_5 ⟨by decide, by decide⟩ (nn := 2) (by decide) (As := [.int l2, .int l3]) rfl rfl (Nat.le_of_ble_eq_true rfl) (by omega) (by omega) ⟨by decide, by decide⟩ dX10_byAct_114 ?_
      refine g_istore (i := 11) (lv' := [(11, .int v4), (0, .ref (ev 0 + 65)), (1, .int l1), (2, .int l2), (3, .int l3), (4, .int l4), (8, .int l8), (9, .int l9), (10, .int l10)]) F dX10_byAct_117 (by decide) rfl ?_
      refine g_iload (i := 11) F dX10_byAct_119 rfl ?_
      refine g_iconst F dX10_byAct_121 (v := -1) (by decide) ?_
      refine g_icmp_ne (tgt := 133) F dX10_byAct_122 (by decide) h (fun a9 h => ?_) (fun a9 h => ?_)
      · refine g_iload (i := 10) F dX10_byAct_133 rfl ?_
        refine g_iconst F dX10_byAct_135 (v := 5) (by decide) ?_
        refine g_iadd F dX10_byAct_136 ?_
        refine g_aload_n (i := 0) F dX10_byAct_137 rfl rfl ?_
        refine g_iload_n (i := 1) F dX10_byAct_138 rfl rfl ?_
        refine g_iload (i := 11) F dX10_byAct_139 rfl ?_
        refine g_iload_n (i := 3) F dX10_byAct_141 rfl rfl ?_
        refine g_iconst F dX10_byAct_142 (v := 1) (by decide) ?_
        refine g_iadd F dX10_byAct_143 ?_
        refine g_iload (i := 4) F dX10_byAct_144 rfl ?_
        refine g_iconst F dX10_byAct_146 (v := 1) (by decide) ?_
        refine g_isub F dX10_byAct_147 ?_
        refine g_iload (i := 8) F dX10_byAct_148 rfl ?_
        refine g_iload (i := 9) F dX10_byAct_150 rfl ?_
        obtain ⟨v7, M6, e8, h⟩ := bd2_at h
        refine g_callVI F (mcR := 0) (msR := 0) (id := 65) (cells_at (kd_hidM (show kd 65 = 10 from rfl) (by decide)) (xc_10 rfl)) (ci := 10) rfl rfl rfl (IH_X10_leastFrom e8) wd_39_6 wd_39_3 wd_39_4 wd_39_5 wd_1_5 ⟨by decide, by decide⟩ (nn := 6) (by decide) (As := [.int l1, .int v4, .int (l3 + (1 : Int32)), .int (l4 - (1 : Int32)), .int l8, .int l9]) rfl rfl (Nat.le_of_ble_eq_true rfl) (by omega) (by omega) ⟨by decide, by decide⟩ dX10_byAct_152 ?_
        refine g_iadd F dX10_byAct_155 ?_
        have hp := Prod.mk.inj (Option.some.inj h)
        exact g_iret F hr9 rfl hl9 hp.1 (by rw [hp.2]) (by decide) (by decide) dX10_byAct_156
      · refine g_iload (i := 10) F dX10_byAct_125 rfl ?_
        refine g_bipush F dX10_byAct_127 (v := 50) (by decide) ?_
        refine g_iadd F dX10_byAct_129 ?_
        refine g_goto (tgt := 156) F dX10_byAct_130 (by decide) ?_
        have hp := Prod.mk.inj (Option.some.inj h)
        exact g_iret F hr9 rfl hl9 hp.1 (by rw [hp.2]) (by decide) (by decide) dX10_byAct_156
    · refine g_iload (i := 10) F dX10_byAct_90 rfl ?_
      refine g_aload_n (i := 0) F dX10_byAct_92 rfl rfl ?_
      refine g_iload_n (i := 1) F dX10_byAct_93 rfl rfl ?_
      refine g_iload_n (i := 2) F dX10_byAct_94 rfl rfl ?_
      refine g_iload_n (i := 3) F dX10_byAct_95 rfl rfl ?_
      refine g_iconst F dX10_byAct_96 (v := 1) (by decide) ?_
      refine g_iadd F dX10_byAct_97 ?_
      refine g_iload (i := 4) F dX10_byAct_98 rfl ?_
      refine g_iconst F dX10_byAct_100 (v := 1) (by decide) ?_
      refine g_isub F dX10_byAct_101 ?_
      refine g_iload (i := 8) F dX10_byAct_102 rfl ?_
      refine g_iload (i := 9) F dX10_byAct_104 rfl ?_
      obtain ⟨v11, M10, e12, h⟩ := bd2_at h
      refine g_callVI F (mcR := 0) (msR := 0) (id := 65) (cells_at (kd_hidM (show kd 65 = 10 from rfl) (by decide)) (xc_10 rfl)) (ci := 10) rfl rfl rfl (IH_X10_leastFrom e12) wd_39_6 wd_39_3 wd_39_4 wd_39_5 wd_1_5 ⟨by decide, by decide⟩ (nn := 6) (by decide) (As := [.int l1, .int l2, .int (l3 + (1 : Int32)), .int (l4 - (1 : Int32)), .int l8, .int l9]) rfl rfl (Nat.le_of_ble_eq_true rfl) (by omega) (by omega) ⟨by decide, by decide⟩ dX10_byAct_106 ?_
      refine g_iadd F dX10_byAct_109 ?_
      have hp := Prod.mk.inj (Option.some.inj h)
      exact g_iret F hr9 rfl hl9 hp.1 (by rw [hp.2]) (by decide) (by decide) dX10_byAct_110
  have U62 : ∀ (M : MW) (l1 : Int32) (l2 : Int32) (l3 : Int32) (l4 : Int32) (l7 : Int32) (l8 : Int32) (l9 : Int32) (t0 : Int32), fX10_byAct_b62 rX10_leastFrom M l1 l2 l3 l4 l7 l8 l9 t0 = some (r', M') → GJ p9 l e9 (rg (4 + 2 * d9 + 1) 0 0) s9 m9 args9 below9 meth9 c9 (MQ below9 (QI s0 D ev r' (cells ev X M' (nb + 1))) args9 s9 0 0 (frA ev)) s0 D ev 12 0 0 62 [(0, .ref (ev 0 + 65)), (1, .int l1), (2, .int l2), (3, .int l3), (4, .int l4), (7, .int l7), (8, .int l8), (9, .int l9)] (.int t0 :: []) (cells ev X M (nb + 1)) := by
    intro M l1 l2 l3 l4 l7 l8 l9 t0 h
    rw [fX10_byAct_b62] at h
    refine g_istore (i := 10) (lv' := [(10, .int t0), (0, .ref (ev 0 + 65)), (1, .int l1), (2, .int l2), (3, .int l3), (4, .int l4), (7, .int l7), (8, .int l8), (9, .int l9)]) F dX10_byAct_62 (by decide) rfl ?_
    refine g_aload_n (i := 0) F dX10_byAct_64 rfl rfl ?_
    refine g_iload_n (i := 1) F dX10_byAct_65 rfl rfl ?_
    refine g_iload_n (i := 2) F dX10_byAct_66 rfl rfl ?_
    refine g_iload_n (i := 3) F dX10_byAct_67 rfl rfl ?_
    refine g_iload (i := 8) F dX10_byAct_68 rfl ?_
    refine g_iload (i := 7) F dX10_byAct_70 rfl ?_
    refine g_iconst F dX10_byAct_72 (v := 2) (by decide) ?_
    refine g_icmp_ne (tgt := 81) F dX10_byAct_73 (by decide) h (fun a14 h => ?_) (fun a14 h => ?_)
    · refine g_iconst F dX10_byAct_81 (v := 0) (by decide) ?_
      refine g_lv (lv' := [(0, .ref (ev 0 + 65)), (1, .int l1), (2, .int l2), (3, .int l3), (4, .int l4), (8, .int l8), (9, .int l9), (10, .int t0)]) ⟨rfl, rfl, rfl, rfl, rfl, rfl, rfl, rfl, trivial⟩ ?_
      exact U82 _ _ _ _ _ _ _ _ _ _ _ _ _ h
    · refine g_bipush F dX10_byAct_76 (v := 40) (by decide) ?_
      refine g_goto (tgt := 82) F dX10_byAct_78 (by decide) ?_
      refine g_lv (lv' := [(0, .ref (ev 0 + 65)), (1, .int l1), (2, .int l2), (3, .int l3), (4, .int l4), (8, .int l8), (9, .int l9), (10, .int t0)]) ⟨rfl, rfl, rfl, rfl, rfl, rfl, rfl, rfl, trivial⟩ ?_
      exact U82 _ _ _ _ _ _ _ _ _ _ _ _ _ h
  have U48 : ∀ (M : MW) (l1 : Int32) (l2 : Int32) (l3 : Int32) (l4 : Int32) (l7 : Int32) (l8 : Int32) (t0 : Int32), fX10_byAct_b48 rX10_leastFrom M l1 l2 l3 l4 l7 l8 t0 = some (r', M') → GJ p9 l e9 (rg (4 + 2 * d9 + 1) 0 0) s9 m9 args9 below9 meth9 c9 (MQ below9 (QI s0 D ev r' (cells ev X M' (nb + 1))) args9 s9 0 0 (frA ev)) s0 D ev 12 0 0 48 [(0, .ref (ev 0 + 65)), (1, .int l1), (2, .int l2), (3, .int l3), (4, .int l4), (7, .int l7), (8, .int l8)] (.int t0 :: []) (cells ev X M (nb + 1)) := by
    intro M l1 l2 l3 l4 l7 l8 t0 h
    rw [fX10_byAct_b48] at h
    refine g_istore (i := 9) (lv' := [(9, .int t0), (0, .ref (ev 0 + 65)), (1, .int l1), (2, .int l2), (3, .int l3), (4, .int l4), (7, .int l7), (8, .int l8)]) F dX10_byAct_48 (by decide) rfl ?_
    refine g_iload (i := 7) F dX10_byAct_50 rfl ?_
    refine g_iconst F dX10_byAct_52 (v := 3) (by decide) ?_
    refine g_icmp_ne (tgt := 60) F dX10_byAct_53 (by decide) h (fun a15 h => ?_) (fun a15 h => ?_)
    · refine g_iload (i := 7) F dX10_byAct_60 rfl ?_
      refine g_lv (lv' := [(0, .ref (ev 0 + 65)), (1, .int l1), (2, .int l2), (3, .int l3), (4, .int l4), (7, .int l7), (8, .int l8), (9, .int t0)]) ⟨rfl, rfl, rfl, rfl, rfl, rfl, rfl, rfl, trivial⟩ ?_
      exact U62 _ _ _ _ _ _ _ _ _ h
    · refine g_iconst F dX10_byAct_56 (v := 4) (by decide) ?_
      refine g_goto (tgt := 62) F dX10_byAct_57 (by decide) ?_
      refine g_lv (lv' := [(0, .ref (ev 0 + 65)), (1, .int l1), (2, .int l2), (3, .int l3), (4, .int l4), (7, .int l7), (8, .int l8), (9, .int t0)]) ⟨rfl, rfl, rfl, rfl, rfl, rfl, rfl, rfl, trivial⟩ ?_
      exact U62 _ _ _ _ _ _ _ _ _ h
  have U30 : ∀ (M : MW) (l1 : Int32) (l2 : Int32) (l3 : Int32) (l4 : Int32) (l6 : Int32) (l7 : Int32) (t0 : Int32), fX10_byAct_b30 rX10_leastFrom M l1 l2 l3 l4 l6 l7 t0 = some (r', M') → GJ p9 l e9 (rg (4 + 2 * d9 + 1) 0 0) s9 m9 args9 below9 meth9 c9 (MQ below9 (QI s0 D ev r' (cells ev X M' (nb + 1))) args9 s9 0 0 (frA ev)) s0 D ev 12 0 0 30 [(0, .ref (ev 0 + 65)), (1, .int l1), (2, .int l2), (3, .int l3), (4, .int l4), (6, .int l6), (7, .int l7)] (.int t0 :: []) (cells ev X M (nb + 1)) := by
    intro M l1 l2 l3 l4 l6 l7 t0 h
    rw [fX10_byAct_b30] at h
    refine g_istore (i := 8) (lv' := [(8, .int t0), (0, .ref (ev 0 + 65)), (1, .int l1), (2, .int l2), (3, .int l3), (4, .int l4), (6, .int l6), (7, .int l7)]) F dX10_byAct_30 (by decide) rfl ?_
    refine g_iload (i := 7) F dX10_byAct_32 rfl ?_
    refine g_iconst F dX10_byAct_34 (v := 3) (by decide) ?_
    refine g_icmp_ne (tgt := 46) F dX10_byAct_35 (by decide) h (fun a16 h => ?_) (fun a16 h => ?_)
    · refine g_iload (i := 6) F dX10_byAct_46 rfl ?_
      refine g_lv (lv' := [(0, .ref (ev 0 + 65)), (1, .int l1), (2, .int l2), (3, .int l3), (4, .int l4), (7, .int l7), (8, .int t0)]) ⟨rfl, rfl, rfl, rfl, rfl, rfl, rfl, trivial⟩ ?_
      exact U48 _ _ _ _ _ _ _ _ h
    · refine g_iload (i := 6) F dX10_byAct_38 rfl ?_
      refine g_bipush F dX10_byAct_40 (v := 50) (by decide) ?_
      refine g_iadd F dX10_byAct_42 ?_
      refine g_goto (tgt := 48) F dX10_byAct_43 (by decide) ?_
      refine g_lv (lv' := [(0, .ref (ev 0 + 65)), (1, .int l1), (2, .int l2), (3, .int l3), (4, .int l4), (7, .int l7), (8, .int t0)]) ⟨rfl, rfl, rfl, rfl, rfl, rfl, rfl, trivial⟩ ?_
      exact U48 _ _ _ _ _ _ _ _ h
  rw [fX10_byAct_r] at h
  refine g_lv (lv' := [(0, .ref (ev 0 + 65)), (1, .int l1), (2, .int l2), (3, .int l3), (4, .int l4), (5, .int l5), (6, .int l6), (7, .int l7)]) ⟨rfl, rfl, rfl, rfl, rfl, rfl, rfl, rfl, trivial⟩ ?_
  refine g_iload (i := 7) F dX10_byAct_0 rfl ?_
  refine g_iconst F dX10_byAct_2 (v := 4) (by decide) ?_
  refine g_icmp_ne (tgt := 9) F dX10_byAct_3 (by decide) h (fun a20 h => ?_) (fun a20 h => ?_)
  · refine g_iload (i := 7) F dX10_byAct_9 rfl ?_
    refine g_iconst F dX10_byAct_11 (v := 1) (by decide) ?_
    refine g_icmp_ne (tgt := 28) F dX10_byAct_12 (by decide) h (fun a19 h => ?_) (fun a19 h => ?_)
    · refine g_iload (i := 5) F dX10_byAct_28 rfl ?_
      refine g_lv (lv' := [(0, .ref (ev 0 + 65)), (1, .int l1), (2, .int l2), (3, .int l3), (4, .int l4), (6, .int l6), (7, .int l7)]) ⟨rfl, rfl, rfl, rfl, rfl, rfl, rfl, trivial⟩ ?_
      exact U30 _ _ _ _ _ _ _ _ h
    · refine g_iload (i := 5) F dX10_byAct_15 rfl ?_
      refine g_iconst F dX10_byAct_17 (v := 5) (by decide) ?_
      refine g_iadd F dX10_byAct_18 ?_
      refine g_iconst F dX10_byAct_19 (v := 1) (by decide) ?_
      refine g_bipush F dX10_byAct_20 (v := 40) (by decide) ?_
      refine g_callSI F (mcR := 0) (msR := 0) (c_X10_within G0 (X := X) (M := M) (nb := nb) rfl) wd_21_17 wd_21_15 wd_21_16 wd_1_5 ⟨by decide, by decide⟩ (nn := 3) (by decide) (As := [.int (l5 + (5 : Int32)), .int (1 : Int32), .int (40 : Int32)]) rfl rfl (Nat.le_of_ble_eq_true rfl) (by omega) (by omega) ⟨by decide, by decide⟩ dX10_byAct_22 ?_
      refine g_goto (tgt := 30) F dX10_byAct_25 (by decide) ?_
      refine g_lv (lv' := [(0, .ref (ev 0 + 65)), (1, .int l1), (2, .int l2), (3, .int l3), (4, .int l4), (6, .int l6), (7, .int l7)]) ⟨rfl, rfl, rfl, rfl, rfl, rfl, rfl, trivial⟩ ?_
      exact U30 _ _ _ _ _ _ _ _ h
  · refine g_bipush F dX10_byAct_6 (v := 9) (by decide) ?_
    have hp := Prod.mk.inj (Option.some.inj h)
    exact g_iret F hr9 rfl hl9 hp.1 (by rw [hp.2]) (by decide) (by decide) dX10_byAct_8
def fX10_LF : Nat → MW → Int32 → Int32 → Int32 → Int32 → Int32 → Int32 → Option (Int32 × MW)
  | 0 => fun _ _ _ _ _ _ _ => none
  | d + 1 => fX10_leastFrom_r (fX10_byAct_r (fX10_LF d))
def fX10_byAct (d : Nat) : MW → Int32 → Int32 → Int32 → Int32 → Int32 → Int32 → Int32 → Option (Int32 × MW) := fX10_byAct_r (fX10_LF d)
theorem c_X10_LF {l : Launch} {s0 : State} {D : va_G} {ev : Nat → Nat} (G0 : Gl s0 D ev) {X : XW} {nb : Nat} : ∀ (d : Nat) {M1 : MW} {M2 : MW} {q1 : Int32} {q2 : Int32} {q3 : Int32} {q4 : Int32} {q5 : Int32} {q6 : Int32} {r2 : Int32}, fX10_LF d M1 q1 q2 q3 q4 q5 q6 = some (r2, M2) → CT l s0 D ev yX10_leastFrom cX10_leastFrom 10 (some .int) (4 + 2 * d) 0 0 [.ref (ev 0 + 65), .int q1, .int q2, .int q3, .int q4, .int q5, .int q6] (cells ev X M1 (nb + 1)) (QI s0 D ev r2 (cells ev X M2 (nb + 1))) := by
  intro d
  induction d with
  | zero => intro u0 u1 u2 u3 u4 u5 u6 u7 u8 h; cases h
  | succ d ih => intro u0 u1 u2 u3 u4 u5 u6 u7 u8 h; exact c_X10_leastFrom_r (d9 := d) G0 (rX10_byAct := fX10_byAct_r (fX10_LF d)) (fun h2 => c_X10_byAct_r (d9 := d) G0 (rX10_leastFrom := fX10_LF d) (fun h3 => ih h3) h2) h
theorem c_X10_byAct {l : Launch} {s0 : State} {D : va_G} {ev : Nat → Nat} (G0 : Gl s0 D ev) {X : XW} {nb : Nat} {d : Nat} {M1 : MW} {M2 : MW} {q1 : Int32} {q2 : Int32} {q3 : Int32} {q4 : Int32} {q5 : Int32} {q6 : Int32} {q7 : Int32} {r2 : Int32} : fX10_byAct d M1 q1 q2 q3 q4 q5 q6 q7 = some (r2, M2) → CT l s0 D ev yX10_byAct cX10_byAct 12 (some .int) (4 + 2 * d + 1) 0 0 [.ref (ev 0 + 65), .int q1, .int q2, .int q3, .int q4, .int q5, .int q6, .int q7] (cells ev X M1 (nb + 1)) (QI s0 D ev r2 (cells ev X M2 (nb + 1))) := fun h => c_X10_byAct_r (d9 := d) G0 (rX10_leastFrom := fX10_LF d) (fun h3 => c_X10_LF G0 d h3) h
def fX10_next__b148 (M : MW) (l3 : Int32) (l4 : Int32) (l5 : Int32) : Option (Int32 × MW) :=
  if l3 = 0 then some (l4, M)
  else some (l5, M)
def fX10_next__b124 (l1f77 : Int32) (l2f77 : Int32) (l3f77 : Int32) (K77 : MW → Int32 → Int32 → Int32 → Option (Int32 × MW)) (M : MW) (l5 : Int32) (l6 : Int32) (l7 : Int32) (t0 : Int32) : Option (Int32 × MW) :=
  if l5 ≤ l7 then K77 M t0 l5 (l6 + (1 : Int32))
  else K77 M t0 l7 (l6 + (1 : Int32))
def fX10_next__l77 (l1f77 : Int32) (l2f77 : Int32) (l3f77 : Int32) (K77 : MW → Int32 → Int32 → Int32 → Option (Int32 × MW)) (M : MW) (l4 : Int32) (l5 : Int32) (l6 : Int32) : Option (Int32 × MW) :=
  if (4 : Int32) < l6 then fX10_next__b148 M l3f77 l4 l5
  else (rd (M.2 77) 6 l1f77).bind fun v17 =>
  (rd (M.2 78) 6 l1f77).bind fun v19 =>
  bd2 (fX10_byAct 8 M l1f77 v17 (M.1 7) l2f77 v19 (0 : Int32) l6) fun v22 M21 =>
  if l5 ≤ v22 then fX10_next__b124 l1f77 l2f77 l3f77 K77 M21 l5 l6 v22 l4
  else fX10_next__b124 l1f77 l2f77 l3f77 K77 M21 l5 l6 v22 l6
def fX10_next_ (M : MW) (l1 : Int32) (l2 : Int32) (l3 : Int32) : Option (Int32 × MW) :=
  if (fX10_isBoat M l1) = 0 then some ((-5 : Int32), M)
  else if (fX10_in l2 (1 : Int32) (4 : Int32)) = 0 then some ((-7 : Int32), M)
  else if (fX10_in l3 (0 : Int32) (1 : Int32)) = 0 then some ((-7 : Int32), M)
  else (rd (M.2 77) 6 l1).bind fun v7 =>
  if v7 = (-1 : Int32) then some ((-3 : Int32), M)
  else (rd (M.2 77) 6 l1).bind fun v9 =>
  (rd (M.2 78) 6 l1).bind fun v11 =>
  bd2 (fX10_byAct 8 M l1 v9 (M.1 7) l2 v11 (0 : Int32) (0 : Int32)) fun v14 M13 =>
  lo4 (fX10_next__l77 l1 l2 l3) FU M13 (0 : Int32) v14 (1 : Int32)
set_option maxRecDepth 100000 in
set_option maxHeartbeats 4000000 in
theorem c_X10_next_ {l : Launch} {s0 : State} {D : va_G} {ev : Nat → Nat} (G0 : Gl s0 D ev) {X : XW} {M : MW} {nb : Nat} {l1 : Int32} {l2 : Int32} {l3 : Int32} {r' : Int32} {M' : MW}  (h : fX10_next_ M l1 l2 l3 = some (r', M')) : CT l s0 D ev yX10_next_ cX10_next_ 8 (some .int) 23 0 0 [.ref (ev 0 + 65), .int l1, .int l2, .int l3] (cells ev X M (nb + 1)) (QI s0 D ev r' (cells ev X M' (nb + 1))) := by
  refine ct_of G0 (by decide) (Nat.le_of_ble_eq_true rfl) ?_
  intro p9 e9 s9 m9 args9 below9 meth9 c9 F hr9 hl9 hin9 hargs9 hts9
  have U148 : ∀ (M : MW) (l3 : Int32) (l4 : Int32) (l5 : Int32), fX10_next__b148 M l3 l4 l5 = some (r', M') → GJ p9 l e9 (rg 23 0 0) s9 m9 args9 below9 meth9 c9 (MQ below9 (QI s0 D ev r' (cells ev X M' (nb + 1))) args9 s9 0 0 (frA ev)) s0 D ev 8 0 0 148 [(3, .int l3), (4, .int l4), (5, .int l5)] ([]) (cells ev X M (nb + 1)) := by
    intro M l3 l4 l5 h
    rw [fX10_next__b148] at h
    refine g_iload_n (i := 3) F dX10_next__148 rfl rfl ?_
    refine g_if_ne (tgt := 157) F dX10_next__149 (by decide) h (fun a16 h => ?_) (fun a16 h => ?_)
    · refine g_iload (i := 5) F dX10_next__157 rfl ?_
      have hp := Prod.mk.inj (Option.some.inj h)
      exact g_iret F hr9 rfl hl9 hp.1 (by rw [hp.2]) (by decide) (by decide) dX10_next__159
    · refine g_iload (i := 4) F dX10_next__152 rfl ?_
      refine g_goto (tgt := 159) F dX10_next__154 (by decide) ?_
      have hp := Prod.mk.inj (Option.some.inj h)
      exact g_iret F hr9 rfl hl9 hp.1 (by rw [hp.2]) (by decide) (by decide) dX10_next__159
  have L77 : ∀ (l1f77 : Int32) (l2f77 : Int32) (l3f77 : Int32) (N77 : Nat) (M : MW) (l4 : Int32) (l5 : Int32) (l6 : Int32), lo4 (fX10_next__l77 l1f77 l2f77 l3f77) N77 M l4 l5 l6 = some (r', M') → GJ p9 l e9 (rg 23 0 0) s9 m9 args9 below9 meth9 c9 (MQ below9 (QI s0 D ev r' (cells ev X M' (nb + 1))) args9 s9 0 0 (frA ev)) s0 D ev 8 0 0 77 [(0, .ref (ev 0 + 65)), (1, .int l1f77), (2, .int l2f77), (3, .int l3f77), (4, .int l4), (5, .int l5), (6, .int l6)] ([]) (cells ev X M (nb + 1)) := by
    intro l1f77 l2f77 l3f77 N77
    induction N77 with
    | zero => intro M l4 l5 l6 h; cases h
    | succ N77 ih77 =>
      have U124 : ∀ (M : MW) (l5 : Int32) (l6 : Int32) (l7 : Int32) (t0 : Int32), fX10_next__b124 l1f77 l2f77 l3f77 (lo4 (fX10_next__l77 l1f77 l2f77 l3f77) N77) M l5 l6 l7 t0 = some (r', M') → GJ p9 l e9 (rg 23 0 0) s9 m9 args9 below9 meth9 c9 (MQ below9 (QI s0 D ev r' (cells ev X M' (nb + 1))) args9 s9 0 0 (frA ev)) s0 D ev 8 0 0 124 [(0, .ref (ev 0 + 65)), (1, .int l1f77), (2, .int l2f77), (3, .int l3f77), (5, .int l5), (6, .int l6), (7, .int l7)] (.int t0 :: []) (cells ev X M (nb + 1)) := by
        intro M l5 l6 l7 t0 h
        rw [fX10_next__b124] at h
        refine g_istore (i := 4) (lv' := [(4, .int t0), (0, .ref (ev 0 + 65)), (1, .int l1f77), (2, .int l2f77), (3, .int l3f77), (5, .int l5), (6, .int l6), (7, .int l7)]) F dX10_next__124 (by decide) rfl ?_
        refine g_iload (i := 7) F dX10_next__126 rfl ?_
        refine g_iload (i := 5) F dX10_next__128 rfl ?_
        refine g_icmp_ge (tgt := 138) F dX10_next__130 (by decide) h (fun a24 h => ?_) (fun a24 h => ?_)
        · refine g_iload (i := 5) F dX10_next__138 rfl ?_
          refine g_istore (i := 5) (lv' := [(5, .int l5), (4, .int t0), (0, .ref (ev 0 + 65)), (1, .int l1f77), (2, .int l2f77), (3, .int l3f77), (6, .int l6), (7, .int l7)]) F dX10_next__140 (by decide) rfl ?_
          refine g_iinc (i := 6) (v := (l6 + (1 : Int32))) (lv' := [(6, .int (l6 + (1 : Int32))), (5, .int l5), (4, .int t0), (0, .ref (ev 0 + 65)), (1, .int l1f77), (2, .int l2f77), (3, .int l3f77), (7, .int l7)]) F dX10_next__142 rfl rfl (by decide) rfl ?_
          refine g_goto (tgt := 77) F dX10_next__145 (by decide) ?_
          refine g_lv (lv' := [(0, .ref (ev 0 + 65)), (1, .int l1f77), (2, .int l2f77), (3, .int l3f77), (4, .int t0), (5, .int l5), (6, .int (l6 + (1 : Int32)))]) ⟨rfl, rfl, rfl, rfl, rfl, rfl, rfl, trivial⟩ ?_
          exact ih77 _ _ _ _ h
        · refine g_iload (i := 7) F dX10_next__133 rfl ?_
          refine g_goto (tgt := 140) F dX10_next__135 (by decide) ?_
          refine g_istore (i := 5) (lv' := [(5, .int l7), (4, .int t0), (0, .ref (ev 0 + 65)), (1, .int l1f77), (2, .int l2f77), (3, .int l3f77), (6, .int l6), (7, .int l7)]) F dX10_next__140 (by decide) rfl ?_
          refine g_iinc (i := 6) (v := (l6 + (1 : Int32))) (lv' := [(6, .int (l6 + (1 : Int32))), (5, .int l7), (4, .int t0), (0, .ref (ev 0 + 65)), (1, .int l1f77), (2, .int l2f77), (3, .int l3f77), (7, .int l7)]) F dX10_next__142 rfl rfl (by decide) rfl ?_
          refine g_goto (tgt := 77) F dX10_next__145 (by decide) ?_
          refine g_lv (lv' := [(0, .ref (ev 0 + 65)), (1, .int l1f77), (2, .int l2f77), (3, .int l3f77), (4, .int t0), (5, .int l7), (6, .int (l6 + (1 : Int32)))]) ⟨rfl, rfl, rfl, rfl, rfl, rfl, rfl, trivial⟩ ?_
          exact ih77 _ _ _ _ h
      intro M l4 l5 l6 h
      change fX10_next__l77 l1f77 l2f77 l3f77 (lo4 (fX10_next__l77 l1f77 l2f77 l3f77) N77) M l4 l5 l6 = some (r', M') at h
      rw [fX10_next__l77] at h
      refine g_iload (i := 6) F dX10_next__77 rfl ?_
      refine g_iconst F dX10_next__79 (v := 4) (by decide) ?_
      refine g_icmp_gt (tgt := 148) F dX10_next__80 (by decide) h (fun a26 h => ?_) (fun a26 h => ?_)
      · refine g_lv (lv' := [(3, .int l3f77), (4, .int l4), (5, .int l5)]) ⟨rfl, rfl, rfl, trivial⟩ ?_
        exact U148 _ _ _ _ h
      · refine g_aload_n (i := 0) F dX10_next__83 rfl rfl ?_
        refine g_iload_n (i := 1) F dX10_next__84 rfl rfl ?_
        refine g_aload_n (i := 0) F dX10_next__85 rfl rfl ?_
        refine g_get_10_13 F wd_12_1 dX10_next__86 ?_
        refine g_iload_n (i := 1) F dX10_next__89 rfl rfl ?_
        obtain ⟨v17, e18, h⟩ := bind_at h
        refine g_ildM F rfl rfl e18 dX10_next__90 ?_
        refine g_aload_n (i := 0) F dX10_next__91 rfl rfl ?_
        refine g_get_10_7 F wd_18_17 dX10_next__92 ?_
        refine g_iload_n (i := 2) F dX10_next__95 rfl rfl ?_
        refine g_aload_n (i := 0) F dX10_next__96 rfl rfl ?_
        refine g_get_10_14 F wd_12_2 dX10_next__97 ?_
        refine g_iload_n (i := 1) F dX10_next__100 rfl rfl ?_
        obtain ⟨v19, e20, h⟩ := bind_at h
        refine g_ildM F rfl rfl e20 dX10_next__101 ?_
        refine g_iconst F dX10_next__102 (v := 0) (by decide) ?_
        refine g_iload (i := 6) F dX10_next__103 rfl ?_
        obtain ⟨v22, M21, e23, h⟩ := bd2_at h
        refine g_callVI F (mcR := 0) (msR := 0) (id := 65) (cells_at (kd_hidM (show kd 65 = 10 from rfl) (by decide)) (xc_10 rfl)) (ci := 10) rfl rfl rfl (c_X10_byAct G0 e23) wd_39_2 wd_38_23 wd_39_0 wd_39_1 wd_1_5 ⟨by decide, by decide⟩ (nn := 7) (by decide) (As := [.int l1f77, .int v17, .int (M.1 7), .int l2f77, .int v19, .int (0 : Int32), .int l6]) rfl rfl (Nat.le_of_ble_eq_true rfl) (by decide) (by decide) ⟨by decide, by decide⟩ dX10_next__105 ?_
        refine g_istore (i := 7) (lv' := [(7, .int v22), (0, .ref (ev 0 + 65)), (1, .int l1f77), (2, .int l2f77), (3, .int l3f77), (4, .int l4), (5, .int l5), (6, .int l6)]) F dX10_next__108 (by decide) rfl ?_
        refine g_iload (i := 7) F dX10_next__110 rfl ?_
        refine g_iload (i := 5) F dX10_next__112 rfl ?_
        refine g_icmp_ge (tgt := 122) F dX10_next__114 (by decide) h (fun a25 h => ?_) (fun a25 h => ?_)
        · refine g_iload (i := 4) F dX10_next__122 rfl ?_
          refine g_lv (lv' := [(0, .ref (ev 0 + 65)), (1, .int l1f77), (2, .int l2f77), (3, .int l3f77), (5, .int l5), (6, .int l6), (7, .int v22)]) ⟨rfl, rfl, rfl, rfl, rfl, rfl, rfl, trivial⟩ ?_
          exact U124 _ _ _ _ _ h
        · refine g_iload (i := 6) F dX10_next__117 rfl ?_
          refine g_goto (tgt := 124) F dX10_next__119 (by decide) ?_
          refine g_lv (lv' := [(0, .ref (ev 0 + 65)), (1, .int l1f77), (2, .int l2f77), (3, .int l3f77), (5, .int l5), (6, .int l6), (7, .int v22)]) ⟨rfl, rfl, rfl, rfl, rfl, rfl, rfl, trivial⟩ ?_
          exact U124 _ _ _ _ _ h
  rw [fX10_next_] at h
  refine g_lv (lv' := [(0, .ref (ev 0 + 65)), (1, .int l1), (2, .int l2), (3, .int l3)]) ⟨rfl, rfl, rfl, rfl, trivial⟩ ?_
  refine g_aload_n (i := 0) F dX10_next__0 rfl rfl ?_
  refine g_iload_n (i := 1) F dX10_next__1 rfl rfl ?_
  refine g_callVI F (mcR := 0) (msR := 0) (id := 65) (cells_at (kd_hidM (show kd 65 = 10 from rfl) (by decide)) (xc_10 rfl)) (ci := 10) rfl rfl rfl (c_X10_isBoat G0 (X := X) (M := M) (nb := nb) rfl) wd_23_7 wd_23_4 wd_23_5 wd_23_6 wd_1_5 ⟨by decide, by decide⟩ (nn := 1) (by decide) (As := [.int l1]) rfl rfl (Nat.le_of_ble_eq_true rfl) (by decide) (by decide) ⟨by decide, by decide⟩ dX10_next__2 ?_
  refine g_if_ne (tgt := 11) F dX10_next__5 (by decide) h (fun a30 h => ?_) (fun a30 h => ?_)
  · refine g_iload_n (i := 2) F dX10_next__11 rfl rfl ?_
    refine g_iconst F dX10_next__12 (v := 1) (by decide) ?_
    refine g_iconst F dX10_next__13 (v := 4) (by decide) ?_
    refine g_callSI F (mcR := 0) (msR := 0) (c_X10_in G0 (X := X) (M := M) (nb := nb) rfl) wd_13_21 wd_13_19 wd_13_20 wd_1_5 ⟨by decide, by decide⟩ (nn := 3) (by decide) (As := [.int l2, .int (1 : Int32), .int (4 : Int32)]) rfl rfl (Nat.le_of_ble_eq_true rfl) (by decide) (by decide) ⟨by decide, by decide⟩ dX10_next__14 ?_
    refine g_if_eq (tgt := 29) F dX10_next__17 (by decide) h (fun a29 h => ?_) (fun a29 h => ?_)
    · refine g_bipush F dX10_next__29 (v := -7) (by decide) ?_
      have hp := Prod.mk.inj (Option.some.inj h)
      exact g_iret F hr9 rfl hl9 hp.1 (by rw [hp.2]) (by decide) (by decide) dX10_next__31
    · refine g_iload_n (i := 3) F dX10_next__20 rfl rfl ?_
      refine g_iconst F dX10_next__21 (v := 0) (by decide) ?_
      refine g_iconst F dX10_next__22 (v := 1) (by decide) ?_
      refine g_callSI F (mcR := 0) (msR := 0) (c_X10_in G0 (X := X) (M := M) (nb := nb) rfl) wd_13_21 wd_13_19 wd_13_20 wd_1_5 ⟨by decide, by decide⟩ (nn := 3) (by decide) (As := [.int l3, .int (0 : Int32), .int (1 : Int32)]) rfl rfl (Nat.le_of_ble_eq_true rfl) (by decide) (by decide) ⟨by decide, by decide⟩ dX10_next__23 ?_
      refine g_if_ne (tgt := 32) F dX10_next__26 (by decide) h (fun a28 h => ?_) (fun a28 h => ?_)
      · refine g_aload_n (i := 0) F dX10_next__32 rfl rfl ?_
        refine g_get_10_13 F wd_12_1 dX10_next__33 ?_
        refine g_iload_n (i := 1) F dX10_next__36 rfl rfl ?_
        obtain ⟨v7, e8, h⟩ := bind_at h
        refine g_ildM F rfl rfl e8 dX10_next__37 ?_
        refine g_iconst F dX10_next__38 (v := -1) (by decide) ?_
        refine g_icmp_ne (tgt := 45) F dX10_next__39 (by decide) h (fun a27 h => ?_) (fun a27 h => ?_)
        · refine g_iconst F dX10_next__45 (v := 0) (by decide) ?_
          refine g_istore (i := 4) (lv' := [(4, .int (0 : Int32)), (0, .ref (ev 0 + 65)), (1, .int l1), (2, .int l2), (3, .int l3)]) F dX10_next__46 (by decide) rfl ?_
          refine g_aload_n (i := 0) F dX10_next__48 rfl rfl ?_
          refine g_iload_n (i := 1) F dX10_next__49 rfl rfl ?_
          refine g_aload_n (i := 0) F dX10_next__50 rfl rfl ?_
          refine g_get_10_13 F wd_12_1 dX10_next__51 ?_
          refine g_iload_n (i := 1) F dX10_next__54 rfl rfl ?_
          obtain ⟨v9, e10, h⟩ := bind_at h
          refine g_ildM F rfl rfl e10 dX10_next__55 ?_
          refine g_aload_n (i := 0) F dX10_next__56 rfl rfl ?_
          refine g_get_10_7 F wd_18_17 dX10_next__57 ?_
          refine g_iload_n (i := 2) F dX10_next__60 rfl rfl ?_
          refine g_aload_n (i := 0) F dX10_next__61 rfl rfl ?_
          refine g_get_10_14 F wd_12_2 dX10_next__62 ?_
          refine g_iload_n (i := 1) F dX10_next__65 rfl rfl ?_
          obtain ⟨v11, e12, h⟩ := bind_at h
          refine g_ildM F rfl rfl e12 dX10_next__66 ?_
          refine g_iconst F dX10_next__67 (v := 0) (by decide) ?_
          refine g_iconst F dX10_next__68 (v := 0) (by decide) ?_
          obtain ⟨v14, M13, e15, h⟩ := bd2_at h
          refine g_callVI F (mcR := 0) (msR := 0) (id := 65) (cells_at (kd_hidM (show kd 65 = 10 from rfl) (by decide)) (xc_10 rfl)) (ci := 10) rfl rfl rfl (c_X10_byAct G0 e15) wd_39_2 wd_38_23 wd_39_0 wd_39_1 wd_1_5 ⟨by decide, by decide⟩ (nn := 7) (by decide) (As := [.int l1, .int v9, .int (M.1 7), .int l2, .int v11, .int (0 : Int32), .int (0 : Int32)]) rfl rfl (Nat.le_of_ble_eq_true rfl) (by decide) (by decide) ⟨by decide, by decide⟩ dX10_next__69 ?_
          refine g_istore (i := 5) (lv' := [(5, .int v14), (4, .int (0 : Int32)), (0, .ref (ev 0 + 65)), (1, .int l1), (2, .int l2), (3, .int l3)]) F dX10_next__72 (by decide) rfl ?_
          refine g_iconst F dX10_next__74 (v := 1) (by decide) ?_
          refine g_istore (i := 6) (lv' := [(6, .int (1 : Int32)), (5, .int v14), (4, .int (0 : Int32)), (0, .ref (ev 0 + 65)), (1, .int l1), (2, .int l2), (3, .int l3)]) F dX10_next__75 (by decide) rfl ?_
          refine g_lv (lv' := [(0, .ref (ev 0 + 65)), (1, .int l1), (2, .int l2), (3, .int l3), (4, .int (0 : Int32)), (5, .int v14), (6, .int (1 : Int32))]) ⟨rfl, rfl, rfl, rfl, rfl, rfl, rfl, trivial⟩ ?_
          exact L77 _ _ _ FU _ _ _ _ h
        · refine g_bipush F dX10_next__42 (v := -3) (by decide) ?_
          have hp := Prod.mk.inj (Option.some.inj h)
          exact g_iret F hr9 rfl hl9 hp.1 (by rw [hp.2]) (by decide) (by decide) dX10_next__44
      · refine g_bipush F dX10_next__29 (v := -7) (by decide) ?_
        have hp := Prod.mk.inj (Option.some.inj h)
        exact g_iret F hr9 rfl hl9 hp.1 (by rw [hp.2]) (by decide) (by decide) dX10_next__31
  · refine g_bipush F dX10_next__8 (v := -5) (by decide) ?_
    have hp := Prod.mk.inj (Option.some.inj h)
    exact g_iret F hr9 rfl hl9 hp.1 (by rw [hp.2]) (by decide) (by decide) dX10_next__10

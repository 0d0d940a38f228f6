def fX0_hourRow (X : XW) (l1 : Int32) : Option Nat :=
  if l1 = (0 : Int32) then (some 4)
  else if l1 = (1 : Int32) then (some 5)
  else (some 6)
set_option maxRecDepth 100000 in
set_option maxHeartbeats 4000000 in
theorem c_X0_hourRow {l : Launch} {s0 : State} {D : va_G} {ev : Nat → Nat} (G0 : Gl s0 D ev) {X : XW} {M : MW} {nb : Nat} {l1 : Int32} {r' : Option Nat}  (h : fX0_hourRow X l1 = r') : CT l s0 D ev yX0_hourRow cX0_hourRow 2 (some (.array .int)) 0 0 0 [.ref (ev 0 + 1), .int l1] (cells ev X M nb) (QR s0 D ev (Option.map (fun k => ev 0 + k) r') (cells ev X M nb)) := by
  refine ct_of G0 (by decide) (Nat.le_of_ble_eq_true rfl) ?_
  intro p9 e9 s9 m9 args9 below9 meth9 c9 F hr9 hl9 hin9 hargs9 hts9
  rw [fX0_hourRow] at h
  refine g_lv (lv' := [(0, .ref (ev 0 + 1)), (1, .int l1)]) ⟨rfl, rfl, trivial⟩ ?_
  refine g_iload_n (i := 1) F dX0_hourRow_0 rfl rfl ?_
  refine ite_at h (fun a1 h => ?_) (fun a1 h => ?_)
  · refine g_lsw (tgt := 28) F (off := 27) (by rw [a1]; decide) dX0_hourRow_1 (by decide) (by decide) ?_
    refine g_aload_n (i := 0) F dX0_hourRow_28 rfl rfl ?_
    refine g_get_0_2 F rfl (kd_lit (by decide)) wd_3_12 dX0_hourRow_29 ?_
    exact g_aret F hr9 (Or.inr ⟨_, rfl⟩) hl9 (by rw [← h]; rfl) rfl (by decide) (by decide) dX0_hourRow_32
  · refine ite_at h (fun a2 h => ?_) (fun a2 h => ?_)
    · refine g_lsw (tgt := 33) F (off := 32) (by rw [a2]; decide) dX0_hourRow_1 (by decide) (by decide) ?_
      refine g_aload_n (i := 0) F dX0_hourRow_33 rfl rfl ?_
      refine g_get_0_3 F rfl (kd_lit (by decide)) wd_3_13 dX0_hourRow_34 ?_
      exact g_aret F hr9 (Or.inr ⟨_, rfl⟩) hl9 (by rw [← h]; rfl) rfl (by decide) (by decide) dX0_hourRow_37
    · refine g_lsw (tgt := 38) F (off := 37) ((lv_osw (k := 0) a1 (by decide)).trans ((lv_osw (k := 1) a2 (by decide)).trans (rfl))) dX0_hourRow_1 (by decide) (by decide) ?_
      refine g_aload_n (i := 0) F dX0_hourRow_38 rfl rfl ?_
      refine g_get_0_4 F rfl (kd_lit (by decide)) wd_3_14 dX0_hourRow_39 ?_
      exact g_aret F hr9 (Or.inr ⟨_, rfl⟩) hl9 (by rw [← h]; rfl) rfl (by decide) (by decide) dX0_hourRow_42
def fX9_within (l0 : Int32) (l1 : Int32) (l2 : Int32) : Int32 :=
  if l0 < l1 then (0 : Int32)
  else if l2 < l0 then (0 : Int32)
  else (1 : Int32)
set_option maxRecDepth 100000 in
set_option maxHeartbeats 4000000 in
theorem c_X9_within {l : Launch} {s0 : State} {D : va_G} {ev : Nat → Nat} (G0 : Gl s0 D ev) {X : XW} {M : MW} {nb : Nat} {l0 : Int32} {l1 : Int32} {l2 : Int32} {r' : Int32}  (h : fX9_within l0 l1 l2 = r') : CT l s0 D ev yX9_within cX9_within 3 (some .boolean) 0 0 0 [.int l0, .int l1, .int l2] (cells ev X M nb) (QI s0 D ev r' (cells ev X M nb)) := by
  refine ct_of G0 (by decide) (Nat.le_of_ble_eq_true rfl) ?_
  intro p9 e9 s9 m9 args9 below9 meth9 c9 F hr9 hl9 hin9 hargs9 hts9
  rw [fX9_within] at h
  refine g_lv (lv' := [(0, .int l0), (1, .int l1), (2, .int l2)]) ⟨rfl, rfl, rfl, trivial⟩ ?_
  refine g_iload_n (i := 0) F dX9_within_0 rfl rfl ?_
  refine g_iload_n (i := 1) F dX9_within_1 rfl rfl ?_
  refine g_icmp_lt (tgt := 14) F dX9_within_2 (by decide) h (fun a2 h => ?_) (fun a2 h => ?_)
  · refine g_iconst F dX9_within_14 (v := 0) (by decide) ?_
    exact g_iret F hr9 (by decide) hl9 h rfl (by decide) (by decide) dX9_within_15
  · refine g_iload_n (i := 0) F dX9_within_5 rfl rfl ?_
    refine g_iload_n (i := 2) F dX9_within_6 rfl rfl ?_
    refine g_icmp_gt (tgt := 14) F dX9_within_7 (by decide) h (fun a1 h => ?_) (fun a1 h => ?_)
    · refine g_iconst F dX9_within_14 (v := 0) (by decide) ?_
      exact g_iret F hr9 (by decide) hl9 h rfl (by decide) (by decide) dX9_within_15
    · refine g_iconst F dX9_within_10 (v := 1) (by decide) ?_
      refine g_goto (tgt := 15) F dX9_within_11 (by decide) ?_
      exact g_iret F hr9 (by decide) hl9 h rfl (by decide) (by decide) dX9_within_15
theorem b_X9_within {l0 : Int32} {l1 : Int32} {l2 : Int32} : (fX9_within l0 l1 l2) = 0 ∨ (fX9_within l0 l1 l2) = 1 := by
  unfold fX9_within
  (repeat' split) <;> first | exact Or.inl rfl | exact Or.inr rfl
def fX0_deepOf (X : XW) (l1 : Int32) (l2 : Int32) : Option Int32 :=
  if (fX9_within l1 (0 : Int32) (99 : Int32)) = 0 then some (0 : Int32)
  else if (fX9_within l2 (0 : Int32) (11 : Int32)) = 0 then some (0 : Int32)
  else (rd (X.2.1 2) 100 l1).bind fun v5 =>
  (rd (X.2.1 6) 12 l2).bind fun v7 =>
  some (jmax (0 : Int32) (v5 + v7))
set_option maxRecDepth 100000 in
set_option maxHeartbeats 4000000 in
theorem c_X0_deepOf {l : Launch} {s0 : State} {D : va_G} {ev : Nat → Nat} (G0 : Gl s0 D ev) {X : XW} {M : MW} {nb : Nat} {l1 : Int32} {l2 : Int32} {r' : Int32}  (h : fX0_deepOf X l1 l2 = some r') : CT l s0 D ev yX0_deepOf cX0_deepOf 3 (some .int) 1 0 0 [.ref (ev 0 + 1), .int l1, .int l2] (cells ev X M nb) (QI s0 D ev r' (cells ev X M nb)) := by
  refine ct_of G0 (by decide) (Nat.le_of_ble_eq_true rfl) ?_
  intro p9 e9 s9 m9 args9 below9 meth9 c9 F hr9 hl9 hin9 hargs9 hts9
  rw [fX0_deepOf] at h
  refine g_lv (lv' := [(0, .ref (ev 0 + 1)), (1, .int l1), (2, .int l2)]) ⟨rfl, rfl, rfl, trivial⟩ ?_
  refine g_iload_n (i := 1) F dX0_deepOf_0 rfl rfl ?_
  refine g_iconst F dX0_deepOf_1 (v := 0) (by decide) ?_
  refine g_bipush F dX0_deepOf_2 (v := 99) (by decide) ?_
  refine g_callSNI F (mcR := 0) (msR := 0) (c_X9_within G0 (X := X) (M := M) (nb := nb) rfl) wd_9_7 (List.mem_of_getElem? (l := nwL) (i := 6) rfl) wd_9_6 wd_1_2 ⟨by decide, by decide⟩ (nn := 3) (by decide) (As := [.int l1, .int (0 : Int32), .int (99 : Int32)]) rfl rfl (Nat.le_of_ble_eq_true rfl) (by decide) (by decide) ⟨by decide, by decide⟩ dX0_deepOf_4 ?_
  refine g_if_eq (tgt := 40) F dX0_deepOf_7 (by decide) h (fun a10 h => ?_) (fun a10 h => ?_)
  · refine g_iconst F dX0_deepOf_40 (v := 0) (by decide) ?_
    exact g_iret F hr9 rfl hl9 (Option.some.inj h) rfl (by decide) (by decide) dX0_deepOf_41
  · refine g_iload_n (i := 2) F dX0_deepOf_10 rfl rfl ?_
    refine g_iconst F dX0_deepOf_11 (v := 0) (by decide) ?_
    refine g_bipush F dX0_deepOf_12 (v := 11) (by decide) ?_
    refine g_callSNI F (mcR := 0) (msR := 0) (c_X9_within G0 (X := X) (M := M) (nb := nb) rfl) wd_9_7 (List.mem_of_getElem? (l := nwL) (i := 6) rfl) wd_9_6 wd_1_2 ⟨by decide, by decide⟩ (nn := 3) (by decide) (As := [.int l2, .int (0 : Int32), .int (11 : Int32)]) rfl rfl (Nat.le_of_ble_eq_true rfl) (by decide) (by decide) ⟨by decide, by decide⟩ dX0_deepOf_14 ?_
    refine g_if_eq (tgt := 40) F dX0_deepOf_17 (by decide) h (fun a9 h => ?_) (fun a9 h => ?_)
    · refine g_iconst F dX0_deepOf_40 (v := 0) (by decide) ?_
      exact g_iret F hr9 rfl hl9 (Option.some.inj h) rfl (by decide) (by decide) dX0_deepOf_41
    · refine g_iconst F dX0_deepOf_20 (v := 0) (by decide) ?_
      refine g_aload_n (i := 0) F dX0_deepOf_21 rfl rfl ?_
      refine g_get_0_0 F rfl (kd_lit (by decide)) wd_3_10 dX0_deepOf_22 ?_
      refine g_iload_n (i := 1) F dX0_deepOf_25 rfl rfl ?_
      obtain ⟨v5, e6, h⟩ := bind_at h
      refine g_ildX F rfl rfl e6 dX0_deepOf_26 ?_
      refine g_aload_n (i := 0) F dX0_deepOf_27 rfl rfl ?_
      refine g_get_0_4 F rfl (kd_lit (by decide)) wd_3_14 dX0_deepOf_28 ?_
      refine g_iload_n (i := 2) F dX0_deepOf_31 rfl rfl ?_
      obtain ⟨v7, e8, h⟩ := bind_at h
      refine g_ildX F rfl rfl e8 dX0_deepOf_32 ?_
      refine g_iadd F dX0_deepOf_33 ?_
      refine g_mmax F wd_24_11 wd_20_14 wd_16_21 wd_20_15 (Nat.le_of_ble_eq_true rfl) (Nat.le_of_ble_eq_true rfl) (Nat.zero_le _) (Nat.zero_le _) dX0_deepOf_34 ?_
      refine g_goto (tgt := 41) F dX0_deepOf_37 (by decide) ?_
      exact g_iret F hr9 rfl hl9 (Option.some.inj h) rfl (by decide) (by decide) dX0_deepOf_41
def fX0_turnIn (X : XW) (l1 : Int32) : Option Int32 :=
  if (fX9_within l1 (1 : Int32) (11 : Int32)) = 0 then some (0 : Int32)
  else (rd (X.2.1 4) 12 l1).bind fun v3 =>
  (rd (X.2.1 4) 12 (l1 - (1 : Int32))).bind fun v5 =>
  bd (jabs (v3 - v5)) fun v7 =>
  some (jmin v7 ((8 : Int32) - v7))
set_option maxRecDepth 100000 in
set_option maxHeartbeats 4000000 in
theorem c_X0_turnIn {l : Launch} {s0 : State} {D : va_G} {ev : Nat → Nat} (G0 : Gl s0 D ev) {X : XW} {M : MW} {nb : Nat} {l1 : Int32} {r' : Int32}  (h : fX0_turnIn X l1 = some r') : CT l s0 D ev yX0_turnIn cX0_turnIn 3 (some .int) 1 0 0 [.ref (ev 0 + 1), .int l1] (cells ev X M nb) (QI s0 D ev r' (cells ev X M nb)) := by
  refine ct_of G0 (by decide) (Nat.le_of_ble_eq_true rfl) ?_
  intro p9 e9 s9 m9 args9 below9 meth9 c9 F hr9 hl9 hin9 hargs9 hts9
  rw [fX0_turnIn] at h
  refine g_lv (lv' := [(0, .ref (ev 0 + 1)), (1, .int l1)]) ⟨rfl, rfl, trivial⟩ ?_
  refine g_iload_n (i := 1) F dX0_turnIn_0 rfl rfl ?_
  refine g_iconst F dX0_turnIn_1 (v := 1) (by decide) ?_
  refine g_bipush F dX0_turnIn_2 (v := 11) (by decide) ?_
  refine g_callSNI F (mcR := 0) (msR := 0) (c_X9_within G0 (X := X) (M := M) (nb := nb) rfl) wd_9_7 (List.mem_of_getElem? (l := nwL) (i := 6) rfl) wd_9_6 wd_1_2 ⟨by decide, by decide⟩ (nn := 3) (by decide) (As := [.int l1, .int (1 : Int32), .int (11 : Int32)]) rfl rfl (Nat.le_of_ble_eq_true rfl) (by decide) (by decide) ⟨by decide, by decide⟩ dX0_turnIn_4 ?_
  refine g_if_ne (tgt := 12) F dX0_turnIn_7 (by decide) h (fun a9 h => ?_) (fun a9 h => ?_)
  · refine g_aload_n (i := 0) F dX0_turnIn_12 rfl rfl ?_
    refine g_get_0_2 F rfl (kd_lit (by decide)) wd_3_12 dX0_turnIn_13 ?_
    refine g_iload_n (i := 1) F dX0_turnIn_16 rfl rfl ?_
    obtain ⟨v3, e4, h⟩ := bind_at h
    refine g_ildX F rfl rfl e4 dX0_turnIn_17 ?_
    refine g_aload_n (i := 0) F dX0_turnIn_18 rfl rfl ?_
    refine g_get_0_2 F rfl (kd_lit (by decide)) wd_3_12 dX0_turnIn_19 ?_
    refine g_iload_n (i := 1) F dX0_turnIn_22 rfl rfl ?_
    refine g_iconst F dX0_turnIn_23 (v := 1) (by decide) ?_
    refine g_isub F dX0_turnIn_24 ?_
    obtain ⟨v5, e6, h⟩ := bind_at h
    refine g_ildX F rfl rfl e6 dX0_turnIn_25 ?_
    refine g_isub F dX0_turnIn_26 ?_
    refine g_mabs F wd_28_5 wd_28_6 wd_16_21 wd_28_7 (Nat.le_of_ble_eq_true rfl) (Nat.le_of_ble_eq_true rfl) (Nat.zero_le _) (Nat.zero_le _) dX0_turnIn_27 ?_
    refine g_topi F h (fun v7 e8 h => ?_)
    refine g_istore_n (i := 2) (lv' := [(2, .int v7), (0, .ref (ev 0 + 1)), (1, .int l1)]) F dX0_turnIn_30 rfl (by decide) rfl ?_
    refine g_iload_n (i := 2) F dX0_turnIn_31 rfl rfl ?_
    refine g_bipush F dX0_turnIn_32 (v := 8) (by decide) ?_
    refine g_iload_n (i := 2) F dX0_turnIn_34 rfl rfl ?_
    refine g_isub F dX0_turnIn_35 ?_
    refine g_mmin F wd_28_8 wd_16_20 wd_16_21 wd_16_22 (Nat.le_of_ble_eq_true rfl) (Nat.le_of_ble_eq_true rfl) (Nat.zero_le _) (Nat.zero_le _) dX0_turnIn_36 ?_
    exact g_iret F hr9 rfl hl9 (Option.some.inj h) rfl (by decide) (by decide) dX0_turnIn_39
  · refine g_iconst F dX0_turnIn_10 (v := 0) (by decide) ?_
    exact g_iret F hr9 rfl hl9 (Option.some.inj h) rfl (by decide) (by decide) dX0_turnIn_11
def fX9_isHour (l0 : Int32) : Int32 :=
  (fX9_within l0 (0 : Int32) (11 : Int32))
set_option maxRecDepth 100000 in
set_option maxHeartbeats 4000000 in
theorem c_X9_isHour {l : Launch} {s0 : State} {D : va_G} {ev : Nat → Nat} (G0 : Gl s0 D ev) {X : XW} {M : MW} {nb : Nat} {l0 : Int32} {r' : Int32}  (h : fX9_isHour l0 = r') : CT l s0 D ev yX9_isHour cX9_isHour 1 (some .boolean) 1 0 0 [.int l0] (cells ev X M nb) (QI s0 D ev r' (cells ev X M nb)) := by
  refine ct_of G0 (by decide) (Nat.le_of_ble_eq_true rfl) ?_
  intro p9 e9 s9 m9 args9 below9 meth9 c9 F hr9 hl9 hin9 hargs9 hts9
  rw [fX9_isHour] at h
  refine g_lv (lv' := [(0, .int l0)]) ⟨rfl, trivial⟩ ?_
  refine g_iload_n (i := 0) F dX9_isHour_0 rfl rfl ?_
  refine g_iconst F dX9_isHour_1 (v := 0) (by decide) ?_
  refine g_bipush F dX9_isHour_2 (v := 11) (by decide) ?_
  refine g_callSI F (mcR := 0) (msR := 0) (c_X9_within G0 (X := X) (M := M) (nb := nb) rfl) wd_9_7 wd_15_21 wd_9_6 wd_1_2 ⟨by decide, by decide⟩ (nn := 3) (by decide) (As := [.int l0, .int (0 : Int32), .int (11 : Int32)]) rfl rfl (Nat.le_of_ble_eq_true rfl) (by decide) (by decide) ⟨by decide, by decide⟩ dX9_isHour_4 ?_
  exact g_iret F hr9 (nar_b b_X9_within) hl9 h rfl (by decide) (by decide) dX9_isHour_7
theorem b_X9_isHour {l0 : Int32} : (fX9_isHour l0) = 0 ∨ (fX9_isHour l0) = 1 := by
  unfold fX9_isHour
  (repeat' split) <;> first | exact Or.inl rfl | exact Or.inr rfl | exact b_X9_within
def fX9_isCell (l0 : Int32) : Int32 :=
  (fX9_within l0 (0 : Int32) (99 : Int32))
set_option maxRecDepth 100000 in
set_option maxHeartbeats 4000000 in
theorem c_X9_isCell {l : Launch} {s0 : State} {D : va_G} {ev : Nat → Nat} (G0 : Gl s0 D ev) {X : XW} {M : MW} {nb : Nat} {l0 : Int32} {r' : Int32}  (h : fX9_isCell l0 = r') : CT l s0 D ev yX9_isCell cX9_isCell 1 (some .boolean) 1 0 0 [.int l0] (cells ev X M nb) (QI s0 D ev r' (cells ev X M nb)) := by
  refine ct_of G0 (by decide) (Nat.le_of_ble_eq_true rfl) ?_
  intro p9 e9 s9 m9 args9 below9 meth9 c9 F hr9 hl9 hin9 hargs9 hts9
  rw [fX9_isCell] at h
  refine g_lv (lv' := [(0, .int l0)]) ⟨rfl, trivial⟩ ?_
  refine g_iload_n (i := 0) F dX9_isCell_0 rfl rfl ?_
  refine g_iconst F dX9_isCell_1 (v := 0) (by decide) ?_
  refine g_bipush F dX9_isCell_2 (v := 99) (by decide) ?_
  refine g_callSI F (mcR := 0) (msR := 0) (c_X9_within G0 (X := X) (M := M) (nb := nb) rfl) wd_9_7 wd_15_21 wd_9_6 wd_1_2 ⟨by decide, by decide⟩ (nn := 3) (by decide) (As := [.int l0, .int (0 : Int32), .int (99 : Int32)]) rfl rfl (Nat.le_of_ble_eq_true rfl) (by decide) (by decide) ⟨by decide, by decide⟩ dX9_isCell_4 ?_
  exact g_iret F hr9 (nar_b b_X9_within) hl9 h rfl (by decide) (by decide) dX9_isCell_7
theorem b_X9_isCell {l0 : Int32} : (fX9_isCell l0) = 0 ∨ (fX9_isCell l0) = 1 := by
  unfold fX9_isCell
  (repeat' split) <;> first | exact Or.inl rfl | exact Or.inr rfl | exact b_X9_within
def fX0_stepped (X : XW) (l0 : Int32) (l1 : Int32) : Option Int32 :=
  if (fX9_isCell l0) = 0 then some (-1 : Int32)
  else if (fX9_within l1 (0 : Int32) (7 : Int32)) = 0 then some (-1 : Int32)
  else (rd (stF 0) 8 l1).bind fun v5 =>
  bd ((l0 / (10 : Int32)) + v5) fun v7 =>
  (rd (stF 1) 8 l1).bind fun v9 =>
  bd ((jrem l0 (10 : Int32)) + v9) fun v11 =>
  if (fX9_within v7 (0 : Int32) (9 : Int32)) = 0 then some (-1 : Int32)
  else if (fX9_within v11 (0 : Int32) (9 : Int32)) = 0 then some (-1 : Int32)
  else some (((10 : Int32) * v7) + v11)
set_option maxRecDepth 100000 in
set_option maxHeartbeats 4000000 in
theorem c_X0_stepped {l : Launch} {s0 : State} {D : va_G} {ev : Nat → Nat} (G0 : Gl s0 D ev) {X : XW} {M : MW} {nb : Nat} {l0 : Int32} {l1 : Int32} {r' : Int32}  (h : fX0_stepped X l0 l1 = some r') : CT l s0 D ev yX0_stepped cX0_stepped 4 (some .int) 2 0 0 [.int l0, .int l1] (cells ev X M nb) (QI s0 D ev r' (cells ev X M nb)) := by
  refine ct_of G0 (by decide) (Nat.le_of_ble_eq_true rfl) ?_
  intro p9 e9 s9 m9 args9 below9 meth9 c9 F hr9 hl9 hin9 hargs9 hts9
  rw [fX0_stepped] at h
  refine g_lv (lv' := [(0, .int l0), (1, .int l1)]) ⟨rfl, rfl, trivial⟩ ?_
  refine g_iload_n (i := 0) F dX0_stepped_0 rfl rfl ?_
  refine g_callSNI F (mcR := 0) (msR := 0) (c_X9_isCell G0 (X := X) (M := M) (nb := nb) rfl) wd_15_20 (List.mem_of_getElem? (l := nwL) (i := 10) rfl) wd_15_19 wd_1_2 ⟨by decide, by decide⟩ (nn := 1) (by decide) (As := [.int l0]) rfl rfl (Nat.le_of_ble_eq_true rfl) (by decide) (by decide) ⟨by decide, by decide⟩ dX0_stepped_1 ?_
  refine g_if_eq (tgt := 17) F dX0_stepped_4 (by decide) h (fun a20 h => ?_) (fun a20 h => ?_)
  · refine g_iconst F dX0_stepped_17 (v := -1) (by decide) ?_
    exact g_iret F hr9 rfl hl9 (Option.some.inj h) rfl (by decide) (by decide) dX0_stepped_18
  · refine g_iload_n (i := 1) F dX0_stepped_7 rfl rfl ?_
    refine g_iconst F dX0_stepped_8 (v := 0) (by decide) ?_
    refine g_bipush F dX0_stepped_9 (v := 7) (by decide) ?_
    refine g_callSNI F (mcR := 0) (msR := 0) (c_X9_within G0 (X := X) (M := M) (nb := nb) rfl) wd_9_7 (List.mem_of_getElem? (l := nwL) (i := 6) rfl) wd_9_6 wd_1_2 ⟨by decide, by decide⟩ (nn := 3) (by decide) (As := [.int l1, .int (0 : Int32), .int (7 : Int32)]) rfl rfl (Nat.le_of_ble_eq_true rfl) (by decide) (by decide) ⟨by decide, by decide⟩ dX0_stepped_11 ?_
    refine g_if_ne (tgt := 19) F dX0_stepped_14 (by decide) h (fun a19 h => ?_) (fun a19 h => ?_)
    · refine g_iload_n (i := 0) F dX0_stepped_19 rfl rfl ?_
      refine g_bipush F dX0_stepped_20 (v := 10) (by decide) ?_
      refine g_idiv F dX0_stepped_22 (by decide) ?_
      refine g_getsN (i := 0) F (by decide) rfl (List.mem_of_getElem? (l := nwL) (i := 11) rfl) dX0_stepped_23 ?_
      refine g_iload_n (i := 1) F dX0_stepped_26 rfl rfl ?_
      obtain ⟨v5, e6, h⟩ := bind_at h
      refine g_strd F (by decide) (by decide) e6 dX0_stepped_27 ?_
      refine g_iadd F dX0_stepped_28 ?_
      refine g_topi F h (fun v7 e8 h => ?_)
      refine g_istore_n (i := 2) (lv' := [(2, .int v7), (0, .int l0), (1, .int l1)]) F dX0_stepped_29 rfl (by decide) rfl ?_
      refine g_iload_n (i := 0) F dX0_stepped_30 rfl rfl ?_
      refine g_bipush F dX0_stepped_31 (v := 10) (by decide) ?_
      refine g_irem F dX0_stepped_33 (by decide) ?_
      refine g_getsN (i := 1) F (by decide) rfl (List.mem_of_getElem? (l := nwL) (i := 12) rfl) dX0_stepped_34 ?_
      refine g_iload_n (i := 1) F dX0_stepped_37 rfl rfl ?_
      obtain ⟨v9, e10, h⟩ := bind_at h
      refine g_strd F (by decide) (by decide) e10 dX0_stepped_38 ?_
      refine g_iadd F dX0_stepped_39 ?_
      refine g_topi F h (fun v11 e12 h => ?_)
      refine g_istore_n (i := 3) (lv' := [(3, .int v11), (2, .int v7), (0, .int l0), (1, .int l1)]) F dX0_stepped_40 rfl (by decide) rfl ?_
      refine g_iload_n (i := 2) F dX0_stepped_41 rfl rfl ?_
      refine g_iconst F dX0_stepped_42 (v := 0) (by decide) ?_
      refine g_bipush F dX0_stepped_43 (v := 9) (by decide) ?_
      refine g_callSNI F (mcR := 0) (msR := 0) (c_X9_within G0 (X := X) (M := M) (nb := nb) rfl) wd_9_7 (List.mem_of_getElem? (l := nwL) (i := 6) rfl) wd_9_6 wd_1_2 ⟨by decide, by decide⟩ (nn := 3) (by decide) (As := [.int v7, .int (0 : Int32), .int (9 : Int32)]) rfl rfl (Nat.le_of_ble_eq_true rfl) (by decide) (by decide) ⟨by decide, by decide⟩ dX0_stepped_45 ?_
      refine g_if_eq (tgt := 70) F dX0_stepped_48 (by decide) h (fun a18 h => ?_) (fun a18 h => ?_)
      · refine g_iconst F dX0_stepped_70 (v := -1) (by decide) ?_
        exact g_iret F hr9 rfl hl9 (Option.some.inj h) rfl (by decide) (by decide) dX0_stepped_71
      · refine g_iload_n (i := 3) F dX0_stepped_51 rfl rfl ?_
        refine g_iconst F dX0_stepped_52 (v := 0) (by decide) ?_
        refine g_bipush F dX0_stepped_53 (v := 9) (by decide) ?_
        refine g_callSNI F (mcR := 0) (msR := 0) (c_X9_within G0 (X := X) (M := M) (nb := nb) rfl) wd_9_7 (List.mem_of_getElem? (l := nwL) (i := 6) rfl) wd_9_6 wd_1_2 ⟨by decide, by decide⟩ (nn := 3) (by decide) (As := [.int v11, .int (0 : Int32), .int (9 : Int32)]) rfl rfl (Nat.le_of_ble_eq_true rfl) (by decide) (by decide) ⟨by decide, by decide⟩ dX0_stepped_55 ?_
        refine g_if_eq (tgt := 70) F dX0_stepped_58 (by decide) h (fun a17 h => ?_) (fun a17 h => ?_)
        · refine g_iconst F dX0_stepped_70 (v := -1) (by decide) ?_
          exact g_iret F hr9 rfl hl9 (Option.some.inj h) rfl (by decide) (by decide) dX0_stepped_71
        · refine g_bipush F dX0_stepped_61 (v := 10) (by decide) ?_
          refine g_iload_n (i := 2) F dX0_stepped_63 rfl rfl ?_
          refine g_imul F dX0_stepped_64 ?_
          refine g_iload_n (i := 3) F dX0_stepped_65 rfl rfl ?_
          refine g_iadd F dX0_stepped_66 ?_
          refine g_goto (tgt := 71) F dX0_stepped_67 (by decide) ?_
          exact g_iret F hr9 rfl hl9 (Option.some.inj h) rfl (by decide) (by decide) dX0_stepped_71
    · refine g_iconst F dX0_stepped_17 (v := -1) (by decide) ?_
      exact g_iret F hr9 rfl hl9 (Option.some.inj h) rfl (by decide) (by decide) dX0_stepped_18
def fX0_oneOn (X : XW) (l1 : Int32) (l2 : Int32) : Option Int32 :=
  if (fX9_isHour l2) = 0 then some (-1 : Int32)
  else (rd (X.2.1 4) 12 l2).bind fun v3 =>
  (fX0_stepped X l1 v3).bind fun v5 =>
  some v5
set_option maxRecDepth 100000 in
set_option maxHeartbeats 4000000 in
theorem c_X0_oneOn {l : Launch} {s0 : State} {D : va_G} {ev : Nat → Nat} (G0 : Gl s0 D ev) {X : XW} {M : MW} {nb : Nat} {l1 : Int32} {l2 : Int32} {r' : Int32}  (h : fX0_oneOn X l1 l2 = some r') : CT l s0 D ev yX0_oneOn cX0_oneOn 3 (some .int) 3 0 0 [.ref (ev 0 + 1), .int l1, .int l2] (cells ev X M nb) (QI s0 D ev r' (cells ev X M nb)) := by
  refine ct_of G0 (by decide) (Nat.le_of_ble_eq_true rfl) ?_
  intro p9 e9 s9 m9 args9 below9 meth9 c9 F hr9 hl9 hin9 hargs9 hts9
  rw [fX0_oneOn] at h
  refine g_lv (lv' := [(0, .ref (ev 0 + 1)), (1, .int l1), (2, .int l2)]) ⟨rfl, rfl, rfl, trivial⟩ ?_
  refine g_iload_n (i := 2) F dX0_oneOn_0 rfl rfl ?_
  refine g_callSNI F (mcR := 0) (msR := 0) (c_X9_isHour G0 (X := X) (M := M) (nb := nb) rfl) wd_17_9 (List.mem_of_getElem? (l := nwL) (i := 9) rfl) wd_17_8 wd_1_2 ⟨by decide, by decide⟩ (nn := 1) (by decide) (As := [.int l2]) rfl rfl (Nat.le_of_ble_eq_true rfl) (by decide) (by decide) ⟨by decide, by decide⟩ dX0_oneOn_1 ?_
  refine g_if_eq (tgt := 20) F dX0_oneOn_4 (by decide) h (fun a7 h => ?_) (fun a7 h => ?_)
  · refine g_iconst F dX0_oneOn_20 (v := -1) (by decide) ?_
    exact g_iret F hr9 rfl hl9 (Option.some.inj h) rfl (by decide) (by decide) dX0_oneOn_21
  · refine g_iload_n (i := 1) F dX0_oneOn_7 rfl rfl ?_
    refine g_aload_n (i := 0) F dX0_oneOn_8 rfl rfl ?_
    refine g_get_0_2 F rfl (kd_lit (by decide)) wd_3_12 dX0_oneOn_9 ?_
    refine g_iload_n (i := 2) F dX0_oneOn_12 rfl rfl ?_
    obtain ⟨v3, e4, h⟩ := bind_at h
    refine g_ildX F rfl rfl e4 dX0_oneOn_13 ?_
    obtain ⟨v5, e6, h⟩ := bind_at h
    refine g_callSI F (mcR := 0) (msR := 0) (c_X0_stepped G0 e6) wd_28_23 wd_28_21 wd_28_22 wd_1_14 ⟨by decide, by decide⟩ (nn := 2) (by decide) (As := [.int l1, .int v3]) rfl rfl (Nat.le_of_ble_eq_true rfl) (by decide) (by decide) ⟨by decide, by decide⟩ dX0_oneOn_14 ?_
    refine g_goto (tgt := 21) F dX0_oneOn_17 (by decide) ?_
    exact g_iret F hr9 rfl hl9 (Option.some.inj h) rfl (by decide) (by decide) dX0_oneOn_21
def fX0_cellsOff_l20 (l0f20 : Int32) (l2f20 : Int32) (K20 : Int32 → Int32 → Option Int32) (l3 : Int32) (l4 : Int32) : Option Int32 :=
  if l0f20 < l4 then some (l3 / (5 : Int32))
  else if l2f20 < (l4 * l4) then some (l3 / (5 : Int32))
  else K20 l4 (l4 + (1 : Int32))
def fX0_cellsOff (l0 : Int32) (l1 : Int32) : Option Int32 :=
  if l1 < l0 then bd ((l0 * l0) - (l1 * l1)) fun v1 =>
  lo2 (fX0_cellsOff_l20 l0 v1) FU (0 : Int32) (1 : Int32)
  else some (0 : Int32)
set_option maxRecDepth 100000 in
set_option maxHeartbeats 4000000 in
theorem c_X0_cellsOff {l : Launch} {s0 : State} {D : va_G} {ev : Nat → Nat} (G0 : Gl s0 D ev) {X : XW} {M : MW} {nb : Nat} {l0 : Int32} {l1 : Int32} {r' : Int32}  (h : fX0_cellsOff l0 l1 = some r') : CT l s0 D ev yX0_cellsOff cX0_cellsOff 5 (some .int) 0 0 0 [.int l0, .int l1] (cells ev X M nb) (QI s0 D ev r' (cells ev X M nb)) := by
  refine ct_of G0 (by decide) (Nat.le_of_ble_eq_true rfl) ?_
  intro p9 e9 s9 m9 args9 below9 meth9 c9 F hr9 hl9 hin9 hargs9 hts9
  have L20 : ∀ (l0f20 : Int32) (l2f20 : Int32) (N20 : Nat) (l3 : Int32) (l4 : Int32), lo2 (fX0_cellsOff_l20 l0f20 l2f20) N20 l3 l4 = some r' → GJ p9 l e9 (rg 0 0 0) s9 m9 args9 below9 meth9 c9 (MQ below9 (QI s0 D ev r' (cells ev X M nb)) args9 s9 0 0 (frA ev)) s0 D ev 5 0 0 20 [(0, .int l0f20), (2, .int l2f20), (3, .int l3), (4, .int l4)] ([]) (cells ev X M nb) := by
    intro l0f20 l2f20 N20
    induction N20 with
    | zero => intro l3 l4 h; cases h
    | succ N20 ih20 =>
      intro l3 l4 h
      change fX0_cellsOff_l20 l0f20 l2f20 (lo2 (fX0_cellsOff_l20 l0f20 l2f20) N20) l3 l4 = some r' at h
      rw [fX0_cellsOff_l20] at h
      refine g_iload (i := 4) F dX0_cellsOff_20 rfl ?_
      refine g_iload_n (i := 0) F dX0_cellsOff_22 rfl rfl ?_
      refine g_icmp_gt (tgt := 44) F dX0_cellsOff_23 (by decide) h (fun a4 h => ?_) (fun a4 h => ?_)
      · refine g_iload_n (i := 3) F dX0_cellsOff_44 rfl rfl ?_
        refine g_iconst F dX0_cellsOff_45 (v := 5) (by decide) ?_
        refine g_idiv F dX0_cellsOff_46 (by decide) ?_
        exact g_iret F hr9 rfl hl9 (Option.some.inj h) rfl (by decide) (by decide) dX0_cellsOff_47
      · refine g_iload (i := 4) F dX0_cellsOff_26 rfl ?_
        refine g_iload (i := 4) F dX0_cellsOff_28 rfl ?_
        refine g_imul F dX0_cellsOff_30 ?_
        refine g_iload_n (i := 2) F dX0_cellsOff_31 rfl rfl ?_
        refine g_icmp_gt (tgt := 44) F dX0_cellsOff_32 (by decide) h (fun a3 h => ?_) (fun a3 h => ?_)
        · refine g_iload_n (i := 3) F dX0_cellsOff_44 rfl rfl ?_
          refine g_iconst F dX0_cellsOff_45 (v := 5) (by decide) ?_
          refine g_idiv F dX0_cellsOff_46 (by decide) ?_
          exact g_iret F hr9 rfl hl9 (Option.some.inj h) rfl (by decide) (by decide) dX0_cellsOff_47
        · refine g_iload (i := 4) F dX0_cellsOff_35 rfl ?_
          refine g_istore_n (i := 3) (lv' := [(3, .int l4), (0, .int l0f20), (2, .int l2f20), (4, .int l4)]) F dX0_cellsOff_37 rfl (by decide) rfl ?_
          refine g_iinc (i := 4) (v := (l4 + (1 : Int32))) (lv' := [(4, .int (l4 + (1 : Int32))), (3, .int l4), (0, .int l0f20), (2, .int l2f20)]) F dX0_cellsOff_38 rfl rfl (by decide) rfl ?_
          refine g_goto (tgt := 20) F dX0_cellsOff_41 (by decide) ?_
          refine g_lv (lv' := [(0, .int l0f20), (2, .int l2f20), (3, .int l4), (4, .int (l4 + (1 : Int32)))]) ⟨rfl, rfl, rfl, rfl, trivial⟩ ?_
          exact ih20 _ _ h
  rw [fX0_cellsOff] at h
  refine g_lv (lv' := [(0, .int l0), (1, .int l1)]) ⟨rfl, rfl, trivial⟩ ?_
  refine g_iload_n (i := 0) F dX0_cellsOff_0 rfl rfl ?_
  refine g_iload_n (i := 1) F dX0_cellsOff_1 rfl rfl ?_
  refine g_icmp_gt (tgt := 7) F dX0_cellsOff_2 (by decide) h (fun a5 h => ?_) (fun a5 h => ?_)
  · refine g_iload_n (i := 0) F dX0_cellsOff_7 rfl rfl ?_
    refine g_iload_n (i := 0) F dX0_cellsOff_8 rfl rfl ?_
    refine g_imul F dX0_cellsOff_9 ?_
    refine g_iload_n (i := 1) F dX0_cellsOff_10 rfl rfl ?_
    refine g_iload_n (i := 1) F dX0_cellsOff_11 rfl rfl ?_
    refine g_imul F dX0_cellsOff_12 ?_
    refine g_isub F dX0_cellsOff_13 ?_
    refine g_topi F h (fun v1 e2 h => ?_)
    refine g_istore_n (i := 2) (lv' := [(2, .int v1), (0, .int l0), (1, .int l1)]) F dX0_cellsOff_14 rfl (by decide) rfl ?_
    refine g_iconst F dX0_cellsOff_15 (v := 0) (by decide) ?_
    refine g_istore_n (i := 3) (lv' := [(3, .int (0 : Int32)), (2, .int v1), (0, .int l0), (1, .int l1)]) F dX0_cellsOff_16 rfl (by decide) rfl ?_
    refine g_iconst F dX0_cellsOff_17 (v := 1) (by decide) ?_
    refine g_istore (i := 4) (lv' := [(4, .int (1 : Int32)), (3, .int (0 : Int32)), (2, .int v1), (0, .int l0), (1, .int l1)]) F dX0_cellsOff_18 (by decide) rfl ?_
    refine g_lv (lv' := [(0, .int l0), (2, .int v1), (3, .int (0 : Int32)), (4, .int (1 : Int32))]) ⟨rfl, rfl, rfl, rfl, trivial⟩ ?_
    exact L20 _ _ FU _ _ h
  · refine g_iconst F dX0_cellsOff_5 (v := 0) (by decide) ?_
    exact g_iret F hr9 rfl hl9 (Option.some.inj h) rfl (by decide) (by decide) dX0_cellsOff_6
def fX0_liesAt_l18 (X : XW) (l4f18 : Int32) (l5f18 : Int32) (K18 : Int32 → Int32 → Option Int32) (l6 : Int32) (l7 : Int32) : Option Int32 :=
  if l5f18 ≤ l7 then some l6
  else (fX0_stepped X l6 l4f18).bind fun v5 =>
  if v5 = (-1 : Int32) then some l6
  else K18 v5 (l7 + (1 : Int32))
def fX0_liesAt (X : XW) (l1 : Int32) (l2 : Int32) (l3 : Int32) (l4 : Int32) : Option Int32 :=
  (fX0_deepOf X l1 l3).bind fun v1 =>
  (fX0_cellsOff l2 v1).bind fun v3 =>
  lo2 (fX0_liesAt_l18 X l4 v3) FU l1 (0 : Int32)
set_option maxRecDepth 100000 in
set_option maxHeartbeats 4000000 in
theorem c_X0_liesAt {l : Launch} {s0 : State} {D : va_G} {ev : Nat → Nat} (G0 : Gl s0 D ev) {X : XW} {M : MW} {nb : Nat} {l1 : Int32} {l2 : Int32} {l3 : Int32} {l4 : Int32} {r' : Int32}  (h : fX0_liesAt X l1 l2 l3 l4 = some r') : CT l s0 D ev yX0_liesAt cX0_liesAt 9 (some .int) 3 0 0 [.ref (ev 0 + 1), .int l1, .int l2, .int l3, .int l4] (cells ev X M nb) (QI s0 D ev r' (cells ev X M nb)) := by
  refine ct_of G0 (by decide) (Nat.le_of_ble_eq_true rfl) ?_
  intro p9 e9 s9 m9 args9 below9 meth9 c9 F hr9 hl9 hin9 hargs9 hts9
  have L18 : ∀ (l4f18 : Int32) (l5f18 : Int32) (N18 : Nat) (l6 : Int32) (l7 : Int32), lo2 (fX0_liesAt_l18 X l4f18 l5f18) N18 l6 l7 = some r' → GJ p9 l e9 (rg 3 0 0) s9 m9 args9 below9 meth9 c9 (MQ below9 (QI s0 D ev r' (cells ev X M nb)) args9 s9 0 0 (frA ev)) s0 D ev 9 0 0 18 [(4, .int l4f18), (5, .int l5f18), (6, .int l6), (7, .int l7)] ([]) (cells ev X M nb) := by
    intro l4f18 l5f18 N18
    induction N18 with
    | zero => intro l6 l7 h; cases h
    | succ N18 ih18 =>
      intro l6 l7 h
      change fX0_liesAt_l18 X l4f18 l5f18 (lo2 (fX0_liesAt_l18 X l4f18 l5f18) N18) l6 l7 = some r' at h
      rw [fX0_liesAt_l18] at h
      refine g_iload (i := 7) F dX0_liesAt_18 rfl ?_
      refine g_iload (i := 5) F dX0_liesAt_20 rfl ?_
      refine g_icmp_ge (tgt := 53) F dX0_liesAt_22 (by decide) h (fun a8 h => ?_) (fun a8 h => ?_)
      · refine g_iload (i := 6) F dX0_liesAt_53 rfl ?_
        exact g_iret F hr9 rfl hl9 (Option.some.inj h) rfl (by decide) (by decide) dX0_liesAt_55
      · refine g_iload (i := 6) F dX0_liesAt_25 rfl ?_
        refine g_iload (i := 4) F dX0_liesAt_27 rfl ?_
        obtain ⟨v5, e6, h⟩ := bind_at h
        refine g_callSI F (mcR := 0) (msR := 0) (c_X0_stepped G0 e6) wd_28_23 wd_28_21 wd_28_22 wd_1_14 ⟨by decide, by decide⟩ (nn := 2) (by decide) (As := [.int l6, .int l4f18]) rfl rfl (Nat.le_of_ble_eq_true rfl) (by decide) (by decide) ⟨by decide, by decide⟩ dX0_liesAt_29 ?_
        refine g_istore (i := 8) (lv' := [(8, .int v5), (4, .int l4f18), (5, .int l5f18), (6, .int l6), (7, .int l7)]) F dX0_liesAt_32 (by decide) rfl ?_
        refine g_iload (i := 8) F dX0_liesAt_34 rfl ?_
        refine g_iconst F dX0_liesAt_36 (v := -1) (by decide) ?_
        refine g_icmp_ne (tgt := 43) F dX0_liesAt_37 (by decide) h (fun a7 h => ?_) (fun a7 h => ?_)
        · refine g_iload (i := 8) F dX0_liesAt_43 rfl ?_
          refine g_istore (i := 6) (lv' := [(6, .int v5), (8, .int v5), (4, .int l4f18), (5, .int l5f18), (7, .int l7)]) F dX0_liesAt_45 (by decide) rfl ?_
          refine g_iinc (i := 7) (v := (l7 + (1 : Int32))) (lv' := [(7, .int (l7 + (1 : Int32))), (6, .int v5), (8, .int v5), (4, .int l4f18), (5, .int l5f18)]) F dX0_liesAt_47 rfl rfl (by decide) rfl ?_
          refine g_goto (tgt := 18) F dX0_liesAt_50 (by decide) ?_
          refine g_lv (lv' := [(4, .int l4f18), (5, .int l5f18), (6, .int v5), (7, .int (l7 + (1 : Int32)))]) ⟨rfl, rfl, rfl, rfl, trivial⟩ ?_
          exact ih18 _ _ h
        · refine g_iload (i := 6) F dX0_liesAt_40 rfl ?_
          exact g_iret F hr9 rfl hl9 (Option.some.inj h) rfl (by decide) (by decide) dX0_liesAt_42
  rw [fX0_liesAt] at h
  refine g_lv (lv' := [(0, .ref (ev 0 + 1)), (1, .int l1), (2, .int l2), (3, .int l3), (4, .int l4)]) ⟨rfl, rfl, rfl, rfl, rfl, trivial⟩ ?_
  refine g_iload_n (i := 2) F dX0_liesAt_0 rfl rfl ?_
  refine g_aload_n (i := 0) F dX0_liesAt_1 rfl rfl ?_
  refine g_iload_n (i := 1) F dX0_liesAt_2 rfl rfl ?_
  refine g_iload_n (i := 3) F dX0_liesAt_3 rfl rfl ?_
  obtain ⟨v1, e2, h⟩ := bind_at h
  refine g_callVI F (mcR := 0) (msR := 0) (id := 1) (cells_at (kd_lit (i := 1) (by decide)) (xc_0 rfl)) (ci := 0) rfl rfl rfl (c_X0_deepOf G0 e2) wd_24_10 wd_29_4 wd_24_8 wd_24_9 wd_1_14 ⟨by decide, by decide⟩ (nn := 2) (by decide) (As := [.int l1, .int l3]) rfl rfl (Nat.le_of_ble_eq_true rfl) (by decide) (by decide) ⟨by decide, by decide⟩ dX0_liesAt_4 ?_
  obtain ⟨v3, e4, h⟩ := bind_at h
  refine g_callSI F (mcR := 0) (msR := 0) (c_X0_cellsOff G0 e4) wd_25_15 wd_29_5 wd_25_14 wd_1_14 ⟨by decide, by decide⟩ (nn := 2) (by decide) (As := [.int l2, .int v1]) rfl rfl (Nat.le_of_ble_eq_true rfl) (by decide) (by decide) ⟨by decide, by decide⟩ dX0_liesAt_7 ?_
  refine g_istore (i := 5) (lv' := [(5, .int v3), (0, .ref (ev 0 + 1)), (1, .int l1), (2, .int l2), (3, .int l3), (4, .int l4)]) F dX0_liesAt_10 (by decide) rfl ?_
  refine g_iload_n (i := 1) F dX0_liesAt_12 rfl rfl ?_
  refine g_istore (i := 6) (lv' := [(6, .int l1), (5, .int v3), (0, .ref (ev 0 + 1)), (1, .int l1), (2, .int l2), (3, .int l3), (4, .int l4)]) F dX0_liesAt_13 (by decide) rfl ?_
  refine g_iconst F dX0_liesAt_15 (v := 0) (by decide) ?_
  refine g_istore (i := 7) (lv' := [(7, .int (0 : Int32)), (6, .int l1), (5, .int v3), (0, .ref (ev 0 + 1)), (1, .int l1), (2, .int l2), (3, .int l3), (4, .int l4)]) F dX0_liesAt_16 (by decide) rfl ?_
  refine g_lv (lv' := [(4, .int l4), (5, .int v3), (6, .int l1), (7, .int (0 : Int32))]) ⟨rfl, rfl, rfl, rfl, trivial⟩ ?_
  exact L18 _ _ FU _ _ h
def fX1_isGone (X : XW) (nb : Nat) (l0 : Nat) : Option Int32 :=
  if NS ≤ l0 ∧ l0 < TT nb then if (X.1 l0 4) = (-1 : Int32) then some (1 : Int32)
  else some (0 : Int32) else none
set_option maxRecDepth 100000 in
set_option maxHeartbeats 4000000 in
theorem c_X1_isGone {l : Launch} {s0 : State} {D : va_G} {ev : Nat → Nat} (G0 : Gl s0 D ev) {X : XW} {M : MW} {nb : Nat} {l0 : Nat} {r' : Int32}  (h : fX1_isGone X nb l0 = some r') : CT l s0 D ev yX1_isGone cX1_isGone 1 (some .boolean) 0 0 0 [.ref (ev 0 + l0)] (cells ev X M nb) (QI s0 D ev r' (cells ev X M nb)) := by
  refine ct_of G0 (by decide) (Nat.le_of_ble_eq_true rfl) ?_
  intro p9 e9 s9 m9 args9 below9 meth9 c9 F hr9 hl9 hin9 hargs9 hts9
  rw [fX1_isGone] at h
  refine g_lv (lv' := [(0, .ref (ev 0 + l0))]) ⟨rfl, trivial⟩ ?_
  refine g_aload_n (i := 0) F dX1_isGone_0 rfl rfl ?_
  obtain ⟨h1, h⟩ := if_at h
  refine g_get_1_4 F (kd_b h1) h1.2 wd_22_8 dX1_isGone_1 ?_
  refine g_iconst F dX1_isGone_4 (v := -1) (by decide) ?_
  refine g_icmp_ne (tgt := 12) F dX1_isGone_5 (by decide) h (fun a2 h => ?_) (fun a2 h => ?_)
  · refine g_iconst F dX1_isGone_12 (v := 0) (by decide) ?_
    exact g_iret F hr9 (by decide) hl9 (Option.some.inj h) rfl (by decide) (by decide) dX1_isGone_13
  · refine g_iconst F dX1_isGone_8 (v := 1) (by decide) ?_
    refine g_goto (tgt := 13) F dX1_isGone_9 (by decide) ?_
    exact g_iret F hr9 (by decide) hl9 (Option.some.inj h) rfl (by decide) (by decide) dX1_isGone_13
def fX1_isA_b21 (X : XW) (nb : Nat) (l0 : Nat) (l1 : Int32) (t0 : Int32) : Option Int32 :=
  if NS ≤ l0 ∧ l0 < TT nb then if l1 = (X.1 l0 0) then some (1 : Int32)
  else if l1 = 0 then some (1 : Int32)
  else if l1 = (1 : Int32) then if t0 = 0 then some (0 : Int32)
  else some (1 : Int32)
  else some (0 : Int32) else none
def fX1_isA_b16 (X : XW) (nb : Nat) (l0 : Nat) (l1 : Int32) : Option Int32 :=
  fX1_isA_b21 X nb l0 l1 (1 : Int32)
def fX1_isA (X : XW) (nb : Nat) (l0 : Nat) (l1 : Int32) : Option Int32 :=
  if NS ≤ l0 ∧ l0 < TT nb then if (X.1 l0 0) = (4 : Int32) then fX1_isA_b16 X nb l0 l1
  else if (X.1 l0 0) = (5 : Int32) then fX1_isA_b16 X nb l0 l1
  else fX1_isA_b21 X nb l0 l1 (0 : Int32) else none
set_option maxRecDepth 100000 in
set_option maxHeartbeats 4000000 in
theorem c_X1_isA {l : Launch} {s0 : State} {D : va_G} {ev : Nat → Nat} (G0 : Gl s0 D ev) {X : XW} {M : MW} {nb : Nat} {l0 : Nat} {l1 : Int32} {r' : Int32}  (h : fX1_isA X nb l0 l1 = some r') : CT l s0 D ev yX1_isA cX1_isA 3 (some .boolean) 0 0 0 [.ref (ev 0 + l0), .int l1] (cells ev X M nb) (QI s0 D ev r' (cells ev X M nb)) := by
  refine ct_of G0 (by decide) (Nat.le_of_ble_eq_true rfl) ?_
  intro p9 e9 s9 m9 args9 below9 meth9 c9 F hr9 hl9 hin9 hargs9 hts9
  have U21 : ∀ (l0 : Nat) (l1 : Int32) (t0 : Int32), fX1_isA_b21 X nb l0 l1 t0 = some r' → GJ p9 l e9 (rg 0 0 0) s9 m9 args9 below9 meth9 c9 (MQ below9 (QI s0 D ev r' (cells ev X M nb)) args9 s9 0 0 (frA ev)) s0 D ev 3 0 0 21 [(0, .ref (ev 0 + l0)), (1, .int l1)] (.int t0 :: []) (cells ev X M nb) := by
    intro l0 l1 t0 h
    rw [fX1_isA_b21] at h
    refine g_istore_n (i := 2) (lv' := [(2, .int t0), (0, .ref (ev 0 + l0)), (1, .int l1)]) F dX1_isA_21 rfl (by decide) rfl ?_
    refine g_iload_n (i := 1) F dX1_isA_22 rfl rfl ?_
    refine g_aload_n (i := 0) F dX1_isA_23 rfl rfl ?_
    obtain ⟨h2, h⟩ := if_at h
    refine g_get_1_0 F (kd_b h2) h2.2 wd_22_4 dX1_isA_24 ?_
    refine g_icmp_eq (tgt := 43) F dX1_isA_27 (by decide) h (fun a6 h => ?_) (fun a6 h => ?_)
    · refine g_iconst F dX1_isA_43 (v := 1) (by decide) ?_
      refine g_goto (tgt := 48) F dX1_isA_44 (by decide) ?_
      exact g_iret F hr9 (by decide) hl9 (Option.some.inj h) rfl (by decide) (by decide) dX1_isA_48
    · refine g_iload_n (i := 1) F dX1_isA_30 rfl rfl ?_
      refine g_if_eq (tgt := 43) F dX1_isA_31 (by decide) h (fun a5 h => ?_) (fun a5 h => ?_)
      · refine g_iconst F dX1_isA_43 (v := 1) (by decide) ?_
        refine g_goto (tgt := 48) F dX1_isA_44 (by decide) ?_
        exact g_iret F hr9 (by decide) hl9 (Option.some.inj h) rfl (by decide) (by decide) dX1_isA_48
      · refine g_iload_n (i := 1) F dX1_isA_34 rfl rfl ?_
        refine g_iconst F dX1_isA_35 (v := 1) (by decide) ?_
        refine g_icmp_ne (tgt := 47) F dX1_isA_36 (by decide) h (fun a4 h => ?_) (fun a4 h => ?_)
        · refine g_iconst F dX1_isA_47 (v := 0) (by decide) ?_
          exact g_iret F hr9 (by decide) hl9 (Option.some.inj h) rfl (by decide) (by decide) dX1_isA_48
        · refine g_iload_n (i := 2) F dX1_isA_39 rfl rfl ?_
          refine g_if_eq (tgt := 47) F dX1_isA_40 (by decide) h (fun a3 h => ?_) (fun a3 h => ?_)
          · refine g_iconst F dX1_isA_47 (v := 0) (by decide) ?_
            exact g_iret F hr9 (by decide) hl9 (Option.some.inj h) rfl (by decide) (by decide) dX1_isA_48
          · refine g_iconst F dX1_isA_43 (v := 1) (by decide) ?_
            refine g_goto (tgt := 48) F dX1_isA_44 (by decide) ?_
            exact g_iret F hr9 (by decide) hl9 (Option.some.inj h) rfl (by decide) (by decide) dX1_isA_48
  have U16 : ∀ (l0 : Nat) (l1 : Int32), fX1_isA_b16 X nb l0 l1 = some r' → GJ p9 l e9 (rg 0 0 0) s9 m9 args9 below9 meth9 c9 (MQ below9 (QI s0 D ev r' (cells ev X M nb)) args9 s9 0 0 (frA ev)) s0 D ev 3 0 0 16 [(0, .ref (ev 0 + l0)), (1, .int l1)] ([]) (cells ev X M nb) := by
    intro l0 l1 h
    rw [fX1_isA_b16] at h
    refine g_iconst F dX1_isA_16 (v := 1) (by decide) ?_
    refine g_goto (tgt := 21) F dX1_isA_17 (by decide) ?_
    refine g_lv (lv' := [(0, .ref (ev 0 + l0)), (1, .int l1)]) ⟨rfl, rfl, trivial⟩ ?_
    exact U21 _ _ _ h
  rw [fX1_isA] at h
  refine g_lv (lv' := [(0, .ref (ev 0 + l0)), (1, .int l1)]) ⟨rfl, rfl, trivial⟩ ?_
  refine g_aload_n (i := 0) F dX1_isA_0 rfl rfl ?_
  obtain ⟨h1, h⟩ := if_at h
  refine g_get_1_0 F (kd_b h1) h1.2 wd_22_4 dX1_isA_1 ?_
  refine g_iconst F dX1_isA_4 (v := 4) (by decide) ?_
  refine g_icmp_eq (tgt := 16) F dX1_isA_5 (by decide) h (fun a8 h => ?_) (fun a8 h => ?_)
  · refine g_lv (lv' := [(0, .ref (ev 0 + l0)), (1, .int l1)]) ⟨rfl, rfl, trivial⟩ ?_
    exact U16 _ _ h
  · refine g_aload_n (i := 0) F dX1_isA_8 rfl rfl ?_
    refine g_get_1_0 F (kd_b h1) h1.2 wd_22_4 dX1_isA_9 ?_
    refine g_iconst F dX1_isA_12 (v := 5) (by decide) ?_
    refine g_icmp_ne (tgt := 20) F dX1_isA_13 (by decide) h (fun a7 h => ?_) (fun a7 h => ?_)
    · refine g_iconst F dX1_isA_20 (v := 0) (by decide) ?_
      refine g_lv (lv' := [(0, .ref (ev 0 + l0)), (1, .int l1)]) ⟨rfl, rfl, trivial⟩ ?_
      exact U21 _ _ _ h
    · refine g_lv (lv' := [(0, .ref (ev 0 + l0)), (1, .int l1)]) ⟨rfl, rfl, trivial⟩ ?_
      exact U16 _ _ h
def fX1_gripOf (X : XW) (nb : Nat) (l0 : Nat) (l1 : Int32) : Option Int32 :=
  if NS ≤ l0 ∧ l0 < TT nb then bd (X.1 l0 0) fun v2 =>
  if v2 = (1 : Int32) then some (((3 : Int32) * l1) / (2 : Int32))
  else if v2 = (2 : Int32) then some l1
  else if v2 = (3 : Int32) then some (l1 / (4 : Int32))
  else if v2 = (4 : Int32) then some (((3 : Int32) * l1) / (2 : Int32))
  else if v2 = (5 : Int32) then some ((((3 : Int32) * l1) / (2 : Int32)) + ((10 : Int32) * (X.1 l0 3)))
  else some l1 else none
set_option maxRecDepth 100000 in
set_option maxHeartbeats 4000000 in
theorem c_X1_gripOf {l : Launch} {s0 : State} {D : va_G} {ev : Nat → Nat} (G0 : Gl s0 D ev) {X : XW} {M : MW} {nb : Nat} {l0 : Nat} {l1 : Int32} {r' : Int32}  (h : fX1_gripOf X nb l0 l1 = some r') : CT l s0 D ev yX1_gripOf cX1_gripOf 2 (some .int) 0 0 0 [.ref (ev 0 + l0), .int l1] (cells ev X M nb) (QI s0 D ev r' (cells ev X M nb)) := by
  refine ct_of G0 (by decide) (Nat.le_of_ble_eq_true rfl) ?_
  intro p9 e9 s9 m9 args9 below9 meth9 c9 F hr9 hl9 hin9 hargs9 hts9
  rw [fX1_gripOf] at h
  refine g_lv (lv' := [(0, .ref (ev 0 + l0)), (1, .int l1)]) ⟨rfl, rfl, trivial⟩ ?_
  refine g_aload_n (i := 0) F dX1_gripOf_0 rfl rfl ?_
  obtain ⟨h1, h⟩ := if_at h
  refine g_get_1_0 F (kd_b h1) h1.2 wd_22_4 dX1_gripOf_1 ?_
  refine g_topi F h (fun v2 e3 h => ?_)
  refine ite_at h (fun a4 h => ?_) (fun a4 h => ?_)
  · refine g_tsw (k := 1) (off := 36) (tgt := 40) F a4 dX1_gripOf_4 (by decide) (by decide) (by decide) (by decide) ?_
    refine g_iconst F dX1_gripOf_40 (v := 3) (by decide) ?_
    refine g_iload_n (i := 1) F dX1_gripOf_41 rfl rfl ?_
    refine g_imul F dX1_gripOf_42 ?_
    refine g_iconst F dX1_gripOf_43 (v := 2) (by decide) ?_
    refine g_idiv F dX1_gripOf_44 (by decide) ?_
    exact g_iret F hr9 rfl hl9 (Option.some.inj h) rfl (by decide) (by decide) dX1_gripOf_45
  · refine ite_at h (fun a5 h => ?_) (fun a5 h => ?_)
    · refine g_tsw (k := 2) (off := 60) (tgt := 64) F a5 dX1_gripOf_4 (by decide) (by decide) (by decide) (by decide) ?_
      refine g_iload_n (i := 1) F dX1_gripOf_64 rfl rfl ?_
      exact g_iret F hr9 rfl hl9 (Option.some.inj h) rfl (by decide) (by decide) dX1_gripOf_65
    · refine ite_at h (fun a6 h => ?_) (fun a6 h => ?_)
      · refine g_tsw (k := 3) (off := 56) (tgt := 60) F a6 dX1_gripOf_4 (by decide) (by decide) (by decide) (by decide) ?_
        refine g_iload_n (i := 1) F dX1_gripOf_60 rfl rfl ?_
        refine g_iconst F dX1_gripOf_61 (v := 4) (by decide) ?_
        refine g_idiv F dX1_gripOf_62 (by decide) ?_
        exact g_iret F hr9 rfl hl9 (Option.some.inj h) rfl (by decide) (by decide) dX1_gripOf_63
      · refine ite_at h (fun a7 h => ?_) (fun a7 h => ?_)
        · refine g_tsw (k := 4) (off := 36) (tgt := 40) F a7 dX1_gripOf_4 (by decide) (by decide) (by decide) (by decide) ?_
          refine g_iconst F dX1_gripOf_40 (v := 3) (by decide) ?_
          refine g_iload_n (i := 1) F dX1_gripOf_41 rfl rfl ?_
          refine g_imul F dX1_gripOf_42 ?_
          refine g_iconst F dX1_gripOf_43 (v := 2) (by decide) ?_
          refine g_idiv F dX1_gripOf_44 (by decide) ?_
          exact g_iret F hr9 rfl hl9 (Option.some.inj h) rfl (by decide) (by decide) dX1_gripOf_45
        · refine ite_at h (fun a8 h => ?_) (fun a8 h => ?_)
          · refine g_tsw (k := 5) (off := 42) (tgt := 46) F a8 dX1_gripOf_4 (by decide) (by decide) (by decide) (by decide) ?_
            refine g_iconst F dX1_gripOf_46 (v := 3) (by decide) ?_
            refine g_iload_n (i := 1) F dX1_gripOf_47 rfl rfl ?_
            refine g_imul F dX1_gripOf_48 ?_
            refine g_iconst F dX1_gripOf_49 (v := 2) (by decide) ?_
            refine g_idiv F dX1_gripOf_50 (by decide) ?_
            refine g_bipush F dX1_gripOf_51 (v := 10) (by decide) ?_
            refine g_aload_n (i := 0) F dX1_gripOf_53 rfl rfl ?_
            refine g_get_1_3 F (kd_b h1) h1.2 wd_22_7 dX1_gripOf_54 ?_
            refine g_imul F dX1_gripOf_57 ?_
            refine g_iadd F dX1_gripOf_58 ?_
            exact g_iret F hr9 rfl hl9 (Option.some.inj h) rfl (by decide) (by decide) dX1_gripOf_59
          · have q0 : v2.toInt ≠ 1 := fun q => a4 (Int32.toInt_inj.mp (q.trans (by decide)))
            have q1 : v2.toInt ≠ 2 := fun q => a5 (Int32.toInt_inj.mp (q.trans (by decide)))
            have q2 : v2.toInt ≠ 3 := fun q => a6 (Int32.toInt_inj.mp (q.trans (by decide)))
            have q3 : v2.toInt ≠ 4 := fun q => a7 (Int32.toInt_inj.mp (q.trans (by decide)))
            have q4 : v2.toInt ≠ 5 := fun q => a8 (Int32.toInt_inj.mp (q.trans (by decide)))
            refine g_tswd (tgt := 64) F (by omega) dX1_gripOf_4 (by decide) ?_
            refine g_iload_n (i := 1) F dX1_gripOf_64 rfl rfl ?_
            exact g_iret F hr9 rfl hl9 (Option.some.inj h) rfl (by decide) (by decide) dX1_gripOf_65
def fX1_dragsIn (X : XW) (nb : Nat) (l0 : Nat) (l1 : Int32) : Option Int32 :=
  if NS ≤ l0 ∧ l0 < TT nb then if (X.1 l0 0) = (2 : Int32) then if (jrem l1 (2 : Int32)) = (1 : Int32) then some (1 : Int32)
  else some (0 : Int32)
  else some (1 : Int32) else none
set_option maxRecDepth 100000 in
set_option maxHeartbeats 4000000 in
theorem c_X1_dragsIn {l : Launch} {s0 : State} {D : va_G} {ev : Nat → Nat} (G0 : Gl s0 D ev) {X : XW} {M : MW} {nb : Nat} {l0 : Nat} {l1 : Int32} {r' : Int32}  (h : fX1_dragsIn X nb l0 l1 = some r') : CT l s0 D ev yX1_dragsIn cX1_dragsIn 2 (some .boolean) 0 0 0 [.ref (ev 0 + l0), .int l1] (cells ev X M nb) (QI s0 D ev r' (cells ev X M nb)) := by
  refine ct_of G0 (by decide) (Nat.le_of_ble_eq_true rfl) ?_
  intro p9 e9 s9 m9 args9 below9 meth9 c9 F hr9 hl9 hin9 hargs9 hts9
  rw [fX1_dragsIn] at h
  refine g_lv (lv' := [(0, .ref (ev 0 + l0)), (1, .int l1)]) ⟨rfl, rfl, trivial⟩ ?_
  refine g_aload_n (i := 0) F dX1_dragsIn_0 rfl rfl ?_
  obtain ⟨h1, h⟩ := if_at h
  refine g_get_1_0 F (kd_b h1) h1.2 wd_22_4 dX1_dragsIn_1 ?_
  refine g_iconst F dX1_dragsIn_4 (v := 2) (by decide) ?_
  refine g_icmp_ne (tgt := 15) F dX1_dragsIn_5 (by decide) h (fun a3 h => ?_) (fun a3 h => ?_)
  · refine g_iconst F dX1_dragsIn_15 (v := 1) (by decide) ?_
    refine g_goto (tgt := 20) F dX1_dragsIn_16 (by decide) ?_
    exact g_iret F hr9 (by decide) hl9 (Option.some.inj h) rfl (by decide) (by decide) dX1_dragsIn_20
  · refine g_iload_n (i := 1) F dX1_dragsIn_8 rfl rfl ?_
    refine g_iconst F dX1_dragsIn_9 (v := 2) (by decide) ?_
    refine g_irem F dX1_dragsIn_10 (by decide) ?_
    refine g_iconst F dX1_dragsIn_11 (v := 1) (by decide) ?_
    refine g_icmp_ne (tgt := 19) F dX1_dragsIn_12 (by decide) h (fun a2 h => ?_) (fun a2 h => ?_)
    · refine g_iconst F dX1_dragsIn_19 (v := 0) (by decide) ?_
      exact g_iret F hr9 (by decide) hl9 (Option.some.inj h) rfl (by decide) (by decide) dX1_dragsIn_20
    · refine g_iconst F dX1_dragsIn_15 (v := 1) (by decide) ?_
      refine g_goto (tgt := 20) F dX1_dragsIn_16 (by decide) ?_
      exact g_iret F hr9 (by decide) hl9 (Option.some.inj h) rfl (by decide) (by decide) dX1_dragsIn_20
def fX1_breaksOutAt (X : XW) (nb : Nat) (l0 : Nat) (l1 : Int32) : Option Int32 :=
  if NS ≤ l0 ∧ l0 < TT nb then if (X.1 l0 0) = (4 : Int32) then if l1 ≤ (X.1 l0 3) then some (0 : Int32)
  else some (1 : Int32)
  else some (0 : Int32) else none
set_option maxRecDepth 100000 in
set_option maxHeartbeats 4000000 in
theorem c_X1_breaksOutAt {l : Launch} {s0 : State} {D : va_G} {ev : Nat → Nat} (G0 : Gl s0 D ev) {X : XW} {M : MW} {nb : Nat} {l0 : Nat} {l1 : Int32} {r' : Int32}  (h : fX1_breaksOutAt X nb l0 l1 = some r') : CT l s0 D ev yX1_breaksOutAt cX1_breaksOutAt 2 (some .boolean) 0 0 0 [.ref (ev 0 + l0), .int l1] (cells ev X M nb) (QI s0 D ev r' (cells ev X M nb)) := by
  refine ct_of G0 (by decide) (Nat.le_of_ble_eq_true rfl) ?_
  intro p9 e9 s9 m9 args9 below9 meth9 c9 F hr9 hl9 hin9 hargs9 hts9
  rw [fX1_breaksOutAt] at h
  refine g_lv (lv' := [(0, .ref (ev 0 + l0)), (1, .int l1)]) ⟨rfl, rfl, trivial⟩ ?_
  refine g_aload_n (i := 0) F dX1_breaksOutAt_0 rfl rfl ?_
  obtain ⟨h1, h⟩ := if_at h
  refine g_get_1_0 F (kd_b h1) h1.2 wd_22_4 dX1_breaksOutAt_1 ?_
  refine g_iconst F dX1_breaksOutAt_4 (v := 4) (by decide) ?_
  refine g_icmp_ne (tgt := 20) F dX1_breaksOutAt_5 (by decide) h (fun a3 h => ?_) (fun a3 h => ?_)
  · refine g_iconst F dX1_breaksOutAt_20 (v := 0) (by decide) ?_
    exact g_iret F hr9 (by decide) hl9 (Option.some.inj h) rfl (by decide) (by decide) dX1_breaksOutAt_21
  · refine g_iload_n (i := 1) F dX1_breaksOutAt_8 rfl rfl ?_
    refine g_aload_n (i := 0) F dX1_breaksOutAt_9 rfl rfl ?_
    refine g_get_1_3 F (kd_b h1) h1.2 wd_22_7 dX1_breaksOutAt_10 ?_
    refine g_icmp_le (tgt := 20) F dX1_breaksOutAt_13 (by decide) h (fun a2 h => ?_) (fun a2 h => ?_)
    · refine g_iconst F dX1_breaksOutAt_20 (v := 0) (by decide) ?_
      exact g_iret F hr9 (by decide) hl9 (Option.some.inj h) rfl (by decide) (by decide) dX1_breaksOutAt_21
    · refine g_iconst F dX1_breaksOutAt_16 (v := 1) (by decide) ?_
      refine g_goto (tgt := 21) F dX1_breaksOutAt_17 (by decide) ?_
      exact g_iret F hr9 (by decide) hl9 (Option.some.inj h) rfl (by decide) (by decide) dX1_breaksOutAt_21
def fX7_tell_b83 (nb : Nat) (X : XW) (l1 : Nat) (t1 : Int32) (t2 : Int32) : Option (XW) :=
  if inb t1 6 then bd (xA X 11 t1 t2) fun X21 =>
  if NS ≤ l1 ∧ l1 < TT nb then if inb (5 : Int32) 6 then bd (xA X21 11 (5 : Int32) (X21.1 l1 2)) fun X25 =>
  some X25
  else none else none
  else none
def fX7_tell_b24 (nb : Nat) (X : XW) (l1 : Nat) (l2 : Int32) (l3 : Int32) (l4 : Int32) (t1 : Int32) (t2 : Int32) : Option (XW) :=
  if inb t1 6 then bd (xA X 11 t1 t2) fun X4 =>
  if NS ≤ l1 ∧ l1 < TT nb then if inb (1 : Int32) 6 then bd (xA X4 11 (1 : Int32) (X4.1 l1 1)) fun X8 =>
  (fX0_deepOf X8 l2 l4).bind fun v10 =>
  if inb (2 : Int32) 6 then bd (xA X8 11 (2 : Int32) v10) fun X13 =>
  if inb (3 : Int32) 6 then bd (xA X13 11 (3 : Int32) l3) fun X16 =>
  if (fX9_isCell l2) = 0 then fX7_tell_b83 nb X16 l1 (4 : Int32) (0 : Int32)
  else (rd (X16.2.1 3) 100 l2).bind fun v27 =>
  fX7_tell_b83 nb X16 l1 (4 : Int32) v27
  else none
  else none
  else none else none
  else none
def fX7_tell (X : XW) (nb : Nat) (l1 : Nat) (l2 : Int32) (l3 : Int32) (l4 : Int32) : Option (XW) :=
  if (fX9_isHour l4) = 0 then fX7_tell_b24 nb X l1 l2 l3 l4 (0 : Int32) (0 : Int32)
  else bd (X.2.2 10 4) fun r30 =>
  (r30).bind fun b32 =>
  if kd b32 = 11 then (rd (X.2.1 b32) (ln b32) l4).bind fun v35 =>
  fX7_tell_b24 nb X l1 l2 l3 l4 (0 : Int32) v35 else none
set_option maxRecDepth 100000 in
set_option maxHeartbeats 4000000 in
theorem c_X7_tell {l : Launch} {s0 : State} {D : va_G} {ev : Nat → Nat} (G0 : Gl s0 D ev) {X : XW} {M : MW} {nb : Nat} {l1 : Nat} {l2 : Int32} {l3 : Int32} {l4 : Int32} {X' : XW}  (h : fX7_tell X nb l1 l2 l3 l4 = some (X')) : CT l s0 D ev yX7_tell cX7_tell 5 none 2 0 0 [.ref (ev 0 + 10), .ref (ev 0 + l1), .int l2, .int l3, .int l4] (cells ev X M nb) (QV s0 D ev (cells ev X' M nb)) := by
  refine ct_of G0 (by decide) (Nat.le_of_ble_eq_true rfl) ?_
  intro p9 e9 s9 m9 args9 below9 meth9 c9 F hr9 hl9 hin9 hargs9 hts9
  have U83 : ∀ (X : XW) (l1 : Nat) (t1 : Int32) (t2 : Int32), fX7_tell_b83 nb X l1 t1 t2 = some (X') → GJ p9 l e9 (rg 2 0 0) s9 m9 args9 below9 meth9 c9 (MQ below9 (QV s0 D ev (cells ev X' M nb)) args9 s9 0 0 (frA ev)) s0 D ev 5 0 0 83 [(0, .ref (ev 0 + 10)), (1, .ref (ev 0 + l1))] (.int t2 :: .int t1 :: .ref (ev 0 + 11) :: []) (cells ev X M nb) := by
    intro X l1 t1 t2 h
    rw [fX7_tell_b83] at h
    obtain ⟨h20, h⟩ := if_at h
    obtain ⟨X21, e22, h⟩ := bd_at h
    refine g_istX F rfl rfl h20 dX7_tell_83 ?_
    rw [← e22]
    refine g_aload_n (i := 0) F dX7_tell_84 rfl rfl ?_
    refine g_get_7_1 F rfl (kd_lit (by decide)) wd_4_10 dX7_tell_85 ?_
    refine g_iconst F dX7_tell_88 (v := 5) (by decide) ?_
    refine g_aload_n (i := 1) F dX7_tell_89 rfl rfl ?_
    obtain ⟨h23, h⟩ := if_at h
    refine g_get_1_2 F (kd_b h23) h23.2 wd_24_22 dX7_tell_90 ?_
    obtain ⟨h24, h⟩ := if_at h
    obtain ⟨X25, e26, h⟩ := bd_at h
    refine g_istX F rfl rfl h24 dX7_tell_93 ?_
    rw [← e26]
    exact g_vret F hr9 hl9 (by rw [Option.some.inj h]) (by decide) (by decide) dX7_tell_94
  have U24 : ∀ (X : XW) (l1 : Nat) (l2 : Int32) (l3 : Int32) (l4 : Int32) (t1 : Int32) (t2 : Int32), fX7_tell_b24 nb X l1 l2 l3 l4 t1 t2 = some (X') → GJ p9 l e9 (rg 2 0 0) s9 m9 args9 below9 meth9 c9 (MQ below9 (QV s0 D ev (cells ev X' M nb)) args9 s9 0 0 (frA ev)) s0 D ev 5 0 0 24 [(0, .ref (ev 0 + 10)), (1, .ref (ev 0 + l1)), (2, .int l2), (3, .int l3), (4, .int l4)] (.int t2 :: .int t1 :: .ref (ev 0 + 11) :: []) (cells ev X M nb) := by
    intro X l1 l2 l3 l4 t1 t2 h
    rw [fX7_tell_b24] at h
    obtain ⟨h3, h⟩ := if_at h
    obtain ⟨X4, e5, h⟩ := bd_at h
    refine g_istX F rfl rfl h3 dX7_tell_24 ?_
    rw [← e5]
    refine g_aload_n (i := 0) F dX7_tell_25 rfl rfl ?_
    refine g_get_7_1 F rfl (kd_lit (by decide)) wd_4_10 dX7_tell_26 ?_
    refine g_iconst F dX7_tell_29 (v := 1) (by decide) ?_
    refine g_aload_n (i := 1) F dX7_tell_30 rfl rfl ?_
    obtain ⟨h6, h⟩ := if_at h
    refine g_get_1_1 F (kd_b h6) h6.2 wd_24_20 dX7_tell_31 ?_
    obtain ⟨h7, h⟩ := if_at h
    obtain ⟨X8, e9, h⟩ := bd_at h
    refine g_istX F rfl rfl h7 dX7_tell_34 ?_
    rw [← e9]
    refine g_aload_n (i := 0) F dX7_tell_35 rfl rfl ?_
    refine g_get_7_1 F rfl (kd_lit (by decide)) wd_4_10 dX7_tell_36 ?_
    refine g_iconst F dX7_tell_39 (v := 2) (by decide) ?_
    refine g_aload_n (i := 0) F dX7_tell_40 rfl rfl ?_
    refine g_get_7_0 F rfl (kd_lit (by decide)) wd_4_13 dX7_tell_41 ?_
    refine g_iload_n (i := 2) F dX7_tell_44 rfl rfl ?_
    refine g_iload (i := 4) F dX7_tell_45 rfl ?_
    obtain ⟨v10, e11, h⟩ := bind_at h
    refine g_callVI F (mcR := 0) (msR := 0) (id := 1) (cells_at (kd_lit (i := 1) (by decide)) (xc_0 rfl)) (ci := 0) rfl rfl rfl (c_X0_deepOf G0 e11) wd_24_10 wd_24_23 wd_24_8 wd_24_9 wd_1_14 ⟨by decide, by decide⟩ (nn := 2) (by decide) (As := [.int l2, .int l4]) rfl rfl (Nat.le_of_ble_eq_true rfl) (by decide) (by decide) ⟨by decide, by decide⟩ dX7_tell_47 ?_
    obtain ⟨h12, h⟩ := if_at h
    obtain ⟨X13, e14, h⟩ := bd_at h
    refine g_istX F rfl rfl h12 dX7_tell_50 ?_
    rw [← e14]
    refine g_aload_n (i := 0) F dX7_tell_51 rfl rfl ?_
    refine g_get_7_1 F rfl (kd_lit (by decide)) wd_4_10 dX7_tell_52 ?_
    refine g_iconst F dX7_tell_55 (v := 3) (by decide) ?_
    refine g_iload_n (i := 3) F dX7_tell_56 rfl rfl ?_
    obtain ⟨h15, h⟩ := if_at h
    obtain ⟨X16, e17, h⟩ := bd_at h
    refine g_istX F rfl rfl h15 dX7_tell_57 ?_
    rw [← e17]
    refine g_aload_n (i := 0) F dX7_tell_58 rfl rfl ?_
    refine g_get_7_1 F rfl (kd_lit (by decide)) wd_4_10 dX7_tell_59 ?_
    refine g_iconst F dX7_tell_62 (v := 4) (by decide) ?_
    refine g_iload_n (i := 2) F dX7_tell_63 rfl rfl ?_
    refine g_callSNI F (mcR := 0) (msR := 0) (c_X9_isCell G0 (X := X16) (M := M) (nb := nb) rfl) wd_15_20 (List.mem_of_getElem? (l := nwL) (i := 8) rfl) wd_15_19 wd_1_2 ⟨by decide, by decide⟩ (nn := 1) (by decide) (As := [.int l2]) rfl rfl (Nat.le_of_ble_eq_true rfl) (by decide) (by decide) ⟨by decide, by decide⟩ dX7_tell_64 ?_
    refine g_if_eq (tgt := 82) F dX7_tell_67 (by decide) h (fun a29 h => ?_) (fun a29 h => ?_)
    · refine g_iconst F dX7_tell_82 (v := 0) (by decide) ?_
      refine g_lv (lv' := [(0, .ref (ev 0 + 10)), (1, .ref (ev 0 + l1))]) ⟨rfl, rfl, trivial⟩ ?_
      exact U83 _ _ _ _ h
    · refine g_aload_n (i := 0) F dX7_tell_70 rfl rfl ?_
      refine g_get_7_0 F rfl (kd_lit (by decide)) wd_4_13 dX7_tell_71 ?_
      refine g_get_0_1 F rfl (kd_lit (by decide)) wd_24_21 dX7_tell_74 ?_
      refine g_iload_n (i := 2) F dX7_tell_77 rfl rfl ?_
      obtain ⟨v27, e28, h⟩ := bind_at h
      refine g_ildX F rfl rfl e28 dX7_tell_78 ?_
      refine g_goto (tgt := 83) F dX7_tell_79 (by decide) ?_
      refine g_lv (lv' := [(0, .ref (ev 0 + 10)), (1, .ref (ev 0 + l1))]) ⟨rfl, rfl, trivial⟩ ?_
      exact U83 _ _ _ _ h
  rw [fX7_tell] at h
  refine g_lv (lv' := [(0, .ref (ev 0 + 10)), (1, .ref (ev 0 + l1)), (2, .int l2), (3, .int l3), (4, .int l4)]) ⟨rfl, rfl, rfl, rfl, rfl, trivial⟩ ?_
  refine g_aload_n (i := 0) F dX7_tell_0 rfl rfl ?_
  refine g_get_7_1 F rfl (kd_lit (by decide)) wd_4_10 dX7_tell_1 ?_
  refine g_iconst F dX7_tell_4 (v := 0) (by decide) ?_
  refine g_iload (i := 4) F dX7_tell_5 rfl ?_
  refine g_callSNI F (mcR := 0) (msR := 0) (c_X9_isHour G0 (X := X) (M := M) (nb := nb) rfl) wd_17_9 (List.mem_of_getElem? (l := nwL) (i := 7) rfl) wd_17_8 wd_1_2 ⟨by decide, by decide⟩ (nn := 1) (by decide) (As := [.int l4]) rfl rfl (Nat.le_of_ble_eq_true rfl) (by decide) (by decide) ⟨by decide, by decide⟩ dX7_tell_7 ?_
  refine g_if_eq (tgt := 23) F dX7_tell_10 (by decide) h (fun a37 h => ?_) (fun a37 h => ?_)
  · refine g_iconst F dX7_tell_23 (v := 0) (by decide) ?_
    refine g_lv (lv' := [(0, .ref (ev 0 + 10)), (1, .ref (ev 0 + l1)), (2, .int l2), (3, .int l3), (4, .int l4)]) ⟨rfl, rfl, rfl, rfl, rfl, trivial⟩ ?_
    exact U24 _ _ _ _ _ _ _ h
  · refine g_aload_n (i := 0) F dX7_tell_13 rfl rfl ?_
    refine g_get_7_4 F rfl (kd_lit (by decide)) wd_4_15 dX7_tell_14 ?_
    obtain ⟨r30, e31, h⟩ := bd_at h
    rw [← e31]
    refine g_iload (i := 4) F dX7_tell_17 rfl ?_
    obtain ⟨b32, e33, h⟩ := bind_at h
    rw [e33]
    obtain ⟨h34, h⟩ := if_at h
    obtain ⟨v35, e36, h⟩ := bind_at h
    refine g_ildX F h34 rfl e36 dX7_tell_19 ?_
    refine g_goto (tgt := 24) F dX7_tell_20 (by decide) ?_
    refine g_lv (lv' := [(0, .ref (ev 0 + 10)), (1, .ref (ev 0 + l1)), (2, .int l2), (3, .int l3), (4, .int l4)]) ⟨rfl, rfl, rfl, rfl, rfl, trivial⟩ ?_
    exact U24 _ _ _ _ _ _ _ h
def fX5_outcome (l0 : Int32) (l1 : Int32) (l2 : Int32) : Int32 :=
  if l0 = (6 : Int32) then (l1 + l2)
  else if l0 = (7 : Int32) then (l1 - l2)
  else if l0 = (8 : Int32) then (l1 * l2)
  else if l0 = (9 : Int32) then if l2 ≤ l1 then (0 : Int32)
  else (1 : Int32)
  else if l0 = (10 : Int32) then if l1 = l2 then (1 : Int32)
  else (0 : Int32)
  else if l0 = (11 : Int32) then (-l2)
  else if l0 = (12 : Int32) then (l1 * l2)
  else if l0 = (13 : Int32) then (l1 * l2)
  else if l0 = (14 : Int32) then (l1 * l2)
  else if l0 = (15 : Int32) then (l1 * l2)
  else if l0 = (16 : Int32) then (l1 * l2)
  else if l0 = (17 : Int32) then (l1 * l2)
  else if l0 = (18 : Int32) then (l1 * l2)
  else if l0 = (19 : Int32) then (l1 * l2)
  else if l0 = (20 : Int32) then (l1 * l2)
  else if l0 = (21 : Int32) then (l1 * l2)
  else if l0 = (22 : Int32) then (l1 * l2)
  else if l0 = (23 : Int32) then (l1 * l2)
  else if l0 = (24 : Int32) then (l1 * l2)
  else if l0 = (25 : Int32) then (l1 * l2)
  else if l0 = (26 : Int32) then (l1 * l2)
  else if l0 = (27 : Int32) then (l1 * l2)
  else if l0 = (28 : Int32) then (l1 * l2)
  else if l0 = (29 : Int32) then if l1 = 0 then if l2 = 0 then (0 : Int32)
  else (1 : Int32)
  else (1 : Int32)
  else if l0 = (30 : Int32) then if l1 = 0 then (0 : Int32)
  else if l2 = 0 then (0 : Int32)
  else (1 : Int32)
  else if l0 = (31 : Int32) then if l2 = 0 then (1 : Int32)
  else (0 : Int32)
  else (l1 * l2)
set_option maxRecDepth 100000 in
set_option maxHeartbeats 4000000 in
theorem c_X5_outcome {l : Launch} {s0 : State} {D : va_G} {ev : Nat → Nat} (G0 : Gl s0 D ev) {X : XW} {M : MW} {nb : Nat} {l0 : Int32} {l1 : Int32} {l2 : Int32} {r' : Int32}  (h : fX5_outcome l0 l1 l2 = r') : CT l s0 D ev yX5_outcome cX5_outcome 3 (some .int) 0 0 0 [.int l0, .int l1, .int l2] (cells ev X M nb) (QI s0 D ev r' (cells ev X M nb)) := by
  refine ct_of G0 (by decide) (Nat.le_of_ble_eq_true rfl) ?_
  intro p9 e9 s9 m9 args9 below9 meth9 c9 F hr9 hl9 hin9 hargs9 hts9
  rw [fX5_outcome] at h
  refine g_lv (lv' := [(0, .int l0), (1, .int l1), (2, .int l2)]) ⟨rfl, rfl, rfl, trivial⟩ ?_
  refine g_iload_n (i := 0) F dX5_outcome_0 rfl rfl ?_
  refine ite_at h (fun a1 h => ?_) (fun a1 h => ?_)
  · refine g_tsw (k := 6) (off := 179) (tgt := 180) F a1 dX5_outcome_1 (by decide) (by decide) (by decide) (by decide) ?_
    refine g_iload_n (i := 1) F dX5_outcome_180 rfl rfl ?_
    refine g_iload_n (i := 2) F dX5_outcome_181 rfl rfl ?_
    refine g_iadd F dX5_outcome_182 ?_
    exact g_iret F hr9 rfl hl9 h rfl (by decide) (by decide) dX5_outcome_183
  · refine ite_at h (fun a2 h => ?_) (fun a2 h => ?_)
    · refine g_tsw (k := 7) (off := 183) (tgt := 184) F a2 dX5_outcome_1 (by decide) (by decide) (by decide) (by decide) ?_
      refine g_iload_n (i := 1) F dX5_outcome_184 rfl rfl ?_
      refine g_iload_n (i := 2) F dX5_outcome_185 rfl rfl ?_
      refine g_isub F dX5_outcome_186 ?_
      exact g_iret F hr9 rfl hl9 h rfl (by decide) (by decide) dX5_outcome_187
    · refine ite_at h (fun a3 h => ?_) (fun a3 h => ?_)
      · refine g_tsw (k := 8) (off := 190) (tgt := 191) F a3 dX5_outcome_1 (by decide) (by decide) (by decide) (by decide) ?_
        refine g_iload_n (i := 1) F dX5_outcome_191 rfl rfl ?_
        refine g_iload_n (i := 2) F dX5_outcome_192 rfl rfl ?_
        refine g_imul F dX5_outcome_193 ?_
        exact g_iret F hr9 rfl hl9 h rfl (by decide) (by decide) dX5_outcome_194
      · refine ite_at h (fun a4 h => ?_) (fun a4 h => ?_)
        · refine g_tsw (k := 9) (off := 157) (tgt := 158) F a4 dX5_outcome_1 (by decide) (by decide) (by decide) (by decide) ?_
          refine g_iload_n (i := 1) F dX5_outcome_158 rfl rfl ?_
          refine g_iload_n (i := 2) F dX5_outcome_159 rfl rfl ?_
          refine g_icmp_ge (tgt := 167) F dX5_outcome_160 (by decide) h (fun a27 h => ?_) (fun a27 h => ?_)
          · refine g_iconst F dX5_outcome_167 (v := 0) (by decide) ?_
            exact g_iret F hr9 rfl hl9 h rfl (by decide) (by decide) dX5_outcome_168
          · refine g_iconst F dX5_outcome_163 (v := 1) (by decide) ?_
            refine g_goto (tgt := 168) F dX5_outcome_164 (by decide) ?_
            exact g_iret F hr9 rfl hl9 h rfl (by decide) (by decide) dX5_outcome_168
        · refine ite_at h (fun a5 h => ?_) (fun a5 h => ?_)
          · refine g_tsw (k := 10) (off := 168) (tgt := 169) F a5 dX5_outcome_1 (by decide) (by decide) (by decide) (by decide) ?_
            refine g_iload_n (i := 1) F dX5_outcome_169 rfl rfl ?_
            refine g_iload_n (i := 2) F dX5_outcome_170 rfl rfl ?_
            refine g_icmp_ne (tgt := 178) F dX5_outcome_171 (by decide) h (fun a28 h => ?_) (fun a28 h => ?_)
            · refine g_iconst F dX5_outcome_178 (v := 0) (by decide) ?_
              exact g_iret F hr9 rfl hl9 h rfl (by decide) (by decide) dX5_outcome_179
            · refine g_iconst F dX5_outcome_174 (v := 1) (by decide) ?_
              refine g_goto (tgt := 179) F dX5_outcome_175 (by decide) ?_
              exact g_iret F hr9 rfl hl9 h rfl (by decide) (by decide) dX5_outcome_179
          · refine ite_at h (fun a6 h => ?_) (fun a6 h => ?_)
            · refine g_tsw (k := 11) (off := 187) (tgt := 188) F a6 dX5_outcome_1 (by decide) (by decide) (by decide) (by decide) ?_
              refine g_iload_n (i := 2) F dX5_outcome_188 rfl rfl ?_
              refine g_ineg F dX5_outcome_189 ?_
              exact g_iret F hr9 rfl hl9 h rfl (by decide) (by decide) dX5_outcome_190
            · refine ite_at h (fun a7 h => ?_) (fun a7 h => ?_)
              · refine g_tsw (k := 12) (off := 190) (tgt := 191) F a7 dX5_outcome_1 (by decide) (by decide) (by decide) (by decide) ?_
                refine g_iload_n (i := 1) F dX5_outcome_191 rfl rfl ?_
                refine g_iload_n (i := 2) F dX5_outcome_192 rfl rfl ?_
                refine g_imul F dX5_outcome_193 ?_
                exact g_iret F hr9 rfl hl9 h rfl (by decide) (by decide) dX5_outcome_194
              · refine ite_at h (fun a8 h => ?_) (fun a8 h => ?_)
                · refine g_tsw (k := 13) (off := 190) (tgt := 191) F a8 dX5_outcome_1 (by decide) (by decide) (by decide) (by decide) ?_
                  refine g_iload_n (i := 1) F dX5_outcome_191 rfl rfl ?_
                  refine g_iload_n (i := 2) F dX5_outcome_192 rfl rfl ?_
                  refine g_imul F dX5_outcome_193 ?_
                  exact g_iret F hr9 rfl hl9 h rfl (by decide) (by decide) dX5_outcome_194
                · refine ite_at h (fun a9 h => ?_) (fun a9 h => ?_)
                  · refine g_tsw (k := 14) (off := 190) (tgt := 191) F a9 dX5_outcome_1 (by decide) (by decide) (by decide) (by decide) ?_
                    refine g_iload_n (i := 1) F dX5_outcome_191 rfl rfl ?_
                    refine g_iload_n (i := 2) F dX5_outcome_192 rfl rfl ?_
                    refine g_imul F dX5_outcome_193 ?_
                    exact g_iret F hr9 rfl hl9 h rfl (by decide) (by decide) dX5_outcome_194
                  · refine ite_at h (fun a10 h => ?_) (fun a10 h => ?_)
                    · refine g_tsw (k := 15) (off := 190) (tgt := 191) F a10 dX5_outcome_1 (by decide) (by decide) (by decide) (by decide) ?_
                      refine g_iload_n (i := 1) F dX5_outcome_191 rfl rfl ?_
                      refine g_iload_n (i := 2) F dX5_outcome_192 rfl rfl ?_
                      refine g_imul F dX5_outcome_193 ?_
                      exact g_iret F hr9 rfl hl9 h rfl (by decide) (by decide) dX5_outcome_194
                    · refine ite_at h (fun a11 h => ?_) (fun a11 h => ?_)
                      · refine g_tsw (k := 16) (off := 190) (tgt := 191) F a11 dX5_outcome_1 (by decide) (by decide) (by decide) (by decide) ?_
                        refine g_iload_n (i := 1) F dX5_outcome_191 rfl rfl ?_
                        refine g_iload_n (i := 2) F dX5_outcome_192 rfl rfl ?_
                        refine g_imul F dX5_outcome_193 ?_
                        exact g_iret F hr9 rfl hl9 h rfl (by decide) (by decide) dX5_outcome_194
                      · refine ite_at h (fun a12 h => ?_) (fun a12 h => ?_)
                        · refine g_tsw (k := 17) (off := 190) (tgt := 191) F a12 dX5_outcome_1 (by decide) (by decide) (by decide) (by decide) ?_
                          refine g_iload_n (i := 1) F dX5_outcome_191 rfl rfl ?_
                          refine g_iload_n (i := 2) F dX5_outcome_192 rfl rfl ?_
                          refine g_imul F dX5_outcome_193 ?_
                          exact g_iret F hr9 rfl hl9 h rfl (by decide) (by decide) dX5_outcome_194
                        · refine ite_at h (fun a13 h => ?_) (fun a13 h => ?_)
                          · refine g_tsw (k := 18) (off := 190) (tgt := 191) F a13 dX5_outcome_1 (by decide) (by decide) (by decide) (by decide) ?_
                            refine g_iload_n (i := 1) F dX5_outcome_191 rfl rfl ?_
                            refine g_iload_n (i := 2) F dX5_outcome_192 rfl rfl ?_
                            refine g_imul F dX5_outcome_193 ?_
                            exact g_iret F hr9 rfl hl9 h rfl (by decide) (by decide) dX5_outcome_194
                          · refine ite_at h (fun a14 h => ?_) (fun a14 h => ?_)
                            · refine g_tsw (k := 19) (off := 190) (tgt := 191) F a14 dX5_outcome_1 (by decide) (by decide) (by decide) (by decide) ?_
                              refine g_iload_n (i := 1) F dX5_outcome_191 rfl rfl ?_
                              refine g_iload_n (i := 2) F dX5_outcome_192 rfl rfl ?_
                              refine g_imul F dX5_outcome_193 ?_
                              exact g_iret F hr9 rfl hl9 h rfl (by decide) (by decide) dX5_outcome_194
                            · refine ite_at h (fun a15 h => ?_) (fun a15 h => ?_)
                              · refine g_tsw (k := 20) (off := 190) (tgt := 191) F a15 dX5_outcome_1 (by decide) (by decide) (by decide) (by decide) ?_
                                refine g_iload_n (i := 1) F dX5_outcome_191 rfl rfl ?_
                                refine g_iload_n (i := 2) F dX5_outcome_192 rfl rfl ?_
                                refine g_imul F dX5_outcome_193 ?_
                                exact g_iret F hr9 rfl hl9 h rfl (by decide) (by decide) dX5_outcome_194
                              · refine ite_at h (fun a16 h => ?_) (fun a16 h => ?_)
                                · refine g_tsw (k := 21) (off := 190) (tgt := 191) F a16 dX5_outcome_1 (by decide) (by decide) (by decide) (by decide) ?_
                                  refine g_iload_n (i := 1) F dX5_outcome_191 rfl rfl ?_
                                  refine g_iload_n (i := 2) F dX5_outcome_192 rfl rfl ?_
                                  refine g_imul F dX5_outcome_193 ?_
                                  exact g_iret F hr9 rfl hl9 h rfl (by decide) (by decide) dX5_outcome_194
                                · refine ite_at h (fun a17 h => ?_) (fun a17 h => ?_)
                                  · refine g_tsw (k := 22) (off := 190) (tgt := 191) F a17 dX5_outcome_1 (by decide) (by decide) (by decide) (by decide) ?_
                                    refine g_iload_n (i := 1) F dX5_outcome_191 rfl rfl ?_
                                    refine g_iload_n (i := 2) F dX5_outcome_192 rfl rfl ?_
                                    refine g_imul F dX5_outcome_193 ?_
                                    exact g_iret F hr9 rfl hl9 h rfl (by decide) (by decide) dX5_outcome_194
                                  · refine ite_at h (fun a18 h => ?_) (fun a18 h => ?_)
                                    · refine g_tsw (k := 23) (off := 190) (tgt := 191) F a18 dX5_outcome_1 (by decide) (by decide) (by decide) (by decide) ?_
                                      refine g_iload_n (i := 1) F dX5_outcome_191 rfl rfl ?_
                                      refine g_iload_n (i := 2) F dX5_outcome_192 rfl rfl ?_
                                      refine g_imul F dX5_outcome_193 ?_
                                      exact g_iret F hr9 rfl hl9 h rfl (by decide) (by decide) dX5_outcome_194
                                    · refine ite_at h (fun a19 h => ?_) (fun a19 h => ?_)
                                      · refine g_tsw (k := 24) (off := 190) (tgt := 191) F a19 dX5_outcome_1 (by decide) (by decide) (by decide) (by decide) ?_
                                        refine g_iload_n (i := 1) F dX5_outcome_191 rfl rfl ?_
                                        refine g_iload_n (i := 2) F dX5_outcome_192 rfl rfl ?_
                                        refine g_imul F dX5_outcome_193 ?_
                                        exact g_iret F hr9 rfl hl9 h rfl (by decide) (by decide) dX5_outcome_194
                                      · refine ite_at h (fun a20 h => ?_) (fun a20 h => ?_)
                                        · refine g_tsw (k := 25) (off := 190) (tgt := 191) F a20 dX5_outcome_1 (by decide) (by decide) (by decide) (by decide) ?_
                                          refine g_iload_n (i := 1) F dX5_outcome_191 rfl rfl ?_
                                          refine g_iload_n (i := 2) F dX5_outcome_192 rfl rfl ?_
                                          refine g_imul F dX5_outcome_193 ?_
                                          exact g_iret F hr9 rfl hl9 h rfl (by decide) (by decide) dX5_outcome_194
                                        · refine ite_at h (fun a21 h => ?_) (fun a21 h => ?_)
                                          · refine g_tsw (k := 26) (off := 190) (tgt := 191) F a21 dX5_outcome_1 (by decide) (by decide) (by decide) (by decide) ?_
                                            refine g_iload_n (i := 1) F dX5_outcome_191 rfl rfl ?_
                                            refine g_iload_n (i := 2) F dX5_outcome_192 rfl rfl ?_
                                            refine g_imul F dX5_outcome_193 ?_
                                            exact g_iret F hr9 rfl hl9 h rfl (by decide) (by decide) dX5_outcome_194
                                          · refine ite_at h (fun a22 h => ?_) (fun a22 h => ?_)
                                            · refine g_tsw (k := 27) (off := 190) (tgt := 191) F a22 dX5_outcome_1 (by decide) (by decide) (by decide) (by decide) ?_
                                              refine g_iload_n (i := 1) F dX5_outcome_191 rfl rfl ?_
                                              refine g_iload_n (i := 2) F dX5_outcome_192 rfl rfl ?_
                                              refine g_imul F dX5_outcome_193 ?_
                                              exact g_iret F hr9 rfl hl9 h rfl (by decide) (by decide) dX5_outcome_194
                                            · refine ite_at h (fun a23 h => ?_) (fun a23 h => ?_)
                                              · refine g_tsw (k := 28) (off := 190) (tgt := 191) F a23 dX5_outcome_1 (by decide) (by decide) (by decide) (by decide) ?_
                                                refine g_iload_n (i := 1) F dX5_outcome_191 rfl rfl ?_
                                                refine g_iload_n (i := 2) F dX5_outcome_192 rfl rfl ?_
                                                refine g_imul F dX5_outcome_193 ?_
                                                exact g_iret F hr9 rfl hl9 h rfl (by decide) (by decide) dX5_outcome_194
                                              · refine ite_at h (fun a24 h => ?_) (fun a24 h => ?_)
                                                · refine g_tsw (k := 29) (off := 119) (tgt := 120) F a24 dX5_outcome_1 (by decide) (by decide) (by decide) (by decide) ?_
                                                  refine g_iload_n (i := 1) F dX5_outcome_120 rfl rfl ?_
                                                  refine g_if_ne (tgt := 128) F dX5_outcome_121 (by decide) h (fun a30 h => ?_) (fun a30 h => ?_)
                                                  · refine g_iconst F dX5_outcome_128 (v := 1) (by decide) ?_
                                                    refine g_goto (tgt := 133) F dX5_outcome_129 (by decide) ?_
                                                    exact g_iret F hr9 rfl hl9 h rfl (by decide) (by decide) dX5_outcome_133
                                                  · refine g_iload_n (i := 2) F dX5_outcome_124 rfl rfl ?_
                                                    refine g_if_eq (tgt := 132) F dX5_outcome_125 (by decide) h (fun a29 h => ?_) (fun a29 h => ?_)
                                                    · refine g_iconst F dX5_outcome_132 (v := 0) (by decide) ?_
                                                      exact g_iret F hr9 rfl hl9 h rfl (by decide) (by decide) dX5_outcome_133
                                                    · refine g_iconst F dX5_outcome_128 (v := 1) (by decide) ?_
                                                      refine g_goto (tgt := 133) F dX5_outcome_129 (by decide) ?_
                                                      exact g_iret F hr9 rfl hl9 h rfl (by decide) (by decide) dX5_outcome_133
                                                · refine ite_at h (fun a25 h => ?_) (fun a25 h => ?_)
                                                  · refine g_tsw (k := 30) (off := 133) (tgt := 134) F a25 dX5_outcome_1 (by decide) (by decide) (by decide) (by decide) ?_
                                                    refine g_iload_n (i := 1) F dX5_outcome_134 rfl rfl ?_
                                                    refine g_if_eq (tgt := 146) F dX5_outcome_135 (by decide) h (fun a32 h => ?_) (fun a32 h => ?_)
                                                    · refine g_iconst F dX5_outcome_146 (v := 0) (by decide) ?_
                                                      exact g_iret F hr9 rfl hl9 h rfl (by decide) (by decide) dX5_outcome_147
                                                    · refine g_iload_n (i := 2) F dX5_outcome_138 rfl rfl ?_
                                                      refine g_if_eq (tgt := 146) F dX5_outcome_139 (by decide) h (fun a31 h => ?_) (fun a31 h => ?_)
                                                      · refine g_iconst F dX5_outcome_146 (v := 0) (by decide) ?_
                                                        exact g_iret F hr9 rfl hl9 h rfl (by decide) (by decide) dX5_outcome_147
                                                      · refine g_iconst F dX5_outcome_142 (v := 1) (by decide) ?_
                                                        refine g_goto (tgt := 147) F dX5_outcome_143 (by decide) ?_
                                                        exact g_iret F hr9 rfl hl9 h rfl (by decide) (by decide) dX5_outcome_147
                                                  · refine ite_at h (fun a26 h => ?_) (fun a26 h => ?_)
                                                    · refine g_tsw (k := 31) (off := 147) (tgt := 148) F a26 dX5_outcome_1 (by decide) (by decide) (by decide) (by decide) ?_
                                                      refine g_iload_n (i := 2) F dX5_outcome_148 rfl rfl ?_
                                                      refine g_if_ne (tgt := 156) F dX5_outcome_149 (by decide) h (fun a33 h => ?_) (fun a33 h => ?_)
                                                      · refine g_iconst F dX5_outcome_156 (v := 0) (by decide) ?_
                                                        exact g_iret F hr9 rfl hl9 h rfl (by decide) (by decide) dX5_outcome_157
                                                      · refine g_iconst F dX5_outcome_152 (v := 1) (by decide) ?_
                                                        refine g_goto (tgt := 157) F dX5_outcome_153 (by decide) ?_
                                                        exact g_iret F hr9 rfl hl9 h rfl (by decide) (by decide) dX5_outcome_157
                                                    · have q0 : l0.toInt ≠ 6 := fun q => a1 (Int32.toInt_inj.mp (q.trans (by decide)))
                                                      have q1 : l0.toInt ≠ 7 := fun q => a2 (Int32.toInt_inj.mp (q.trans (by decide)))
                                                      have q2 : l0.toInt ≠ 8 := fun q => a3 (Int32.toInt_inj.mp (q.trans (by decide)))
                                                      have q3 : l0.toInt ≠ 9 := fun q => a4 (Int32.toInt_inj.mp (q.trans (by decide)))
                                                      have q4 : l0.toInt ≠ 10 := fun q => a5 (Int32.toInt_inj.mp (q.trans (by decide)))
                                                      have q5 : l0.toInt ≠ 11 := fun q => a6 (Int32.toInt_inj.mp (q.trans (by decide)))
                                                      have q6 : l0.toInt ≠ 12 := fun q => a7 (Int32.toInt_inj.mp (q.trans (by decide)))
                                                      have q7 : l0.toInt ≠ 13 := fun q => a8 (Int32.toInt_inj.mp (q.trans (by decide)))
                                                      have q8 : l0.toInt ≠ 14 := fun q => a9 (Int32.toInt_inj.mp (q.trans (by decide)))
                                                      have q9 : l0.toInt ≠ 15 := fun q => a10 (Int32.toInt_inj.mp (q.trans (by decide)))
                                                      have q10 : l0.toInt ≠ 16 := fun q => a11 (Int32.toInt_inj.mp (q.trans (by decide)))
                                                      have q11 : l0.toInt ≠ 17 := fun q => a12 (Int32.toInt_inj.mp (q.trans (by decide)))
                                                      have q12 : l0.toInt ≠ 18 := fun q => a13 (Int32.toInt_inj.mp (q.trans (by decide)))
                                                      have q13 : l0.toInt ≠ 19 := fun q => a14 (Int32.toInt_inj.mp (q.trans (by decide)))
                                                      have q14 : l0.toInt ≠ 20 := fun q => a15 (Int32.toInt_inj.mp (q.trans (by decide)))
                                                      have q15 : l0.toInt ≠ 21 := fun q => a16 (Int32.toInt_inj.mp (q.trans (by decide)))
                                                      have q16 : l0.toInt ≠ 22 := fun q => a17 (Int32.toInt_inj.mp (q.trans (by decide)))
                                                      have q17 : l0.toInt ≠ 23 := fun q => a18 (Int32.toInt_inj.mp (q.trans (by decide)))
                                                      have q18 : l0.toInt ≠ 24 := fun q => a19 (Int32.toInt_inj.mp (q.trans (by decide)))
                                                      have q19 : l0.toInt ≠ 25 := fun q => a20 (Int32.toInt_inj.mp (q.trans (by decide)))
                                                      have q20 : l0.toInt ≠ 26 := fun q => a21 (Int32.toInt_inj.mp (q.trans (by decide)))
                                                      have q21 : l0.toInt ≠ 27 := fun q => a22 (Int32.toInt_inj.mp (q.trans (by decide)))
                                                      have q22 : l0.toInt ≠ 28 := fun q => a23 (Int32.toInt_inj.mp (q.trans (by decide)))
                                                      have q23 : l0.toInt ≠ 29 := fun q => a24 (Int32.toInt_inj.mp (q.trans (by decide)))
                                                      have q24 : l0.toInt ≠ 30 := fun q => a25 (Int32.toInt_inj.mp (q.trans (by decide)))
                                                      have q25 : l0.toInt ≠ 31 := fun q => a26 (Int32.toInt_inj.mp (q.trans (by decide)))
                                                      refine g_tswd (tgt := 191) F (by omega) dX5_outcome_1 (by decide) ?_
                                                      refine g_iload_n (i := 1) F dX5_outcome_191 rfl rfl ?_
                                                      refine g_iload_n (i := 2) F dX5_outcome_192 rfl rfl ?_
                                                      refine g_imul F dX5_outcome_193 ?_
                                                      exact g_iret F hr9 rfl hl9 h rfl (by decide) (by decide) dX5_outcome_194
def fX5_valueOf_b199 (X : XW) (l3 : Nat) (l4 : Int32) : Option (Int32 × XW) :=
  if l4 ≤ 0 then some ((0 : Int32), X)
  else if kd l3 = 11 then (rd (X.2.1 l3) (ln l3) (0 : Int32)).bind fun v10 =>
  some (v10, X) else none
def fX5_valueOf_b147 (l0f32 : Nat) (l1f32 : Int32) (l2f32 : Nat) (l3f32 : Nat) (K32 : XW → Int32 → Int32 → Option (Int32 × XW)) (X : XW) (l4 : Int32) (l5 : Int32) (l7 : Int32) (l8 : Int32) : Option (Int32 × XW) :=
  if l8 ≤ 0 then K32 X l4 (l5 + (1 : Int32))
  else if l4 < l8 then K32 X l4 (l5 + (1 : Int32))
  else if kd l3f32 = 11 then (rd (X.2.1 l3f32) (ln l3f32) (l4 - l8)).bind fun v18 =>
  (rd (X.2.1 l3f32) (ln l3f32) (l4 - (1 : Int32))).bind fun v20 =>
  if inb (l4 - l8) (ln l3f32) then bd (xA X l3f32 (l4 - l8) (fX5_outcome l7 v18 v20)) fun X25 =>
  bd ((l4 - l8) + (1 : Int32)) fun v27 =>
  K32 X25 v27 (l5 + (1 : Int32))
  else none else none
def fX5_valueOf_b140 (l0f32 : Nat) (l1f32 : Int32) (l2f32 : Nat) (l3f32 : Nat) (K32 : XW → Int32 → Int32 → Option (Int32 × XW)) (X : XW) (l4 : Int32) (l5 : Int32) (t0 : Nat) (t1 : Int32) (t2 : Int32) : Option (Int32 × XW) :=
  if kd t0 = 11 then if inb t1 (ln t0) then bd (xA X t0 t1 t2) fun X37 =>
  K32 X37 (l4 + (1 : Int32)) (l5 + (1 : Int32))
  else none else none
def fX5_valueOf_b98 (l0f32 : Nat) (l1f32 : Int32) (l2f32 : Nat) (l3f32 : Nat) (K32 : XW → Int32 → Int32 → Option (Int32 × XW)) (X : XW) (l4 : Int32) (l5 : Int32) (l6 : Int32) (l7 : Int32) (t0 : Int32) : Option (Int32 × XW) :=
  if t0 = 0 then if kd l3f32 = 11 then if (Int32.ofNat (ln l3f32)) ≤ l4 then fX5_valueOf_b147 l0f32 l1f32 l2f32 l3f32 K32 X l4 l5 l7 t0
  else if (10000 : Int32) ≤ l6 then if kd l2f32 = 11 then (rd (X.2.1 l2f32) (ln l2f32) (jmin (l6 - (10000 : Int32)) (5 : Int32))).bind fun v33 =>
  fX5_valueOf_b140 l0f32 l1f32 l2f32 l3f32 K32 X l4 l5 l3f32 l4 v33 else none
  else fX5_valueOf_b140 l0f32 l1f32 l2f32 l3f32 K32 X l4 l5 l3f32 l4 l6 else none
  else fX5_valueOf_b147 l0f32 l1f32 l2f32 l3f32 K32 X l4 l5 l7 t0
def fX5_valueOf_b93 (l0f32 : Nat) (l1f32 : Int32) (l2f32 : Nat) (l3f32 : Nat) (K32 : XW → Int32 → Int32 → Option (Int32 × XW)) (X : XW) (l4 : Int32) (l5 : Int32) (l6 : Int32) (l7 : Int32) : Option (Int32 × XW) :=
  fX5_valueOf_b98 l0f32 l1f32 l2f32 l3f32 K32 X l4 l5 l6 l7 (1 : Int32)
def fX5_valueOf_l32 (l0f32 : Nat) (l1f32 : Int32) (l2f32 : Nat) (l3f32 : Nat) (K32 : XW → Int32 → Int32 → Option (Int32 × XW)) (X : XW) (l4 : Int32) (l5 : Int32) : Option (Int32 × XW) :=
  if kd l0f32 = 5 then (rd (X.2.1 (l0f32 + 2)) 3 l1f32).bind fun v7 =>
  if v7 ≤ l5 then fX5_valueOf_b199 X l3f32 l4
  else if (160 : Int32) ≤ l5 then fX5_valueOf_b199 X l3f32 l4
  else (rd (X.2.1 (l0f32 + 1)) 160 l5).bind fun v13 =>
  bd (v13 - (20000 : Int32)) fun v15 =>
  if 0 ≤ v15 then if v15 = (31 : Int32) then fX5_valueOf_b93 l0f32 l1f32 l2f32 l3f32 K32 X l4 l5 v13 v15
  else if v15 = (11 : Int32) then fX5_valueOf_b93 l0f32 l1f32 l2f32 l3f32 K32 X l4 l5 v13 v15
  else fX5_valueOf_b98 l0f32 l1f32 l2f32 l3f32 K32 X l4 l5 v13 v15 (2 : Int32)
  else fX5_valueOf_b98 l0f32 l1f32 l2f32 l3f32 K32 X l4 l5 v13 v15 (0 : Int32) else none
def fX5_valueOf_b30 (X : XW) (l0 : Nat) (l1 : Int32) (l2 : Nat) (l3 : Nat) (l4 : Int32) (t0 : Int32) : Option (Int32 × XW) :=
  lo3 (fX5_valueOf_l32 l0 l1 l2 l3) FU X l4 t0
def fX5_valueOf (X : XW) (l0 : Nat) (l1 : Int32) (l2 : Nat) (l3 : Nat) : Option (Int32 × XW) :=
  if (fX9_within l1 (0 : Int32) (2 : Int32)) = 0 then some ((0 : Int32), X)
  else if l1 = 0 then fX5_valueOf_b30 X l0 l1 l2 l3 (0 : Int32) (0 : Int32)
  else if kd l0 = 5 then (rd (X.2.1 (l0 + 2)) 3 (l1 - (1 : Int32))).bind fun v4 =>
  fX5_valueOf_b30 X l0 l1 l2 l3 (0 : Int32) v4 else none
set_option maxRecDepth 100000 in
set_option maxHeartbeats 4000000 in
theorem c_X5_valueOf {l : Launch} {s0 : State} {D : va_G} {ev : Nat → Nat} (G0 : Gl s0 D ev) {X : XW} {M : MW} {nb : Nat} {l0 : Nat} {l1 : Int32} {l2 : Nat} {l3 : Nat} {r' : Int32} {X' : XW}  (h : fX5_valueOf X l0 l1 l2 l3 = some (r', X')) : CT l s0 D ev yX5_valueOf cX5_valueOf 9 (some .int) 1 0 0 [.ref (ev 0 + l0), .int l1, .ref (ev 0 + l2), .ref (ev 0 + l3)] (cells ev X M nb) (QI s0 D ev r' (cells ev X' M nb)) := by
  refine ct_of G0 (by decide) (Nat.le_of_ble_eq_true rfl) ?_
  intro p9 e9 s9 m9 args9 below9 meth9 c9 F hr9 hl9 hin9 hargs9 hts9
  have U199 : ∀ (X : XW) (l3 : Nat) (l4 : Int32), fX5_valueOf_b199 X l3 l4 = some (r', X') → GJ p9 l e9 (rg 1 0 0) s9 m9 args9 below9 meth9 c9 (MQ below9 (QI s0 D ev r' (cells ev X' M nb)) args9 s9 0 0 (frA ev)) s0 D ev 9 0 0 199 [(3, .ref (ev 0 + l3)), (4, .int l4)] ([]) (cells ev X M nb) := by
    intro X l3 l4 h
    rw [fX5_valueOf_b199] at h
    refine g_iload (i := 4) F dX5_valueOf_199 rfl ?_
    refine g_if_le (tgt := 210) F dX5_valueOf_201 (by decide) h (fun a12 h => ?_) (fun a12 h => ?_)
    · refine g_iconst F dX5_valueOf_210 (v := 0) (by decide) ?_
      have hp := Prod.mk.inj (Option.some.inj h)
      exact g_iret F hr9 rfl hl9 hp.1 (by rw [hp.2]) (by decide) (by decide) dX5_valueOf_211
    · refine g_aload_n (i := 3) F dX5_valueOf_204 rfl rfl ?_
      refine g_iconst F dX5_valueOf_205 (v := 0) (by decide) ?_
      obtain ⟨h9, h⟩ := if_at h
      obtain ⟨v10, e11, h⟩ := bind_at h
      refine g_ildX F h9 rfl e11 dX5_valueOf_206 ?_
      refine g_goto (tgt := 211) F dX5_valueOf_207 (by decide) ?_
      have hp := Prod.mk.inj (Option.some.inj h)
      exact g_iret F hr9 rfl hl9 hp.1 (by rw [hp.2]) (by decide) (by decide) dX5_valueOf_211
  have L32 : ∀ (l0f32 : Nat) (l1f32 : Int32) (l2f32 : Nat) (l3f32 : Nat) (N32 : Nat) (X : XW) (l4 : Int32) (l5 : Int32), lo3 (fX5_valueOf_l32 l0f32 l1f32 l2f32 l3f32) N32 X l4 l5 = some (r', X') → GJ p9 l e9 (rg 1 0 0) s9 m9 args9 below9 meth9 c9 (MQ below9 (QI s0 D ev r' (cells ev X' M nb)) args9 s9 0 0 (frA ev)) s0 D ev 9 0 0 32 [(0, .ref (ev 0 + l0f32)), (1, .int l1f32), (2, .ref (ev 0 + l2f32)), (3, .ref (ev 0 + l3f32)), (4, .int l4), (5, .int l5)] ([]) (cells ev X M nb) := by
    intro l0f32 l1f32 l2f32 l3f32 N32
    induction N32 with
    | zero => intro X l4 l5 h; cases h
    | succ N32 ih32 =>
      have U147 : ∀ (X : XW) (l4 : Int32) (l5 : Int32) (l7 : Int32) (l8 : Int32), fX5_valueOf_b147 l0f32 l1f32 l2f32 l3f32 (lo3 (fX5_valueOf_l32 l0f32 l1f32 l2f32 l3f32) N32) X l4 l5 l7 l8 = some (r', X') → GJ p9 l e9 (rg 1 0 0) s9 m9 args9 below9 meth9 c9 (MQ below9 (QI s0 D ev r' (cells ev X' M nb)) args9 s9 0 0 (frA ev)) s0 D ev 9 0 0 147 [(0, .ref (ev 0 + l0f32)), (1, .int l1f32), (2, .ref (ev 0 + l2f32)), (3, .ref (ev 0 + l3f32)), (4, .int l4), (5, .int l5), (7, .int l7), (8, .int l8)] ([]) (cells ev X M nb) := by
        intro X l4 l5 l7 l8 h
        rw [fX5_valueOf_b147] at h
        refine g_iload (i := 8) F dX5_valueOf_147 rfl ?_
        refine g_if_le (tgt := 193) F dX5_valueOf_149 (by decide) h (fun a30 h => ?_) (fun a30 h => ?_)
        · refine g_iinc (i := 5) (v := (l5 + (1 : Int32))) (lv' := [(5, .int (l5 + (1 : Int32))), (0, .ref (ev 0 + l0f32)), (1, .int l1f32), (2, .ref (ev 0 + l2f32)), (3, .ref (ev 0 + l3f32)), (4, .int l4), (7, .int l7), (8, .int l8)]) F dX5_valueOf_193 rfl rfl (by decide) rfl ?_
          refine g_goto (tgt := 32) F dX5_valueOf_196 (by decide) ?_
          refine g_lv (lv' := [(0, .ref (ev 0 + l0f32)), (1, .int l1f32), (2, .ref (ev 0 + l2f32)), (3, .ref (ev 0 + l3f32)), (4, .int l4), (5, .int (l5 + (1 : Int32)))]) ⟨rfl, rfl, rfl, rfl, rfl, rfl, trivial⟩ ?_
          exact ih32 _ _ _ h
        · refine g_iload (i := 4) F dX5_valueOf_152 rfl ?_
          refine g_iload (i := 8) F dX5_valueOf_154 rfl ?_
          refine g_icmp_lt (tgt := 193) F dX5_valueOf_156 (by decide) h (fun a29 h => ?_) (fun a29 h => ?_)
          · refine g_iinc (i := 5) (v := (l5 + (1 : Int32))) (lv' := [(5, .int (l5 + (1 : Int32))), (0, .ref (ev 0 + l0f32)), (1, .int l1f32), (2, .ref (ev 0 + l2f32)), (3, .ref (ev 0 + l3f32)), (4, .int l4), (7, .int l7), (8, .int l8)]) F dX5_valueOf_193 rfl rfl (by decide) rfl ?_
            refine g_goto (tgt := 32) F dX5_valueOf_196 (by decide) ?_
            refine g_lv (lv' := [(0, .ref (ev 0 + l0f32)), (1, .int l1f32), (2, .ref (ev 0 + l2f32)), (3, .ref (ev 0 + l3f32)), (4, .int l4), (5, .int (l5 + (1 : Int32)))]) ⟨rfl, rfl, rfl, rfl, rfl, rfl, trivial⟩ ?_
            exact ih32 _ _ _ h
          · refine g_aload_n (i := 3) F dX5_valueOf_159 rfl rfl ?_
            refine g_iload (i := 4) F dX5_valueOf_160 rfl ?_
            refine g_iload (i := 8) F dX5_valueOf_162 rfl ?_
            refine g_isub F dX5_valueOf_164 ?_
            refine g_iload (i := 7) F dX5_valueOf_165 rfl ?_
            refine g_aload_n (i := 3) F dX5_valueOf_167 rfl rfl ?_
            refine g_iload (i := 4) F dX5_valueOf_168 rfl ?_
            refine g_iload (i := 8) F dX5_valueOf_170 rfl ?_
            refine g_isub F dX5_valueOf_172 ?_
            obtain ⟨h17, h⟩ := if_at h
            obtain ⟨v18, e19, h⟩ := bind_at h
            refine g_ildX F h17 rfl e19 dX5_valueOf_173 ?_
            refine g_aload_n (i := 3) F dX5_valueOf_174 rfl rfl ?_
            refine g_iload (i := 4) F dX5_valueOf_175 rfl ?_
            refine g_iconst F dX5_valueOf_177 (v := 1) (by decide) ?_
            refine g_isub F dX5_valueOf_178 ?_
            obtain ⟨v20, e21, h⟩ := bind_at h
            refine g_ildX F h17 rfl e21 dX5_valueOf_179 ?_
            refine g_callSI F (mcR := 0) (msR := 0) (c_X5_outcome G0 (X := X) (M := M) (nb := nb) rfl) wd_20_23 wd_20_21 wd_20_22 wd_3_4 ⟨by decide, by decide⟩ (nn := 3) (by decide) (As := [.int l7, .int v18, .int v20]) rfl rfl (Nat.le_of_ble_eq_true rfl) (by decide) (by decide) ⟨by decide, by decide⟩ dX5_valueOf_180 ?_
            obtain ⟨h24, h⟩ := if_at h
            obtain ⟨X25, e26, h⟩ := bd_at h
            refine g_istX F h17 rfl h24 dX5_valueOf_183 ?_
            rw [← e26]
            refine g_iload (i := 4) F dX5_valueOf_184 rfl ?_
            refine g_iload (i := 8) F dX5_valueOf_186 rfl ?_
            refine g_isub F dX5_valueOf_188 ?_
            refine g_iconst F dX5_valueOf_189 (v := 1) (by decide) ?_
            refine g_iadd F dX5_valueOf_190 ?_
            refine g_topi F h (fun v27 e28 h => ?_)
            refine g_istore (i := 4) (lv' := [(4, .int v27), (0, .ref (ev 0 + l0f32)), (1, .int l1f32), (2, .ref (ev 0 + l2f32)), (3, .ref (ev 0 + l3f32)), (5, .int l5), (7, .int l7), (8, .int l8)]) F dX5_valueOf_191 (by decide) rfl ?_
            refine g_iinc (i := 5) (v := (l5 + (1 : Int32))) (lv' := [(5, .int (l5 + (1 : Int32))), (4, .int v27), (0, .ref (ev 0 + l0f32)), (1, .int l1f32), (2, .ref (ev 0 + l2f32)), (3, .ref (ev 0 + l3f32)), (7, .int l7), (8, .int l8)]) F dX5_valueOf_193 rfl rfl (by decide) rfl ?_
            refine g_goto (tgt := 32) F dX5_valueOf_196 (by decide) ?_
            refine g_lv (lv' := [(0, .ref (ev 0 + l0f32)), (1, .int l1f32), (2, .ref (ev 0 + l2f32)), (3, .ref (ev 0 + l3f32)), (4, .int v27), (5, .int (l5 + (1 : Int32)))]) ⟨rfl, rfl, rfl, rfl, rfl, rfl, trivial⟩ ?_
            exact ih32 _ _ _ h
      have U140 : ∀ (X : XW) (l4 : Int32) (l5 : Int32) (t0 : Nat) (t1 : Int32) (t2 : Int32), fX5_valueOf_b140 l0f32 l1f32 l2f32 l3f32 (lo3 (fX5_valueOf_l32 l0f32 l1f32 l2f32 l3f32) N32) X l4 l5 t0 t1 t2 = some (r', X') → GJ p9 l e9 (rg 1 0 0) s9 m9 args9 below9 meth9 c9 (MQ below9 (QI s0 D ev r' (cells ev X' M nb)) args9 s9 0 0 (frA ev)) s0 D ev 9 0 0 140 [(0, .ref (ev 0 + l0f32)), (1, .int l1f32), (2, .ref (ev 0 + l2f32)), (3, .ref (ev 0 + l3f32)), (4, .int l4), (5, .int l5)] (.int t2 :: .int t1 :: .ref (ev 0 + t0) :: []) (cells ev X M nb) := by
        intro X l4 l5 t0 t1 t2 h
        rw [fX5_valueOf_b140] at h
        obtain ⟨h35, h⟩ := if_at h
        obtain ⟨h36, h⟩ := if_at h
        obtain ⟨X37, e38, h⟩ := bd_at h
        refine g_istX F h35 rfl h36 dX5_valueOf_140 ?_
        rw [← e38]
        refine g_iinc (i := 4) (v := (l4 + (1 : Int32))) (lv' := [(4, .int (l4 + (1 : Int32))), (0, .ref (ev 0 + l0f32)), (1, .int l1f32), (2, .ref (ev 0 + l2f32)), (3, .ref (ev 0 + l3f32)), (5, .int l5)]) F dX5_valueOf_141 rfl rfl (by decide) rfl ?_
        refine g_goto (tgt := 193) F dX5_valueOf_144 (by decide) ?_
        refine g_iinc (i := 5) (v := (l5 + (1 : Int32))) (lv' := [(5, .int (l5 + (1 : Int32))), (4, .int (l4 + (1 : Int32))), (0, .ref (ev 0 + l0f32)), (1, .int l1f32), (2, .ref (ev 0 + l2f32)), (3, .ref (ev 0 + l3f32))]) F dX5_valueOf_193 rfl rfl (by decide) rfl ?_
        refine g_goto (tgt := 32) F dX5_valueOf_196 (by decide) ?_
        refine g_lv (lv' := [(0, .ref (ev 0 + l0f32)), (1, .int l1f32), (2, .ref (ev 0 + l2f32)), (3, .ref (ev 0 + l3f32)), (4, .int (l4 + (1 : Int32))), (5, .int (l5 + (1 : Int32)))]) ⟨rfl, rfl, rfl, rfl, rfl, rfl, trivial⟩ ?_
        exact ih32 _ _ _ h
      have U98 : ∀ (X : XW) (l4 : Int32) (l5 : Int32) (l6 : Int32) (l7 : Int32) (t0 : Int32), fX5_valueOf_b98 l0f32 l1f32 l2f32 l3f32 (lo3 (fX5_valueOf_l32 l0f32 l1f32 l2f32 l3f32) N32) X l4 l5 l6 l7 t0 = some (r', X') → GJ p9 l e9 (rg 1 0 0) s9 m9 args9 below9 meth9 c9 (MQ below9 (QI s0 D ev r' (cells ev X' M nb)) args9 s9 0 0 (frA ev)) s0 D ev 9 0 0 98 [(0, .ref (ev 0 + l0f32)), (1, .int l1f32), (2, .ref (ev 0 + l2f32)), (3, .ref (ev 0 + l3f32)), (4, .int l4), (5, .int l5), (6, .int l6), (7, .int l7)] (.int t0 :: []) (cells ev X M nb) := by
        intro X l4 l5 l6 l7 t0 h
        rw [fX5_valueOf_b98] at h
        refine g_istore (i := 8) (lv' := [(8, .int t0), (0, .ref (ev 0 + l0f32)), (1, .int l1f32), (2, .ref (ev 0 + l2f32)), (3, .ref (ev 0 + l3f32)), (4, .int l4), (5, .int l5), (6, .int l6), (7, .int l7)]) F dX5_valueOf_98 (by decide) rfl ?_
        refine g_iload (i := 8) F dX5_valueOf_100 rfl ?_
        refine g_if_ne (tgt := 147) F dX5_valueOf_102 (by decide) h (fun a41 h => ?_) (fun a41 h => ?_)
        · refine g_lv (lv' := [(0, .ref (ev 0 + l0f32)), (1, .int l1f32), (2, .ref (ev 0 + l2f32)), (3, .ref (ev 0 + l3f32)), (4, .int l4), (5, .int l5), (7, .int l7), (8, .int t0)]) ⟨rfl, rfl, rfl, rfl, rfl, rfl, rfl, rfl, trivial⟩ ?_
          exact U147 _ _ _ _ _ h
        · refine g_iload (i := 4) F dX5_valueOf_105 rfl ?_
          refine g_aload_n (i := 3) F dX5_valueOf_107 rfl rfl ?_
          obtain ⟨h31, h⟩ := if_at h
          refine g_alX F h31 rfl dX5_valueOf_108 ?_
          refine g_icmp_ge (tgt := 147) F dX5_valueOf_109 (by decide) h (fun a40 h => ?_) (fun a40 h => ?_)
          · refine g_lv (lv' := [(0, .ref (ev 0 + l0f32)), (1, .int l1f32), (2, .ref (ev 0 + l2f32)), (3, .ref (ev 0 + l3f32)), (4, .int l4), (5, .int l5), (7, .int l7), (8, .int t0)]) ⟨rfl, rfl, rfl, rfl, rfl, rfl, rfl, rfl, trivial⟩ ?_
            exact U147 _ _ _ _ _ h
          · refine g_aload_n (i := 3) F dX5_valueOf_112 rfl rfl ?_
            refine g_iload (i := 4) F dX5_valueOf_113 rfl ?_
            refine g_iload (i := 6) F dX5_valueOf_115 rfl ?_
            refine g_sipush F dX5_valueOf_117 (v := 10000) (by decide) ?_
            refine g_icmp_ge (tgt := 128) F dX5_valueOf_120 (by decide) h (fun a39 h => ?_) (fun a39 h => ?_)
            · refine g_aload_n (i := 2) F dX5_valueOf_128 rfl rfl ?_
              refine g_iload (i := 6) F dX5_valueOf_129 rfl ?_
              refine g_sipush F dX5_valueOf_131 (v := 10000) (by decide) ?_
              refine g_isub F dX5_valueOf_134 ?_
              refine g_iconst F dX5_valueOf_135 (v := 5) (by decide) ?_
              refine g_mmin F wd_20_20 wd_16_20 wd_16_21 wd_16_22 (Nat.le_of_ble_eq_true rfl) (Nat.le_of_ble_eq_true rfl) (Nat.zero_le _) (Nat.zero_le _) dX5_valueOf_136 ?_
              obtain ⟨h32, h⟩ := if_at h
              obtain ⟨v33, e34, h⟩ := bind_at h
              refine g_ildX F h32 rfl e34 dX5_valueOf_139 ?_
              refine g_lv (lv' := [(0, .ref (ev 0 + l0f32)), (1, .int l1f32), (2, .ref (ev 0 + l2f32)), (3, .ref (ev 0 + l3f32)), (4, .int l4), (5, .int l5)]) ⟨rfl, rfl, rfl, rfl, rfl, rfl, trivial⟩ ?_
              exact U140 _ _ _ _ _ _ h
            · refine g_iload (i := 6) F dX5_valueOf_123 rfl ?_
              refine g_goto (tgt := 140) F dX5_valueOf_125 (by decide) ?_
              refine g_lv (lv' := [(0, .ref (ev 0 + l0f32)), (1, .int l1f32), (2, .ref (ev 0 + l2f32)), (3, .ref (ev 0 + l3f32)), (4, .int l4), (5, .int l5)]) ⟨rfl, rfl, rfl, rfl, rfl, rfl, trivial⟩ ?_
              exact U140 _ _ _ _ _ _ h
      have U93 : ∀ (X : XW) (l4 : Int32) (l5 : Int32) (l6 : Int32) (l7 : Int32), fX5_valueOf_b93 l0f32 l1f32 l2f32 l3f32 (lo3 (fX5_valueOf_l32 l0f32 l1f32 l2f32 l3f32) N32) X l4 l5 l6 l7 = some (r', X') → GJ p9 l e9 (rg 1 0 0) s9 m9 args9 below9 meth9 c9 (MQ below9 (QI s0 D ev r' (cells ev X' M nb)) args9 s9 0 0 (frA ev)) s0 D ev 9 0 0 93 [(0, .ref (ev 0 + l0f32)), (1, .int l1f32), (2, .ref (ev 0 + l2f32)), (3, .ref (ev 0 + l3f32)), (4, .int l4), (5, .int l5), (6, .int l6), (7, .int l7)] ([]) (cells ev X M nb) := by
        intro X l4 l5 l6 l7 h
        rw [fX5_valueOf_b93] at h
        refine g_iconst F dX5_valueOf_93 (v := 1) (by decide) ?_
        refine g_goto (tgt := 98) F dX5_valueOf_94 (by decide) ?_
        refine g_lv (lv' := [(0, .ref (ev 0 + l0f32)), (1, .int l1f32), (2, .ref (ev 0 + l2f32)), (3, .ref (ev 0 + l3f32)), (4, .int l4), (5, .int l5), (6, .int l6), (7, .int l7)]) ⟨rfl, rfl, rfl, rfl, rfl, rfl, rfl, rfl, trivial⟩ ?_
        exact U98 _ _ _ _ _ _ h
      intro X l4 l5 h
      change fX5_valueOf_l32 l0f32 l1f32 l2f32 l3f32 (lo3 (fX5_valueOf_l32 l0f32 l1f32 l2f32 l3f32) N32) X l4 l5 = some (r', X') at h
      rw [fX5_valueOf_l32] at h
      refine g_iload (i := 5) F dX5_valueOf_32 rfl ?_
      refine g_aload_n (i := 0) F dX5_valueOf_34 rfl rfl ?_
      obtain ⟨h6, h⟩ := if_at h
      refine g_get_5_1 F h6 (kd_hid h6 (by decide)) wd_6_4 dX5_valueOf_35 ?_
      refine g_iload_n (i := 1) F dX5_valueOf_38 rfl rfl ?_
      obtain ⟨v7, e8, h⟩ := bind_at h
      refine g_ildX F (kd_5_2 h6).1 (kd_5_2 h6).2 e8 dX5_valueOf_39 ?_
      refine g_icmp_ge (tgt := 199) F dX5_valueOf_40 (by decide) h (fun a46 h => ?_) (fun a46 h => ?_)
      · refine g_lv (lv' := [(3, .ref (ev 0 + l3f32)), (4, .int l4)]) ⟨rfl, rfl, trivial⟩ ?_
        exact U199 _ _ _ h
      · refine g_iload (i := 5) F dX5_valueOf_43 rfl ?_
        refine g_aload_n (i := 0) F dX5_valueOf_45 rfl rfl ?_
        refine g_get_5_0 F h6 (kd_hid h6 (by decide)) wd_6_3 dX5_valueOf_46 ?_
        refine g_alX (n := 160) F (kd_5_1 h6).1 (kd_5_1 h6).2 dX5_valueOf_49 ?_
        refine g_icmp_ge (tgt := 199) F dX5_valueOf_50 (by decide) h (fun a45 h => ?_) (fun a45 h => ?_)
        · refine g_lv (lv' := [(3, .ref (ev 0 + l3f32)), (4, .int l4)]) ⟨rfl, rfl, trivial⟩ ?_
          exact U199 _ _ _ h
        · refine g_aload_n (i := 0) F dX5_valueOf_53 rfl rfl ?_
          refine g_get_5_0 F h6 (kd_hid h6 (by decide)) wd_6_3 dX5_valueOf_54 ?_
          refine g_iload (i := 5) F dX5_valueOf_57 rfl ?_
          obtain ⟨v13, e14, h⟩ := bind_at h
          refine g_ildX F (kd_5_1 h6).1 (kd_5_1 h6).2 e14 dX5_valueOf_59 ?_
          refine g_istore (i := 6) (lv' := [(6, .int v13), (0, .ref (ev 0 + l0f32)), (1, .int l1f32), (2, .ref (ev 0 + l2f32)), (3, .ref (ev 0 + l3f32)), (4, .int l4), (5, .int l5)]) F dX5_valueOf_60 (by decide) rfl ?_
          refine g_iload (i := 6) F dX5_valueOf_62 rfl ?_
          refine g_sipush F dX5_valueOf_64 (v := 20000) (by decide) ?_
          refine g_isub F dX5_valueOf_67 ?_
          refine g_topi F h (fun v15 e16 h => ?_)
          refine g_istore (i := 7) (lv' := [(7, .int v15), (6, .int v13), (0, .ref (ev 0 + l0f32)), (1, .int l1f32), (2, .ref (ev 0 + l2f32)), (3, .ref (ev 0 + l3f32)), (4, .int l4), (5, .int l5)]) F dX5_valueOf_68 (by decide) rfl ?_
          refine g_iload (i := 7) F dX5_valueOf_70 rfl ?_
          refine g_if_ge (tgt := 79) F dX5_valueOf_72 (by decide) h (fun a44 h => ?_) (fun a44 h => ?_)
          · refine g_iload (i := 7) F dX5_valueOf_79 rfl ?_
            refine g_bipush F dX5_valueOf_81 (v := 31) (by decide) ?_
            refine g_icmp_eq (tgt := 93) F dX5_valueOf_83 (by decide) h (fun a43 h => ?_) (fun a43 h => ?_)
            · refine g_lv (lv' := [(0, .ref (ev 0 + l0f32)), (1, .int l1f32), (2, .ref (ev 0 + l2f32)), (3, .ref (ev 0 + l3f32)), (4, .int l4), (5, .int l5), (6, .int v13), (7, .int v15)]) ⟨rfl, rfl, rfl, rfl, rfl, rfl, rfl, rfl, trivial⟩ ?_
              exact U93 _ _ _ _ _ h
            · refine g_iload (i := 7) F dX5_valueOf_86 rfl ?_
              refine g_bipush F dX5_valueOf_88 (v := 11) (by decide) ?_
              refine g_icmp_ne (tgt := 97) F dX5_valueOf_90 (by decide) h (fun a42 h => ?_) (fun a42 h => ?_)
              · refine g_iconst F dX5_valueOf_97 (v := 2) (by decide) ?_
                refine g_lv (lv' := [(0, .ref (ev 0 + l0f32)), (1, .int l1f32), (2, .ref (ev 0 + l2f32)), (3, .ref (ev 0 + l3f32)), (4, .int l4), (5, .int l5), (6, .int v13), (7, .int v15)]) ⟨rfl, rfl, rfl, rfl, rfl, rfl, rfl, rfl, trivial⟩ ?_
                exact U98 _ _ _ _ _ _ h
              · refine g_lv (lv' := [(0, .ref (ev 0 + l0f32)), (1, .int l1f32), (2, .ref (ev 0 + l2f32)), (3, .ref (ev 0 + l3f32)), (4, .int l4), (5, .int l5), (6, .int v13), (7, .int v15)]) ⟨rfl, rfl, rfl, rfl, rfl, rfl, rfl, rfl, trivial⟩ ?_
                exact U93 _ _ _ _ _ h
          · refine g_iconst F dX5_valueOf_75 (v := 0) (by decide) ?_
            refine g_goto (tgt := 98) F dX5_valueOf_76 (by decide) ?_
            refine g_lv (lv' := [(0, .ref (ev 0 + l0f32)), (1, .int l1f32), (2, .ref (ev 0 + l2f32)), (3, .ref (ev 0 + l3f32)), (4, .int l4), (5, .int l5), (6, .int v13), (7, .int v15)]) ⟨rfl, rfl, rfl, rfl, rfl, rfl, rfl, rfl, trivial⟩ ?_
            exact U98 _ _ _ _ _ _ h
  have U30 : ∀ (X : XW) (l0 : Nat) (l1 : Int32) (l2 : Nat) (l3 : Nat) (l4 : Int32) (t0 : Int32), fX5_valueOf_b30 X l0 l1 l2 l3 l4 t0 = some (r', X') → GJ p9 l e9 (rg 1 0 0) s9 m9 args9 below9 meth9 c9 (MQ below9 (QI s0 D ev r' (cells ev X' M nb)) args9 s9 0 0 (frA ev)) s0 D ev 9 0 0 30 [(0, .ref (ev 0 + l0)), (1, .int l1), (2, .ref (ev 0 + l2)), (3, .ref (ev 0 + l3)), (4, .int l4)] (.int t0 :: []) (cells ev X M nb) := by
    intro X l0 l1 l2 l3 l4 t0 h
    rw [fX5_valueOf_b30] at h
    refine g_istore (i := 5) (lv' := [(5, .int t0), (0, .ref (ev 0 + l0)), (1, .int l1), (2, .ref (ev 0 + l2)), (3, .ref (ev 0 + l3)), (4, .int l4)]) F dX5_valueOf_30 (by decide) rfl ?_
    refine g_lv (lv' := [(0, .ref (ev 0 + l0)), (1, .int l1), (2, .ref (ev 0 + l2)), (3, .ref (ev 0 + l3)), (4, .int l4), (5, .int t0)]) ⟨rfl, rfl, rfl, rfl, rfl, rfl, trivial⟩ ?_
    exact L32 _ _ _ _ FU _ _ _ h
  rw [fX5_valueOf] at h
  refine g_lv (lv' := [(0, .ref (ev 0 + l0)), (1, .int l1), (2, .ref (ev 0 + l2)), (3, .ref (ev 0 + l3))]) ⟨rfl, rfl, rfl, rfl, trivial⟩ ?_
  refine g_iload_n (i := 1) F dX5_valueOf_0 rfl rfl ?_
  refine g_iconst F dX5_valueOf_1 (v := 0) (by decide) ?_
  refine g_iconst F dX5_valueOf_2 (v := 2) (by decide) ?_
  refine g_callSNI F (mcR := 0) (msR := 0) (c_X9_within G0 (X := X) (M := M) (nb := nb) rfl) wd_9_7 (List.mem_of_getElem? (l := nwL) (i := 3) rfl) wd_9_6 wd_1_2 ⟨by decide, by decide⟩ (nn := 3) (by decide) (As := [.int l1, .int (0 : Int32), .int (2 : Int32)]) rfl rfl (Nat.le_of_ble_eq_true rfl) (by decide) (by decide) ⟨by decide, by decide⟩ dX5_valueOf_3 ?_
  refine g_if_ne (tgt := 11) F dX5_valueOf_6 (by decide) h (fun a48 h => ?_) (fun a48 h => ?_)
  · refine g_iconst F dX5_valueOf_11 (v := 0) (by decide) ?_
    refine g_istore (i := 4) (lv' := [(4, .int (0 : Int32)), (0, .ref (ev 0 + l0)), (1, .int l1), (2, .ref (ev 0 + l2)), (3, .ref (ev 0 + l3))]) F dX5_valueOf_12 (by decide) rfl ?_
    refine g_iload_n (i := 1) F dX5_valueOf_14 rfl rfl ?_
    refine g_if_ne (tgt := 22) F dX5_valueOf_15 (by decide) h (fun a47 h => ?_) (fun a47 h => ?_)
    · refine g_aload_n (i := 0) F dX5_valueOf_22 rfl rfl ?_
      obtain ⟨h3, h⟩ := if_at h
      refine g_get_5_1 F h3 (kd_hid h3 (by decide)) wd_6_4 dX5_valueOf_23 ?_
      refine g_iload_n (i := 1) F dX5_valueOf_26 rfl rfl ?_
      refine g_iconst F dX5_valueOf_27 (v := 1) (by decide) ?_
      refine g_isub F dX5_valueOf_28 ?_
      obtain ⟨v4, e5, h⟩ := bind_at h
      refine g_ildX F (kd_5_2 h3).1 (kd_5_2 h3).2 e5 dX5_valueOf_29 ?_
      refine g_lv (lv' := [(0, .ref (ev 0 + l0)), (1, .int l1), (2, .ref (ev 0 + l2)), (3, .ref (ev 0 + l3)), (4, .int (0 : Int32))]) ⟨rfl, rfl, rfl, rfl, rfl, trivial⟩ ?_
      exact U30 _ _ _ _ _ _ _ h
    · refine g_iconst F dX5_valueOf_18 (v := 0) (by decide) ?_
      refine g_goto (tgt := 30) F dX5_valueOf_19 (by decide) ?_
      refine g_lv (lv' := [(0, .ref (ev 0 + l0)), (1, .int l1), (2, .ref (ev 0 + l2)), (3, .ref (ev 0 + l3)), (4, .int (0 : Int32))]) ⟨rfl, rfl, rfl, rfl, rfl, trivial⟩ ?_
      exact U30 _ _ _ _ _ _ _ h
  · refine g_iconst F dX5_valueOf_9 (v := 0) (by decide) ?_
    have hp := Prod.mk.inj (Option.some.inj h)
    exact g_iret F hr9 rfl hl9 hp.1 (by rw [hp.2]) (by decide) (by decide) dX5_valueOf_10
def fX7_says (X : XW) (l1 : Int32) : Option (Int32 × XW) :=
  bd (X.2.2 10 3) fun r1 =>
  oc r1 (some ((0 : Int32), X)) (fun b3 => if (fX9_within l1 (0 : Int32) (2 : Int32)) = 0 then some ((0 : Int32), X)
  else (rd (stF 2) 3 l1).bind fun v7 =>
  bd (X.2.2 10 3) fun r9 =>
  (r9).bind fun b11 =>
  if kd b11 = 5 then bd2 (fX5_valueOf X b11 l1 11 12) fun v15 X14 =>
  some ((jmax (0 : Int32) (jmin v7 v15)), X14) else none)
set_option maxRecDepth 100000 in
set_option maxHeartbeats 4000000 in
theorem c_X7_says {l : Launch} {s0 : State} {D : va_G} {ev : Nat → Nat} (G0 : Gl s0 D ev) {X : XW} {M : MW} {nb : Nat} {l1 : Int32} {r' : Int32} {X' : XW}  (h : fX7_says X l1 = some (r', X')) : CT l s0 D ev yX7_says cX7_says 2 (some .int) 2 0 0 [.ref (ev 0 + 10), .int l1] (cells ev X M nb) (QI s0 D ev r' (cells ev X' M nb)) := by
  refine ct_of G0 (by decide) (Nat.le_of_ble_eq_true rfl) ?_
  intro p9 e9 s9 m9 args9 below9 meth9 c9 F hr9 hl9 hin9 hargs9 hts9
  rw [fX7_says] at h
  refine g_lv (lv' := [(0, .ref (ev 0 + 10)), (1, .int l1)]) ⟨rfl, rfl, trivial⟩ ?_
  refine g_aload_n (i := 0) F dX7_says_0 rfl rfl ?_
  refine g_get_7_3 F rfl (kd_lit (by decide)) wd_4_12 dX7_says_1 ?_
  obtain ⟨r1, e2, h⟩ := bd_at h
  rw [← e2]
  rcases oc_at h with ⟨e4, h⟩ | ⟨b3, e4, h⟩
  · rw [e4]
    refine g_ifnN (tgt := 16) F dX7_says_4 (by decide) ?_
    refine g_iconst F dX7_says_16 (v := 0) (by decide) ?_
    have hp := Prod.mk.inj (Option.some.inj h)
    exact g_iret F hr9 rfl hl9 hp.1 (by rw [hp.2]) (by decide) (by decide) dX7_says_17
  · rw [e4]
    refine g_ifn F dX7_says_4 ?_
    refine g_iload_n (i := 1) F dX7_says_7 rfl rfl ?_
    refine g_iconst F dX7_says_8 (v := 0) (by decide) ?_
    refine g_iconst F dX7_says_9 (v := 2) (by decide) ?_
    refine g_callSNI F (mcR := 0) (msR := 0) (c_X9_within G0 (X := X) (M := M) (nb := nb) rfl) wd_9_7 (List.mem_of_getElem? (l := nwL) (i := 4) rfl) wd_9_6 wd_1_2 ⟨by decide, by decide⟩ (nn := 3) (by decide) (As := [.int l1, .int (0 : Int32), .int (2 : Int32)]) rfl rfl (Nat.le_of_ble_eq_true rfl) (by decide) (by decide) ⟨by decide, by decide⟩ dX7_says_10 ?_
    refine g_if_ne (tgt := 18) F dX7_says_13 (by decide) h (fun a17 h => ?_) (fun a17 h => ?_)
    · refine g_iconst F dX7_says_18 (v := 0) (by decide) ?_
      refine g_getsN (i := 2) F (by decide) rfl (List.mem_of_getElem? (l := nwL) (i := 5) rfl) dX7_says_19 ?_
      refine g_iload_n (i := 1) F dX7_says_22 rfl rfl ?_
      obtain ⟨v7, e8, h⟩ := bind_at h
      refine g_strd F (by decide) (by decide) e8 dX7_says_23 ?_
      refine g_aload_n (i := 0) F dX7_says_24 rfl rfl ?_
      refine g_get_7_3 F rfl (kd_lit (by decide)) wd_4_12 dX7_says_25 ?_
      obtain ⟨r9, e10, h⟩ := bd_at h
      rw [← e10]
      refine g_iload_n (i := 1) F dX7_says_28 rfl rfl ?_
      refine g_aload_n (i := 0) F dX7_says_29 rfl rfl ?_
      refine g_get_7_1 F rfl (kd_lit (by decide)) wd_4_10 dX7_says_30 ?_
      refine g_aload_n (i := 0) F dX7_says_33 rfl rfl ?_
      refine g_get_7_2 F rfl (kd_lit (by decide)) wd_4_11 dX7_says_34 ?_
      obtain ⟨b11, e12, h⟩ := bind_at h
      rw [e12]
      obtain ⟨h13, h⟩ := if_at h
      obtain ⟨v15, X14, e16, h⟩ := bd2_at h
      refine g_callVI F (mcR := 0) (msR := 0) (id := b11) (cells_at (kd_hid h13 (by decide)) (xc_5 h13)) (ci := 5) rfl rfl rfl (c_X5_valueOf G0 e16) wd_20_19 wd_20_16 wd_20_17 wd_20_18 wd_3_4 ⟨by decide, by decide⟩ (nn := 3) (by decide) (As := [.int l1, .ref (ev 0 + 11), .ref (ev 0 + 12)]) rfl rfl (Nat.le_of_ble_eq_true rfl) (by decide) (by decide) ⟨by decide, by decide⟩ dX7_says_37 ?_
      refine g_mmin F wd_20_12 wd_16_20 wd_16_21 wd_16_22 (Nat.le_of_ble_eq_true rfl) (Nat.le_of_ble_eq_true rfl) (Nat.zero_le _) (Nat.zero_le _) dX7_says_40 ?_
      refine g_mmax F wd_20_13 wd_20_14 wd_16_21 wd_20_15 (Nat.le_of_ble_eq_true rfl) (Nat.le_of_ble_eq_true rfl) (Nat.zero_le _) (Nat.zero_le _) dX7_says_43 ?_
      have hp := Prod.mk.inj (Option.some.inj h)
      exact g_iret F hr9 rfl hl9 hp.1 (by rw [hp.2]) (by decide) (by decide) dX7_says_46
    · refine g_iconst F dX7_says_16 (v := 0) (by decide) ?_
      have hp := Prod.mk.inj (Option.some.inj h)
      exact g_iret F hr9 rfl hl9 hp.1 (by rw [hp.2]) (by decide) (by decide) dX7_says_17
def fX7_powerTold (X : XW) (nb : Nat) (l1 : Nat) : Option (Int32 × XW) :=
  bd2 (fX7_says X (1 : Int32)) fun v2 X1 =>
  if NS ≤ l1 ∧ l1 < TT nb then (fX1_gripOf X1 nb l1 v2).bind fun v5 =>
  (rd (X1.2.1 11) 6 (2 : Int32)).bind fun v7 =>
  bd ((3 : Int32) * v7) fun v9 =>
  if v9 ≤ 0 then some (v5, X1)
  else (rd (X1.2.1 11) 6 (3 : Int32)).bind fun v11 =>
  if v9 ≤ v11 then some (v5, X1)
  else (rd (X1.2.1 11) 6 (3 : Int32)).bind fun v13 =>
  if v9 = 0 then none else some (((v5 * v13) / v9), X1) else none
set_option maxRecDepth 100000 in
set_option maxHeartbeats 4000000 in
theorem c_X7_powerTold {l : Launch} {s0 : State} {D : va_G} {ev : Nat → Nat} (G0 : Gl s0 D ev) {X : XW} {M : MW} {nb : Nat} {l1 : Nat} {r' : Int32} {X' : XW}  (h : fX7_powerTold X nb l1 = some (r', X')) : CT l s0 D ev yX7_powerTold cX7_powerTold 4 (some .int) 3 0 0 [.ref (ev 0 + 10), .ref (ev 0 + l1)] (cells ev X M nb) (QI s0 D ev r' (cells ev X' M nb)) := by
  refine ct_of G0 (by decide) (Nat.le_of_ble_eq_true rfl) ?_
  intro p9 e9 s9 m9 args9 below9 meth9 c9 F hr9 hl9 hin9 hargs9 hts9
  rw [fX7_powerTold] at h
  refine g_lv (lv' := [(0, .ref (ev 0 + 10)), (1, .ref (ev 0 + l1))]) ⟨rfl, rfl, trivial⟩ ?_
  refine g_aload_n (i := 1) F dX7_powerTold_0 rfl rfl ?_
  refine g_aload_n (i := 0) F dX7_powerTold_1 rfl rfl ?_
  refine g_iconst F dX7_powerTold_2 (v := 1) (by decide) ?_
  obtain ⟨v2, X1, e3, h⟩ := bd2_at h
  refine g_callVI F (mcR := 0) (msR := 0) (id := 10) (cells_at (kd_lit (i := 10) (by decide)) (xc_7 rfl)) (ci := 7) rfl rfl rfl (c_X7_says G0 e3) wd_20_11 wd_25_0 wd_20_9 wd_20_10 wd_2_0 ⟨by decide, by decide⟩ (nn := 1) (by decide) (As := [.int (1 : Int32)]) rfl rfl (Nat.le_of_ble_eq_true rfl) (by decide) (by decide) ⟨by decide, by decide⟩ dX7_powerTold_3 ?_
  obtain ⟨h4, h⟩ := if_at h
  obtain ⟨v5, e6, h⟩ := bind_at h
  refine g_callVI F (mcR := 0) (msR := 0) (id := l1) (cells_at h4.2 (xc_1 (kd_b h4))) (ci := 1) rfl rfl rfl (c_X1_gripOf G0 e6) wd_25_12 wd_25_9 wd_25_10 wd_25_11 wd_21_23 ⟨by decide, by decide⟩ (nn := 1) (by decide) (As := [.int v2]) rfl rfl (Nat.le_of_ble_eq_true rfl) (by decide) (by decide) ⟨by decide, by decide⟩ dX7_powerTold_6 ?_
  refine g_istore_n (i := 2) (lv' := [(2, .int v5), (0, .ref (ev 0 + 10)), (1, .ref (ev 0 + l1))]) F dX7_powerTold_9 rfl (by decide) rfl ?_
  refine g_iconst F dX7_powerTold_10 (v := 3) (by decide) ?_
  refine g_aload_n (i := 0) F dX7_powerTold_11 rfl rfl ?_
  refine g_get_7_1 F rfl (kd_lit (by decide)) wd_4_10 dX7_powerTold_12 ?_
  refine g_iconst F dX7_powerTold_15 (v := 2) (by decide) ?_
  obtain ⟨v7, e8, h⟩ := bind_at h
  refine g_ildX F rfl rfl e8 dX7_powerTold_16 ?_
  refine g_imul F dX7_powerTold_17 ?_
  refine g_topi F h (fun v9 e10 h => ?_)
  refine g_istore_n (i := 3) (lv' := [(3, .int v9), (2, .int v5), (0, .ref (ev 0 + 10)), (1, .ref (ev 0 + l1))]) F dX7_powerTold_18 rfl (by decide) rfl ?_
  refine g_iload_n (i := 3) F dX7_powerTold_19 rfl rfl ?_
  refine g_if_le (tgt := 46) F dX7_powerTold_20 (by decide) h (fun a17 h => ?_) (fun a17 h => ?_)
  · refine g_iload_n (i := 2) F dX7_powerTold_46 rfl rfl ?_
    have hp := Prod.mk.inj (Option.some.inj h)
    exact g_iret F hr9 rfl hl9 hp.1 (by rw [hp.2]) (by decide) (by decide) dX7_powerTold_47
  · refine g_aload_n (i := 0) F dX7_powerTold_23 rfl rfl ?_
    refine g_get_7_1 F rfl (kd_lit (by decide)) wd_4_10 dX7_powerTold_24 ?_
    refine g_iconst F dX7_powerTold_27 (v := 3) (by decide) ?_
    obtain ⟨v11, e12, h⟩ := bind_at h
    refine g_ildX F rfl rfl e12 dX7_powerTold_28 ?_
    refine g_iload_n (i := 3) F dX7_powerTold_29 rfl rfl ?_
    refine g_icmp_ge (tgt := 46) F dX7_powerTold_30 (by decide) h (fun a16 h => ?_) (fun a16 h => ?_)
    · refine g_iload_n (i := 2) F dX7_powerTold_46 rfl rfl ?_
      have hp := Prod.mk.inj (Option.some.inj h)
      exact g_iret F hr9 rfl hl9 hp.1 (by rw [hp.2]) (by decide) (by decide) dX7_powerTold_47
    · refine g_iload_n (i := 2) F dX7_powerTold_33 rfl rfl ?_
      refine g_aload_n (i := 0) F dX7_powerTold_34 rfl rfl ?_
      refine g_get_7_1 F rfl (kd_lit (by decide)) wd_4_10 dX7_powerTold_35 ?_
      refine g_iconst F dX7_powerTold_38 (v := 3) (by decide) ?_
      obtain ⟨v13, e14, h⟩ := bind_at h
      refine g_ildX F rfl rfl e14 dX7_powerTold_39 ?_
      refine g_imul F dX7_powerTold_40 ?_
      refine g_iload_n (i := 3) F dX7_powerTold_41 rfl rfl ?_
      refine ite_at h (fun _ h => by cases h) (fun h15 h => ?_)
      refine g_idiv F dX7_powerTold_42 h15 ?_
      refine g_goto (tgt := 47) F dX7_powerTold_43 (by decide) ?_
      have hp := Prod.mk.inj (Option.some.inj h)
      exact g_iret F hr9 rfl hl9 hp.1 (by rw [hp.2]) (by decide) (by decide) dX7_powerTold_47
def fX7_goesOn (X : XW) (nb : Nat) (l1 : Nat) (l2 : Int32) (l3 : Int32) (l4 : Int32) (l5 : Int32) (l6 : Int32) : Option (Int32 × XW) :=
  (fX0_turnIn X l4).bind fun v1 =>
  if NS ≤ l1 ∧ l1 < TT nb then (fX1_breaksOutAt X nb l1 v1).bind fun v4 =>
  if v4 = 0 then (fX1_dragsIn X nb l1 l4).bind fun v6 =>
  if v6 = 0 then some ((0 : Int32), X)
  else (fX7_tell X nb l1 l2 l3 l4).bind fun X8 =>
  bd2 (fX7_says X8 (0 : Int32)) fun v11 X10 =>
  bd2 (fX7_powerTold X10 nb l1) fun v14 X13 =>
  if (v11 - l5) ≤ (v14 + l6) then some ((0 : Int32), X13)
  else some ((1 : Int32), X13)
  else some ((1 : Int32), X) else none
set_option maxRecDepth 100000 in
set_option maxHeartbeats 4000000 in
theorem c_X7_goesOn {l : Launch} {s0 : State} {D : va_G} {ev : Nat → Nat} (G0 : Gl s0 D ev) {X : XW} {M : MW} {nb : Nat} {l1 : Nat} {l2 : Int32} {l3 : Int32} {l4 : Int32} {l5 : Int32} {l6 : Int32} {r' : Int32} {X' : XW}  (h : fX7_goesOn X nb l1 l2 l3 l4 l5 l6 = some (r', X')) : CT l s0 D ev yX7_goesOn cX7_goesOn 7 (some .boolean) 4 0 0 [.ref (ev 0 + 10), .ref (ev 0 + l1), .int l2, .int l3, .int l4, .int l5, .int l6] (cells ev X M nb) (QI s0 D ev r' (cells ev X' M nb)) := by
  refine ct_of G0 (by decide) (Nat.le_of_ble_eq_true rfl) ?_
  intro p9 e9 s9 m9 args9 below9 meth9 c9 F hr9 hl9 hin9 hargs9 hts9
  rw [fX7_goesOn] at h
  refine g_lv (lv' := [(0, .ref (ev 0 + 10)), (1, .ref (ev 0 + l1)), (2, .int l2), (3, .int l3), (4, .int l4), (5, .int l5), (6, .int l6)]) ⟨rfl, rfl, rfl, rfl, rfl, rfl, rfl, trivial⟩ ?_
  refine g_aload_n (i := 1) F dX7_goesOn_0 rfl rfl ?_
  refine g_aload_n (i := 0) F dX7_goesOn_1 rfl rfl ?_
  refine g_get_7_0 F rfl (kd_lit (by decide)) wd_4_13 dX7_goesOn_2 ?_
  refine g_iload (i := 4) F dX7_goesOn_5 rfl ?_
  obtain ⟨v1, e2, h⟩ := bind_at h
  refine g_callVI F (mcR := 0) (msR := 0) (id := 1) (cells_at (kd_lit (i := 1) (by decide)) (xc_0 rfl)) (ci := 0) rfl rfl rfl (c_X0_turnIn G0 e2) wd_28_4 wd_28_1 wd_28_2 wd_28_3 wd_1_14 ⟨by decide, by decide⟩ (nn := 1) (by decide) (As := [.int l4]) rfl rfl (Nat.le_of_ble_eq_true rfl) (by decide) (by decide) ⟨by decide, by decide⟩ dX7_goesOn_7 ?_
  obtain ⟨h3, h⟩ := if_at h
  obtain ⟨v4, e5, h⟩ := bind_at h
  refine g_callVI F (mcR := 0) (msR := 0) (id := l1) (cells_at h3.2 (xc_1 (kd_b h3))) (ci := 1) rfl rfl rfl (c_X1_breaksOutAt G0 e5) wd_28_12 wd_28_9 wd_28_10 wd_28_11 wd_21_23 ⟨by decide, by decide⟩ (nn := 1) (by decide) (As := [.int v1]) rfl rfl (Nat.le_of_ble_eq_true rfl) (by decide) (by decide) ⟨by decide, by decide⟩ dX7_goesOn_10 ?_
  refine g_if_eq (tgt := 18) F dX7_goesOn_13 (by decide) h (fun a18 h => ?_) (fun a18 h => ?_)
  · refine g_aload_n (i := 1) F dX7_goesOn_18 rfl rfl ?_
    refine g_iload (i := 4) F dX7_goesOn_19 rfl ?_
    obtain ⟨v6, e7, h⟩ := bind_at h
    refine g_callVI F (mcR := 0) (msR := 0) (id := l1) (cells_at h3.2 (xc_1 (kd_b h3))) (ci := 1) rfl rfl rfl (c_X1_dragsIn G0 e7) wd_28_16 wd_28_13 wd_28_14 wd_28_15 wd_21_23 ⟨by decide, by decide⟩ (nn := 1) (by decide) (As := [.int l4]) rfl rfl (Nat.le_of_ble_eq_true rfl) (by decide) (by decide) ⟨by decide, by decide⟩ dX7_goesOn_21 ?_
    refine g_if_ne (tgt := 29) F dX7_goesOn_24 (by decide) h (fun a17 h => ?_) (fun a17 h => ?_)
    · refine g_aload_n (i := 0) F dX7_goesOn_29 rfl rfl ?_
      refine g_aload_n (i := 1) F dX7_goesOn_30 rfl rfl ?_
      refine g_iload_n (i := 2) F dX7_goesOn_31 rfl rfl ?_
      refine g_iload_n (i := 3) F dX7_goesOn_32 rfl rfl ?_
      refine g_iload (i := 4) F dX7_goesOn_33 rfl ?_
      obtain ⟨X8, e9, h⟩ := bind_at h
      refine g_callVV F (mcR := 0) (msR := 0) (id := 10) (cells_at (kd_lit (i := 10) (by decide)) (xc_7 rfl)) (ci := 7) rfl rfl rfl (c_X7_tell G0 e9) wd_24_19 wd_24_16 wd_24_17 wd_24_18 wd_2_0 ⟨by decide, by decide⟩ (nn := 4) (by decide) (As := [.ref (ev 0 + l1), .int l2, .int l3, .int l4]) rfl rfl (Nat.le_of_ble_eq_true rfl) (by decide) (by decide) ⟨by decide, by decide⟩ dX7_goesOn_35 ?_
      refine g_aload_n (i := 0) F dX7_goesOn_38 rfl rfl ?_
      refine g_iconst F dX7_goesOn_39 (v := 0) (by decide) ?_
      obtain ⟨v11, X10, e12, h⟩ := bd2_at h
      refine g_callVI F (mcR := 0) (msR := 0) (id := 10) (cells_at (kd_lit (i := 10) (by decide)) (xc_7 rfl)) (ci := 7) rfl rfl rfl (c_X7_says G0 e12) wd_20_11 wd_25_0 wd_20_9 wd_20_10 wd_2_0 ⟨by decide, by decide⟩ (nn := 1) (by decide) (As := [.int (0 : Int32)]) rfl rfl (Nat.le_of_ble_eq_true rfl) (by decide) (by decide) ⟨by decide, by decide⟩ dX7_goesOn_40 ?_
      refine g_iload (i := 5) F dX7_goesOn_43 rfl ?_
      refine g_isub F dX7_goesOn_45 ?_
      refine g_aload_n (i := 0) F dX7_goesOn_46 rfl rfl ?_
      refine g_aload_n (i := 1) F dX7_goesOn_47 rfl rfl ?_
      obtain ⟨v14, X13, e15, h⟩ := bd2_at h
      refine g_callVI F (mcR := 0) (msR := 0) (id := 10) (cells_at (kd_lit (i := 10) (by decide)) (xc_7 rfl)) (ci := 7) rfl rfl rfl (c_X7_powerTold G0 e15) wd_25_8 wd_25_5 wd_25_6 wd_25_7 wd_2_0 ⟨by decide, by decide⟩ (nn := 1) (by decide) (As := [.ref (ev 0 + l1)]) rfl rfl (Nat.le_of_ble_eq_true rfl) (by decide) (by decide) ⟨by decide, by decide⟩ dX7_goesOn_48 ?_
      refine g_iload (i := 6) F dX7_goesOn_51 rfl ?_
      refine g_iadd F dX7_goesOn_53 ?_
      refine g_icmp_le (tgt := 61) F dX7_goesOn_54 (by decide) h (fun a16 h => ?_) (fun a16 h => ?_)
      · refine g_iconst F dX7_goesOn_61 (v := 0) (by decide) ?_
        have hp := Prod.mk.inj (Option.some.inj h)
        exact g_iret F hr9 (by decide) hl9 hp.1 (by rw [hp.2]) (by decide) (by decide) dX7_goesOn_62
      · refine g_iconst F dX7_goesOn_57 (v := 1) (by decide) ?_
        refine g_goto (tgt := 62) F dX7_goesOn_58 (by decide) ?_
        have hp := Prod.mk.inj (Option.some.inj h)
        exact g_iret F hr9 (by decide) hl9 hp.1 (by rw [hp.2]) (by decide) (by decide) dX7_goesOn_62
    · refine g_iconst F dX7_goesOn_27 (v := 0) (by decide) ?_
      have hp := Prod.mk.inj (Option.some.inj h)
      exact g_iret F hr9 (by decide) hl9 hp.1 (by rw [hp.2]) (by decide) (by decide) dX7_goesOn_28
  · refine g_iconst F dX7_goesOn_16 (v := 1) (by decide) ?_
    have hp := Prod.mk.inj (Option.some.inj h)
    exact g_iret F hr9 (by decide) hl9 hp.1 (by rw [hp.2]) (by decide) (by decide) dX7_goesOn_17
def fX2_sail_b160 (nb : Nat) (l0f25 : Nat) (l2f25 : Nat) (l4f25 : Int32) (K25 : XW → Int32 → Option (XW)) (X : XW) (l5 : Int32) (t0 : Nat) (t1 : Int32) (t2 : Int32) : Option (XW) :=
  if kd t0 = 11 then if inb t1 (ln t0) then bd (xA X t0 t1 t2) fun X20 =>
  K25 X20 (l5 + (1 : Int32))
  else none else none
def fX2_sail_b115 (nb : Nat) (l0f25 : Nat) (l2f25 : Nat) (l4f25 : Int32) (K25 : XW → Int32 → Option (XW)) (X : XW) (l5 : Int32) : Option (XW) :=
  if kd l0f25 = 2 then if (X.1 l0f25 1) = (-1 : Int32) then fX2_sail_b160 nb l0f25 l2f25 l4f25 K25 X l5 (l0f25 + 1) l5 (-1 : Int32)
  else if NS ≤ l2f25 ∧ l2f25 < TT nb then (rd (X.2.1 4) 12 l5).bind fun v14 =>
  (fX0_liesAt X (X.1 l0f25 1) (X.1 l2f25 5) l5 v14).bind fun v16 =>
  fX2_sail_b160 nb l0f25 l2f25 l4f25 K25 X l5 (l0f25 + 1) l5 v16 else none else none
def fX2_sail_b112 (nb : Nat) (l0f25 : Nat) (l2f25 : Nat) (l4f25 : Int32) (K25 : XW → Int32 → Option (XW)) (X : XW) (l5 : Int32) (t0 : Nat) (t1 : Int32) : Option (XW) :=
  if kd t0 = 2 then bd (xI X t0 3 t1) fun X34 =>
  fX2_sail_b115 nb l0f25 l2f25 l4f25 K25 X34 l5 else none
def fX2_sail_l25 (nb : Nat) (l0f25 : Nat) (l2f25 : Nat) (l4f25 : Int32) (K25 : XW → Int32 → Option (XW)) (X : XW) (l5 : Int32) : Option (XW) :=
  if l4f25 ≤ l5 then some X
  else if (12 : Int32) ≤ l5 then some X
  else if kd l0f25 = 2 then if (X.1 l0f25 1) = (-1 : Int32) then fX2_sail_b115 nb l0f25 l2f25 l4f25 K25 X l5
  else if NS ≤ l2f25 ∧ l2f25 < TT nb then bd2 (fX7_goesOn X nb l2f25 (X.1 l0f25 1) (X.1 l2f25 5) l5 (0 : Int32) (0 : Int32)) fun v25 X24 =>
  if v25 = 0 then fX2_sail_b115 nb l0f25 l2f25 l4f25 K25 X24 l5
  else (fX0_oneOn X24 (X24.1 l0f25 1) l5).bind fun v27 =>
  bd (xI X24 l0f25 1 v27) fun X29 =>
  bd (xI X29 l0f25 2 ((X29.1 l0f25 2) + (1 : Int32))) fun X31 =>
  if (X31.1 l0f25 3) = (-1 : Int32) then fX2_sail_b112 nb l0f25 l2f25 l4f25 K25 X31 l5 l0f25 l5
  else fX2_sail_b112 nb l0f25 l2f25 l4f25 K25 X31 l5 l0f25 (X31.1 l0f25 3) else none else none
def fX2_sail (X : XW) (nb : Nat) (l0 : Nat) (l2 : Nat) (l3 : Int32) (l4 : Int32) : Option (XW) :=
  if NS ≤ l2 ∧ l2 < TT nb then if kd l0 = 2 then bd (xI X l0 1 (X.1 l2 4)) fun X3 =>
  bd (xI X3 l0 2 (0 : Int32)) fun X5 =>
  bd (xI X5 l0 3 (-1 : Int32)) fun X7 =>
  bd (jmax (0 : Int32) l3) fun v9 =>
  lo2 (fX2_sail_l25 nb l0 l2 l4) FU X7 v9 else none else none
set_option maxRecDepth 100000 in
set_option maxHeartbeats 4000000 in
theorem c_X2_sail {l : Launch} {s0 : State} {D : va_G} {ev : Nat → Nat} (G0 : Gl s0 D ev) {X : XW} {M : MW} {nb : Nat} {l0 : Nat} {l2 : Nat} {l3 : Int32} {l4 : Int32} {X' : XW}  (h : fX2_sail X nb l0 l2 l3 l4 = some (X')) : CT l s0 D ev yX2_sail cX2_sail 6 none 5 0 0 [.ref (ev 0 + l0), .ref (ev 0 + 10), .ref (ev 0 + l2), .int l3, .int l4] (cells ev X M nb) (QV s0 D ev (cells ev X' M nb)) := by
  refine ct_of G0 (by decide) (Nat.le_of_ble_eq_true rfl) ?_
  intro p9 e9 s9 m9 args9 below9 meth9 c9 F hr9 hl9 hin9 hargs9 hts9
  have L25 : ∀ (l0f25 : Nat) (l2f25 : Nat) (l4f25 : Int32) (N25 : Nat) (X : XW) (l5 : Int32), lo2 (fX2_sail_l25 nb l0f25 l2f25 l4f25) N25 X l5 = some (X') → GJ p9 l e9 (rg 5 0 0) s9 m9 args9 below9 meth9 c9 (MQ below9 (QV s0 D ev (cells ev X' M nb)) args9 s9 0 0 (frA ev)) s0 D ev 6 0 0 25 [(0, .ref (ev 0 + l0f25)), (1, .ref (ev 0 + 10)), (2, .ref (ev 0 + l2f25)), (4, .int l4f25), (5, .int l5)] ([]) (cells ev X M nb) := by
    intro l0f25 l2f25 l4f25 N25
    induction N25 with
    | zero => intro X l5 h; cases h
    | succ N25 ih25 =>
      have U160 : ∀ (X : XW) (l5 : Int32) (t0 : Nat) (t1 : Int32) (t2 : Int32), fX2_sail_b160 nb l0f25 l2f25 l4f25 (lo2 (fX2_sail_l25 nb l0f25 l2f25 l4f25) N25) X l5 t0 t1 t2 = some (X') → GJ p9 l e9 (rg 5 0 0) s9 m9 args9 below9 meth9 c9 (MQ below9 (QV s0 D ev (cells ev X' M nb)) args9 s9 0 0 (frA ev)) s0 D ev 6 0 0 160 [(0, .ref (ev 0 + l0f25)), (1, .ref (ev 0 + 10)), (2, .ref (ev 0 + l2f25)), (4, .int l4f25), (5, .int l5)] (.int t2 :: .int t1 :: .ref (ev 0 + t0) :: []) (cells ev X M nb) := by
        intro X l5 t0 t1 t2 h
        rw [fX2_sail_b160] at h
        obtain ⟨h18, h⟩ := if_at h
        obtain ⟨h19, h⟩ := if_at h
        obtain ⟨X20, e21, h⟩ := bd_at h
        refine g_istX F h18 rfl h19 dX2_sail_160 ?_
        rw [← e21]
        refine g_iinc (i := 5) (v := (l5 + (1 : Int32))) (lv' := [(5, .int (l5 + (1 : Int32))), (0, .ref (ev 0 + l0f25)), (1, .ref (ev 0 + 10)), (2, .ref (ev 0 + l2f25)), (4, .int l4f25)]) F dX2_sail_161 rfl rfl (by decide) rfl ?_
        refine g_goto (tgt := 25) F dX2_sail_164 (by decide) ?_
        refine g_lv (lv' := [(0, .ref (ev 0 + l0f25)), (1, .ref (ev 0 + 10)), (2, .ref (ev 0 + l2f25)), (4, .int l4f25), (5, .int (l5 + (1 : Int32)))]) ⟨rfl, rfl, rfl, rfl, rfl, trivial⟩ ?_
        exact ih25 _ _ h
      have U115 : ∀ (X : XW) (l5 : Int32), fX2_sail_b115 nb l0f25 l2f25 l4f25 (lo2 (fX2_sail_l25 nb l0f25 l2f25 l4f25) N25) X l5 = some (X') → GJ p9 l e9 (rg 5 0 0) s9 m9 args9 below9 meth9 c9 (MQ below9 (QV s0 D ev (cells ev X' M nb)) args9 s9 0 0 (frA ev)) s0 D ev 6 0 0 115 [(0, .ref (ev 0 + l0f25)), (1, .ref (ev 0 + 10)), (2, .ref (ev 0 + l2f25)), (4, .int l4f25), (5, .int l5)] ([]) (cells ev X M nb) := by
        intro X l5 h
        rw [fX2_sail_b115] at h
        refine g_aload_n (i := 0) F dX2_sail_115 rfl rfl ?_
        obtain ⟨h12, h⟩ := if_at h
        refine g_get_2_0 F h12 (kd_hid h12 (by decide)) wd_5_13 dX2_sail_116 ?_
        refine g_iload (i := 5) F dX2_sail_119 rfl ?_
        refine g_aload_n (i := 0) F dX2_sail_121 rfl rfl ?_
        refine g_get_2_1 F h12 (kd_hid h12 (by decide)) wd_5_14 dX2_sail_122 ?_
        refine g_iconst F dX2_sail_125 (v := -1) (by decide) ?_
        refine g_icmp_ne (tgt := 133) F dX2_sail_126 (by decide) h (fun a22 h => ?_) (fun a22 h => ?_)
        · refine g_aload_n (i := 1) F dX2_sail_133 rfl rfl ?_
          refine g_get_7_0 F rfl (kd_lit (by decide)) wd_27_19 dX2_sail_134 ?_
          refine g_aload_n (i := 0) F dX2_sail_137 rfl rfl ?_
          refine g_get_2_1 F h12 (kd_hid h12 (by decide)) wd_5_14 dX2_sail_138 ?_
          refine g_aload_n (i := 2) F dX2_sail_141 rfl rfl ?_
          obtain ⟨h13, h⟩ := if_at h
          refine g_get_1_5 F (kd_b h13) h13.2 wd_27_18 dX2_sail_142 ?_
          refine g_iload (i := 5) F dX2_sail_145 rfl ?_
          refine g_aload_n (i := 1) F dX2_sail_147 rfl rfl ?_
          refine g_get_7_0 F rfl (kd_lit (by decide)) wd_27_19 dX2_sail_148 ?_
          refine g_get_0_2 F rfl (kd_lit (by decide)) wd_27_20 dX2_sail_151 ?_
          refine g_iload (i := 5) F dX2_sail_154 rfl ?_
          obtain ⟨v14, e15, h⟩ := bind_at h
          refine g_ildX F rfl rfl e15 dX2_sail_156 ?_
          obtain ⟨v16, e17, h⟩ := bind_at h
          refine g_callVI F (mcR := 0) (msR := 0) (id := 1) (cells_at (kd_lit (i := 1) (by decide)) (xc_0 rfl)) (ci := 0) rfl rfl rfl (c_X0_liesAt G0 e17) wd_29_3 wd_29_0 wd_29_1 wd_29_2 wd_1_14 ⟨by decide, by decide⟩ (nn := 4) (by decide) (As := [.int (X.1 l0f25 1), .int (X.1 l2f25 5), .int l5, .int v14]) rfl rfl (Nat.le_of_ble_eq_true rfl) (by decide) (by decide) ⟨by decide, by decide⟩ dX2_sail_157 ?_
          refine g_lv (lv' := [(0, .ref (ev 0 + l0f25)), (1, .ref (ev 0 + 10)), (2, .ref (ev 0 + l2f25)), (4, .int l4f25), (5, .int l5)]) ⟨rfl, rfl, rfl, rfl, rfl, trivial⟩ ?_
          exact U160 _ _ _ _ _ h
        · refine g_iconst F dX2_sail_129 (v := -1) (by decide) ?_
          refine g_goto (tgt := 160) F dX2_sail_130 (by decide) ?_
          refine g_lv (lv' := [(0, .ref (ev 0 + l0f25)), (1, .ref (ev 0 + 10)), (2, .ref (ev 0 + l2f25)), (4, .int l4f25), (5, .int l5)]) ⟨rfl, rfl, rfl, rfl, rfl, trivial⟩ ?_
          exact U160 _ _ _ _ _ h
      have U112 : ∀ (X : XW) (l5 : Int32) (t0 : Nat) (t1 : Int32), fX2_sail_b112 nb l0f25 l2f25 l4f25 (lo2 (fX2_sail_l25 nb l0f25 l2f25 l4f25) N25) X l5 t0 t1 = some (X') → GJ p9 l e9 (rg 5 0 0) s9 m9 args9 below9 meth9 c9 (MQ below9 (QV s0 D ev (cells ev X' M nb)) args9 s9 0 0 (frA ev)) s0 D ev 6 0 0 112 [(0, .ref (ev 0 + l0f25)), (1, .ref (ev 0 + 10)), (2, .ref (ev 0 + l2f25)), (4, .int l4f25), (5, .int l5)] (.int t1 :: .ref (ev 0 + t0) :: []) (cells ev X M nb) := by
        intro X l5 t0 t1 h
        rw [fX2_sail_b112] at h
        obtain ⟨h33, h⟩ := if_at h
        obtain ⟨X34, e35, h⟩ := bd_at h
        refine g_put_2_3 F h33 (kd_hid h33 (by decide)) wd_5_16 dX2_sail_112 ?_
        rw [← e35]
        refine g_lv (lv' := [(0, .ref (ev 0 + l0f25)), (1, .ref (ev 0 + 10)), (2, .ref (ev 0 + l2f25)), (4, .int l4f25), (5, .int l5)]) ⟨rfl, rfl, rfl, rfl, rfl, trivial⟩ ?_
        exact U115 _ _ h
      intro X l5 h
      change fX2_sail_l25 nb l0f25 l2f25 l4f25 (lo2 (fX2_sail_l25 nb l0f25 l2f25 l4f25) N25) X l5 = some (X') at h
      rw [fX2_sail_l25] at h
      refine g_iload (i := 5) F dX2_sail_25 rfl ?_
      refine g_iload (i := 4) F dX2_sail_27 rfl ?_
      refine g_icmp_ge (tgt := 167) F dX2_sail_29 (by decide) h (fun a40 h => ?_) (fun a40 h => ?_)
      · exact g_vret F hr9 hl9 (by rw [Option.some.inj h]) (by decide) (by decide) dX2_sail_167
      · refine g_iload (i := 5) F dX2_sail_32 rfl ?_
        refine g_bipush F dX2_sail_34 (v := 12) (by decide) ?_
        refine g_icmp_ge (tgt := 167) F dX2_sail_36 (by decide) h (fun a39 h => ?_) (fun a39 h => ?_)
        · exact g_vret F hr9 hl9 (by rw [Option.some.inj h]) (by decide) (by decide) dX2_sail_167
        · refine g_aload_n (i := 0) F dX2_sail_39 rfl rfl ?_
          obtain ⟨h11, h⟩ := if_at h
          refine g_get_2_1 F h11 (kd_hid h11 (by decide)) wd_5_14 dX2_sail_40 ?_
          refine g_iconst F dX2_sail_43 (v := -1) (by decide) ?_
          refine g_icmp_eq (tgt := 115) F dX2_sail_44 (by decide) h (fun a38 h => ?_) (fun a38 h => ?_)
          · refine g_lv (lv' := [(0, .ref (ev 0 + l0f25)), (1, .ref (ev 0 + 10)), (2, .ref (ev 0 + l2f25)), (4, .int l4f25), (5, .int l5)]) ⟨rfl, rfl, rfl, rfl, rfl, trivial⟩ ?_
            exact U115 _ _ h
          · refine g_aload_n (i := 1) F dX2_sail_47 rfl rfl ?_
            refine g_aload_n (i := 2) F dX2_sail_48 rfl rfl ?_
            refine g_aload_n (i := 0) F dX2_sail_49 rfl rfl ?_
            refine g_get_2_1 F h11 (kd_hid h11 (by decide)) wd_5_14 dX2_sail_50 ?_
            refine g_aload_n (i := 2) F dX2_sail_53 rfl rfl ?_
            obtain ⟨h23, h⟩ := if_at h
            refine g_get_1_5 F (kd_b h23) h23.2 wd_27_18 dX2_sail_54 ?_
            refine g_iload (i := 5) F dX2_sail_57 rfl ?_
            refine g_iconst F dX2_sail_59 (v := 0) (by decide) ?_
            refine g_iconst F dX2_sail_60 (v := 0) (by decide) ?_
            obtain ⟨v25, X24, e26, h⟩ := bd2_at h
            refine g_callVI F (mcR := 0) (msR := 0) (id := 10) (cells_at (kd_lit (i := 10) (by decide)) (xc_7 rfl)) (ci := 7) rfl rfl rfl (c_X7_goesOn G0 e26) wd_28_0 wd_27_21 wd_27_22 wd_27_23 wd_2_0 ⟨by decide, by decide⟩ (nn := 6) (by decide) (As := [.ref (ev 0 + l2f25), .int (X.1 l0f25 1), .int (X.1 l2f25 5), .int l5, .int (0 : Int32), .int (0 : Int32)]) rfl rfl (Nat.le_of_ble_eq_true rfl) (by decide) (by decide) ⟨by decide, by decide⟩ dX2_sail_61 ?_
            refine g_if_eq (tgt := 115) F dX2_sail_64 (by decide) h (fun a37 h => ?_) (fun a37 h => ?_)
            · refine g_lv (lv' := [(0, .ref (ev 0 + l0f25)), (1, .ref (ev 0 + 10)), (2, .ref (ev 0 + l2f25)), (4, .int l4f25), (5, .int l5)]) ⟨rfl, rfl, rfl, rfl, rfl, trivial⟩ ?_
              exact U115 _ _ h
            · refine g_aload_n (i := 0) F dX2_sail_67 rfl rfl ?_
              refine g_aload_n (i := 1) F dX2_sail_68 rfl rfl ?_
              refine g_get_7_0 F rfl (kd_lit (by decide)) wd_27_19 dX2_sail_69 ?_
              refine g_aload_n (i := 0) F dX2_sail_72 rfl rfl ?_
              refine g_get_2_1 F h11 (kd_hid h11 (by decide)) wd_5_14 dX2_sail_73 ?_
              refine g_iload (i := 5) F dX2_sail_76 rfl ?_
              obtain ⟨v27, e28, h⟩ := bind_at h
              refine g_callVI F (mcR := 0) (msR := 0) (id := 1) (cells_at (kd_lit (i := 1) (by decide)) (xc_0 rfl)) (ci := 0) rfl rfl rfl (c_X0_oneOn G0 e28) wd_28_20 wd_28_17 wd_28_18 wd_28_19 wd_1_14 ⟨by decide, by decide⟩ (nn := 2) (by decide) (As := [.int (X24.1 l0f25 1), .int l5]) rfl rfl (Nat.le_of_ble_eq_true rfl) (by decide) (by decide) ⟨by decide, by decide⟩ dX2_sail_78 ?_
              obtain ⟨X29, e30, h⟩ := bd_at h
              refine g_put_2_1 F h11 (kd_hid h11 (by decide)) wd_5_14 dX2_sail_81 ?_
              rw [← e30]
              refine g_aload_n (i := 0) F dX2_sail_84 rfl rfl ?_
              refine g_dup F dX2_sail_85 rfl ?_
              refine g_get_2_2 F h11 (kd_hid h11 (by decide)) wd_5_15 dX2_sail_86 ?_
              refine g_iconst F dX2_sail_89 (v := 1) (by decide) ?_
              refine g_iadd F dX2_sail_90 ?_
              obtain ⟨X31, e32, h⟩ := bd_at h
              refine g_put_2_2 F h11 (kd_hid h11 (by decide)) wd_5_15 dX2_sail_91 ?_
              rw [← e32]
              refine g_aload_n (i := 0) F dX2_sail_94 rfl rfl ?_
              refine g_aload_n (i := 0) F dX2_sail_95 rfl rfl ?_
              refine g_get_2_3 F h11 (kd_hid h11 (by decide)) wd_5_16 dX2_sail_96 ?_
              refine g_iconst F dX2_sail_99 (v := -1) (by decide) ?_
              refine g_icmp_ne (tgt := 108) F dX2_sail_100 (by decide) h (fun a36 h => ?_) (fun a36 h => ?_)
              · refine g_aload_n (i := 0) F dX2_sail_108 rfl rfl ?_
                refine g_get_2_3 F h11 (kd_hid h11 (by decide)) wd_5_16 dX2_sail_109 ?_
                refine g_lv (lv' := [(0, .ref (ev 0 + l0f25)), (1, .ref (ev 0 + 10)), (2, .ref (ev 0 + l2f25)), (4, .int l4f25), (5, .int l5)]) ⟨rfl, rfl, rfl, rfl, rfl, trivial⟩ ?_
                exact U112 _ _ _ _ h
              · refine g_iload (i := 5) F dX2_sail_103 rfl ?_
                refine g_goto (tgt := 112) F dX2_sail_105 (by decide) ?_
                refine g_lv (lv' := [(0, .ref (ev 0 + l0f25)), (1, .ref (ev 0 + 10)), (2, .ref (ev 0 + l2f25)), (4, .int l4f25), (5, .int l5)]) ⟨rfl, rfl, rfl, rfl, rfl, trivial⟩ ?_
                exact U112 _ _ _ _ h
  rw [fX2_sail] at h
  refine g_lv (lv' := [(0, .ref (ev 0 + l0)), (1, .ref (ev 0 + 10)), (2, .ref (ev 0 + l2)), (3, .int l3), (4, .int l4)]) ⟨rfl, rfl, rfl, rfl, rfl, trivial⟩ ?_
  refine g_aload_n (i := 0) F dX2_sail_0 rfl rfl ?_
  refine g_aload_n (i := 2) F dX2_sail_1 rfl rfl ?_
  obtain ⟨h1, h⟩ := if_at h
  refine g_get_1_4 F (kd_b h1) h1.2 wd_27_16 dX2_sail_2 ?_
  obtain ⟨h2, h⟩ := if_at h
  obtain ⟨X3, e4, h⟩ := bd_at h
  refine g_put_2_1 F h2 (kd_hid h2 (by decide)) wd_5_14 dX2_sail_5 ?_
  rw [← e4]
  refine g_aload_n (i := 0) F dX2_sail_8 rfl rfl ?_
  refine g_iconst F dX2_sail_9 (v := 0) (by decide) ?_
  obtain ⟨X5, e6, h⟩ := bd_at h
  refine g_put_2_2 F h2 (kd_hid h2 (by decide)) wd_5_15 dX2_sail_10 ?_
  rw [← e6]
  refine g_aload_n (i := 0) F dX2_sail_13 rfl rfl ?_
  refine g_iconst F dX2_sail_14 (v := -1) (by decide) ?_
  obtain ⟨X7, e8, h⟩ := bd_at h
  refine g_put_2_3 F h2 (kd_hid h2 (by decide)) wd_5_16 dX2_sail_15 ?_
  rw [← e8]
  refine g_iconst F dX2_sail_18 (v := 0) (by decide) ?_
  refine g_iload_n (i := 3) F dX2_sail_19 rfl rfl ?_
  refine g_mmax F wd_27_17 wd_20_14 wd_16_21 wd_20_15 (Nat.le_of_ble_eq_true rfl) (Nat.le_of_ble_eq_true rfl) (Nat.zero_le _) (Nat.zero_le _) dX2_sail_20 ?_
  refine g_topi F h (fun v9 e10 h => ?_)
  refine g_istore (i := 5) (lv' := [(5, .int v9), (0, .ref (ev 0 + l0)), (1, .ref (ev 0 + 10)), (2, .ref (ev 0 + l2)), (3, .int l3), (4, .int l4)]) F dX2_sail_23 (by decide) rfl ?_
  refine g_lv (lv' := [(0, .ref (ev 0 + l0)), (1, .ref (ev 0 + 10)), (2, .ref (ev 0 + l2)), (4, .int l4), (5, .int v9)]) ⟨rfl, rfl, rfl, rfl, rfl, trivial⟩ ?_
  exact L25 _ _ _ FU _ _ h
def fX2_liesIn (X : XW) (l0 : Nat) (l1 : Int32) : Option Int32 :=
  if (fX9_isHour l1) = 0 then some (-1 : Int32)
  else if kd l0 = 2 then (rd (X.2.1 (l0 + 1)) 12 l1).bind fun v4 =>
  some v4 else none
set_option maxRecDepth 100000 in
set_option maxHeartbeats 4000000 in
theorem c_X2_liesIn {l : Launch} {s0 : State} {D : va_G} {ev : Nat → Nat} (G0 : Gl s0 D ev) {X : XW} {M : MW} {nb : Nat} {l0 : Nat} {l1 : Int32} {r' : Int32}  (h : fX2_liesIn X l0 l1 = some r') : CT l s0 D ev yX2_liesIn cX2_liesIn 2 (some .int) 2 0 0 [.ref (ev 0 + l0), .int l1] (cells ev X M nb) (QI s0 D ev r' (cells ev X M nb)) := by
  refine ct_of G0 (by decide) (Nat.le_of_ble_eq_true rfl) ?_
  intro p9 e9 s9 m9 args9 below9 meth9 c9 F hr9 hl9 hin9 hargs9 hts9
  rw [fX2_liesIn] at h
  refine g_lv (lv' := [(0, .ref (ev 0 + l0)), (1, .int l1)]) ⟨rfl, rfl, trivial⟩ ?_
  refine g_iload_n (i := 1) F dX2_liesIn_0 rfl rfl ?_
  refine g_callSNI F (mcR := 0) (msR := 0) (c_X9_isHour G0 (X := X) (M := M) (nb := nb) rfl) wd_17_9 (List.mem_of_getElem? (l := nwL) (i := 13) rfl) wd_17_8 wd_1_2 ⟨by decide, by decide⟩ (nn := 1) (by decide) (As := [.int l1]) rfl rfl (Nat.le_of_ble_eq_true rfl) (by decide) (by decide) ⟨by decide, by decide⟩ dX2_liesIn_1 ?_
  refine g_if_eq (tgt := 16) F dX2_liesIn_4 (by decide) h (fun a6 h => ?_) (fun a6 h => ?_)
  · refine g_iconst F dX2_liesIn_16 (v := -1) (by decide) ?_
    exact g_iret F hr9 rfl hl9 (Option.some.inj h) rfl (by decide) (by decide) dX2_liesIn_17
  · refine g_aload_n (i := 0) F dX2_liesIn_7 rfl rfl ?_
    obtain ⟨h3, h⟩ := if_at h
    refine g_get_2_0 F h3 (kd_hid h3 (by decide)) wd_5_13 dX2_liesIn_8 ?_
    refine g_iload_n (i := 1) F dX2_liesIn_11 rfl rfl ?_
    obtain ⟨v4, e5, h⟩ := bind_at h
    refine g_ildX F (kd_2_1 h3).1 (kd_2_1 h3).2 e5 dX2_liesIn_12 ?_
    refine g_goto (tgt := 17) F dX2_liesIn_13 (by decide) ?_
    exact g_iret F hr9 rfl hl9 (Option.some.inj h) rfl (by decide) (by decide) dX2_liesIn_17
def fX2_meetsIn (X : XW) (l0 : Nat) (l1 : Int32) (l2 : Int32) : Option Int32 :=
  if l2 = (-1 : Int32) then some (0 : Int32)
  else if kd l0 = 2 then (fX2_liesIn X l0 l1).bind fun v2 =>
  if v2 = l2 then some (1 : Int32)
  else some (0 : Int32) else none
set_option maxRecDepth 100000 in
set_option maxHeartbeats 4000000 in
theorem c_X2_meetsIn {l : Launch} {s0 : State} {D : va_G} {ev : Nat → Nat} (G0 : Gl s0 D ev) {X : XW} {M : MW} {nb : Nat} {l0 : Nat} {l1 : Int32} {l2 : Int32} {r' : Int32}  (h : fX2_meetsIn X l0 l1 l2 = some r') : CT l s0 D ev yX2_meetsIn cX2_meetsIn 3 (some .boolean) 3 0 0 [.ref (ev 0 + l0), .int l1, .int l2] (cells ev X M nb) (QI s0 D ev r' (cells ev X M nb)) := by
  refine ct_of G0 (by decide) (Nat.le_of_ble_eq_true rfl) ?_
  intro p9 e9 s9 m9 args9 below9 meth9 c9 F hr9 hl9 hin9 hargs9 hts9
  rw [fX2_meetsIn] at h
  refine g_lv (lv' := [(0, .ref (ev 0 + l0)), (1, .int l1), (2, .int l2)]) ⟨rfl, rfl, rfl, trivial⟩ ?_
  refine g_iload_n (i := 2) F dX2_meetsIn_0 rfl rfl ?_
  refine g_iconst F dX2_meetsIn_1 (v := -1) (by decide) ?_
  refine g_icmp_eq (tgt := 18) F dX2_meetsIn_2 (by decide) h (fun a5 h => ?_) (fun a5 h => ?_)
  · refine g_iconst F dX2_meetsIn_18 (v := 0) (by decide) ?_
    exact g_iret F hr9 (by decide) hl9 (Option.some.inj h) rfl (by decide) (by decide) dX2_meetsIn_19
  · refine g_aload_n (i := 0) F dX2_meetsIn_5 rfl rfl ?_
    refine g_iload_n (i := 1) F dX2_meetsIn_6 rfl rfl ?_
    obtain ⟨h1, h⟩ := if_at h
    obtain ⟨v2, e3, h⟩ := bind_at h
    refine g_callVI F (mcR := 0) (msR := 0) (id := l0) (cells_at (kd_hid h1 (by decide)) (xc_2 h1)) (ci := 2) rfl rfl rfl (c_X2_liesIn G0 e3) wd_29_9 wd_31_21 wd_29_7 wd_29_8 wd_3_0 ⟨by decide, by decide⟩ (nn := 1) (by decide) (As := [.int l1]) rfl rfl (Nat.le_of_ble_eq_true rfl) (by decide) (by decide) ⟨by decide, by decide⟩ dX2_meetsIn_7 ?_
    refine g_iload_n (i := 2) F dX2_meetsIn_10 rfl rfl ?_
    refine g_icmp_ne (tgt := 18) F dX2_meetsIn_11 (by decide) h (fun a4 h => ?_) (fun a4 h => ?_)
    · refine g_iconst F dX2_meetsIn_18 (v := 0) (by decide) ?_
      exact g_iret F hr9 (by decide) hl9 (Option.some.inj h) rfl (by decide) (by decide) dX2_meetsIn_19
    · refine g_iconst F dX2_meetsIn_14 (v := 1) (by decide) ?_
      refine g_goto (tgt := 19) F dX2_meetsIn_15 (by decide) ?_
      exact g_iret F hr9 (by decide) hl9 (Option.some.inj h) rfl (by decide) (by decide) dX2_meetsIn_19
def fX2_apart (l0 : Int32) (l1 : Int32) : Int32 :=
  (jmax (jabs ((l0 / (10 : Int32)) - (l1 / (10 : Int32)))) (jabs ((jrem l0 (10 : Int32)) - (jrem l1 (10 : Int32)))))
set_option maxRecDepth 100000 in
set_option maxHeartbeats 4000000 in
theorem c_X2_apart {l : Launch} {s0 : State} {D : va_G} {ev : Nat → Nat} (G0 : Gl s0 D ev) {X : XW} {M : MW} {nb : Nat} {l0 : Int32} {l1 : Int32} {r' : Int32}  (h : fX2_apart l0 l1 = r') : CT l s0 D ev yX2_apart cX2_apart 2 (some .int) 1 0 0 [.int l0, .int l1] (cells ev X M nb) (QI s0 D ev r' (cells ev X M nb)) := by
  refine ct_of G0 (by decide) (Nat.le_of_ble_eq_true rfl) ?_
  intro p9 e9 s9 m9 args9 below9 meth9 c9 F hr9 hl9 hin9 hargs9 hts9
  rw [fX2_apart] at h
  refine g_lv (lv' := [(0, .int l0), (1, .int l1)]) ⟨rfl, rfl, trivial⟩ ?_
  refine g_iload_n (i := 0) F dX2_apart_0 rfl rfl ?_
  refine g_bipush F dX2_apart_1 (v := 10) (by decide) ?_
  refine g_idiv F dX2_apart_3 (by decide) ?_
  refine g_iload_n (i := 1) F dX2_apart_4 rfl rfl ?_
  refine g_bipush F dX2_apart_5 (v := 10) (by decide) ?_
  refine g_idiv F dX2_apart_7 (by decide) ?_
  refine g_isub F dX2_apart_8 ?_
  refine g_mabs F wd_36_4 wd_28_6 wd_16_21 wd_28_7 (Nat.le_of_ble_eq_true rfl) (Nat.le_of_ble_eq_true rfl) (Nat.zero_le _) (Nat.zero_le _) dX2_apart_9 ?_
  refine g_iload_n (i := 0) F dX2_apart_12 rfl rfl ?_
  refine g_bipush F dX2_apart_13 (v := 10) (by decide) ?_
  refine g_irem F dX2_apart_15 (by decide) ?_
  refine g_iload_n (i := 1) F dX2_apart_16 rfl rfl ?_
  refine g_bipush F dX2_apart_17 (v := 10) (by decide) ?_
  refine g_irem F dX2_apart_19 (by decide) ?_
  refine g_isub F dX2_apart_20 ?_
  refine g_mabs F wd_36_4 wd_28_6 wd_16_21 wd_28_7 (Nat.le_of_ble_eq_true rfl) (Nat.le_of_ble_eq_true rfl) (Nat.zero_le _) (Nat.zero_le _) dX2_apart_21 ?_
  refine g_mmax F wd_27_17 wd_20_14 wd_16_21 wd_20_15 (Nat.le_of_ble_eq_true rfl) (Nat.le_of_ble_eq_true rfl) (Nat.zero_le _) (Nat.zero_le _) dX2_apart_24 ?_
  exact g_iret F hr9 rfl hl9 h rfl (by decide) (by decide) dX2_apart_27
def fX2_farthest_l6 (X : XW) (l0f6 : Nat) (l1f6 : Int32) (l3f6 : Int32) (K6 : Int32 → Int32 → Option Int32) (l4 : Int32) (l5 : Int32) : Option Int32 :=
  if l3f6 ≤ l5 then some l4
  else if kd l0f6 = 2 then (fX2_liesIn X l0f6 l5).bind fun v2 =>
  bd (jmax l4 (fX2_apart l1f6 v2)) fun v6 =>
  K6 v6 (l5 + (1 : Int32)) else none
def fX2_farthest (X : XW) (l0 : Nat) (l1 : Int32) (l2 : Int32) (l3 : Int32) : Option Int32 :=
  lo2 (fX2_farthest_l6 X l0 l1 l3) FU (0 : Int32) l2
set_option maxRecDepth 100000 in
set_option maxHeartbeats 4000000 in
theorem c_X2_farthest {l : Launch} {s0 : State} {D : va_G} {ev : Nat → Nat} (G0 : Gl s0 D ev) {X : XW} {M : MW} {nb : Nat} {l0 : Nat} {l1 : Int32} {l2 : Int32} {l3 : Int32} {r' : Int32}  (h : fX2_farthest X l0 l1 l2 l3 = some r') : CT l s0 D ev yX2_farthest cX2_farthest 6 (some .int) 3 0 0 [.ref (ev 0 + l0), .int l1, .int l2, .int l3] (cells ev X M nb) (QI s0 D ev r' (cells ev X M nb)) := by
  refine ct_of G0 (by decide) (Nat.le_of_ble_eq_true rfl) ?_
  intro p9 e9 s9 m9 args9 below9 meth9 c9 F hr9 hl9 hin9 hargs9 hts9
  have L6 : ∀ (l0f6 : Nat) (l1f6 : Int32) (l3f6 : Int32) (N6 : Nat) (l4 : Int32) (l5 : Int32), lo2 (fX2_farthest_l6 X l0f6 l1f6 l3f6) N6 l4 l5 = some r' → GJ p9 l e9 (rg 3 0 0) s9 m9 args9 below9 meth9 c9 (MQ below9 (QI s0 D ev r' (cells ev X M nb)) args9 s9 0 0 (frA ev)) s0 D ev 6 0 0 6 [(0, .ref (ev 0 + l0f6)), (1, .int l1f6), (3, .int l3f6), (4, .int l4), (5, .int l5)] ([]) (cells ev X M nb) := by
    intro l0f6 l1f6 l3f6 N6
    induction N6 with
    | zero => intro l4 l5 h; cases h
    | succ N6 ih6 =>
      intro l4 l5 h
      change fX2_farthest_l6 X l0f6 l1f6 l3f6 (lo2 (fX2_farthest_l6 X l0f6 l1f6 l3f6) N6) l4 l5 = some r' at h
      rw [fX2_farthest_l6] at h
      refine g_iload (i := 5) F dX2_farthest_6 rfl ?_
      refine g_iload_n (i := 3) F dX2_farthest_8 rfl rfl ?_
      refine g_icmp_ge (tgt := 35) F dX2_farthest_9 (by decide) h (fun a8 h => ?_) (fun a8 h => ?_)
      · refine g_iload (i := 4) F dX2_farthest_35 rfl ?_
        exact g_iret F hr9 rfl hl9 (Option.some.inj h) rfl (by decide) (by decide) dX2_farthest_37
      · refine g_iload (i := 4) F dX2_farthest_12 rfl ?_
        refine g_iload_n (i := 1) F dX2_farthest_14 rfl rfl ?_
        refine g_aload_n (i := 0) F dX2_farthest_15 rfl rfl ?_
        refine g_iload (i := 5) F dX2_farthest_16 rfl ?_
        obtain ⟨h1, h⟩ := if_at h
        obtain ⟨v2, e3, h⟩ := bind_at h
        refine g_callVI F (mcR := 0) (msR := 0) (id := l0f6) (cells_at (kd_hid h1 (by decide)) (xc_2 h1)) (ci := 2) rfl rfl rfl (c_X2_liesIn G0 e3) wd_29_9 wd_31_21 wd_29_7 wd_29_8 wd_3_0 ⟨by decide, by decide⟩ (nn := 1) (by decide) (As := [.int l5]) rfl rfl (Nat.le_of_ble_eq_true rfl) (by decide) (by decide) ⟨by decide, by decide⟩ dX2_farthest_18 ?_
        refine g_callSI F (mcR := 0) (msR := 0) (c_X2_apart G0 (X := X) (M := M) (nb := nb) rfl) wd_36_3 wd_36_1 wd_36_2 wd_3_0 ⟨by decide, by decide⟩ (nn := 2) (by decide) (As := [.int l1f6, .int v2]) rfl rfl (Nat.le_of_ble_eq_true rfl) (by decide) (by decide) ⟨by decide, by decide⟩ dX2_farthest_21 ?_
        refine g_mmax F wd_27_17 wd_20_14 wd_16_21 wd_20_15 (Nat.le_of_ble_eq_true rfl) (Nat.le_of_ble_eq_true rfl) (Nat.zero_le _) (Nat.zero_le _) dX2_farthest_24 ?_
        refine g_topi F h (fun v6 e7 h => ?_)
        refine g_istore (i := 4) (lv' := [(4, .int v6), (0, .ref (ev 0 + l0f6)), (1, .int l1f6), (3, .int l3f6), (5, .int l5)]) F dX2_farthest_27 (by decide) rfl ?_
        refine g_iinc (i := 5) (v := (l5 + (1 : Int32))) (lv' := [(5, .int (l5 + (1 : Int32))), (4, .int v6), (0, .ref (ev 0 + l0f6)), (1, .int l1f6), (3, .int l3f6)]) F dX2_farthest_29 rfl rfl (by decide) rfl ?_
        refine g_goto (tgt := 6) F dX2_farthest_32 (by decide) ?_
        refine g_lv (lv' := [(0, .ref (ev 0 + l0f6)), (1, .int l1f6), (3, .int l3f6), (4, .int v6), (5, .int (l5 + (1 : Int32)))]) ⟨rfl, rfl, rfl, rfl, rfl, trivial⟩ ?_
        exact ih6 _ _ h
  rw [fX2_farthest] at h
  refine g_lv (lv' := [(0, .ref (ev 0 + l0)), (1, .int l1), (2, .int l2), (3, .int l3)]) ⟨rfl, rfl, rfl, rfl, trivial⟩ ?_
  refine g_iconst F dX2_farthest_0 (v := 0) (by decide) ?_
  refine g_istore (i := 4) (lv' := [(4, .int (0 : Int32)), (0, .ref (ev 0 + l0)), (1, .int l1), (2, .int l2), (3, .int l3)]) F dX2_farthest_1 (by decide) rfl ?_
  refine g_iload_n (i := 2) F dX2_farthest_3 rfl rfl ?_
  refine g_istore (i := 5) (lv' := [(5, .int l2), (4, .int (0 : Int32)), (0, .ref (ev 0 + l0)), (1, .int l1), (2, .int l2), (3, .int l3)]) F dX2_farthest_4 (by decide) rfl ?_
  refine g_lv (lv' := [(0, .ref (ev 0 + l0)), (1, .int l1), (3, .int l3), (4, .int (0 : Int32)), (5, .int l2)]) ⟨rfl, rfl, rfl, rfl, rfl, trivial⟩ ?_
  exact L6 _ _ _ FU _ _ h
def fX2_firstBeyond_l3 (X : XW) (l0f3 : Nat) (l1f3 : Int32) (l2f3 : Int32) (l4f3 : Int32) (K3 : Int32 → Option Int32) (l5 : Int32) : Option Int32 :=
  if l4f3 ≤ l5 then some (-1 : Int32)
  else if kd l0f3 = 2 then (fX2_liesIn X l0f3 l5).bind fun v2 =>
  if v2 = (-1 : Int32) then some l5
  else (fX2_liesIn X l0f3 l5).bind fun v4 =>
  if (fX2_apart l2f3 v4) ≤ l1f3 then K3 (l5 + (1 : Int32))
  else some l5 else none
def fX2_firstBeyond (X : XW) (l0 : Nat) (l1 : Int32) (l2 : Int32) (l3 : Int32) (l4 : Int32) : Option Int32 :=
  lo1 (fX2_firstBeyond_l3 X l0 l1 l2 l4) FU l3
set_option maxRecDepth 100000 in
set_option maxHeartbeats 4000000 in
theorem c_X2_firstBeyond {l : Launch} {s0 : State} {D : va_G} {ev : Nat → Nat} (G0 : Gl s0 D ev) {X : XW} {M : MW} {nb : Nat} {l0 : Nat} {l1 : Int32} {l2 : Int32} {l3 : Int32} {l4 : Int32} {r' : Int32}  (h : fX2_firstBeyond X l0 l1 l2 l3 l4 = some r') : CT l s0 D ev yX2_firstBeyond cX2_firstBeyond 6 (some .int) 3 0 0 [.ref (ev 0 + l0), .int l1, .int l2, .int l3, .int l4] (cells ev X M nb) (QI s0 D ev r' (cells ev X M nb)) := by
  refine ct_of G0 (by decide) (Nat.le_of_ble_eq_true rfl) ?_
  intro p9 e9 s9 m9 args9 below9 meth9 c9 F hr9 hl9 hin9 hargs9 hts9
  have L3 : ∀ (l0f3 : Nat) (l1f3 : Int32) (l2f3 : Int32) (l4f3 : Int32) (N3 : Nat) (l5 : Int32), lo1 (fX2_firstBeyond_l3 X l0f3 l1f3 l2f3 l4f3) N3 l5 = some r' → GJ p9 l e9 (rg 3 0 0) s9 m9 args9 below9 meth9 c9 (MQ below9 (QI s0 D ev r' (cells ev X M nb)) args9 s9 0 0 (frA ev)) s0 D ev 6 0 0 3 [(0, .ref (ev 0 + l0f3)), (1, .int l1f3), (2, .int l2f3), (4, .int l4f3), (5, .int l5)] ([]) (cells ev X M nb) := by
    intro l0f3 l1f3 l2f3 l4f3 N3
    induction N3 with
    | zero => intro l5 h; cases h
    | succ N3 ih3 =>
      intro l5 h
      change fX2_firstBeyond_l3 X l0f3 l1f3 l2f3 l4f3 (lo1 (fX2_firstBeyond_l3 X l0f3 l1f3 l2f3 l4f3) N3) l5 = some r' at h
      rw [fX2_firstBeyond_l3] at h
      refine g_iload (i := 5) F dX2_firstBeyond_3 rfl ?_
      refine g_iload (i := 4) F dX2_firstBeyond_5 rfl ?_
      refine g_icmp_ge (tgt := 43) F dX2_firstBeyond_7 (by decide) h (fun a10 h => ?_) (fun a10 h => ?_)
      · refine g_iconst F dX2_firstBeyond_43 (v := -1) (by decide) ?_
        exact g_iret F hr9 rfl hl9 (Option.some.inj h) rfl (by decide) (by decide) dX2_firstBeyond_44
      · refine g_aload_n (i := 0) F dX2_firstBeyond_10 rfl rfl ?_
        refine g_iload (i := 5) F dX2_firstBeyond_11 rfl ?_
        obtain ⟨h1, h⟩ := if_at h
        obtain ⟨v2, e3, h⟩ := bind_at h
        refine g_callVI F (mcR := 0) (msR := 0) (id := l0f3) (cells_at (kd_hid h1 (by decide)) (xc_2 h1)) (ci := 2) rfl rfl rfl (c_X2_liesIn G0 e3) wd_29_9 wd_31_21 wd_29_7 wd_29_8 wd_3_0 ⟨by decide, by decide⟩ (nn := 1) (by decide) (As := [.int l5]) rfl rfl (Nat.le_of_ble_eq_true rfl) (by decide) (by decide) ⟨by decide, by decide⟩ dX2_firstBeyond_13 ?_
        refine g_iconst F dX2_firstBeyond_16 (v := -1) (by decide) ?_
        refine g_icmp_eq (tgt := 34) F dX2_firstBeyond_17 (by decide) h (fun a9 h => ?_) (fun a9 h => ?_)
        · refine g_iload (i := 5) F dX2_firstBeyond_34 rfl ?_
          exact g_iret F hr9 rfl hl9 (Option.some.inj h) rfl (by decide) (by decide) dX2_firstBeyond_36
        · refine g_iload_n (i := 2) F dX2_firstBeyond_20 rfl rfl ?_
          refine g_aload_n (i := 0) F dX2_firstBeyond_21 rfl rfl ?_
          refine g_iload (i := 5) F dX2_firstBeyond_22 rfl ?_
          obtain ⟨v4, e5, h⟩ := bind_at h
          refine g_callVI F (mcR := 0) (msR := 0) (id := l0f3) (cells_at (kd_hid h1 (by decide)) (xc_2 h1)) (ci := 2) rfl rfl rfl (c_X2_liesIn G0 e5) wd_29_9 wd_31_21 wd_29_7 wd_29_8 wd_3_0 ⟨by decide, by decide⟩ (nn := 1) (by decide) (As := [.int l5]) rfl rfl (Nat.le_of_ble_eq_true rfl) (by decide) (by decide) ⟨by decide, by decide⟩ dX2_firstBeyond_24 ?_
          refine g_callSI F (mcR := 0) (msR := 0) (c_X2_apart G0 (X := X) (M := M) (nb := nb) rfl) wd_36_3 wd_36_1 wd_36_2 wd_3_0 ⟨by decide, by decide⟩ (nn := 2) (by decide) (As := [.int l2f3, .int v4]) rfl rfl (Nat.le_of_ble_eq_true rfl) (by decide) (by decide) ⟨by decide, by decide⟩ dX2_firstBeyond_27 ?_
          refine g_iload_n (i := 1) F dX2_firstBeyond_30 rfl rfl ?_
          refine g_icmp_le (tgt := 37) F dX2_firstBeyond_31 (by decide) h (fun a8 h => ?_) (fun a8 h => ?_)
          · refine g_iinc (i := 5) (v := (l5 + (1 : Int32))) (lv' := [(5, .int (l5 + (1 : Int32))), (0, .ref (ev 0 + l0f3)), (1, .int l1f3), (2, .int l2f3), (4, .int l4f3)]) F dX2_firstBeyond_37 rfl rfl (by decide) rfl ?_
            refine g_goto (tgt := 3) F dX2_firstBeyond_40 (by decide) ?_
            refine g_lv (lv' := [(0, .ref (ev 0 + l0f3)), (1, .int l1f3), (2, .int l2f3), (4, .int l4f3), (5, .int (l5 + (1 : Int32)))]) ⟨rfl, rfl, rfl, rfl, rfl, trivial⟩ ?_
            exact ih3 _ h
          · refine g_iload (i := 5) F dX2_firstBeyond_34 rfl ?_
            exact g_iret F hr9 rfl hl9 (Option.some.inj h) rfl (by decide) (by decide) dX2_firstBeyond_36
  rw [fX2_firstBeyond] at h
  refine g_lv (lv' := [(0, .ref (ev 0 + l0)), (1, .int l1), (2, .int l2), (3, .int l3), (4, .int l4)]) ⟨rfl, rfl, rfl, rfl, rfl, trivial⟩ ?_
  refine g_iload_n (i := 3) F dX2_firstBeyond_0 rfl rfl ?_
  refine g_istore (i := 5) (lv' := [(5, .int l3), (0, .ref (ev 0 + l0)), (1, .int l1), (2, .int l2), (3, .int l3), (4, .int l4)]) F dX2_firstBeyond_1 (by decide) rfl ?_
  refine g_lv (lv' := [(0, .ref (ev 0 + l0)), (1, .int l1), (2, .int l2), (4, .int l4), (5, .int l3)]) ⟨rfl, rfl, rfl, rfl, rfl, trivial⟩ ?_
  exact L3 _ _ _ _ FU _ h
def fX9_isFormIn (l0 : Int32) (l1 : Int32) : Int32 :=
  if (fX9_within l0 (0 : Int32) (4 : Int32)) = 0 then (0 : Int32)
  else if (fX9_within l1 (0 : Int32) (3 : Int32)) = 0 then (0 : Int32)
  else (1 : Int32)
set_option maxRecDepth 100000 in
set_option maxHeartbeats 4000000 in
theorem c_X9_isFormIn {l : Launch} {s0 : State} {D : va_G} {ev : Nat → Nat} (G0 : Gl s0 D ev) {X : XW} {M : MW} {nb : Nat} {l0 : Int32} {l1 : Int32} {r' : Int32}  (h : fX9_isFormIn l0 l1 = r') : CT l s0 D ev yX9_isFormIn cX9_isFormIn 2 (some .boolean) 1 0 0 [.int l0, .int l1] (cells ev X M nb) (QI s0 D ev r' (cells ev X M nb)) := by
  refine ct_of G0 (by decide) (Nat.le_of_ble_eq_true rfl) ?_
  intro p9 e9 s9 m9 args9 below9 meth9 c9 F hr9 hl9 hin9 hargs9 hts9
  rw [fX9_isFormIn] at h
  refine g_lv (lv' := [(0, .int l0), (1, .int l1)]) ⟨rfl, rfl, trivial⟩ ?_
  refine g_iload_n (i := 0) F dX9_isFormIn_0 rfl rfl ?_
  refine g_iconst F dX9_isFormIn_1 (v := 0) (by decide) ?_
  refine g_iconst F dX9_isFormIn_2 (v := 4) (by decide) ?_
  refine g_callSI F (mcR := 0) (msR := 0) (c_X9_within G0 (X := X) (M := M) (nb := nb) rfl) wd_9_7 wd_15_21 wd_9_6 wd_1_2 ⟨by decide, by decide⟩ (nn := 3) (by decide) (As := [.int l0, .int (0 : Int32), .int (4 : Int32)]) rfl rfl (Nat.le_of_ble_eq_true rfl) (by decide) (by decide) ⟨by decide, by decide⟩ dX9_isFormIn_3 ?_
  refine g_if_eq (tgt := 22) F dX9_isFormIn_6 (by decide) h (fun a6 h => ?_) (fun a6 h => ?_)
  · refine g_iconst F dX9_isFormIn_22 (v := 0) (by decide) ?_
    exact g_iret F hr9 (by decide) hl9 h rfl (by decide) (by decide) dX9_isFormIn_23
  · refine g_iload_n (i := 1) F dX9_isFormIn_9 rfl rfl ?_
    refine g_iconst F dX9_isFormIn_10 (v := 0) (by decide) ?_
    refine g_iconst F dX9_isFormIn_11 (v := 3) (by decide) ?_
    refine g_callSI F (mcR := 0) (msR := 0) (c_X9_within G0 (X := X) (M := M) (nb := nb) rfl) wd_9_7 wd_15_21 wd_9_6 wd_1_2 ⟨by decide, by decide⟩ (nn := 3) (by decide) (As := [.int l1, .int (0 : Int32), .int (3 : Int32)]) rfl rfl (Nat.le_of_ble_eq_true rfl) (by decide) (by decide) ⟨by decide, by decide⟩ dX9_isFormIn_12 ?_
    refine g_if_eq (tgt := 22) F dX9_isFormIn_15 (by decide) h (fun a5 h => ?_) (fun a5 h => ?_)
    · refine g_iconst F dX9_isFormIn_22 (v := 0) (by decide) ?_
      exact g_iret F hr9 (by decide) hl9 h rfl (by decide) (by decide) dX9_isFormIn_23
    · refine g_iconst F dX9_isFormIn_18 (v := 1) (by decide) ?_
      refine g_goto (tgt := 23) F dX9_isFormIn_19 (by decide) ?_
      exact g_iret F hr9 (by decide) hl9 h rfl (by decide) (by decide) dX9_isFormIn_23
theorem b_X9_isFormIn {l0 : Int32} {l1 : Int32} : (fX9_isFormIn l0 l1) = 0 ∨ (fX9_isFormIn l0 l1) = 1 := by
  unfold fX9_isFormIn
  (repeat' split) <;> first | exact Or.inl rfl | exact Or.inr rfl | exact b_X9_within | exact b_X9_within
def fX3_above (X : XW) (l0 : Nat) (l1 : Int32) (l2 : Int32) : Option Int32 :=
  if (fX9_isFormIn l1 l2) = 0 then some (1 : Int32)
  else if kd l0 = 3 then (rd (X.2.1 (l0 + 1)) 20 (((4 : Int32) * l1) + l2)).bind fun v4 =>
  some (v4 + (1 : Int32)) else none
set_option maxRecDepth 100000 in
set_option maxHeartbeats 4000000 in
theorem c_X3_above {l : Launch} {s0 : State} {D : va_G} {ev : Nat → Nat} (G0 : Gl s0 D ev) {X : XW} {M : MW} {nb : Nat} {l0 : Nat} {l1 : Int32} {l2 : Int32} {r' : Int32}  (h : fX3_above X l0 l1 l2 = some r') : CT l s0 D ev yX3_above cX3_above 3 (some .int) 2 0 0 [.ref (ev 0 + l0), .int l1, .int l2] (cells ev X M nb) (QI s0 D ev r' (cells ev X M nb)) := by
  refine ct_of G0 (by decide) (Nat.le_of_ble_eq_true rfl) ?_
  intro p9 e9 s9 m9 args9 below9 meth9 c9 F hr9 hl9 hin9 hargs9 hts9
  rw [fX3_above] at h
  refine g_lv (lv' := [(0, .ref (ev 0 + l0)), (1, .int l1), (2, .int l2)]) ⟨rfl, rfl, rfl, trivial⟩ ?_
  refine g_iload_n (i := 1) F dX3_above_0 rfl rfl ?_
  refine g_iload_n (i := 2) F dX3_above_1 rfl rfl ?_
  refine g_callSNI F (mcR := 0) (msR := 0) (c_X9_isFormIn G0 (X := X) (M := M) (nb := nb) rfl) wd_42_1 (List.mem_of_getElem? (l := nwL) (i := 14) rfl) wd_42_0 wd_1_2 ⟨by decide, by decide⟩ (nn := 2) (by decide) (As := [.int l1, .int l2]) rfl rfl (Nat.le_of_ble_eq_true rfl) (by decide) (by decide) ⟨by decide, by decide⟩ dX3_above_2 ?_
  refine g_if_eq (tgt := 23) F dX3_above_5 (by decide) h (fun a6 h => ?_) (fun a6 h => ?_)
  · refine g_iconst F dX3_above_23 (v := 1) (by decide) ?_
    exact g_iret F hr9 rfl hl9 (Option.some.inj h) rfl (by decide) (by decide) dX3_above_24
  · refine g_aload_n (i := 0) F dX3_above_8 rfl rfl ?_
    obtain ⟨h3, h⟩ := if_at h
    refine g_get_3_0 F h3 (kd_hid h3 (by decide)) wd_4_20 dX3_above_9 ?_
    refine g_iconst F dX3_above_12 (v := 4) (by decide) ?_
    refine g_iload_n (i := 1) F dX3_above_13 rfl rfl ?_
    refine g_imul F dX3_above_14 ?_
    refine g_iload_n (i := 2) F dX3_above_15 rfl rfl ?_
    refine g_iadd F dX3_above_16 ?_
    obtain ⟨v4, e5, h⟩ := bind_at h
    refine g_ildX F (kd_3_1 h3).1 (kd_3_1 h3).2 e5 dX3_above_17 ?_
    refine g_iconst F dX3_above_18 (v := 1) (by decide) ?_
    refine g_iadd F dX3_above_19 ?_
    refine g_goto (tgt := 24) F dX3_above_20 (by decide) ?_
    exact g_iret F hr9 rfl hl9 (Option.some.inj h) rfl (by decide) (by decide) dX3_above_24
def fX3_below (X : XW) (l0 : Nat) (l1 : Int32) (l2 : Int32) : Option Int32 :=
  if (fX9_isFormIn l1 l2) = 0 then some (2 : Int32)
  else if kd l0 = 3 then (rd (X.2.1 (l0 + 2)) 20 (((4 : Int32) * l1) + l2)).bind fun v4 =>
  some (v4 + (2 : Int32)) else none
set_option maxRecDepth 100000 in
set_option maxHeartbeats 4000000 in
theorem c_X3_below {l : Launch} {s0 : State} {D : va_G} {ev : Nat → Nat} (G0 : Gl s0 D ev) {X : XW} {M : MW} {nb : Nat} {l0 : Nat} {l1 : Int32} {l2 : Int32} {r' : Int32}  (h : fX3_below X l0 l1 l2 = some r') : CT l s0 D ev yX3_below cX3_below 3 (some .int) 2 0 0 [.ref (ev 0 + l0), .int l1, .int l2] (cells ev X M nb) (QI s0 D ev r' (cells ev X M nb)) := by
  refine ct_of G0 (by decide) (Nat.le_of_ble_eq_true rfl) ?_
  intro p9 e9 s9 m9 args9 below9 meth9 c9 F hr9 hl9 hin9 hargs9 hts9
  rw [fX3_below] at h
  refine g_lv (lv' := [(0, .ref (ev 0 + l0)), (1, .int l1), (2, .int l2)]) ⟨rfl, rfl, rfl, trivial⟩ ?_
  refine g_iload_n (i := 1) F dX3_below_0 rfl rfl ?_
  refine g_iload_n (i := 2) F dX3_below_1 rfl rfl ?_
  refine g_callSNI F (mcR := 0) (msR := 0) (c_X9_isFormIn G0 (X := X) (M := M) (nb := nb) rfl) wd_42_1 (List.mem_of_getElem? (l := nwL) (i := 14) rfl) wd_42_0 wd_1_2 ⟨by decide, by decide⟩ (nn := 2) (by decide) (As := [.int l1, .int l2]) rfl rfl (Nat.le_of_ble_eq_true rfl) (by decide) (by decide) ⟨by decide, by decide⟩ dX3_below_2 ?_
  refine g_if_eq (tgt := 23) F dX3_below_5 (by decide) h (fun a6 h => ?_) (fun a6 h => ?_)
  · refine g_iconst F dX3_below_23 (v := 2) (by decide) ?_
    exact g_iret F hr9 rfl hl9 (Option.some.inj h) rfl (by decide) (by decide) dX3_below_24
  · refine g_aload_n (i := 0) F dX3_below_8 rfl rfl ?_
    obtain ⟨h3, h⟩ := if_at h
    refine g_get_3_1 F h3 (kd_hid h3 (by decide)) wd_4_21 dX3_below_9 ?_
    refine g_iconst F dX3_below_12 (v := 4) (by decide) ?_
    refine g_iload_n (i := 1) F dX3_below_13 rfl rfl ?_
    refine g_imul F dX3_below_14 ?_
    refine g_iload_n (i := 2) F dX3_below_15 rfl rfl ?_
    refine g_iadd F dX3_below_16 ?_
    obtain ⟨v4, e5, h⟩ := bind_at h
    refine g_ildX F (kd_3_2 h3).1 (kd_3_2 h3).2 e5 dX3_below_17 ?_
    refine g_iconst F dX3_below_18 (v := 2) (by decide) ?_
    refine g_iadd F dX3_below_19 ?_
    refine g_goto (tgt := 24) F dX3_below_20 (by decide) ?_
    exact g_iret F hr9 rfl hl9 (Option.some.inj h) rfl (by decide) (by decide) dX3_below_24
def fX3_isLikelier (X : XW) (l0 : Nat) (l1 : Int32) (l2 : Int32) (l3 : Int32) (l4 : Int32) : Option Int32 :=
  if kd l0 = 3 then (fX3_above X l0 l1 l2).bind fun v2 =>
  (fX3_below X l0 l3 l4).bind fun v4 =>
  (fX3_above X l0 l3 l4).bind fun v6 =>
  (fX3_below X l0 l1 l2).bind fun v8 =>
  if (v2 * v4) ≤ (v6 * v8) then some (0 : Int32)
  else some (1 : Int32) else none
set_option maxRecDepth 100000 in
set_option maxHeartbeats 4000000 in
theorem c_X3_isLikelier {l : Launch} {s0 : State} {D : va_G} {ev : Nat → Nat} (G0 : Gl s0 D ev) {X : XW} {M : MW} {nb : Nat} {l0 : Nat} {l1 : Int32} {l2 : Int32} {l3 : Int32} {l4 : Int32} {r' : Int32}  (h : fX3_isLikelier X l0 l1 l2 l3 l4 = some r') : CT l s0 D ev yX3_isLikelier cX3_isLikelier 5 (some .boolean) 3 0 0 [.ref (ev 0 + l0), .int l1, .int l2, .int l3, .int l4] (cells ev X M nb) (QI s0 D ev r' (cells ev X M nb)) := by
  refine ct_of G0 (by decide) (Nat.le_of_ble_eq_true rfl) ?_
  intro p9 e9 s9 m9 args9 below9 meth9 c9 F hr9 hl9 hin9 hargs9 hts9
  rw [fX3_isLikelier] at h
  refine g_lv (lv' := [(0, .ref (ev 0 + l0)), (1, .int l1), (2, .int l2), (3, .int l3), (4, .int l4)]) ⟨rfl, rfl, rfl, rfl, rfl, trivial⟩ ?_
  refine g_aload_n (i := 0) F dX3_isLikelier_0 rfl rfl ?_
  refine g_iload_n (i := 1) F dX3_isLikelier_1 rfl rfl ?_
  refine g_iload_n (i := 2) F dX3_isLikelier_2 rfl rfl ?_
  obtain ⟨h1, h⟩ := if_at h
  obtain ⟨v2, e3, h⟩ := bind_at h
  refine g_callVI F (mcR := 0) (msR := 0) (id := l0) (cells_at (kd_hid h1 (by decide)) (xc_3 h1)) (ci := 3) rfl rfl rfl (c_X3_above G0 e3) wd_42_16 wd_43_16 wd_42_14 wd_42_15 wd_2_11 ⟨by decide, by decide⟩ (nn := 2) (by decide) (As := [.int l1, .int l2]) rfl rfl (Nat.le_of_ble_eq_true rfl) (by decide) (by decide) ⟨by decide, by decide⟩ dX3_isLikelier_3 ?_
  refine g_aload_n (i := 0) F dX3_isLikelier_6 rfl rfl ?_
  refine g_iload_n (i := 3) F dX3_isLikelier_7 rfl rfl ?_
  refine g_iload (i := 4) F dX3_isLikelier_8 rfl ?_
  obtain ⟨v4, e5, h⟩ := bind_at h
  refine g_callVI F (mcR := 0) (msR := 0) (id := l0) (cells_at (kd_hid h1 (by decide)) (xc_3 h1)) (ci := 3) rfl rfl rfl (c_X3_below G0 e5) wd_42_20 wd_43_17 wd_42_18 wd_42_19 wd_2_11 ⟨by decide, by decide⟩ (nn := 2) (by decide) (As := [.int l3, .int l4]) rfl rfl (Nat.le_of_ble_eq_true rfl) (by decide) (by decide) ⟨by decide, by decide⟩ dX3_isLikelier_10 ?_
  refine g_imul F dX3_isLikelier_13 ?_
  refine g_aload_n (i := 0) F dX3_isLikelier_14 rfl rfl ?_
  refine g_iload_n (i := 3) F dX3_isLikelier_15 rfl rfl ?_
  refine g_iload (i := 4) F dX3_isLikelier_16 rfl ?_
  obtain ⟨v6, e7, h⟩ := bind_at h
  refine g_callVI F (mcR := 0) (msR := 0) (id := l0) (cells_at (kd_hid h1 (by decide)) (xc_3 h1)) (ci := 3) rfl rfl rfl (c_X3_above G0 e7) wd_42_16 wd_43_16 wd_42_14 wd_42_15 wd_2_11 ⟨by decide, by decide⟩ (nn := 2) (by decide) (As := [.int l3, .int l4]) rfl rfl (Nat.le_of_ble_eq_true rfl) (by decide) (by decide) ⟨by decide, by decide⟩ dX3_isLikelier_18 ?_
  refine g_aload_n (i := 0) F dX3_isLikelier_21 rfl rfl ?_
  refine g_iload_n (i := 1) F dX3_isLikelier_22 rfl rfl ?_
  refine g_iload_n (i := 2) F dX3_isLikelier_23 rfl rfl ?_
  obtain ⟨v8, e9, h⟩ := bind_at h
  refine g_callVI F (mcR := 0) (msR := 0) (id := l0) (cells_at (kd_hid h1 (by decide)) (xc_3 h1)) (ci := 3) rfl rfl rfl (c_X3_below G0 e9) wd_42_20 wd_43_17 wd_42_18 wd_42_19 wd_2_11 ⟨by decide, by decide⟩ (nn := 2) (by decide) (As := [.int l1, .int l2]) rfl rfl (Nat.le_of_ble_eq_true rfl) (by decide) (by decide) ⟨by decide, by decide⟩ dX3_isLikelier_24 ?_
  refine g_imul F dX3_isLikelier_27 ?_
  refine g_icmp_le (tgt := 35) F dX3_isLikelier_28 (by decide) h (fun a10 h => ?_) (fun a10 h => ?_)
  · refine g_iconst F dX3_isLikelier_35 (v := 0) (by decide) ?_
    exact g_iret F hr9 (by decide) hl9 (Option.some.inj h) rfl (by decide) (by decide) dX3_isLikelier_36
  · refine g_iconst F dX3_isLikelier_31 (v := 1) (by decide) ?_
    refine g_goto (tgt := 36) F dX3_isLikelier_32 (by decide) ?_
    exact g_iret F hr9 (by decide) hl9 (Option.some.inj h) rfl (by decide) (by decide) dX3_isLikelier_36
def fX3_worstBed_l4 (X : XW) (l0f4 : Nat) (l1f4 : Int32) (K4 : Int32 → Int32 → Option Int32) (l2 : Int32) (l3 : Int32) : Option Int32 :=
  if (4 : Int32) ≤ l3 then some l2
  else if kd l0f4 = 3 then (fX3_isLikelier X l0f4 l1f4 l2 l1f4 l3).bind fun v2 =>
  if v2 = 0 then K4 l2 (l3 + (1 : Int32))
  else K4 l3 (l3 + (1 : Int32)) else none
def fX3_worstBed (X : XW) (l0 : Nat) (l1 : Int32) : Option Int32 :=
  lo2 (fX3_worstBed_l4 X l0 l1) FU (0 : Int32) (1 : Int32)
set_option maxRecDepth 100000 in
set_option maxHeartbeats 4000000 in
theorem c_X3_worstBed {l : Launch} {s0 : State} {D : va_G} {ev : Nat → Nat} (G0 : Gl s0 D ev) {X : XW} {M : MW} {nb : Nat} {l0 : Nat} {l1 : Int32} {r' : Int32}  (h : fX3_worstBed X l0 l1 = some r') : CT l s0 D ev yX3_worstBed cX3_worstBed 4 (some .int) 4 0 0 [.ref (ev 0 + l0), .int l1] (cells ev X M nb) (QI s0 D ev r' (cells ev X M nb)) := by
  refine ct_of G0 (by decide) (Nat.le_of_ble_eq_true rfl) ?_
  intro p9 e9 s9 m9 args9 below9 meth9 c9 F hr9 hl9 hin9 hargs9 hts9
  have L4 : ∀ (l0f4 : Nat) (l1f4 : Int32) (N4 : Nat) (l2 : Int32) (l3 : Int32), lo2 (fX3_worstBed_l4 X l0f4 l1f4) N4 l2 l3 = some r' → GJ p9 l e9 (rg 4 0 0) s9 m9 args9 below9 meth9 c9 (MQ below9 (QI s0 D ev r' (cells ev X M nb)) args9 s9 0 0 (frA ev)) s0 D ev 4 0 0 4 [(0, .ref (ev 0 + l0f4)), (1, .int l1f4), (2, .int l2), (3, .int l3)] ([]) (cells ev X M nb) := by
    intro l0f4 l1f4 N4
    induction N4 with
    | zero => intro l2 l3 h; cases h
    | succ N4 ih4 =>
      intro l2 l3 h
      change fX3_worstBed_l4 X l0f4 l1f4 (lo2 (fX3_worstBed_l4 X l0f4 l1f4) N4) l2 l3 = some r' at h
      rw [fX3_worstBed_l4] at h
      refine g_iload_n (i := 3) F dX3_worstBed_4 rfl rfl ?_
      refine g_iconst F dX3_worstBed_5 (v := 4) (by decide) ?_
      refine g_icmp_ge (tgt := 28) F dX3_worstBed_6 (by decide) h (fun a5 h => ?_) (fun a5 h => ?_)
      · refine g_iload_n (i := 2) F dX3_worstBed_28 rfl rfl ?_
        exact g_iret F hr9 rfl hl9 (Option.some.inj h) rfl (by decide) (by decide) dX3_worstBed_29
      · refine g_aload_n (i := 0) F dX3_worstBed_9 rfl rfl ?_
        refine g_iload_n (i := 1) F dX3_worstBed_10 rfl rfl ?_
        refine g_iload_n (i := 2) F dX3_worstBed_11 rfl rfl ?_
        refine g_iload_n (i := 1) F dX3_worstBed_12 rfl rfl ?_
        refine g_iload_n (i := 3) F dX3_worstBed_13 rfl rfl ?_
        obtain ⟨h1, h⟩ := if_at h
        obtain ⟨v2, e3, h⟩ := bind_at h
        refine g_callVI F (mcR := 0) (msR := 0) (id := l0f4) (cells_at (kd_hid h1 (by decide)) (xc_3 h1)) (ci := 3) rfl rfl rfl (c_X3_isLikelier G0 e3) wd_43_15 wd_44_10 wd_43_13 wd_43_14 wd_2_11 ⟨by decide, by decide⟩ (nn := 4) (by decide) (As := [.int l1f4, .int l2, .int l1f4, .int l3]) rfl rfl (Nat.le_of_ble_eq_true rfl) (by decide) (by decide) ⟨by decide, by decide⟩ dX3_worstBed_14 ?_
        refine g_if_eq (tgt := 22) F dX3_worstBed_17 (by decide) h (fun a4 h => ?_) (fun a4 h => ?_)
        · refine g_iinc (i := 3) (v := (l3 + (1 : Int32))) (lv' := [(3, .int (l3 + (1 : Int32))), (0, .ref (ev 0 + l0f4)), (1, .int l1f4), (2, .int l2)]) F dX3_worstBed_22 rfl rfl (by decide) rfl ?_
          refine g_goto (tgt := 4) F dX3_worstBed_25 (by decide) ?_
          refine g_lv (lv' := [(0, .ref (ev 0 + l0f4)), (1, .int l1f4), (2, .int l2), (3, .int (l3 + (1 : Int32)))]) ⟨rfl, rfl, rfl, rfl, trivial⟩ ?_
          exact ih4 _ _ h
        · refine g_iload_n (i := 3) F dX3_worstBed_20 rfl rfl ?_
          refine g_istore_n (i := 2) (lv' := [(2, .int l3), (0, .ref (ev 0 + l0f4)), (1, .int l1f4), (3, .int l3)]) F dX3_worstBed_21 rfl (by decide) rfl ?_
          refine g_iinc (i := 3) (v := (l3 + (1 : Int32))) (lv' := [(3, .int (l3 + (1 : Int32))), (2, .int l3), (0, .ref (ev 0 + l0f4)), (1, .int l1f4)]) F dX3_worstBed_22 rfl rfl (by decide) rfl ?_
          refine g_goto (tgt := 4) F dX3_worstBed_25 (by decide) ?_
          refine g_lv (lv' := [(0, .ref (ev 0 + l0f4)), (1, .int l1f4), (2, .int l3), (3, .int (l3 + (1 : Int32)))]) ⟨rfl, rfl, rfl, rfl, trivial⟩ ?_
          exact ih4 _ _ h
  rw [fX3_worstBed] at h
  refine g_lv (lv' := [(0, .ref (ev 0 + l0)), (1, .int l1)]) ⟨rfl, rfl, trivial⟩ ?_
  refine g_iconst F dX3_worstBed_0 (v := 0) (by decide) ?_
  refine g_istore_n (i := 2) (lv' := [(2, .int (0 : Int32)), (0, .ref (ev 0 + l0)), (1, .int l1)]) F dX3_worstBed_1 rfl (by decide) rfl ?_
  refine g_iconst F dX3_worstBed_2 (v := 1) (by decide) ?_
  refine g_istore_n (i := 3) (lv' := [(3, .int (1 : Int32)), (2, .int (0 : Int32)), (0, .ref (ev 0 + l0)), (1, .int l1)]) F dX3_worstBed_3 rfl (by decide) rfl ?_
  refine g_lv (lv' := [(0, .ref (ev 0 + l0)), (1, .int l1), (2, .int (0 : Int32)), (3, .int (1 : Int32))]) ⟨rfl, rfl, rfl, rfl, trivial⟩ ?_
  exact L4 _ _ FU _ _ h
def fX3_takeOver_l2 (l0f2 : Nat) (l1f2 : Nat) (K2 : XW → Int32 → Option (XW)) (X : XW) (l2 : Int32) : Option (XW) :=
  if (20 : Int32) ≤ l2 then some X
  else if kd l0f2 = 3 then if kd l1f2 = 3 then (rd (X.2.1 (l1f2 + 1)) 20 l2).bind fun v3 =>
  if inb l2 20 then bd (xA X (l0f2 + 1) l2 v3) fun X6 =>
  (rd (X6.2.1 (l1f2 + 2)) 20 l2).bind fun v8 =>
  if inb l2 20 then bd (xA X6 (l0f2 + 2) l2 v8) fun X11 =>
  K2 X11 (l2 + (1 : Int32))
  else none
  else none else none else none
def fX3_takeOver (X : XW) (l0 : Nat) (l1 : Nat) : Option (XW) :=
  lo2 (fX3_takeOver_l2 l0 l1) FU X (0 : Int32)
set_option maxRecDepth 100000 in
set_option maxHeartbeats 4000000 in
theorem c_X3_takeOver {l : Launch} {s0 : State} {D : va_G} {ev : Nat → Nat} (G0 : Gl s0 D ev) {X : XW} {M : MW} {nb : Nat} {l0 : Nat} {l1 : Nat} {X' : XW}  (h : fX3_takeOver X l0 l1 = some (X')) : CT l s0 D ev yX3_takeOver cX3_takeOver 3 none 0 0 0 [.ref (ev 0 + l0), .ref (ev 0 + l1)] (cells ev X M nb) (QV s0 D ev (cells ev X' M nb)) := by
  refine ct_of G0 (by decide) (Nat.le_of_ble_eq_true rfl) ?_
  intro p9 e9 s9 m9 args9 below9 meth9 c9 F hr9 hl9 hin9 hargs9 hts9
  have L2 : ∀ (l0f2 : Nat) (l1f2 : Nat) (N2 : Nat) (X : XW) (l2 : Int32), lo2 (fX3_takeOver_l2 l0f2 l1f2) N2 X l2 = some (X') → GJ p9 l e9 (rg 0 0 0) s9 m9 args9 below9 meth9 c9 (MQ below9 (QV s0 D ev (cells ev X' M nb)) args9 s9 0 0 (frA ev)) s0 D ev 3 0 0 2 [(0, .ref (ev 0 + l0f2)), (1, .ref (ev 0 + l1f2)), (2, .int l2)] ([]) (cells ev X M nb) := by
    intro l0f2 l1f2 N2
    induction N2 with
    | zero => intro X l2 h; cases h
    | succ N2 ih2 =>
      intro X l2 h
      change fX3_takeOver_l2 l0f2 l1f2 (lo2 (fX3_takeOver_l2 l0f2 l1f2) N2) X l2 = some (X') at h
      rw [fX3_takeOver_l2] at h
      refine g_iload_n (i := 2) F dX3_takeOver_2 rfl rfl ?_
      refine g_bipush F dX3_takeOver_3 (v := 20) (by decide) ?_
      refine g_icmp_ge (tgt := 38) F dX3_takeOver_5 (by decide) h (fun a13 h => ?_) (fun a13 h => ?_)
      · exact g_vret F hr9 hl9 (by rw [Option.some.inj h]) (by decide) (by decide) dX3_takeOver_38
      · refine g_aload_n (i := 0) F dX3_takeOver_8 rfl rfl ?_
        obtain ⟨h1, h⟩ := if_at h
        refine g_get_3_0 F h1 (kd_hid h1 (by decide)) wd_4_20 dX3_takeOver_9 ?_
        refine g_iload_n (i := 2) F dX3_takeOver_12 rfl rfl ?_
        refine g_aload_n (i := 1) F dX3_takeOver_13 rfl rfl ?_
        obtain ⟨h2, h⟩ := if_at h
        refine g_get_3_0 F h2 (kd_hid h2 (by decide)) wd_4_20 dX3_takeOver_14 ?_
        refine g_iload_n (i := 2) F dX3_takeOver_17 rfl rfl ?_
        obtain ⟨v3, e4, h⟩ := bind_at h
        refine g_ildX F (kd_3_1 h2).1 (kd_3_1 h2).2 e4 dX3_takeOver_18 ?_
        obtain ⟨h5, h⟩ := if_at h
        obtain ⟨X6, e7, h⟩ := bd_at h
        refine g_istX F (kd_3_1 h1).1 (kd_3_1 h1).2 h5 dX3_takeOver_19 ?_
        rw [← e7]
        refine g_aload_n (i := 0) F dX3_takeOver_20 rfl rfl ?_
        refine g_get_3_1 F h1 (kd_hid h1 (by decide)) wd_4_21 dX3_takeOver_21 ?_
        refine g_iload_n (i := 2) F dX3_takeOver_24 rfl rfl ?_
        refine g_aload_n (i := 1) F dX3_takeOver_25 rfl rfl ?_
        refine g_get_3_1 F h2 (kd_hid h2 (by decide)) wd_4_21 dX3_takeOver_26 ?_
        refine g_iload_n (i := 2) F dX3_takeOver_29 rfl rfl ?_
        obtain ⟨v8, e9, h⟩ := bind_at h
        refine g_ildX F (kd_3_2 h2).1 (kd_3_2 h2).2 e9 dX3_takeOver_30 ?_
        obtain ⟨h10, h⟩ := if_at h
        obtain ⟨X11, e12, h⟩ := bd_at h
        refine g_istX F (kd_3_2 h1).1 (kd_3_2 h1).2 h10 dX3_takeOver_31 ?_
        rw [← e12]
        refine g_iinc (i := 2) (v := (l2 + (1 : Int32))) (lv' := [(2, .int (l2 + (1 : Int32))), (0, .ref (ev 0 + l0f2)), (1, .ref (ev 0 + l1f2))]) F dX3_takeOver_32 rfl rfl (by decide) rfl ?_
        refine g_goto (tgt := 2) F dX3_takeOver_35 (by decide) ?_
        refine g_lv (lv' := [(0, .ref (ev 0 + l0f2)), (1, .ref (ev 0 + l1f2)), (2, .int (l2 + (1 : Int32)))]) ⟨rfl, rfl, rfl, trivial⟩ ?_
        exact ih2 _ _ h
  rw [fX3_takeOver] at h
  refine g_lv (lv' := [(0, .ref (ev 0 + l0)), (1, .ref (ev 0 + l1))]) ⟨rfl, rfl, trivial⟩ ?_
  refine g_iconst F dX3_takeOver_0 (v := 0) (by decide) ?_
  refine g_istore_n (i := 2) (lv' := [(2, .int (0 : Int32)), (0, .ref (ev 0 + l0)), (1, .ref (ev 0 + l1))]) F dX3_takeOver_1 rfl (by decide) rfl ?_
  refine g_lv (lv' := [(0, .ref (ev 0 + l0)), (1, .ref (ev 0 + l1)), (2, .int (0 : Int32))]) ⟨rfl, rfl, rfl, trivial⟩ ?_
  exact L2 _ _ FU _ _ h
def fX5_clear (X : XW) (l0 : Nat) : Option (XW) :=
  if kd l0 = 5 then bd (xI X l0 2 (0 : Int32)) fun X2 =>
  some X2 else none
set_option maxRecDepth 100000 in
set_option maxHeartbeats 4000000 in
theorem c_X5_clear {l : Launch} {s0 : State} {D : va_G} {ev : Nat → Nat} (G0 : Gl s0 D ev) {X : XW} {M : MW} {nb : Nat} {l0 : Nat} {X' : XW}  (h : fX5_clear X l0 = some (X')) : CT l s0 D ev yX5_clear cX5_clear 1 none 0 0 0 [.ref (ev 0 + l0)] (cells ev X M nb) (QV s0 D ev (cells ev X' M nb)) := by
  refine ct_of G0 (by decide) (Nat.le_of_ble_eq_true rfl) ?_
  intro p9 e9 s9 m9 args9 below9 meth9 c9 F hr9 hl9 hin9 hargs9 hts9
  rw [fX5_clear] at h
  refine g_lv (lv' := [(0, .ref (ev 0 + l0))]) ⟨rfl, trivial⟩ ?_
  refine g_aload_n (i := 0) F dX5_clear_0 rfl rfl ?_
  refine g_iconst F dX5_clear_1 (v := 0) (by decide) ?_
  obtain ⟨h1, h⟩ := if_at h
  obtain ⟨X2, e3, h⟩ := bd_at h
  refine g_put_5_2 F h1 (kd_hid h1 (by decide)) wd_6_5 dX5_clear_2 ?_
  rw [← e3]
  exact g_vret F hr9 hl9 (by rw [Option.some.inj h]) (by decide) (by decide) dX5_clear_5
def fX5_add (X : XW) (l0 : Nat) (l1 : Int32) : Option (XW) :=
  if kd l0 = 5 then if (160 : Int32) ≤ (X.1 l0 2) then some X
  else if inb (X.1 l0 2) 160 then bd (xA X (l0 + 1) (X.1 l0 2) l1) fun X3 =>
  bd (xI X3 l0 2 ((X3.1 l0 2) + (1 : Int32))) fun X5 =>
  some X5
  else none else none
set_option maxRecDepth 100000 in
set_option maxHeartbeats 4000000 in
theorem c_X5_add {l : Launch} {s0 : State} {D : va_G} {ev : Nat → Nat} (G0 : Gl s0 D ev) {X : XW} {M : MW} {nb : Nat} {l0 : Nat} {l1 : Int32} {X' : XW}  (h : fX5_add X l0 l1 = some (X')) : CT l s0 D ev yX5_add cX5_add 2 none 0 0 0 [.ref (ev 0 + l0), .int l1] (cells ev X M nb) (QV s0 D ev (cells ev X' M nb)) := by
  refine ct_of G0 (by decide) (Nat.le_of_ble_eq_true rfl) ?_
  intro p9 e9 s9 m9 args9 below9 meth9 c9 F hr9 hl9 hin9 hargs9 hts9
  rw [fX5_add] at h
  refine g_lv (lv' := [(0, .ref (ev 0 + l0)), (1, .int l1)]) ⟨rfl, rfl, trivial⟩ ?_
  refine g_aload_n (i := 0) F dX5_add_0 rfl rfl ?_
  obtain ⟨h1, h⟩ := if_at h
  refine g_get_5_2 F h1 (kd_hid h1 (by decide)) wd_6_5 dX5_add_1 ?_
  refine g_aload_n (i := 0) F dX5_add_4 rfl rfl ?_
  refine g_get_5_0 F h1 (kd_hid h1 (by decide)) wd_6_3 dX5_add_5 ?_
  refine g_alX (n := 160) F (kd_5_1 h1).1 (kd_5_1 h1).2 dX5_add_8 ?_
  refine g_icmp_ge (tgt := 32) F dX5_add_9 (by decide) h (fun a7 h => ?_) (fun a7 h => ?_)
  · exact g_vret F hr9 hl9 (by rw [Option.some.inj h]) (by decide) (by decide) dX5_add_32
  · refine g_aload_n (i := 0) F dX5_add_12 rfl rfl ?_
    refine g_get_5_0 F h1 (kd_hid h1 (by decide)) wd_6_3 dX5_add_13 ?_
    refine g_aload_n (i := 0) F dX5_add_16 rfl rfl ?_
    refine g_get_5_2 F h1 (kd_hid h1 (by decide)) wd_6_5 dX5_add_17 ?_
    refine g_iload_n (i := 1) F dX5_add_20 rfl rfl ?_
    obtain ⟨h2, h⟩ := if_at h
    obtain ⟨X3, e4, h⟩ := bd_at h
    refine g_istX F (kd_5_1 h1).1 (kd_5_1 h1).2 h2 dX5_add_21 ?_
    rw [← e4]
    refine g_aload_n (i := 0) F dX5_add_22 rfl rfl ?_
    refine g_dup F dX5_add_23 rfl ?_
    refine g_get_5_2 F h1 (kd_hid h1 (by decide)) wd_6_5 dX5_add_24 ?_
    refine g_iconst F dX5_add_27 (v := 1) (by decide) ?_
    refine g_iadd F dX5_add_28 ?_
    obtain ⟨X5, e6, h⟩ := bd_at h
    refine g_put_5_2 F h1 (kd_hid h1 (by decide)) wd_6_5 dX5_add_29 ?_
    rw [← e6]
    exact g_vret F hr9 hl9 (by rw [Option.some.inj h]) (by decide) (by decide) dX5_add_32
def fX5_endPart (X : XW) (l0 : Nat) (l1 : Int32) : Option (XW) :=
  if (fX9_within l1 (0 : Int32) (2 : Int32)) = 0 then some X
  else if kd l0 = 5 then if inb l1 3 then bd (xA X (l0 + 2) l1 (X.1 l0 2)) fun X5 =>
  some X5
  else none else none
set_option maxRecDepth 100000 in
set_option maxHeartbeats 4000000 in
theorem c_X5_endPart {l : Launch} {s0 : State} {D : va_G} {ev : Nat → Nat} (G0 : Gl s0 D ev) {X : XW} {M : MW} {nb : Nat} {l0 : Nat} {l1 : Int32} {X' : XW}  (h : fX5_endPart X l0 l1 = some (X')) : CT l s0 D ev yX5_endPart cX5_endPart 2 none 1 0 0 [.ref (ev 0 + l0), .int l1] (cells ev X M nb) (QV s0 D ev (cells ev X' M nb)) := by
  refine ct_of G0 (by decide) (Nat.le_of_ble_eq_true rfl) ?_
  intro p9 e9 s9 m9 args9 below9 meth9 c9 F hr9 hl9 hin9 hargs9 hts9
  rw [fX5_endPart] at h
  refine g_lv (lv' := [(0, .ref (ev 0 + l0)), (1, .int l1)]) ⟨rfl, rfl, trivial⟩ ?_
  refine g_iload_n (i := 1) F dX5_endPart_0 rfl rfl ?_
  refine g_iconst F dX5_endPart_1 (v := 0) (by decide) ?_
  refine g_iconst F dX5_endPart_2 (v := 2) (by decide) ?_
  refine g_callSNI F (mcR := 0) (msR := 0) (c_X9_within G0 (X := X) (M := M) (nb := nb) rfl) wd_9_7 (List.mem_of_getElem? (l := nwL) (i := 3) rfl) wd_9_6 wd_1_2 ⟨by decide, by decide⟩ (nn := 3) (by decide) (As := [.int l1, .int (0 : Int32), .int (2 : Int32)]) rfl rfl (Nat.le_of_ble_eq_true rfl) (by decide) (by decide) ⟨by decide, by decide⟩ dX5_endPart_3 ?_
  refine g_if_eq (tgt := 19) F dX5_endPart_6 (by decide) h (fun a7 h => ?_) (fun a7 h => ?_)
  · exact g_vret F hr9 hl9 (by rw [Option.some.inj h]) (by decide) (by decide) dX5_endPart_19
  · refine g_aload_n (i := 0) F dX5_endPart_9 rfl rfl ?_
    obtain ⟨h3, h⟩ := if_at h
    refine g_get_5_1 F h3 (kd_hid h3 (by decide)) wd_6_4 dX5_endPart_10 ?_
    refine g_iload_n (i := 1) F dX5_endPart_13 rfl rfl ?_
    refine g_aload_n (i := 0) F dX5_endPart_14 rfl rfl ?_
    refine g_get_5_2 F h3 (kd_hid h3 (by decide)) wd_6_5 dX5_endPart_15 ?_
    obtain ⟨h4, h⟩ := if_at h
    obtain ⟨X5, e6, h⟩ := bd_at h
    refine g_istX F (kd_5_2 h3).1 (kd_5_2 h3).2 h4 dX5_endPart_18 ?_
    rw [← e6]
    exact g_vret F hr9 hl9 (by rw [Option.some.inj h]) (by decide) (by decide) dX5_endPart_19
def fX6_add (X : XW) (l1 : Int32) : Option (XW) :=
  if (160 : Int32) ≤ (X.1 7 1) then some X
  else if inb (X.1 7 1) 160 then bd (xA X 8 (X.1 7 1) l1) fun X2 =>
  bd (xI X2 7 1 ((X2.1 7 1) + (1 : Int32))) fun X4 =>
  some X4
  else none
set_option maxRecDepth 100000 in
set_option maxHeartbeats 4000000 in
theorem c_X6_add {l : Launch} {s0 : State} {D : va_G} {ev : Nat → Nat} (G0 : Gl s0 D ev) {X : XW} {M : MW} {nb : Nat} {l1 : Int32} {X' : XW}  (h : fX6_add X l1 = some (X')) : CT l s0 D ev yX6_add cX6_add 2 none 0 0 0 [.ref (ev 0 + 7), .int l1] (cells ev X M nb) (QV s0 D ev (cells ev X' M nb)) := by
  refine ct_of G0 (by decide) (Nat.le_of_ble_eq_true rfl) ?_
  intro p9 e9 s9 m9 args9 below9 meth9 c9 F hr9 hl9 hin9 hargs9 hts9
  rw [fX6_add] at h
  refine g_lv (lv' := [(0, .ref (ev 0 + 7)), (1, .int l1)]) ⟨rfl, rfl, trivial⟩ ?_
  refine g_aload_n (i := 0) F dX6_add_0 rfl rfl ?_
  refine g_get_6_1 F rfl (kd_lit (by decide)) wd_4_0 dX6_add_1 ?_
  refine g_aload_n (i := 0) F dX6_add_4 rfl rfl ?_
  refine g_get_6_0 F rfl (kd_lit (by decide)) wd_3_23 dX6_add_5 ?_
  refine g_alX (n := 160) F rfl rfl dX6_add_8 ?_
  refine g_icmp_ge (tgt := 32) F dX6_add_9 (by decide) h (fun a6 h => ?_) (fun a6 h => ?_)
  · exact g_vret F hr9 hl9 (by rw [Option.some.inj h]) (by decide) (by decide) dX6_add_32
  · refine g_aload_n (i := 0) F dX6_add_12 rfl rfl ?_
    refine g_get_6_0 F rfl (kd_lit (by decide)) wd_3_23 dX6_add_13 ?_
    refine g_aload_n (i := 0) F dX6_add_16 rfl rfl ?_
    refine g_get_6_1 F rfl (kd_lit (by decide)) wd_4_0 dX6_add_17 ?_
    refine g_iload_n (i := 1) F dX6_add_20 rfl rfl ?_
    obtain ⟨h1, h⟩ := if_at h
    obtain ⟨X2, e3, h⟩ := bd_at h
    refine g_istX F rfl rfl h1 dX6_add_21 ?_
    rw [← e3]
    refine g_aload_n (i := 0) F dX6_add_22 rfl rfl ?_
    refine g_dup F dX6_add_23 rfl ?_
    refine g_get_6_1 F rfl (kd_lit (by decide)) wd_4_0 dX6_add_24 ?_
    refine g_iconst F dX6_add_27 (v := 1) (by decide) ?_
    refine g_iadd F dX6_add_28 ?_
    obtain ⟨X4, e5, h⟩ := bd_at h
    refine g_put_6_1 F rfl (kd_lit (by decide)) wd_4_0 dX6_add_29 ?_
    rw [← e5]
    exact g_vret F hr9 hl9 (by rw [Option.some.inj h]) (by decide) (by decide) dX6_add_32
def fX6_empty (X : XW) : Option (XW) :=
  bd (xI X 7 1 (0 : Int32)) fun X1 =>
  some X1
set_option maxRecDepth 100000 in
set_option maxHeartbeats 4000000 in
theorem c_X6_empty {l : Launch} {s0 : State} {D : va_G} {ev : Nat → Nat} (G0 : Gl s0 D ev) {X : XW} {M : MW} {nb : Nat}  {X' : XW}  (h : fX6_empty X = some (X')) : CT l s0 D ev yX6_empty cX6_empty 1 none 0 0 0 [.ref (ev 0 + 7)] (cells ev X M nb) (QV s0 D ev (cells ev X' M nb)) := by
  refine ct_of G0 (by decide) (Nat.le_of_ble_eq_true rfl) ?_
  intro p9 e9 s9 m9 args9 below9 meth9 c9 F hr9 hl9 hin9 hargs9 hts9
  rw [fX6_empty] at h
  refine g_lv (lv' := [(0, .ref (ev 0 + 7))]) ⟨rfl, trivial⟩ ?_
  refine g_aload_n (i := 0) F dX6_empty_0 rfl rfl ?_
  refine g_iconst F dX6_empty_1 (v := 0) (by decide) ?_
  obtain ⟨X1, e2, h⟩ := bd_at h
  refine g_put_6_1 F rfl (kd_lit (by decide)) wd_4_0 dX6_empty_2 ?_
  rw [← e2]
  exact g_vret F hr9 hl9 (by rw [Option.some.inj h]) (by decide) (by decide) dX6_empty_5
def fX6_byteAt (X : XW) (l1 : Int32) : Option Int32 :=
  if l1 < 0 then some (-1 : Int32)
  else if (X.1 7 1) ≤ l1 then some (-1 : Int32)
  else if (160 : Int32) ≤ l1 then some (-1 : Int32)
  else (rd (X.2.1 8) 160 l1).bind fun v1 =>
  some v1
set_option maxRecDepth 100000 in
set_option maxHeartbeats 4000000 in
theorem c_X6_byteAt {l : Launch} {s0 : State} {D : va_G} {ev : Nat → Nat} (G0 : Gl s0 D ev) {X : XW} {M : MW} {nb : Nat} {l1 : Int32} {r' : Int32}  (h : fX6_byteAt X l1 = some r') : CT l s0 D ev yX6_byteAt cX6_byteAt 2 (some .int) 0 0 0 [.ref (ev 0 + 7), .int l1] (cells ev X M nb) (QI s0 D ev r' (cells ev X M nb)) := by
  refine ct_of G0 (by decide) (Nat.le_of_ble_eq_true rfl) ?_
  intro p9 e9 s9 m9 args9 below9 meth9 c9 F hr9 hl9 hin9 hargs9 hts9
  rw [fX6_byteAt] at h
  refine g_lv (lv' := [(0, .ref (ev 0 + 7)), (1, .int l1)]) ⟨rfl, rfl, trivial⟩ ?_
  refine g_iload_n (i := 1) F dX6_byteAt_0 rfl rfl ?_
  refine g_if_lt (tgt := 30) F dX6_byteAt_1 (by decide) h (fun a5 h => ?_) (fun a5 h => ?_)
  · refine g_iconst F dX6_byteAt_30 (v := -1) (by decide) ?_
    exact g_iret F hr9 rfl hl9 (Option.some.inj h) rfl (by decide) (by decide) dX6_byteAt_31
  · refine g_iload_n (i := 1) F dX6_byteAt_4 rfl rfl ?_
    refine g_aload_n (i := 0) F dX6_byteAt_5 rfl rfl ?_
    refine g_get_6_1 F rfl (kd_lit (by decide)) wd_4_0 dX6_byteAt_6 ?_
    refine g_icmp_ge (tgt := 30) F dX6_byteAt_9 (by decide) h (fun a4 h => ?_) (fun a4 h => ?_)
    · refine g_iconst F dX6_byteAt_30 (v := -1) (by decide) ?_
      exact g_iret F hr9 rfl hl9 (Option.some.inj h) rfl (by decide) (by decide) dX6_byteAt_31
    · refine g_iload_n (i := 1) F dX6_byteAt_12 rfl rfl ?_
      refine g_aload_n (i := 0) F dX6_byteAt_13 rfl rfl ?_
      refine g_get_6_0 F rfl (kd_lit (by decide)) wd_3_23 dX6_byteAt_14 ?_
      refine g_alX (n := 160) F rfl rfl dX6_byteAt_17 ?_
      refine g_icmp_ge (tgt := 30) F dX6_byteAt_18 (by decide) h (fun a3 h => ?_) (fun a3 h => ?_)
      · refine g_iconst F dX6_byteAt_30 (v := -1) (by decide) ?_
        exact g_iret F hr9 rfl hl9 (Option.some.inj h) rfl (by decide) (by decide) dX6_byteAt_31
      · refine g_aload_n (i := 0) F dX6_byteAt_21 rfl rfl ?_
        refine g_get_6_0 F rfl (kd_lit (by decide)) wd_3_23 dX6_byteAt_22 ?_
        refine g_iload_n (i := 1) F dX6_byteAt_25 rfl rfl ?_
        obtain ⟨v1, e2, h⟩ := bind_at h
        refine g_ildX F rfl rfl e2 dX6_byteAt_26 ?_
        refine g_goto (tgt := 31) F dX6_byteAt_27 (by decide) ?_
        exact g_iret F hr9 rfl hl9 (Option.some.inj h) rfl (by decide) (by decide) dX6_byteAt_31
def fX6_isDigit (l0 : Int32) : Int32 :=
  (fX9_within l0 (48 : Int32) (57 : Int32))
set_option maxRecDepth 100000 in
set_option maxHeartbeats 4000000 in
theorem c_X6_isDigit {l : Launch} {s0 : State} {D : va_G} {ev : Nat → Nat} (G0 : Gl s0 D ev) {X : XW} {M : MW} {nb : Nat} {l0 : Int32} {r' : Int32}  (h : fX6_isDigit l0 = r') : CT l s0 D ev yX6_isDigit cX6_isDigit 1 (some .boolean) 1 0 0 [.int l0] (cells ev X M nb) (QI s0 D ev r' (cells ev X M nb)) := by
  refine ct_of G0 (by decide) (Nat.le_of_ble_eq_true rfl) ?_
  intro p9 e9 s9 m9 args9 below9 meth9 c9 F hr9 hl9 hin9 hargs9 hts9
  rw [fX6_isDigit] at h
  refine g_lv (lv' := [(0, .int l0)]) ⟨rfl, trivial⟩ ?_
  refine g_iload_n (i := 0) F dX6_isDigit_0 rfl rfl ?_
  refine g_bipush F dX6_isDigit_1 (v := 48) (by decide) ?_
  refine g_bipush F dX6_isDigit_3 (v := 57) (by decide) ?_
  refine g_callSNI F (mcR := 0) (msR := 0) (c_X9_within G0 (X := X) (M := M) (nb := nb) rfl) wd_9_7 (List.mem_of_getElem? (l := nwL) (i := 2) rfl) wd_9_6 wd_1_2 ⟨by decide, by decide⟩ (nn := 3) (by decide) (As := [.int l0, .int (48 : Int32), .int (57 : Int32)]) rfl rfl (Nat.le_of_ble_eq_true rfl) (by decide) (by decide) ⟨by decide, by decide⟩ dX6_isDigit_5 ?_
  exact g_iret F hr9 (nar_b b_X9_within) hl9 h rfl (by decide) (by decide) dX6_isDigit_8
theorem b_X6_isDigit {l0 : Int32} : (fX6_isDigit l0) = 0 ∨ (fX6_isDigit l0) = 1 := by
  unfold fX6_isDigit
  (repeat' split) <;> first | exact Or.inl rfl | exact Or.inr rfl | exact b_X9_within
def fX6_readNumber_b98 (X : XW) (t1 : Int32) : Option (XW) :=
  bd (xI X 7 5 t1) fun X3 =>
  some X3
def fX6_readNumber_b79 (X : XW) : Option (XW) :=
  if ((X.1 7 3) - (X.1 7 4)) ≤ (4 : Int32) then fX6_readNumber_b98 X (2 : Int32)
  else fX6_readNumber_b98 X (1 : Int32)
def fX6_readNumber_b60 (K7 : XW → Int32 → Option (XW)) (X : XW) (l1 : Int32) (t1 : Int32) : Option (XW) :=
  bd (xI X 7 6 t1) fun X10 =>
  bd (xI X10 7 3 ((X10.1 7 3) + (1 : Int32))) fun X12 =>
  K7 X12 (l1 + (1 : Int32))
def fX6_readNumber_l7 (K7 : XW → Int32 → Option (XW)) (X : XW) (l1 : Int32) : Option (XW) :=
  if (160 : Int32) ≤ l1 then fX6_readNumber_b79 X
  else (fX6_byteAt X (X.1 7 3)).bind fun v6 =>
  if (fX6_isDigit v6) = 0 then fX6_readNumber_b79 X
  else if (4 : Int32) ≤ l1 then fX6_readNumber_b60 K7 X l1 (X.1 7 6)
  else (fX6_byteAt X (X.1 7 3)).bind fun v14 =>
  fX6_readNumber_b60 K7 X l1 ((((10 : Int32) * (X.1 7 6)) + v14) - (48 : Int32))
def fX6_readNumber (X : XW) : Option (XW) :=
  bd (xI X 7 6 (0 : Int32)) fun X1 =>
  lo2 (fX6_readNumber_l7) FU X1 (0 : Int32)
set_option maxRecDepth 100000 in
set_option maxHeartbeats 4000000 in
theorem c_X6_readNumber {l : Launch} {s0 : State} {D : va_G} {ev : Nat → Nat} (G0 : Gl s0 D ev) {X : XW} {M : MW} {nb : Nat}  {X' : XW}  (h : fX6_readNumber X = some (X')) : CT l s0 D ev yX6_readNumber cX6_readNumber 2 none 2 0 0 [.ref (ev 0 + 7)] (cells ev X M nb) (QV s0 D ev (cells ev X' M nb)) := by
  refine ct_of G0 (by decide) (Nat.le_of_ble_eq_true rfl) ?_
  intro p9 e9 s9 m9 args9 below9 meth9 c9 F hr9 hl9 hin9 hargs9 hts9
  have U98 : ∀ (X : XW) (t1 : Int32), fX6_readNumber_b98 X t1 = some (X') → GJ p9 l e9 (rg 2 0 0) s9 m9 args9 below9 meth9 c9 (MQ below9 (QV s0 D ev (cells ev X' M nb)) args9 s9 0 0 (frA ev)) s0 D ev 2 0 0 98 [] (.int t1 :: .ref (ev 0 + 7) :: []) (cells ev X M nb) := by
    intro X t1 h
    rw [fX6_readNumber_b98] at h
    obtain ⟨X3, e4, h⟩ := bd_at h
    refine g_put_6_5 F rfl (kd_lit (by decide)) wd_4_4 dX6_readNumber_98 ?_
    rw [← e4]
    exact g_vret F hr9 hl9 (by rw [Option.some.inj h]) (by decide) (by decide) dX6_readNumber_101
  have U79 : ∀ (X : XW), fX6_readNumber_b79 X = some (X') → GJ p9 l e9 (rg 2 0 0) s9 m9 args9 below9 meth9 c9 (MQ below9 (QV s0 D ev (cells ev X' M nb)) args9 s9 0 0 (frA ev)) s0 D ev 2 0 0 79 [(0, .ref (ev 0 + 7))] ([]) (cells ev X M nb) := by
    intro X h
    rw [fX6_readNumber_b79] at h
    refine g_aload_n (i := 0) F dX6_readNumber_79 rfl rfl ?_
    refine g_aload_n (i := 0) F dX6_readNumber_80 rfl rfl ?_
    refine g_get_6_3 F rfl (kd_lit (by decide)) wd_4_2 dX6_readNumber_81 ?_
    refine g_aload_n (i := 0) F dX6_readNumber_84 rfl rfl ?_
    refine g_get_6_4 F rfl (kd_lit (by decide)) wd_4_3 dX6_readNumber_85 ?_
    refine g_isub F dX6_readNumber_88 ?_
    refine g_iconst F dX6_readNumber_89 (v := 4) (by decide) ?_
    refine g_icmp_le (tgt := 97) F dX6_readNumber_90 (by decide) h (fun a5 h => ?_) (fun a5 h => ?_)
    · refine g_iconst F dX6_readNumber_97 (v := 2) (by decide) ?_
      refine g_lv (lv' := []) trivial ?_
      exact U98 _ _ h
    · refine g_iconst F dX6_readNumber_93 (v := 1) (by decide) ?_
      refine g_goto (tgt := 98) F dX6_readNumber_94 (by decide) ?_
      refine g_lv (lv' := []) trivial ?_
      exact U98 _ _ h
  have L7 : ∀  (N7 : Nat) (X : XW) (l1 : Int32), lo2 (fX6_readNumber_l7) N7 X l1 = some (X') → GJ p9 l e9 (rg 2 0 0) s9 m9 args9 below9 meth9 c9 (MQ below9 (QV s0 D ev (cells ev X' M nb)) args9 s9 0 0 (frA ev)) s0 D ev 2 0 0 7 [(0, .ref (ev 0 + 7)), (1, .int l1)] ([]) (cells ev X M nb) := by
    intro  N7
    induction N7 with
    | zero => intro X l1 h; cases h
    | succ N7 ih7 =>
      have U60 : ∀ (X : XW) (l1 : Int32) (t1 : Int32), fX6_readNumber_b60 (lo2 (fX6_readNumber_l7) N7) X l1 t1 = some (X') → GJ p9 l e9 (rg 2 0 0) s9 m9 args9 below9 meth9 c9 (MQ below9 (QV s0 D ev (cells ev X' M nb)) args9 s9 0 0 (frA ev)) s0 D ev 2 0 0 60 [(0, .ref (ev 0 + 7)), (1, .int l1)] (.int t1 :: .ref (ev 0 + 7) :: []) (cells ev X M nb) := by
        intro X l1 t1 h
        rw [fX6_readNumber_b60] at h
        obtain ⟨X10, e11, h⟩ := bd_at h
        refine g_put_6_6 F rfl (kd_lit (by decide)) wd_4_5 dX6_readNumber_60 ?_
        rw [← e11]
        refine g_aload_n (i := 0) F dX6_readNumber_63 rfl rfl ?_
        refine g_dup F dX6_readNumber_64 rfl ?_
        refine g_get_6_3 F rfl (kd_lit (by decide)) wd_4_2 dX6_readNumber_65 ?_
        refine g_iconst F dX6_readNumber_68 (v := 1) (by decide) ?_
        refine g_iadd F dX6_readNumber_69 ?_
        obtain ⟨X12, e13, h⟩ := bd_at h
        refine g_put_6_3 F rfl (kd_lit (by decide)) wd_4_2 dX6_readNumber_70 ?_
        rw [← e13]
        refine g_iinc (i := 1) (v := (l1 + (1 : Int32))) (lv' := [(1, .int (l1 + (1 : Int32))), (0, .ref (ev 0 + 7))]) F dX6_readNumber_73 rfl rfl (by decide) rfl ?_
        refine g_goto (tgt := 7) F dX6_readNumber_76 (by decide) ?_
        refine g_lv (lv' := [(0, .ref (ev 0 + 7)), (1, .int (l1 + (1 : Int32)))]) ⟨rfl, rfl, trivial⟩ ?_
        exact ih7 _ _ h
      intro X l1 h
      change fX6_readNumber_l7 (lo2 (fX6_readNumber_l7) N7) X l1 = some (X') at h
      rw [fX6_readNumber_l7] at h
      refine g_iload_n (i := 1) F dX6_readNumber_7 rfl rfl ?_
      refine g_sipush F dX6_readNumber_8 (v := 160) (by decide) ?_
      refine g_icmp_ge (tgt := 79) F dX6_readNumber_11 (by decide) h (fun a18 h => ?_) (fun a18 h => ?_)
      · refine g_lv (lv' := [(0, .ref (ev 0 + 7))]) ⟨rfl, trivial⟩ ?_
        exact U79 _ h
      · refine g_aload_n (i := 0) F dX6_readNumber_14 rfl rfl ?_
        refine g_aload_n (i := 0) F dX6_readNumber_15 rfl rfl ?_
        refine g_get_6_3 F rfl (kd_lit (by decide)) wd_4_2 dX6_readNumber_16 ?_
        obtain ⟨v6, e7, h⟩ := bind_at h
        refine g_callVI F (mcR := 0) (msR := 0) (id := 7) (cells_at (kd_lit (i := 7) (by decide)) (xc_6 rfl)) (ci := 6) rfl rfl rfl (c_X6_byteAt G0 e7) wd_9_2 wd_8_23 wd_9_0 wd_9_1 wd_1_18 ⟨by decide, by decide⟩ (nn := 1) (by decide) (As := [.int (X.1 7 3)]) rfl rfl (Nat.le_of_ble_eq_true rfl) (by decide) (by decide) ⟨by decide, by decide⟩ dX6_readNumber_19 ?_
        refine g_callSI F (mcR := 0) (msR := 0) (c_X6_isDigit G0 (X := X) (M := M) (nb := nb) rfl) wd_9_5 wd_9_3 wd_9_4 wd_1_18 ⟨by decide, by decide⟩ (nn := 1) (by decide) (As := [.int v6]) rfl rfl (Nat.le_of_ble_eq_true rfl) (by decide) (by decide) ⟨by decide, by decide⟩ dX6_readNumber_22 ?_
        refine g_if_eq (tgt := 79) F dX6_readNumber_25 (by decide) h (fun a17 h => ?_) (fun a17 h => ?_)
        · refine g_lv (lv' := [(0, .ref (ev 0 + 7))]) ⟨rfl, trivial⟩ ?_
          exact U79 _ h
        · refine g_aload_n (i := 0) F dX6_readNumber_28 rfl rfl ?_
          refine g_iload_n (i := 1) F dX6_readNumber_29 rfl rfl ?_
          refine g_iconst F dX6_readNumber_30 (v := 4) (by decide) ?_
          refine g_icmp_ge (tgt := 56) F dX6_readNumber_31 (by decide) h (fun a16 h => ?_) (fun a16 h => ?_)
          · refine g_aload_n (i := 0) F dX6_readNumber_56 rfl rfl ?_
            refine g_get_6_6 F rfl (kd_lit (by decide)) wd_4_5 dX6_readNumber_57 ?_
            refine g_lv (lv' := [(0, .ref (ev 0 + 7)), (1, .int l1)]) ⟨rfl, rfl, trivial⟩ ?_
            exact U60 _ _ _ h
          · refine g_bipush F dX6_readNumber_34 (v := 10) (by decide) ?_
            refine g_aload_n (i := 0) F dX6_readNumber_36 rfl rfl ?_
            refine g_get_6_6 F rfl (kd_lit (by decide)) wd_4_5 dX6_readNumber_37 ?_
            refine g_imul F dX6_readNumber_40 ?_
            refine g_aload_n (i := 0) F dX6_readNumber_41 rfl rfl ?_
            refine g_aload_n (i := 0) F dX6_readNumber_42 rfl rfl ?_
            refine g_get_6_3 F rfl (kd_lit (by decide)) wd_4_2 dX6_readNumber_43 ?_
            obtain ⟨v14, e15, h⟩ := bind_at h
            refine g_callVI F (mcR := 0) (msR := 0) (id := 7) (cells_at (kd_lit (i := 7) (by decide)) (xc_6 rfl)) (ci := 6) rfl rfl rfl (c_X6_byteAt G0 e15) wd_9_2 wd_8_23 wd_9_0 wd_9_1 wd_1_18 ⟨by decide, by decide⟩ (nn := 1) (by decide) (As := [.int (X.1 7 3)]) rfl rfl (Nat.le_of_ble_eq_true rfl) (by decide) (by decide) ⟨by decide, by decide⟩ dX6_readNumber_46 ?_
            refine g_iadd F dX6_readNumber_49 ?_
            refine g_bipush F dX6_readNumber_50 (v := 48) (by decide) ?_
            refine g_isub F dX6_readNumber_52 ?_
            refine g_goto (tgt := 60) F dX6_readNumber_53 (by decide) ?_
            refine g_lv (lv' := [(0, .ref (ev 0 + 7)), (1, .int l1)]) ⟨rfl, rfl, trivial⟩ ?_
            exact U60 _ _ _ h
  rw [fX6_readNumber] at h
  refine g_lv (lv' := [(0, .ref (ev 0 + 7))]) ⟨rfl, trivial⟩ ?_
  refine g_aload_n (i := 0) F dX6_readNumber_0 rfl rfl ?_
  refine g_iconst F dX6_readNumber_1 (v := 0) (by decide) ?_
  obtain ⟨X1, e2, h⟩ := bd_at h
  refine g_put_6_6 F rfl (kd_lit (by decide)) wd_4_5 dX6_readNumber_2 ?_
  rw [← e2]
  refine g_iconst F dX6_readNumber_5 (v := 0) (by decide) ?_
  refine g_istore_n (i := 1) (lv' := [(1, .int (0 : Int32)), (0, .ref (ev 0 + 7))]) F dX6_readNumber_6 rfl (by decide) rfl ?_
  refine g_lv (lv' := [(0, .ref (ev 0 + 7)), (1, .int (0 : Int32))]) ⟨rfl, rfl, trivial⟩ ?_
  exact L7 FU _ _ h
def fX6_isLetter (l0 : Int32) : Int32 :=
  (fX9_within l0 (97 : Int32) (122 : Int32))
set_option maxRecDepth 100000 in
set_option maxHeartbeats 4000000 in
theorem c_X6_isLetter {l : Launch} {s0 : State} {D : va_G} {ev : Nat → Nat} (G0 : Gl s0 D ev) {X : XW} {M : MW} {nb : Nat} {l0 : Int32} {r' : Int32}  (h : fX6_isLetter l0 = r') : CT l s0 D ev yX6_isLetter cX6_isLetter 1 (some .boolean) 1 0 0 [.int l0] (cells ev X M nb) (QI s0 D ev r' (cells ev X M nb)) := by
  refine ct_of G0 (by decide) (Nat.le_of_ble_eq_true rfl) ?_
  intro p9 e9 s9 m9 args9 below9 meth9 c9 F hr9 hl9 hin9 hargs9 hts9
  rw [fX6_isLetter] at h
  refine g_lv (lv' := [(0, .int l0)]) ⟨rfl, trivial⟩ ?_
  refine g_iload_n (i := 0) F dX6_isLetter_0 rfl rfl ?_
  refine g_bipush F dX6_isLetter_1 (v := 97) (by decide) ?_
  refine g_bipush F dX6_isLetter_3 (v := 122) (by decide) ?_
  refine g_callSNI F (mcR := 0) (msR := 0) (c_X9_within G0 (X := X) (M := M) (nb := nb) rfl) wd_9_7 (List.mem_of_getElem? (l := nwL) (i := 2) rfl) wd_9_6 wd_1_2 ⟨by decide, by decide⟩ (nn := 3) (by decide) (As := [.int l0, .int (97 : Int32), .int (122 : Int32)]) rfl rfl (Nat.le_of_ble_eq_true rfl) (by decide) (by decide) ⟨by decide, by decide⟩ dX6_isLetter_5 ?_
  exact g_iret F hr9 (nar_b b_X9_within) hl9 h rfl (by decide) (by decide) dX6_isLetter_8
theorem b_X6_isLetter {l0 : Int32} : (fX6_isLetter l0) = 0 ∨ (fX6_isLetter l0) = 1 := by
  unfold fX6_isLetter
  (repeat' split) <;> first | exact Or.inl rfl | exact Or.inr rfl | exact b_X9_within
def fX6_signOf (l0 : Int32) : Int32 :=
  if l0 = (40 : Int32) then (3 : Int32)
  else if l0 = (41 : Int32) then (4 : Int32)
  else if l0 = (42 : Int32) then (8 : Int32)
  else if l0 = (43 : Int32) then (6 : Int32)
  else if l0 = (44 : Int32) then (1 : Int32)
  else if l0 = (45 : Int32) then (7 : Int32)
  else if l0 = (46 : Int32) then (1 : Int32)
  else if l0 = (47 : Int32) then (1 : Int32)
  else if l0 = (48 : Int32) then (1 : Int32)
  else if l0 = (49 : Int32) then (1 : Int32)
  else if l0 = (50 : Int32) then (1 : Int32)
  else if l0 = (51 : Int32) then (1 : Int32)
  else if l0 = (52 : Int32) then (1 : Int32)
  else if l0 = (53 : Int32) then (1 : Int32)
  else if l0 = (54 : Int32) then (1 : Int32)
  else if l0 = (55 : Int32) then (1 : Int32)
  else if l0 = (56 : Int32) then (1 : Int32)
  else if l0 = (57 : Int32) then (1 : Int32)
  else if l0 = (58 : Int32) then (1 : Int32)
  else if l0 = (59 : Int32) then (5 : Int32)
  else if l0 = (60 : Int32) then (9 : Int32)
  else if l0 = (61 : Int32) then (10 : Int32)
  else (1 : Int32)
set_option maxRecDepth 100000 in
set_option maxHeartbeats 4000000 in
theorem c_X6_signOf {l : Launch} {s0 : State} {D : va_G} {ev : Nat → Nat} (G0 : Gl s0 D ev) {X : XW} {M : MW} {nb : Nat} {l0 : Int32} {r' : Int32}  (h : fX6_signOf l0 = r') : CT l s0 D ev yX6_signOf cX6_signOf 1 (some .int) 0 0 0 [.int l0] (cells ev X M nb) (QI s0 D ev r' (cells ev X M nb)) := by
  refine ct_of G0 (by decide) (Nat.le_of_ble_eq_true rfl) ?_
  intro p9 e9 s9 m9 args9 below9 meth9 c9 F hr9 hl9 hin9 hargs9 hts9
  rw [fX6_signOf] at h
  refine g_lv (lv' := [(0, .int l0)]) ⟨rfl, trivial⟩ ?_
  refine g_iload_n (i := 0) F dX6_signOf_0 rfl rfl ?_
  refine ite_at h (fun a1 h => ?_) (fun a1 h => ?_)
  · refine g_tsw (k := 40) (off := 103) (tgt := 104) F a1 dX6_signOf_1 (by decide) (by decide) (by decide) (by decide) ?_
    refine g_iconst F dX6_signOf_104 (v := 3) (by decide) ?_
    exact g_iret F hr9 rfl hl9 h rfl (by decide) (by decide) dX6_signOf_105
  · refine ite_at h (fun a2 h => ?_) (fun a2 h => ?_)
    · refine g_tsw (k := 41) (off := 105) (tgt := 106) F a2 dX6_signOf_1 (by decide) (by decide) (by decide) (by decide) ?_
      refine g_iconst F dX6_signOf_106 (v := 4) (by decide) ?_
      exact g_iret F hr9 rfl hl9 h rfl (by decide) (by decide) dX6_signOf_107
    · refine ite_at h (fun a3 h => ?_) (fun a3 h => ?_)
      · refine g_tsw (k := 42) (off := 115) (tgt := 116) F a3 dX6_signOf_1 (by decide) (by decide) (by decide) (by decide) ?_
        refine g_bipush F dX6_signOf_116 (v := 8) (by decide) ?_
        exact g_iret F hr9 rfl hl9 h rfl (by decide) (by decide) dX6_signOf_118
      · refine ite_at h (fun a4 h => ?_) (fun a4 h => ?_)
        · refine g_tsw (k := 43) (off := 109) (tgt := 110) F a4 dX6_signOf_1 (by decide) (by decide) (by decide) (by decide) ?_
          refine g_bipush F dX6_signOf_110 (v := 6) (by decide) ?_
          exact g_iret F hr9 rfl hl9 h rfl (by decide) (by decide) dX6_signOf_112
        · refine ite_at h (fun a5 h => ?_) (fun a5 h => ?_)
          · refine g_tsw (k := 44) (off := 124) (tgt := 125) F a5 dX6_signOf_1 (by decide) (by decide) (by decide) (by decide) ?_
            refine g_iconst F dX6_signOf_125 (v := 1) (by decide) ?_
            exact g_iret F hr9 rfl hl9 h rfl (by decide) (by decide) dX6_signOf_126
          · refine ite_at h (fun a6 h => ?_) (fun a6 h => ?_)
            · refine g_tsw (k := 45) (off := 112) (tgt := 113) F a6 dX6_signOf_1 (by decide) (by decide) (by decide) (by decide) ?_
              refine g_bipush F dX6_signOf_113 (v := 7) (by decide) ?_
              exact g_iret F hr9 rfl hl9 h rfl (by decide) (by decide) dX6_signOf_115
            · refine ite_at h (fun a7 h => ?_) (fun a7 h => ?_)
              · refine g_tsw (k := 46) (off := 124) (tgt := 125) F a7 dX6_signOf_1 (by decide) (by decide) (by decide) (by decide) ?_
                refine g_iconst F dX6_signOf_125 (v := 1) (by decide) ?_
                exact g_iret F hr9 rfl hl9 h rfl (by decide) (by decide) dX6_signOf_126
              · refine ite_at h (fun a8 h => ?_) (fun a8 h => ?_)
                · refine g_tsw (k := 47) (off := 124) (tgt := 125) F a8 dX6_signOf_1 (by decide) (by decide) (by decide) (by decide) ?_
                  refine g_iconst F dX6_signOf_125 (v := 1) (by decide) ?_
                  exact g_iret F hr9 rfl hl9 h rfl (by decide) (by decide) dX6_signOf_126
                · refine ite_at h (fun a9 h => ?_) (fun a9 h => ?_)
                  · refine g_tsw (k := 48) (off := 124) (tgt := 125) F a9 dX6_signOf_1 (by decide) (by decide) (by decide) (by decide) ?_
                    refine g_iconst F dX6_signOf_125 (v := 1) (by decide) ?_
                    exact g_iret F hr9 rfl hl9 h rfl (by decide) (by decide) dX6_signOf_126
                  · refine ite_at h (fun a10 h => ?_) (fun a10 h => ?_)
                    · refine g_tsw (k := 49) (off := 124) (tgt := 125) F a10 dX6_signOf_1 (by decide) (by decide) (by decide) (by decide) ?_
                      refine g_iconst F dX6_signOf_125 (v := 1) (by decide) ?_
                      exact g_iret F hr9 rfl hl9 h rfl (by decide) (by decide) dX6_signOf_126
                    · refine ite_at h (fun a11 h => ?_) (fun a11 h => ?_)
                      · refine g_tsw (k := 50) (off := 124) (tgt := 125) F a11 dX6_signOf_1 (by decide) (by decide) (by decide) (by decide) ?_
                        refine g_iconst F dX6_signOf_125 (v := 1) (by decide) ?_
                        exact g_iret F hr9 rfl hl9 h rfl (by decide) (by decide) dX6_signOf_126
                      · refine ite_at h (fun a12 h => ?_) (fun a12 h => ?_)
                        · refine g_tsw (k := 51) (off := 124) (tgt := 125) F a12 dX6_signOf_1 (by decide) (by decide) (by decide) (by decide) ?_
                          refine g_iconst F dX6_signOf_125 (v := 1) (by decide) ?_
                          exact g_iret F hr9 rfl hl9 h rfl (by decide) (by decide) dX6_signOf_126
                        · refine ite_at h (fun a13 h => ?_) (fun a13 h => ?_)
                          · refine g_tsw (k := 52) (off := 124) (tgt := 125) F a13 dX6_signOf_1 (by decide) (by decide) (by decide) (by decide) ?_
                            refine g_iconst F dX6_signOf_125 (v := 1) (by decide) ?_
                            exact g_iret F hr9 rfl hl9 h rfl (by decide) (by decide) dX6_signOf_126
                          · refine ite_at h (fun a14 h => ?_) (fun a14 h => ?_)
                            · refine g_tsw (k := 53) (off := 124) (tgt := 125) F a14 dX6_signOf_1 (by decide) (by decide) (by decide) (by decide) ?_
                              refine g_iconst F dX6_signOf_125 (v := 1) (by decide) ?_
                              exact g_iret F hr9 rfl hl9 h rfl (by decide) (by decide) dX6_signOf_126
                            · refine ite_at h (fun a15 h => ?_) (fun a15 h => ?_)
                              · refine g_tsw (k := 54) (off := 124) (tgt := 125) F a15 dX6_signOf_1 (by decide) (by decide) (by decide) (by decide) ?_
                                refine g_iconst F dX6_signOf_125 (v := 1) (by decide) ?_
                                exact g_iret F hr9 rfl hl9 h rfl (by decide) (by decide) dX6_signOf_126
                              · refine ite_at h (fun a16 h => ?_) (fun a16 h => ?_)
                                · refine g_tsw (k := 55) (off := 124) (tgt := 125) F a16 dX6_signOf_1 (by decide) (by decide) (by decide) (by decide) ?_
                                  refine g_iconst F dX6_signOf_125 (v := 1) (by decide) ?_
                                  exact g_iret F hr9 rfl hl9 h rfl (by decide) (by decide) dX6_signOf_126
                                · refine ite_at h (fun a17 h => ?_) (fun a17 h => ?_)
                                  · refine g_tsw (k := 56) (off := 124) (tgt := 125) F a17 dX6_signOf_1 (by decide) (by decide) (by decide) (by decide) ?_
                                    refine g_iconst F dX6_signOf_125 (v := 1) (by decide) ?_
                                    exact g_iret F hr9 rfl hl9 h rfl (by decide) (by decide) dX6_signOf_126
                                  · refine ite_at h (fun a18 h => ?_) (fun a18 h => ?_)
                                    · refine g_tsw (k := 57) (off := 124) (tgt := 125) F a18 dX6_signOf_1 (by decide) (by decide) (by decide) (by decide) ?_
                                      refine g_iconst F dX6_signOf_125 (v := 1) (by decide) ?_
                                      exact g_iret F hr9 rfl hl9 h rfl (by decide) (by decide) dX6_signOf_126
                                    · refine ite_at h (fun a19 h => ?_) (fun a19 h => ?_)
                                      · refine g_tsw (k := 58) (off := 124) (tgt := 125) F a19 dX6_signOf_1 (by decide) (by decide) (by decide) (by decide) ?_
                                        refine g_iconst F dX6_signOf_125 (v := 1) (by decide) ?_
                                        exact g_iret F hr9 rfl hl9 h rfl (by decide) (by decide) dX6_signOf_126
                                      · refine ite_at h (fun a20 h => ?_) (fun a20 h => ?_)
                                        · refine g_tsw (k := 59) (off := 107) (tgt := 108) F a20 dX6_signOf_1 (by decide) (by decide) (by decide) (by decide) ?_
                                          refine g_iconst F dX6_signOf_108 (v := 5) (by decide) ?_
                                          exact g_iret F hr9 rfl hl9 h rfl (by decide) (by decide) dX6_signOf_109
                                        · refine ite_at h (fun a21 h => ?_) (fun a21 h => ?_)
                                          · refine g_tsw (k := 60) (off := 118) (tgt := 119) F a21 dX6_signOf_1 (by decide) (by decide) (by decide) (by decide) ?_
                                            refine g_bipush F dX6_signOf_119 (v := 9) (by decide) ?_
                                            exact g_iret F hr9 rfl hl9 h rfl (by decide) (by decide) dX6_signOf_121
                                          · refine ite_at h (fun a22 h => ?_) (fun a22 h => ?_)
                                            · refine g_tsw (k := 61) (off := 121) (tgt := 122) F a22 dX6_signOf_1 (by decide) (by decide) (by decide) (by decide) ?_
                                              refine g_bipush F dX6_signOf_122 (v := 10) (by decide) ?_
                                              exact g_iret F hr9 rfl hl9 h rfl (by decide) (by decide) dX6_signOf_124
                                            · have q0 : l0.toInt ≠ 40 := fun q => a1 (Int32.toInt_inj.mp (q.trans (by decide)))
                                              have q1 : l0.toInt ≠ 41 := fun q => a2 (Int32.toInt_inj.mp (q.trans (by decide)))
                                              have q2 : l0.toInt ≠ 42 := fun q => a3 (Int32.toInt_inj.mp (q.trans (by decide)))
                                              have q3 : l0.toInt ≠ 43 := fun q => a4 (Int32.toInt_inj.mp (q.trans (by decide)))
                                              have q4 : l0.toInt ≠ 44 := fun q => a5 (Int32.toInt_inj.mp (q.trans (by decide)))
                                              have q5 : l0.toInt ≠ 45 := fun q => a6 (Int32.toInt_inj.mp (q.trans (by decide)))
                                              have q6 : l0.toInt ≠ 46 := fun q => a7 (Int32.toInt_inj.mp (q.trans (by decide)))
                                              have q7 : l0.toInt ≠ 47 := fun q => a8 (Int32.toInt_inj.mp (q.trans (by decide)))
                                              have q8 : l0.toInt ≠ 48 := fun q => a9 (Int32.toInt_inj.mp (q.trans (by decide)))
                                              have q9 : l0.toInt ≠ 49 := fun q => a10 (Int32.toInt_inj.mp (q.trans (by decide)))
                                              have q10 : l0.toInt ≠ 50 := fun q => a11 (Int32.toInt_inj.mp (q.trans (by decide)))
                                              have q11 : l0.toInt ≠ 51 := fun q => a12 (Int32.toInt_inj.mp (q.trans (by decide)))
                                              have q12 : l0.toInt ≠ 52 := fun q => a13 (Int32.toInt_inj.mp (q.trans (by decide)))
                                              have q13 : l0.toInt ≠ 53 := fun q => a14 (Int32.toInt_inj.mp (q.trans (by decide)))
                                              have q14 : l0.toInt ≠ 54 := fun q => a15 (Int32.toInt_inj.mp (q.trans (by decide)))
                                              have q15 : l0.toInt ≠ 55 := fun q => a16 (Int32.toInt_inj.mp (q.trans (by decide)))
                                              have q16 : l0.toInt ≠ 56 := fun q => a17 (Int32.toInt_inj.mp (q.trans (by decide)))
                                              have q17 : l0.toInt ≠ 57 := fun q => a18 (Int32.toInt_inj.mp (q.trans (by decide)))
                                              have q18 : l0.toInt ≠ 58 := fun q => a19 (Int32.toInt_inj.mp (q.trans (by decide)))
                                              have q19 : l0.toInt ≠ 59 := fun q => a20 (Int32.toInt_inj.mp (q.trans (by decide)))
                                              have q20 : l0.toInt ≠ 60 := fun q => a21 (Int32.toInt_inj.mp (q.trans (by decide)))
                                              have q21 : l0.toInt ≠ 61 := fun q => a22 (Int32.toInt_inj.mp (q.trans (by decide)))
                                              refine g_tswd (tgt := 125) F (by omega) dX6_signOf_1 (by decide) ?_
                                              refine g_iconst F dX6_signOf_125 (v := 1) (by decide) ?_
                                              exact g_iret F hr9 rfl hl9 h rfl (by decide) (by decide) dX6_signOf_126
def fX6_emit (X : XW) (l1 : Int32) : Option (XW) :=
  bd (X.2.2 7 2) fun r1 =>
  (r1).bind fun b3 =>
  if kd b3 = 5 then (fX5_add X b3 ((20000 : Int32) + l1)).bind fun X6 =>
  some X6 else none
set_option maxRecDepth 100000 in
set_option maxHeartbeats 4000000 in
theorem c_X6_emit {l : Launch} {s0 : State} {D : va_G} {ev : Nat → Nat} (G0 : Gl s0 D ev) {X : XW} {M : MW} {nb : Nat} {l1 : Int32} {X' : XW}  (h : fX6_emit X l1 = some (X')) : CT l s0 D ev yX6_emit cX6_emit 2 none 1 0 0 [.ref (ev 0 + 7), .int l1] (cells ev X M nb) (QV s0 D ev (cells ev X' M nb)) := by
  refine ct_of G0 (by decide) (Nat.le_of_ble_eq_true rfl) ?_
  intro p9 e9 s9 m9 args9 below9 meth9 c9 F hr9 hl9 hin9 hargs9 hts9
  rw [fX6_emit] at h
  refine g_lv (lv' := [(0, .ref (ev 0 + 7)), (1, .int l1)]) ⟨rfl, rfl, trivial⟩ ?_
  refine g_aload_n (i := 0) F dX6_emit_0 rfl rfl ?_
  refine g_get_6_2 F rfl (kd_lit (by decide)) wd_4_1 dX6_emit_1 ?_
  obtain ⟨r1, e2, h⟩ := bd_at h
  rw [← e2]
  refine g_sipush F dX6_emit_4 (v := 20000) (by decide) ?_
  refine g_iload_n (i := 1) F dX6_emit_7 rfl rfl ?_
  refine g_iadd F dX6_emit_8 ?_
  obtain ⟨b3, e4, h⟩ := bind_at h
  rw [e4]
  obtain ⟨h5, h⟩ := if_at h
  obtain ⟨X6, e7, h⟩ := bind_at h
  refine g_callVV F (mcR := 0) (msR := 0) (id := b3) (cells_at (kd_hid h5 (by decide)) (xc_5 h5)) (ci := 5) rfl rfl rfl (c_X5_add G0 e7) wd_10_21 wd_10_18 wd_10_19 wd_10_20 wd_3_4 ⟨by decide, by decide⟩ (nn := 1) (by decide) (As := [.int ((20000 : Int32) + l1)]) rfl rfl (Nat.le_of_ble_eq_true rfl) (by decide) (by decide) ⟨by decide, by decide⟩ dX6_emit_9 ?_
  exact g_vret F hr9 hl9 (by rw [Option.some.inj h]) (by decide) (by decide) dX6_emit_12
def fX6_joins (l0 : Int32) (l1 : Int32) : Int32 :=
  if l1 = (0 : Int32) then if l0 = (29 : Int32) then (1 : Int32)
  else (0 : Int32)
  else if l1 = (1 : Int32) then if l0 = (30 : Int32) then (1 : Int32)
  else (0 : Int32)
  else if l1 = (2 : Int32) then if l0 = (9 : Int32) then (1 : Int32)
  else if l0 = (10 : Int32) then (1 : Int32)
  else (0 : Int32)
  else if l1 = (3 : Int32) then if l0 = (6 : Int32) then (1 : Int32)
  else if l0 = (7 : Int32) then (1 : Int32)
  else (0 : Int32)
  else if l1 = (4 : Int32) then if l0 = (8 : Int32) then (1 : Int32)
  else (0 : Int32)
  else (0 : Int32)
set_option maxRecDepth 100000 in
set_option maxHeartbeats 4000000 in
theorem c_X6_joins {l : Launch} {s0 : State} {D : va_G} {ev : Nat → Nat} (G0 : Gl s0 D ev) {X : XW} {M : MW} {nb : Nat} {l0 : Int32} {l1 : Int32} {r' : Int32}  (h : fX6_joins l0 l1 = r') : CT l s0 D ev yX6_joins cX6_joins 2 (some .boolean) 0 0 0 [.int l0, .int l1] (cells ev X M nb) (QI s0 D ev r' (cells ev X M nb)) := by
  refine ct_of G0 (by decide) (Nat.le_of_ble_eq_true rfl) ?_
  intro p9 e9 s9 m9 args9 below9 meth9 c9 F hr9 hl9 hin9 hargs9 hts9
  rw [fX6_joins] at h
  refine g_lv (lv' := [(0, .int l0), (1, .int l1)]) ⟨rfl, rfl, trivial⟩ ?_
  refine g_iload_n (i := 1) F dX6_joins_0 rfl rfl ?_
  refine ite_at h (fun a1 h => ?_) (fun a1 h => ?_)
  · refine g_tsw (k := 0) (off := 35) (tgt := 36) F a1 dX6_joins_1 (by decide) (by decide) (by decide) (by decide) ?_
    refine g_iload_n (i := 0) F dX6_joins_36 rfl rfl ?_
    refine g_bipush F dX6_joins_37 (v := 29) (by decide) ?_
    refine g_icmp_ne (tgt := 46) F dX6_joins_39 (by decide) h (fun a6 h => ?_) (fun a6 h => ?_)
    · refine g_iconst F dX6_joins_46 (v := 0) (by decide) ?_
      exact g_iret F hr9 (by decide) hl9 h rfl (by decide) (by decide) dX6_joins_47
    · refine g_iconst F dX6_joins_42 (v := 1) (by decide) ?_
      refine g_goto (tgt := 47) F dX6_joins_43 (by decide) ?_
      exact g_iret F hr9 (by decide) hl9 h rfl (by decide) (by decide) dX6_joins_47
  · refine ite_at h (fun a2 h => ?_) (fun a2 h => ?_)
    · refine g_tsw (k := 1) (off := 47) (tgt := 48) F a2 dX6_joins_1 (by decide) (by decide) (by decide) (by decide) ?_
      refine g_iload_n (i := 0) F dX6_joins_48 rfl rfl ?_
      refine g_bipush F dX6_joins_49 (v := 30) (by decide) ?_
      refine g_icmp_ne (tgt := 58) F dX6_joins_51 (by decide) h (fun a7 h => ?_) (fun a7 h => ?_)
      · refine g_iconst F dX6_joins_58 (v := 0) (by decide) ?_
        exact g_iret F hr9 (by decide) hl9 h rfl (by decide) (by decide) dX6_joins_59
      · refine g_iconst F dX6_joins_54 (v := 1) (by decide) ?_
        refine g_goto (tgt := 59) F dX6_joins_55 (by decide) ?_
        exact g_iret F hr9 (by decide) hl9 h rfl (by decide) (by decide) dX6_joins_59
    · refine ite_at h (fun a3 h => ?_) (fun a3 h => ?_)
      · refine g_tsw (k := 2) (off := 59) (tgt := 60) F a3 dX6_joins_1 (by decide) (by decide) (by decide) (by decide) ?_
        refine g_iload_n (i := 0) F dX6_joins_60 rfl rfl ?_
        refine g_bipush F dX6_joins_61 (v := 9) (by decide) ?_
        refine g_icmp_eq (tgt := 72) F dX6_joins_63 (by decide) h (fun a9 h => ?_) (fun a9 h => ?_)
        · refine g_iconst F dX6_joins_72 (v := 1) (by decide) ?_
          refine g_goto (tgt := 77) F dX6_joins_73 (by decide) ?_
          exact g_iret F hr9 (by decide) hl9 h rfl (by decide) (by decide) dX6_joins_77
        · refine g_iload_n (i := 0) F dX6_joins_66 rfl rfl ?_
          refine g_bipush F dX6_joins_67 (v := 10) (by decide) ?_
          refine g_icmp_ne (tgt := 76) F dX6_joins_69 (by decide) h (fun a8 h => ?_) (fun a8 h => ?_)
          · refine g_iconst F dX6_joins_76 (v := 0) (by decide) ?_
            exact g_iret F hr9 (by decide) hl9 h rfl (by decide) (by decide) dX6_joins_77
          · refine g_iconst F dX6_joins_72 (v := 1) (by decide) ?_
            refine g_goto (tgt := 77) F dX6_joins_73 (by decide) ?_
            exact g_iret F hr9 (by decide) hl9 h rfl (by decide) (by decide) dX6_joins_77
      · refine ite_at h (fun a4 h => ?_) (fun a4 h => ?_)
        · refine g_tsw (k := 3) (off := 77) (tgt := 78) F a4 dX6_joins_1 (by decide) (by decide) (by decide) (by decide) ?_
          refine g_iload_n (i := 0) F dX6_joins_78 rfl rfl ?_
          refine g_bipush F dX6_joins_79 (v := 6) (by decide) ?_
          refine g_icmp_eq (tgt := 90) F dX6_joins_81 (by decide) h (fun a11 h => ?_) (fun a11 h => ?_)
          · refine g_iconst F dX6_joins_90 (v := 1) (by decide) ?_
            refine g_goto (tgt := 95) F dX6_joins_91 (by decide) ?_
            exact g_iret F hr9 (by decide) hl9 h rfl (by decide) (by decide) dX6_joins_95
          · refine g_iload_n (i := 0) F dX6_joins_84 rfl rfl ?_
            refine g_bipush F dX6_joins_85 (v := 7) (by decide) ?_
            refine g_icmp_ne (tgt := 94) F dX6_joins_87 (by decide) h (fun a10 h => ?_) (fun a10 h => ?_)
            · refine g_iconst F dX6_joins_94 (v := 0) (by decide) ?_
              exact g_iret F hr9 (by decide) hl9 h rfl (by decide) (by decide) dX6_joins_95
            · refine g_iconst F dX6_joins_90 (v := 1) (by decide) ?_
              refine g_goto (tgt := 95) F dX6_joins_91 (by decide) ?_
              exact g_iret F hr9 (by decide) hl9 h rfl (by decide) (by decide) dX6_joins_95
        · refine ite_at h (fun a5 h => ?_) (fun a5 h => ?_)
          · refine g_tsw (k := 4) (off := 95) (tgt := 96) F a5 dX6_joins_1 (by decide) (by decide) (by decide) (by decide) ?_
            refine g_iload_n (i := 0) F dX6_joins_96 rfl rfl ?_
            refine g_bipush F dX6_joins_97 (v := 8) (by decide) ?_
            refine g_icmp_ne (tgt := 106) F dX6_joins_99 (by decide) h (fun a12 h => ?_) (fun a12 h => ?_)
            · refine g_iconst F dX6_joins_106 (v := 0) (by decide) ?_
              exact g_iret F hr9 (by decide) hl9 h rfl (by decide) (by decide) dX6_joins_107
            · refine g_iconst F dX6_joins_102 (v := 1) (by decide) ?_
              refine g_goto (tgt := 107) F dX6_joins_103 (by decide) ?_
              exact g_iret F hr9 (by decide) hl9 h rfl (by decide) (by decide) dX6_joins_107
          · have q0 : l1.toInt ≠ 0 := fun q => a1 (Int32.toInt_inj.mp (q.trans (by decide)))
            have q1 : l1.toInt ≠ 1 := fun q => a2 (Int32.toInt_inj.mp (q.trans (by decide)))
            have q2 : l1.toInt ≠ 2 := fun q => a3 (Int32.toInt_inj.mp (q.trans (by decide)))
            have q3 : l1.toInt ≠ 3 := fun q => a4 (Int32.toInt_inj.mp (q.trans (by decide)))
            have q4 : l1.toInt ≠ 4 := fun q => a5 (Int32.toInt_inj.mp (q.trans (by decide)))
            refine g_tswd (tgt := 108) F (by omega) dX6_joins_1 (by decide) ?_
            refine g_iconst F dX6_joins_108 (v := 0) (by decide) ?_
            exact g_iret F hr9 (by decide) hl9 h rfl (by decide) (by decide) dX6_joins_109
theorem b_X6_joins {l0 : Int32} {l1 : Int32} : (fX6_joins l0 l1) = 0 ∨ (fX6_joins l0 l1) = 1 := by
  unfold fX6_joins
  (repeat' split) <;> first | exact Or.inl rfl | exact Or.inr rfl
def fX7_pullOn (X : XW) (nb : Nat) (l1 : Nat) (l2 : Int32) (l3 : Int32) (l4 : Int32) : Option (Int32 × XW) :=
  (fX7_tell X nb l1 l2 l3 l4).bind fun X1 =>
  bd2 (fX7_says X1 (0 : Int32)) fun v4 X3 =>
  some (v4, X3)
set_option maxRecDepth 100000 in
set_option maxHeartbeats 4000000 in
theorem c_X7_pullOn {l : Launch} {s0 : State} {D : va_G} {ev : Nat → Nat} (G0 : Gl s0 D ev) {X : XW} {M : MW} {nb : Nat} {l1 : Nat} {l2 : Int32} {l3 : Int32} {l4 : Int32} {r' : Int32} {X' : XW}  (h : fX7_pullOn X nb l1 l2 l3 l4 = some (r', X')) : CT l s0 D ev yX7_pullOn cX7_pullOn 5 (some .int) 3 0 0 [.ref (ev 0 + 10), .ref (ev 0 + l1), .int l2, .int l3, .int l4] (cells ev X M nb) (QI s0 D ev r' (cells ev X' M nb)) := by
  refine ct_of G0 (by decide) (Nat.le_of_ble_eq_true rfl) ?_
  intro p9 e9 s9 m9 args9 below9 meth9 c9 F hr9 hl9 hin9 hargs9 hts9
  rw [fX7_pullOn] at h
  refine g_lv (lv' := [(0, .ref (ev 0 + 10)), (1, .ref (ev 0 + l1)), (2, .int l2), (3, .int l3), (4, .int l4)]) ⟨rfl, rfl, rfl, rfl, rfl, trivial⟩ ?_
  refine g_aload_n (i := 0) F dX7_pullOn_0 rfl rfl ?_
  refine g_aload_n (i := 1) F dX7_pullOn_1 rfl rfl ?_
  refine g_iload_n (i := 2) F dX7_pullOn_2 rfl rfl ?_
  refine g_iload_n (i := 3) F dX7_pullOn_3 rfl rfl ?_
  refine g_iload (i := 4) F dX7_pullOn_4 rfl ?_
  obtain ⟨X1, e2, h⟩ := bind_at h
  refine g_callVV F (mcR := 0) (msR := 0) (id := 10) (cells_at (kd_lit (i := 10) (by decide)) (xc_7 rfl)) (ci := 7) rfl rfl rfl (c_X7_tell G0 e2) wd_24_19 wd_24_16 wd_24_17 wd_24_18 wd_2_0 ⟨by decide, by decide⟩ (nn := 4) (by decide) (As := [.ref (ev 0 + l1), .int l2, .int l3, .int l4]) rfl rfl (Nat.le_of_ble_eq_true rfl) (by decide) (by decide) ⟨by decide, by decide⟩ dX7_pullOn_6 ?_
  refine g_aload_n (i := 0) F dX7_pullOn_9 rfl rfl ?_
  refine g_iconst F dX7_pullOn_10 (v := 0) (by decide) ?_
  obtain ⟨v4, X3, e5, h⟩ := bd2_at h
  refine g_callVI F (mcR := 0) (msR := 0) (id := 10) (cells_at (kd_lit (i := 10) (by decide)) (xc_7 rfl)) (ci := 7) rfl rfl rfl (c_X7_says G0 e5) wd_20_11 wd_25_0 wd_20_9 wd_20_10 wd_2_0 ⟨by decide, by decide⟩ (nn := 1) (by decide) (As := [.int (0 : Int32)]) rfl rfl (Nat.le_of_ble_eq_true rfl) (by decide) (by decide) ⟨by decide, by decide⟩ dX7_pullOn_11 ?_
  have hp := Prod.mk.inj (Option.some.inj h)
  exact g_iret F hr9 rfl hl9 hp.1 (by rw [hp.2]) (by decide) (by decide) dX7_pullOn_14

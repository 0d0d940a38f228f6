def fX0_hourRow (X : XW) (l1 : Int32) : Option Nat :=
  if l1 = (0 : Int32) then (some 4)
  else if l1 = (1 : Int32) then (some 5)
  else (some 6)
set_option maxRecDepth 100000 in
set_option maxHeartbeats 4000000 in
theorem c_X0_hourRow {l : Launch} {s0 : State} {D : va_G} {ev : Nat → Nat} (G0 : Gl s0 D ev) {X : XW} {M : MW} {nb : Nat} {l1 : Int32} {r' : Option Nat}  (h : fX0_hourRow X l1 = r') : CT l s0 D ev yX0_hourRow cX0_hourRow 2 (some (.array .int)) 0 0 0 [.ref (ev 0 + 1), .int l1] (cells ev X M nb) (QR s0 D ev (Option.map (fun k => ev 0 + k) r') (cells ev X M nb)) := by
  refine ct_of G0 (by decide) (Nat.le_of_ble_eq_true rfl) ?_
  intro p9 e9 s9 m9 args9 below9 meth9 c9 F hr9 hl9 hin9 hargs9 hts9
  rw [fX0_hourRow] at h
  refine g_lv (lv' := [(0, .ref (ev 0 + 1)), (1, .int l1)]) ⟨rfl, rfl, trivial⟩ ?_
  refine g_iload_n (i := 1) F dX0_hourRow_0 rfl rfl ?_
  refine ite_at h (fun a1 h => ?_) (fun a1 h => ?_)
  · refine g_lsw (tgt := 28) F (off := 27) (by rw [a1]; decide) dX0_hourRow_1 (by decide) (by decide) ?_
    refine g_aload_n (i := 0) F dX0_hourRow_28 rfl rfl ?_
    refine g_get_0_2 F rfl (kd_lit (by decide)) wd_3_12 dX0_hourRow_29 ?_
    exact g_aret F hr9 (Or.inr ⟨_, rfl⟩) hl9 (by rw [← h]; rfl) rfl (by decide) (by decide) dX0_hourRow_32
  · refine ite_at h (fun a2 h => ?_) (fun a2 h => ?_)
    · refine g_lsw (tgt := 33) F (off := 32) (by rw [a2]; decide) dX0_hourRow_1 (by decide) (by decide) ?_
      refine g_aload_n (i := 0) F dX0_hourRow_33 rfl rfl ?_
      refine g_get_0_3 F rfl (kd_lit (by decide)) wd_3_13 dX0_hourRow_34 ?_
      exact g_aret F hr9 (Or.inr ⟨_, rfl⟩) hl9 (by rw [← h]; rfl) rfl (by decide) (by decide) dX0_hourRow_37
    · refine g_lsw (tgt := 38) F (off := 37) ((lv_osw (k := 0) a1 (by decide)).trans ((lv_osw (k := 1) a2 (by decide)).trans (rfl))) dX0_hourRow_1 (by decide) (by decide) ?_
      refine g_aload_n (i := 0) F dX0_hourRow_38 rfl rfl ?_
      refine g_get_0_4 F rfl (kd_lit (by decide)) wd_3_14 dX0_hourRow_39 ?_
      exact g_aret F hr9 (Or.inr ⟨_, rfl⟩) hl9 (by rw [← h]; rfl) rfl (by decide) (by decide) dX0_hourRow_42
def fX9_within (l0 : Int32) (l1 : Int32) (l2 : Int32) : Int32 :=
  if l0 < l1 then (0 : Int32)
  else if l2 < l0 then (0 : Int32)
  else (1 : Int32)
set_option maxRecDepth 100000 in
set_option maxHeartbeats 4000000 in
theorem c_X9_within {l : Launch} {s0 : State} {D : va_G} {ev : Nat → Nat} (G0 : Gl s0 D ev) {X : XW} {M : MW} {nb : Nat} {l0 : Int32} {l1 : Int32} {l2 : Int32} {r' : Int32}  (h : fX9_within l0 l1 l2 = r') : CT l s0 D ev yX9_within cX9_within 3 (some .boolean) 0 0 0 [.int l0, .int l1, .int l2] (cells ev X M nb) (QI s0 D ev r' (cells ev X M nb)) := by
  refine ct_of G0 (by decide) (Nat.le_of_ble_eq_true rfl) ?_
  intro p9 e9 s9 m9 args9 below9 meth9 c9 F hr9 hl9 hin9 hargs9 hts9
  rw [fX9_within] at h
  refine g_lv (lv' := [(0, .int l0), (1, .int l1), (2, .int l2)]) ⟨rfl, rfl, rfl, trivial⟩ ?_
  refine g_iload_n (i := 0) F dX9_within_0 rfl rfl ?_
  refine g_iload_n (i := 1) F dX9_within_1 rfl rfl ?_
  refine g_icmp_lt (tgt := 14) F dX9_within_2 (by decide) h (fun a2 h => ?_) (fun a2 h => ?_)
  · refine g_iconst F dX9_within_14 (v := 0) (by decide) ?_
    exact g_iret F hr9 (by decide) hl9 h rfl (by decide) (by decide) dX9_within_15
  · refine g_iload_n (i := 0) F dX9_within_5 rfl rfl ?_
    refine g_iload_n (i := 2) F dX9_within_6 rfl rfl ?_
    refine g_icmp_gt (tgt := 14) F dX9_within_7 (by decide) h (fun a1 h => ?_) (fun a1 h => ?_)
    · refine g_iconst F dX9_within_14 (v := 0) (by decide) ?_
      exact g_iret F hr9 (by decide) hl9 h rfl (by decide) (by decide) dX9_within_15
    · refine g_iconst F dX9_within_10 (v := 1) (by decide) ?_
      refine g_goto (tgt := 15) F dX9_within_11 (by decide) ?_
      exact g_iret F hr9 (by decide) hl9 h rfl (by decide) (by decide) dX9_within_15
theorem b_X9_within {l0 : Int32} {l1 : Int32} {l2 : Int32} : (fX9_within l0 l1 l2) = 0 ∨ (fX9_within l0 l1 l2) = 1 := by
  unfold fX9_within
  (repeat' split) <;> first | exact Or.inl rfl | exact Or.inr rfl
def fX0_deepOf (X : XW) (l1 : Int32) (l2 : Int32) : Option Int32 :=
  if (fX9_within l1 (0 : Int32) (99 : Int32)) = 0 then some (0 : Int32)
  else if (fX9_within l2 (0 : Int32) (11 : Int32)) = 0 then some (0 : Int32)
  else (rd (X.2.1 2) 100 l1).bind fun v5 =>
  (rd (X.2.1 6) 12 l2).bind fun v7 =>
  some (jmax (0 : Int32) (v5 + v7))
set_option maxRecDepth 100000 in
set_option maxHeartbeats 4000000 in
theorem c_X0_deepOf {l : Launch} {s0 : State} {D : va_G} {ev : Nat → Nat} (G0 : Gl s0 D ev) {X : XW} {M : MW} {nb : Nat} {l1 : Int32} {l2 : Int32} {r' : Int32}  (h : fX0_deepOf X l1 l2 = some r') : CT l s0 D ev yX0_deepOf cX0_deepOf 3 (some .int) 1 0 0 [.ref (ev 0 + 1), .int l1, .int l2] (cells ev X M nb) (QI s0 D ev r' (cells ev X M nb)) := by
  refine ct_of G0 (by decide) (Nat.le_of_ble_eq_true rfl) ?_
  intro p9 e9 s9 m9 args9 below9 meth9 c9 F hr9 hl9 hin9 hargs9 hts9
  rw [fX0_deepOf] at h
  refine g_lv (lv' := [(0, .ref (ev 0 + 1)), (1, .int l1), (2, .int l2)]) ⟨rfl, rfl, rfl, trivial⟩ ?_
  refine g_iload_n (i := 1) F dX0_deepOf_0 rfl rfl ?_
  refine g_iconst F dX0_deepOf_1 (v := 0) (by decide) ?_
  refine g_bipush F dX0_deepOf_2 (v := 99) (by decide) ?_
  refine g_callSNI F (mcR := 0) (msR := 0) (c_X9_within G0 (X := X) (M := M) (nb := nb) rfl) wd_9_7 (List.mem_of_getElem? (l := nwL) (i := 6) rfl) wd_9_6 wd_1_2 ⟨by decide, by decide⟩ (nn := 3) (by decide) (As := [.int l1, .int (0 : Int32), .int (99 : Int32)]) rfl rfl (Nat.le_of_ble_eq_true rfl) (by decide) (by decide) ⟨by decide, by decide⟩ dX0_deepOf_4 ?_
  refine g_if_eq (tgt := 40) F dX0_deepOf_7 (by decide) h (fun a10 h => ?_) (fun a10 h => ?_)
  · refine g_iconst F dX0_deepOf_40 (v := 0) (by decide) ?_
    exact g_iret F hr9 rfl hl9 (Option.some.inj h) rfl (by decide) (by decide) dX0_deepOf_41
  · refine g_iload_n (i := 2) F dX0_deepOf_10 rfl rfl ?_
    refine g_iconst F dX0_deepOf_11 (v := 0) (by decide) ?_
    refine g_bipush F dX0_deepOf_12 (v := 11) (by decide) ?_
    refine g_callSNI F (mcR := 0) (msR := 0) (c_X9_within G0 (X := X) (M := M) (nb := nb) rfl) wd_9_7 (List.mem_of_getElem? (l := nwL) (i := 6) rfl) wd_9_6 wd_1_2 ⟨by decide, by decide⟩ (nn := 3) (by decide) (As := [.int l2, .int (0 : Int32), .int (11 : Int32)]) rfl rfl (Nat.le_of_ble_eq_true rfl) (by decide) (by decide) ⟨by decide, by decide⟩ dX0_deepOf_14 ?_
    refine g_if_eq (tgt := 40) F dX0_deepOf_17 (by decide) h (fun a9 h => ?_) (fun a9 h => ?_)
    · refine g_iconst F dX0_deepOf_40 (v := 0) (by decide) ?_
      exact g_iret F hr9 rfl hl9 (Option.some.inj h) rfl (by decide) (by decide) dX0_deepOf_41
    · refine g_iconst F dX0_deepOf_20 (v := 0) (by decide) ?_
      refine g_aload_n (i := 0) F dX0_deepOf_21 rfl rfl ?_
      refine g_get_0_0 F rfl (kd_lit (by decide)) wd_3_10 dX0_deepOf_22 ?_
      refine g_iload_n (i := 1) F dX0_deepOf_25 rfl rfl ?_
      obtain ⟨v5, e6, h⟩ := bind_at h
      refine g_ildX F rfl rfl e6 dX0_deepOf_26 ?_
      refine g_aload_n (i := 0) F dX0_deepOf_27 rfl rfl ?_
      refine g_get_0_4 F rfl (kd_lit (by decide)) wd_3_14 dX0_deepOf_28 ?_
      refine g_iload_n (i := 2) F dX0_deepOf_31 rfl rfl ?_
      obtain ⟨v7, e8, h⟩ := bind_at h
      refine g_ildX F rfl rfl e8 dX0_deepOf_32 ?_
      refine g_iadd F dX0_deepOf_33 ?_
      refine g_mmax F wd_24_11 wd_20_14 wd_16_21 wd_20_15 (Nat.le_of_ble_eq_true rfl) (Nat.le_of_ble_eq_true rfl) (Nat.zero_le _) (Nat.zero_le _) dX0_deepOf_34 ?_
      refine g_goto (tgt := 41) F dX0_deepOf_37 (by decide) ?_
      exact g_iret F hr9 rfl hl9 (Option.some.inj h) rfl (by decide) (by decide) dX0_deepOf_41
def fX0_turnIn (X : XW) (l1 : Int32) : Option Int32 :=
  if (fX9_within l1 (1 : Int32) (11 : Int32)) = 0 then some (0 : Int32)
  else (rd (X.2.1 4) 12 l1).bind fun v3 =>
  (rd (X.2.1 4) 12 (l1 - (1 : Int32))).bind fun v5 =>
  bd (jabs (v3 - v5)) fun v7 =>
  some (jmin v7 ((8 : Int32) - v7))
set_option maxRecDepth 100000 in
set_option maxHeartbeats 4000000 in
theorem c_X0_turnIn {l : Launch} {s0 : State} {D : va_G} {ev : Nat → Nat} (G0 : Gl s0 D ev) {X : XW} {M : MW} {nb : Nat} {l1 : Int32} {r' : Int32}  (h : fX0_turnIn X l1 = some r') : CT l s0 D ev yX0_turnIn cX0_turnIn 3 (some .int) 1 0 0 [.ref (ev 0 + 1), .int l1] (cells ev X M nb) (QI s0 D ev r' (cells ev X M nb)) := by
  refine ct_of G0 (by decide) (Nat.le_of_ble_eq_true rfl) ?_
  intro p9 e9 s9 m9 args9 below9 meth9 c9 F hr9 hl9 hin9 hargs9 hts9
  rw [fX0_turnIn] at h
  refine g_lv (lv' := [(0, .ref (ev 0 + 1)), (1, .int l1)]) ⟨rfl, rfl, trivial⟩ ?_
  refine g_iload_n (i := 1) F dX0_turnIn_0 rfl rfl ?_
  refine g_iconst F dX0_turnIn_1 (v := 1) (by decide) ?_
  refine g_bipush F dX0_turnIn_2 (v := 11) (by decide) ?_
  refine g_callSNI F (mcR := 0) (msR := 0) (c_X9_within G0 (X := X) (M := M) (nb := nb) rfl) wd_9_7 (List.mem_of_getElem? (l := nwL) (i := 6) rfl) wd_9_6 wd_1_2 ⟨by decide, by decide⟩ (nn := 3) (by decide) (As := [.int l1, .int (1 : Int32), .int (11 : Int32)]) rfl rfl (Nat.le_of_ble_eq_true rfl) (by decide) (by decide) ⟨by decide, by decide⟩ dX0_turnIn_4 ?_
  refine g_if_ne (tgt := 12) F dX0_turnIn_7 (by decide) h (fun a9 h => ?_) (fun a9 h => ?_)
  · refine g_aload_n (i := 0) F dX0_turnIn_12 rfl rfl ?_
    refine g_get_0_2 F rfl (kd_lit (by decide)) wd_3_12 dX0_turnIn_13 ?_
    refine g_iload_n (i := 1) F dX0_turnIn_16 rfl rfl ?_
    obtain ⟨v3, e4, h⟩ := bind_at h
    refine g_ildX F rfl rfl e4 dX0_turnIn_17 ?_
    refine g_aload_n (i := 0) F dX0_turnIn_18 rfl rfl ?_
    refine g_get_0_2 F rfl (kd_lit (by decide)) wd_3_12 dX0_turnIn_19 ?_
    refine g_iload_n (i := 1) F dX0_turnIn_22 rfl rfl ?_
    refine g_iconst F dX0_turnIn_23 (v := 1) (by decide) ?_
    refine g_isub F dX0_turnIn_24 ?_
    obtain ⟨v5, e6, h⟩ := bind_at h
    refine g_ildX F rfl rfl e6 dX0_turnIn_25 ?_
    refine g_isub F dX0_turnIn_26 ?_
    refine g_mabs F wd_28_5 wd_28_6 wd_16_21 wd_28_7 (Nat.le_of_ble_eq_true rfl) (Nat.le_of_ble_eq_true rfl) (Nat.zero_le _) (Nat.zero_le _) dX0_turnIn_27 ?_
    refine g_topi F h (fun v7 e8 h => ?_)
    refine g_istore_n (i := 2) (lv' := [(2, .int v7), (0, .ref (ev 0 + 1)), (1, .int l1)]) F dX0_turnIn_30 rfl (by decide) rfl ?_
    refine g_iload_n (i := 2) F dX0_turnIn_31 rfl rfl ?_
    refine g_bipush F dX0_turnIn_32 (v := 8) (by decide) ?_
    refine g_iload_n (i := 2) F dX0_turnIn_34 rfl rfl ?_
    refine g_isub F dX0_turnIn_35 ?_
    refine g_mmin F wd_28_8 wd_16_20 wd_16_21 wd_16_22 (Nat.le_of_ble_eq_true rfl) (Nat.le_of_ble_eq_true rfl) (Nat.zero_le _) (Nat.zero_le _) dX0_turnIn_36 ?_
    exact g_iret F hr9 rfl hl9 (Option.some.inj h) rfl (by decide) (by decide) dX0_turnIn_39
  · refine g_iconst F dX0_turnIn_10 (v := 0) (by decide) ?_
    exact g_iret F hr9 rfl hl9 (Option.some.inj h) rfl (by decide) (by decide) dX0_turnIn_11
def fX9_isHour (l0 : Int32) : Int32 :=
  (fX9_within l0 (0 : Int32) (11 : Int32))
set_option maxRecDepth 100000 in
set_option maxHeartbeats 4000000 in
theorem c_X9_isHour {l : Launch} {s0 : State} {D : va_G} {ev : Nat → Nat} (G0 : Gl s0 D ev) {X : XW} {M : MW} {nb : Nat} {l0 : Int32} {r' : Int32}  (h : fX9_isHour l0 = r') : CT l s0 D ev yX9_isHour cX9_isHour 1 (some .boolean) 1 0 0 [.int l0] (cells ev X M nb) (QI s0 D ev r' (cells ev X M nb)) := by
  refine ct_of G0 (by decide) (Nat.le_of_ble_eq_true rfl) ?_
  intro p9 e9 s9 m9 args9 below9 meth9 c9 F hr9 hl9 hin9 hargs9 hts9
  rw [fX9_isHour] at h
  refine g_lv (lv' := [(0, .int l0)]) ⟨rfl, trivial⟩ ?_
  refine g_iload_n (i := 0) F dX9_isHour_0 rfl rfl ?_
  refine g_iconst F dX9_isHour_1 (v := 0) (by decide) ?_
  refine g_bipush F dX9_isHour_2 (v := 11) (by decide) ?_
  refine g_callSI F (mcR := 0) (msR := 0) (c_X9_within G0 (X := X) (M := M) (nb := nb) rfl) wd_9_7 wd_15_21 wd_9_6 wd_1_2 ⟨by decide, by decide⟩ (nn := 3) (by decide) (As := [.int l0, .int (0 : Int32), .int (11 : Int32)]) rfl rfl (Nat.le_of_ble_eq_true rfl) (by decide) (by decide) ⟨by decide, by decide⟩ dX9_isHour_4 ?_
  exact g_iret F hr9 (nar_b b_X9_within) hl9 h rfl (by decide) (by decide) dX9_isHour_7
theorem b_X9_isHour {l0 : Int32} : (fX9_isHour l0) = 0 ∨ (fX9_isHour l0) = 1 := by
  unfold fX9_isHour
  (repeat' split) <;> first | exact Or.inl rfl | exact Or.inr rfl | exact b_X9_within
def fX9_isCell (l0 : Int32) : Int32 :=
  (fX9_within l0 (0 : Int32) (99 : Int32))
set_option maxRecDepth 100000 in
set_option maxHeartbeats 4000000 in
theorem c_X9_isCell {l : Launch} {s0 : State} {D : va_G} {ev : Nat → Nat} (G0 : Gl s0 D ev) {X : XW} {M : MW} {nb : Nat} {l0 : Int32} {r' : Int32}  (h : fX9_isCell l0 = r') : CT l s0 D ev yX9_isCell cX9_isCell 1 (some .boolean) 1 0 0 [.int l0] (cells ev X M nb) (QI s0 D ev r' (cells ev X M nb)) := by
  refine ct_of G0 (by decide) (Nat.le_of_ble_eq_true rfl) ?_
  intro p9 e9 s9 m9 args9 below9 meth9 c9 F hr9 hl9 hin9 hargs9 hts9
  rw [fX9_isCell] at h
  refine g_lv (lv' := [(0, .int l0)]) ⟨rfl, trivial⟩ ?_
  refine g_iload_n (i := 0) F dX9_isCell_0 rfl rfl ?_
  refine g_iconst F dX9_isCell_1 (v := 0) (by decide) ?_
  refine g_bipush F dX9_isCell_2 (v := 99) (by decide) ?_
  refine g_callSI F (mcR := 0) (msR := 0) (c_X9_within G0 (X := X) (M := M) (nb := nb) rfl) wd_9_7 wd_15_21 wd_9_6 wd_1_2 ⟨by decide, by decide⟩ (nn := 3) (by decide) (As := [.int l0, .int (0 : Int32), .int (99 : Int32)]) rfl rfl (Nat.le_of_ble_eq_true rfl) (by decide) (by decide) ⟨by decide, by decide⟩ dX9_isCell_4 ?_
  exact g_iret F hr9 (nar_b b_X9_within) hl9 h rfl (by decide) (by decide) dX9_isCell_7
theorem b_X9_isCell {l0 : Int32} : (fX9_isCell l0) = 0 ∨ (fX9_isCell l0) = 1 := by
  unfold fX9_isCell
  (repeat' split) <;> first | exact Or.inl rfl | exact Or.inr rfl | exact b_X9_within
def fX0_stepped (X : XW) (l0 : Int32) (l1 : Int32) : Option Int32 :=
  if (fX9_isCell l0) = 0 then some (-1 : Int32)
  else if (fX9_within l1 (0 : Int32) (7 : Int32)) = 0 then some (-1 : Int32)
  else (rd (stF 0) 8 l1).bind fun v5 =>
  bd ((l0 / (10 : Int32)) + v5) fun v7 =>
  (rd (stF 1) 8 l1).bind fun v9 =>
  bd ((jrem l0 (10 : Int32)) + v9) fun v11 =>
  if (fX9_within v7 (0 : Int32) (9 : Int32)) = 0 then some (-1 : Int32)
  else if (fX9_within v11 (0 : Int32) (9 : Int32)) = 0 then some (-1 : Int32)
  else some (((10 : Int32) * v7) + v11)
set_option maxRecDepth 100000 in
set_option maxHeartbeats 4000000 in
theorem c_X0_stepped {l : Launch} {s0 : State} {D : va_G} {ev : Nat → Nat} (G0 : Gl s0 D ev) {X : XW} {M : MW} {nb : Nat} {l0 : Int32} {l1 : Int32} {r' : Int32}  (h : fX0_stepped X l0 l1 = some r') : CT l s0 D ev yX0_stepped cX0_stepped 4 (some .int) 2 0 0 [.int l0, .int l1] (cells ev X M nb) (QI s0 D ev r' (cells ev X M nb)) := by
  refine ct_of G0 (by decide) (Nat.le_of_ble_eq_true rfl) ?_
  intro p9 e9 s9 m9 args9 below9 meth9 c9 F hr9 hl9 hin9 hargs9 hts9
  rw [fX0_stepped] at h
  refine g_lv (lv' := [(0, .int l0), (1, .int l1)]) ⟨rfl, rfl, trivial⟩ ?_
  refine g_iload_n (i := 0) F dX0_stepped_0 rfl rfl ?_
  refine g_callSNI F (mcR := 0) (msR := 0) (c_X9_isCell G0 (X := X) (M := M) (nb := nb) rfl) wd_15_20 (List.mem_of_getElem? (l := nwL) (i := 10) rfl) wd_15_19 wd_1_2 ⟨by decide, by decide⟩ (nn := 1) (by decide) (As := [.int l0]) rfl rfl (Nat.le_of_ble_eq_true rfl) (by decide) (by decide) ⟨by decide, by decide⟩ dX0_stepped_1 ?_
  refine g_if_eq (tgt := 17) F dX0_stepped_4 (by decide) h (fun a20 h => ?_) (fun a20 h => ?_)
  · refine g_iconst F dX0_stepped_17 (v := -1) (by decide) ?_
    exact g_iret F hr9 rfl hl9 (Option.some.inj h) rfl (by decide) (by decide) dX0_stepped_18
  · refine g_iload_n (i := 1) F dX0_stepped_7 rfl rfl ?_
    refine g_iconst F dX0_stepped_8 (v := 0) (by decide) ?_
    refine g_bipush F dX0_stepped_9 (v := 7) (by decide) ?_
    refine g_callSNI F (mcR := 0) (msR := 0) (c_X9_within G0 (X := X) (M := M) (nb := nb) rfl) wd_9_7 (List.mem_of_getElem? (l := nwL) (i := 6) rfl) wd_9_6 wd_1_2 ⟨by decide, by decide⟩ (nn := 3) (by decide) (As := [.int l1, .int (0 : Int32), .int (7 : Int32)]) rfl rfl (Nat.le_of_ble_eq_true rfl) (by decide) (by decide) ⟨by decide, by decide⟩ dX0_stepped_11 ?_
    refine g_if_ne (tgt := 19) F dX0_stepped_14 (by decide) h (fun a19 h => ?_) (fun a19 h => ?_)
    · refine g_iload_n (i := 0) F dX0_stepped_19 rfl rfl ?_
      refine g_bipush F dX0_stepped_20 (v := 10) (by decide) ?_
      refine g_idiv F dX0_stepped_22 (by decide) ?_
      refine g_getsN (i := 0) F (by decide) rfl (List.mem_of_getElem? (l := nwL) (i := 11) rfl) dX0_stepped_23 ?_
      refine g_iload_n (i := 1) F dX0_stepped_26 rfl rfl ?_
      obtain ⟨v5, e6, h⟩ := bind_at h
      refine g_strd F (by decide) (by decide) e6 dX0_stepped_27 ?_
      refine g_iadd F dX0_stepped_28 ?_
      refine g_topi F h (fun v7 e8 h => ?_)
      refine g_istore_n (i := 2) (lv' := [(2, .int v7), (0, .int l0), (1, .int l1)]) F dX0_stepped_29 rfl (by decide) rfl ?_
      refine g_iload_n (i := 0) F dX0_stepped_30 rfl rfl ?_
      refine g_bipush F dX0_stepped_31 (v := 10) (by decide) ?_
      refine g_irem F dX0_stepped_33 (by decide) ?_
      refine g_getsN (i := 1) F (by decide) rfl (List.mem_of_getElem? (l := nwL) (i := 12) rfl) dX0_stepped_34 ?_
      refine g_iload_n (i := 1) F dX0_stepped_37 rfl rfl ?_
      obtain ⟨v9, e10, h⟩ := bind_at h
      refine g_strd F (by decide) (by decide) e10 dX0_stepped_38 ?_
      refine g_iadd F dX0_stepped_39 ?_
      refine g_topi F h (fun v11 e12 h => ?_)
      refine g_istore_n (i := 3) (lv' := [(3, .int v11), (2, .int v7), (0, .int l0), (1, .int l1)]) F dX0_stepped_40 rfl (by decide) rfl ?_
      refine g_iload_n (i := 2) F dX0_stepped_41 rfl rfl ?_
      refine g_iconst F dX0_stepped_42 (v := 0) (by decide) ?_
      refine g_bipush F dX0_stepped_43 (v := 9) (by decide) ?_
      refine g_callSNI F (mcR := 0) (msR := 0) (c_X9_within G0 (X := X) (M := M) (nb := nb) rfl) wd_9_7 (List.mem_of_getElem? (l := nwL) (i := 6) rfl) wd_9_6 wd_1_2 ⟨by decide, by decide⟩ (nn := 3) (by decide) (As := [.int v7, .int (0 : Int32), .int (9 : Int32)]) rfl rfl (Nat.le_of_ble_eq_true rfl) (by decide) (by decide) ⟨by decide, by decide⟩ dX0_stepped_45 ?_
      refine g_if_eq (tgt := 70) F dX0_stepped_48 (by decide) h (fun a18 h => ?_) (fun a18 h => ?_)
      · refine g_iconst F dX0_stepped_70 (v := -1) (by decide) ?_
        exact g_iret F hr9 rfl hl9 (Option.some.inj h) rfl (by decide) (by decide) dX0_stepped_71
      · refine g_iload_n (i := 3) F dX0_stepped_51 rfl rfl ?_
        refine g_iconst F dX0_stepped_52 (v := 0) (by decide) ?_
        refine g_bipush F dX0_stepped_53 (v := 9) (by decide) ?_
        refine g_callSNI F (mcR := 0) (msR := 0) (c_X9_within G0 (X := X) (M := M) (nb := nb) rfl) wd_9_7 (List.mem_of_getElem? (l := nwL) (i := 6) rfl) wd_9_6 wd_1_2 ⟨by decide, by decide⟩ (nn := 3) (by decide) (As := [.int v11, .int (0 : Int32), .int (9 : Int32)]) rfl rfl (Nat.le_of_ble_eq_true rfl) (by decide) (by decide) ⟨by decide, by decide⟩ dX0_stepped_55 ?_
        refine g_if_eq (tgt := 70) F dX0_stepped_58 (by decide) h (fun a17 h => ?_) (fun a17 h => ?_)
        · refine g_iconst F dX0_stepped_70 (v := -1) (by decide) ?_
          exact g_iret F hr9 rfl hl9 (Option.some.inj h) rfl (by decide) (by decide) dX0_stepped_71
        · refine g_bipush F dX0_stepped_61 (v := 10) (by decide) ?_
          refine g_iload_n (i := 2) F dX0_stepped_63 rfl rfl ?_
          refine g_imul F dX0_stepped_64 ?_
          refine g_iload_n (i := 3) F dX0_stepped_65 rfl rfl ?_
          refine g_iadd F dX0_stepped_66 ?_
          refine g_goto (tgt := 71) F dX0_stepped_67 (by decide) ?_
          exact g_iret F hr9 rfl hl9 (Option.some.inj h) rfl (by decide) (by decide) dX0_stepped_71
    · refine g_iconst F dX0_stepped_17 (v := -1) (by decide) ?_
      exact g_iret F hr9 rfl hl9 (Option.some.inj h) rfl (by decide) (by decide) dX0_stepped_18
def fX0_oneOn (X : XW) (l1 : Int32) (l2 : Int32) : Option Int32 :=
  if (fX9_isHour l2) = 0 then some (-1 : Int32)
  else (rd (X.2.1 4) 12 l2).bind fun v3 =>
  (fX0_stepped X l1 v3).bind fun v5 =>
  some v5
set_option maxRecDepth 100000 in
set_option maxHeartbeats 4000000 in
theorem c_X0_oneOn {l : Launch} {s0 : State} {D : va_G} {ev : Nat → Nat} (G0 : Gl s0 D ev) {X : XW} {M : MW} {nb : Nat} {l1 : Int32} {l2 : Int32} {r' : Int32}  (h : fX0_oneOn X l1 l2 = some r') : CT l s0 D ev yX0_oneOn cX0_oneOn 3 (some .int) 3 0 0 [.ref (ev 0 + 1), .int l1, .int l2] (cells ev X M nb) (QI s0 D ev r' (cells ev X M nb)) := by
  refine ct_of G0 (by decide) (Nat.le_of_ble_eq_true rfl) ?_
  intro p9 e9 s9 m9 args9 below9 meth9 c9 F hr9 hl9 hin9 hargs9 hts9
  rw [fX0_oneOn] at h
  refine g_lv (lv' := [(0, .ref (ev 0 + 1)), (1, .int l1), (2, .int l2)]) ⟨rfl, rfl, rfl, trivial⟩ ?_
  refine g_iload_n (i := 2) F dX0_oneOn_0 rfl rfl ?_
  refine g_callSNI F (mcR := 0) (msR := 0) (c_X9_isHour G0 (X := X) (M := M) (nb := nb) rfl) wd_17_9 (List.mem_of_getElem? (l := nwL) (i := 9) rfl) wd_17_8 wd_1_2 ⟨by decide, by decide⟩ (nn := 1) (by decide) (As := [.int l2]) rfl rfl (Nat.le_of_ble_eq_true rfl) (by decide) (by decide) ⟨by decide, by decide⟩ dX0_oneOn_1 ?_
  refine g_if_eq (tgt := 20) F dX0_oneOn_4 (by decide) h (fun a7 h => ?_) (fun a7 h => ?_)
  · refine g_iconst F dX0_oneOn_20 (v := -1) (by decide) ?_
    exact g_iret F hr9 rfl hl9 (Option.some.inj h) rfl (by decide) (by decide) dX0_oneOn_21
  · refine g_iload_n (i := 1) F dX0_oneOn_7 rfl rfl ?_
    refine g_aload_n (i := 0) F dX0_oneOn_8 rfl rfl ?_
    refine g_get_0_2 F rfl (kd_lit (by decide)) wd_3_12 dX0_oneOn_9 ?_
    refine g_iload_n (i := 2) F dX0_oneOn_12 rfl rfl ?_
    obtain ⟨v3, e4, h⟩ := bind_at h
    refine g_ildX F rfl rfl e4 dX0_oneOn_13 ?_
    obtain ⟨v5, e6, h⟩ := bind_at h
    refine g_callSI F (mcR := 0) (msR := 0) (c_X0_stepped G0 e6) wd_28_23 wd_28_21 wd_28_22 wd_1_14 ⟨by decide, by decide⟩ (nn := 2) (by decide) (As := [.int l1, .int v3]) rfl rfl (Nat.le_of_ble_eq_true rfl) (by decide) (by decide) ⟨by decide, by decide⟩ dX0_oneOn_14 ?_
    refine g_goto (tgt := 21) F dX0_oneOn_17 (by decide) ?_
    exact g_iret F hr9 rfl hl9 (Option.some.inj h) rfl (by decide) (by decide) dX0_oneOn_21
def fX0_cellsOff_l20 (l0f20 : Int32) (l2f20 : Int32) (K20 : Int32 → Int32 → Option Int32) (l3 : Int32) (l4 : Int32) : Option Int32 :=
  if l0f20 < l4 then some (l3 / (5 : Int32))
  else if l2f20 < (l4 * l4) then some (l3 / (5 : Int32))
  else K20 l4 (l4 + (1 : Int32))
def fX0_cellsOff (l0 : Int32) (l1 : Int32) : Option Int32 :=
  if l1 < l0 then bd ((l0 * l0) - (l1 * l1)) fun v1 =>
  lo2 (fX0_cellsOff_l20 l0 v1) FU (0 : Int32) (1 : Int32)
  else some (0 : Int32)
set_option maxRecDepth 100000 in
set_option maxHeartbeats 4000000 in
theorem c_X0_cellsOff {l : Launch} {s0 : State} {D : va_G} {ev : Nat → Nat} (G0 : Gl s0 D ev) {X : XW} {M : MW} {nb : Nat} {l0 : Int32} {l1 : Int32} {r' : Int32}  (h : fX0_cellsOff l0 l1 = some r') : CT l s0 D ev yX0_cellsOff cX0_cellsOff 5 (some .int) 0 0 0 [.int l0, .int l1] (cells ev X M nb) (QI s0 D ev r' (cells ev X M nb)) := by
  refine ct_of G0 (by decide) (Nat.le_of_ble_eq_true rfl) ?_
  intro p9 e9 s9 m9 args9 below9 meth9 c9 F hr9 hl9 hin9 hargs9 hts9
  have L20 : ∀ (l0f20 : Int32) (l2f20 : Int32) (N20 : Nat) (l3 : Int32) (l4 : Int32), lo2 (fX0_cellsOff_l20 l0f20 l2f20) N20 l3 l4 = some r' → GJ p9 l e9 (rg 0 0 0) s9 m9 args9 below9 meth9 c9 (MQ below9 (QI s0 D ev r' (cells ev X M nb)) args9 s9 0 0 (frA ev)) s0 D ev 5 0 0 20 [(0, .int l0f20), (2, .int l2f20), (3, .int l3), (4, .int l4)] ([]) (cells ev X M nb) := by
    intro l0f20 l2f20 N20
    induction N20 with
    | zero => intro l3 l4 h; cases h
    | succ N20 ih20 =>
      intro l3 l4 h
      change fX0_cellsOff_l20 l0f20 l2f20 (lo2 (fX0_cellsOff_l20 l0f20 l2f20) N20) l3 l4 = some r' at h
      rw [fX0_cellsOff_l20] at h
      refine g_iload (i := 4) F dX0_cellsOff_20 rfl ?_
      refine g_iload_n (i := 0) F dX0_cellsOff_22 rfl rfl ?_
      refine g_icmp_gt (tgt := 44) F dX0_cellsOff_23 (by decide) h (fun a4 h => ?_) (fun a4 h => ?_)
      · refine g_iload_n (i := 3) F dX0_cellsOff_44 rfl rfl ?_
        refine g_iconst F dX0_cellsOff_45 (v := 5) (by decide) ?_
        refine g_idiv F dX0_cellsOff_46 (by decide) ?_
        exact g_iret F hr9 rfl hl9 (Option.some.inj h) rfl (by decide) (by decide) dX0_cellsOff_47
      · refine g_iload (i := 4) F dX0_cellsOff_26 rfl ?_
        refine g_iload (i := 4) F dX0_cellsOff_28 rfl ?_
        refine g_imul F dX0_cellsOff_30 ?_
        refine g_iload_n (i := 2) F dX0_cellsOff_31 rfl rfl ?_
        refine g_icmp_gt (tgt := 44) F dX0_cellsOff_32 (by decide) h (fun a3 h => ?_) (fun a3 h => ?_)
        · refine g_iload_n (i := 3) F dX0_cellsOff_44 rfl rfl ?_
          refine g_iconst F dX0_cellsOff_45 (v := 5) (by decide) ?_
          refine g_idiv F dX0_cellsOff_46 (by decide) ?_
          exact g_iret F hr9 rfl hl9 (Option.some.inj h) rfl (by decide) (by decide) dX0_cellsOff_47
        · refine g_iload (i := 4) F dX0_cellsOff_35 rfl ?_
          refine g_istore_n (i := 3) (lv' := [(3, .int l4), (0, .int l0f20), (2, .int l2f20), (4, .int l4)]) F dX0_cellsOff_37 rfl (by decide) rfl ?_
          refine g_iinc (i := 4) (v := (l4 + (1 : Int32))) (lv' := [(4, .int (l4 + (1 : Int32))), (3, .int l4), (0, .int l0f20), (2, .int l2f20)]) F dX0_cellsOff_38 rfl rfl (by decide) rfl ?_
          refine g_goto (tgt := 20) F dX0_cellsOff_41 (by decide) ?_
          refine g_lv (lv' := [(0, .int l0f20), (2, .int l2f20), (3, .int l4), (4, .int (l4 + (1 : Int32)))]) ⟨rfl, rfl, rfl, rfl, trivial⟩ ?_
          exact ih20 _ _ h
  rw [fX0_cellsOff] at h
  refine g_lv (lv' := [(0, .int l0), (1, .int l1)]) ⟨rfl, rfl, trivial⟩ ?_
  refine g_iload_n (i := 0) F dX0_cellsOff_0 rfl rfl ?_
  refine g_iload_n (i := 1) F dX0_cellsOff_1 rfl rfl ?_
  refine g_icmp_gt (tgt := 7) F dX0_cellsOff_2 (by decide) h (fun a5 h => ?_) (fun a5 h => ?_)
  · refine g_iload_n (i := 0) F dX0_cellsOff_7 rfl rfl ?_
    refine g_iload_n (i := 0) F dX0_cellsOff_8 rfl rfl ?_
    refine g_imul F dX0_cellsOff_9 ?_
    refine g_iload_n (i := 1) F dX0_cellsOff_10 rfl rfl ?_
    refine g_iload_n (i := 1) F dX0_cellsOff_11 rfl rfl ?_
    refine g_imul F dX0_cellsOff_12 ?_
    refine g_isub F dX0_cellsOff_13 ?_
    refine g_topi F h (fun v1 e2 h => ?_)
    refine g_istore_n (i := 2) (lv' := [(2, .int v1), (0, .int l0), (1, .int l1)]) F dX0_cellsOff_14 rfl (by decide) rfl ?_
    refine g_iconst F dX0_cellsOff_15 (v := 0) (by decide) ?_
    refine g_istore_n (i := 3) (lv' := [(3, .int (0 : Int32)), (2, .int v1), (0, .int l0), (1, .int l1)]) F dX0_cellsOff_16 rfl (by decide) rfl ?_
    refine g_iconst F dX0_cellsOff_17 (v := 1) (by decide) ?_
    refine g_istore (i := 4) (lv' := [(4, .int (1 : Int32)), (3, .int (0 : Int32)), (2, .int v1), (0, .int l0), (1, .int l1)]) F dX0_cellsOff_18 (by decide) rfl ?_
    refine g_lv (lv' := [(0, .int l0), (2, .int v1), (3, .int (0 : Int32)), (4, .int (1 : Int32))]) ⟨rfl, rfl, rfl, rfl, trivial⟩ ?_
    exact L20 _ _ FU _ _ h
  · refine g_iconst F dX0_cellsOff_5 (v := 0) (by decide) ?_
    exact g_iret F hr9 rfl hl9 (Option.some.inj h) rfl (by decide) (by decide) dX0_cellsOff_6
def fX0_liesAt_l18 (X : XW) (l4f18 : Int32) (l5f18 : Int32) (K18 : Int32 → Int32 → Option Int32) (l6 : Int32) (l7 : Int32) : Option Int32 :=
  if l5f18 ≤ l7 then some l6
  else (fX0_stepped X l6 l4f18).bind fun v5 =>
  if v5 = (-1 : Int32) then some l6
  else K18 v5 (l7 + (1 : Int32))
def fX0_liesAt (X : XW) (l1 : Int32) (l2 : Int32) (l3 : Int32) (l4 : Int32) : Option Int32 :=
  (fX0_deepOf X l1 l3).bind fun v1 =>
  (fX0_cellsOff l2 v1).bind fun v3 =>
  lo2 (fX0_liesAt_l18 X l4 v3) FU l1 (0 : Int32)
set_option maxRecDepth 100000 in
set_option maxHeartbeats 4000000 in
theorem c_X0_liesAt {l : Launch} {s0 : State} {D : va_G} {ev : Nat → Nat} (G0 : Gl s0 D ev) {X : XW} {M : MW} {nb : Nat} {l1 : Int32} {l2 : Int32} {l3 : Int32} {l4 : Int32} {r' : Int32}  (h : fX0_liesAt X l1 l2 l3 l4 = some r') : CT l s0 D ev yX0_liesAt cX0_liesAt 9 (some .int) 3 0 0 [.ref (ev 0 + 1), .int l1, .int l2, .int l3, .int l4] (cells ev X M nb) (QI s0 D ev r' (cells ev X M nb)) := by
  refine ct_of G0 (by decide) (Nat.le_of_ble_eq_true rfl) ?_
  intro p9 e9 s9 m9 args9 below9 meth9 c9 F hr9 hl9 hin9 hargs9 hts9
  have L18 : ∀ (l4f18 : Int32) (l5f18 : Int32) (N18 : Nat) (l6 : Int32) (l7 : Int32), lo2 (fX0_liesAt_l18 X l4f18 l5f18) N18 l6 l7 = some r' → GJ p9 l e9 (rg 3 0 0) s9 m9 args9 below9 meth9 c9 (MQ below9 (QI s0 D ev r' (cells ev X M nb)) args9 s9 0 0 (frA ev)) s0 D ev 9 0 0 18 [(4, .int l4f18), (5, .int l5f18), (6, .int l6), (7, .int l7)] ([]) (cells ev X M nb) := by
    intro l4f18 l5f18 N18
    induction N18 with
    | zero => intro l6 l7 h; cases h
    | succ N18 ih18 =>
      intro l6 l7 h
      change fX0_liesAt_l18 X l4f18 l5f18 (lo2 (fX0_liesAt_l18 X l4f18 l5f18) N18) l6 l7 = some r' at h
      rw [fX0_liesAt_l18] at h
      refine g_iload (i := 7) F dX0_liesAt_18 rfl ?_
      refine g_iload (i := 5) F dX0_liesAt_20 rfl ?_
      refine g_icmp_ge (tgt := 53) F dX0_liesAt_22 (by decide) h (fun a8 h => ?_) (fun a8 h => ?_)
      · refine g_iload (i := 6) F dX0_liesAt_53 rfl ?_
        exact g_iret F hr9 rfl hl9 (Option.some.inj h) rfl (by decide) (by decide) dX0_liesAt_55
      · refine g_iload (i := 6) F dX0_liesAt_25 rfl ?_
        refine g_iload (i := 4) F dX0_liesAt_27 rfl ?_
        obtain ⟨v5, e6, h⟩ := bind_at h
        refine g_callSI F (mcR := 0) (msR := 0) (c_X0_stepped G0 e6) wd_28_23 wd_28_21 wd_28_22 wd_1_14 ⟨by decide, by decide⟩ (nn := 2) (by decide) (As := [.int l6, .int l4f18]) rfl rfl (Nat.le_of_ble_eq_true rfl) (by decide) (by decide) ⟨by decide, by decide⟩ dX0_liesAt_29 ?_
        refine g_istore (i := 8) (lv' := [(8, .int v5), (4, .int l4f18), (5, .int l5f18), (6, .int l6), (7, .int l7)]) F dX0_liesAt_32 (by decide) rfl ?_
        refine g_iload (i := 8) F dX0_liesAt_34 rfl ?_
        refine g_iconst F dX0_liesAt_36 (v := -1) (by decide) ?_
        refine g_icmp_ne (tgt := 43) F dX0_liesAt_37 (by decide) h (fun a7 h => ?_) (fun a7 h => ?_)
        · refine g_iload (i := 8) F dX0_liesAt_43 rfl ?_
          refine g_istore (i := 6) (lv' := [(6, .int v5), (8, .int v5), (4, .int l4f18), (5, .int l5f18), (7, .int l7)]) F dX0_liesAt_45 (by decide) rfl ?_
          refine g_iinc (i := 7) (v := (l7 + (1 : Int32))) (lv' := [(7, .int (l7 + (1 : Int32))), (6, .int v5), (8, .int v5), (4, .int l4f18), (5, .int l5f18)]) F dX0_liesAt_47 rfl rfl (by decide) rfl ?_
          refine g_goto (tgt := 18) F dX0_liesAt_50 (by decide) ?_
          refine g_lv (lv' := [(4, .int l4f18), (5, .int l5f18), (6, .int v5), (7, .int (l7 + (1 : Int32)))]) ⟨rfl, rfl, rfl, rfl, trivial⟩ ?_
          exact ih18 _ _ h
        · refine g_iload (i := 6) F dX0_liesAt_40 rfl ?_
          exact g_iret F hr9 rfl hl9 (Option.some.inj h) rfl (by decide) (by decide) dX0_liesAt_42
  rw [fX0_liesAt] at h
  refine g_lv (lv' := [(0, .ref (ev 0 + 1)), (1, .int l1), (2, .int l2), (3, .int l3), (4, .int l4)]) ⟨rfl, rfl, rfl, rfl, rfl, trivial⟩ ?_
  refine g_iload_n (i := 2) F dX0_liesAt_0 rfl rfl ?_
  refine g_aload_n (i := 0) F dX0_liesAt_1 rfl rfl ?_
  refine g_iload_n (i := 1) F dX0_liesAt_2 rfl rfl ?_
  refine g_iload_n (i := 3) F dX0_liesAt_3 rfl rfl ?_
  obtain ⟨v1, e2, h⟩ := bind_at h
  refine g_callVI F (mcR := 0) (msR := 0) (id := 1) (cells_at (kd_lit (i := 1) (by decide)) (xc_0 rfl)) (ci := 0) rfl rfl rfl (c_X0_deepOf G0 e2) wd_24_10 wd_29_4 wd_24_8 wd_24_9 wd_1_14 ⟨by decide, by decide⟩ (nn := 2) (by decide) (As := [.int l1, .int l3]) rfl rfl (Nat.le_of_ble_eq_true rfl) (by decide) (by decide) ⟨by decide, by decide⟩ dX0_liesAt_4 ?_
  obtain ⟨v3, e4, h⟩ := bind_at h
  refine g_callSI F (mcR := 0) (msR := 0) (c_X0_cellsOff G0 e4) wd_25_15 wd_29_5 wd_25_14 wd_1_14 ⟨by decide, by decide⟩ (nn := 2) (by decide) (As := [.int l2, .int v1]) rfl rfl (Nat.le_of_ble_eq_true rfl) (by decide) (by decide) ⟨by decide, by decide⟩ dX0_liesAt_7 ?_
  refine g_istore (i := 5) (lv' := [(5, .int v3), (0, .ref (ev 0 + 1)), (1, .int l1), (2, .int l2), (3, .int l3), (4, .int l4)]) F dX0_liesAt_10 (by decide) rfl ?_
  refine g_iload_n (i := 1) F dX0_liesAt_12 rfl rfl ?_
  refine g_istore (i := 6) (lv' := [(6, .int l1), (5, .int v3), (0, .ref (ev 0 + 1)), (1, .int l1), (2, .int l2), (3, .int l3), (4, .int l4)]) F dX0_liesAt_13 (by decide) rfl ?_
  refine g_iconst F dX0_liesAt_15 (v := 0) (by decide) ?_
  refine g_istore (i := 7) (lv' := [(7, .int (0 : Int32)), (6, .int l1), (5, .int v3), (0, .ref (ev 0 + 1)), (1, .int l1), (2, .int l2), (3, .int l3), (4, .int l4)]) F dX0_liesAt_16 (by decide) rfl ?_
  refine g_lv (lv' := [(4, .int l4), (5, .int v3), (6, .int l1), (7, .int (0 : Int32))]) ⟨rfl, rfl, rfl, rfl, trivial⟩ ?_
  exact L18 _ _ FU _ _ h
def fX5_outcome (l0 : Int32) (l1 : Int32) (l2 : Int32) : Int32 :=
  if l0 = (6 : Int32) then (l1 + l2)
  else if l0 = (7 : Int32) then (l1 - l2)
  else if l0 = (8 : Int32) then (l1 * l2)
  else if l0 = (9 : Int32) then if l2 ≤ l1 then (0 : Int32)
  else (1 : Int32)
  else if l0 = (10 : Int32) then if l1 = l2 then (1 : Int32)
  else (0 : Int32)
  else if l0 = (11 : Int32) then (-l2)
  else if l0 = (12 : Int32) then (l1 * l2)
  else if l0 = (13 : Int32) then (l1 * l2)
  else if l0 = (14 : Int32) then (l1 * l2)
  else if l0 = (15 : Int32) then (l1 * l2)
  else if l0 = (16 : Int32) then (l1 * l2)
  else if l0 = (17 : Int32) then (l1 * l2)
  else if l0 = (18 : Int32) then (l1 * l2)
  else if l0 = (19 : Int32) then (l1 * l2)
  else if l0 = (20 : Int32) then (l1 * l2)
  else if l0 = (21 : Int32) then (l1 * l2)
  else if l0 = (22 : Int32) then (l1 * l2)
  else if l0 = (23 : Int32) then (l1 * l2)
  else if l0 = (24 : Int32) then (l1 * l2)
  else if l0 = (25 : Int32) then (l1 * l2)
  else if l0 = (26 : Int32) then (l1 * l2)
  else if l0 = (27 : Int32) then (l1 * l2)
  else if l0 = (28 : Int32) then (l1 * l2)
  else if l0 = (29 : Int32) then if l1 = 0 then if l2 = 0 then (0 : Int32)
  else (1 : Int32)
  else (1 : Int32)
  else if l0 = (30 : Int32) then if l1 = 0 then (0 : Int32)
  else if l2 = 0 then (0 : Int32)
  else (1 : Int32)
  else if l0 = (31 : Int32) then if l2 = 0 then (1 : Int32)
  else (0 : Int32)
  else (l1 * l2)
set_option maxRecDepth 100000 in
set_option maxHeartbeats 4000000 in
theorem c_X5_outcome {l : Launch} {s0 : State} {D : va_G} {ev : Nat → Nat} (G0 : Gl s0 D ev) {X : XW} {M : MW} {nb : Nat} {l0 : Int32} {l1 : Int32} {l2 : Int32} {r' : Int32}  (h : fX5_outcome l0 l1 l2 = r') : CT l s0 D ev yX5_outcome cX5_outcome 3 (some .int) 0 0 0 [.int l0, .int l1, .int l2] (cells ev X M nb) (QI s0 D ev r' (cells ev X M nb)) := by
  refine ct_of G0 (by decide) (Nat.le_of_ble_eq_true rfl) ?_
  intro p9 e9 s9 m9 args9 below9 meth9 c9 F hr9 hl9 hin9 hargs9 hts9
  rw [fX5_outcome] at h
  refine g_lv (lv' := [(0, .int l0), (1, .int l1), (2, .int l2)]) ⟨rfl, rfl, rfl, trivial⟩ ?_
  refine g_iload_n (i := 0) F dX5_outcome_0 rfl rfl ?_
  refine ite_at h (fun a1 h => ?_) (fun a1 h => ?_)
  · refine g_tsw (k := 6) (off := 179) (tgt := 180) F a1 dX5_outcome_1 (by decide) (by decide) (by decide) (by decide) ?_
    refine g_iload_n (i := 1) F dX5_outcome_180 rfl rfl ?_
    refine g_iload_n (i := 2) F dX5_outcome_181 rfl rfl ?_
    refine g_iadd F dX5_outcome_182 ?_
    exact g_iret F hr9 rfl hl9 h rfl (by decide) (by decide) dX5_outcome_183
  · refine ite_at h (fun a2 h => ?_) (fun a2 h => ?_)
    · refine g_tsw (k := 7) (off := 183) (tgt := 184) F a2 dX5_outcome_1 (by decide) (by decide) (by decide) (by decide) ?_
      refine g_iload_n (i := 1) F dX5_outcome_184 rfl rfl ?_
      refine g_iload_n (i := 2) F dX5_outcome_185 rfl rfl ?_
      refine g_isub F dX5_outcome_186 ?_
      exact g_iret F hr9 rfl hl9 h rfl (by decide) (by decide) dX5_outcome_187
    · refine ite_at h (fun a3 h => ?_) (fun a3 h => ?_)
      · refine g_tsw (k := 8) (off := 190) (tgt := 191) F a3 dX5_outcome_1 (by decide) (by decide) (by decide) (by decide) ?_
        refine g_iload_n (i := 1) F dX5_outcome_191 rfl rfl ?_
        refine g_iload_n (i := 2) F dX5_outcome_192 rfl rfl ?_
        refine g_imul F dX5_outcome_193 ?_
        exact g_iret F hr9 rfl hl9 h rfl (by decide) (by decide) dX5_outcome_194
      · refine ite_at h (fun a4 h => ?_) (fun a4 h => ?_)
        · refine g_tsw (k := 9) (off := 157) (tgt := 158) F a4 dX5_outcome_1 (by decide) (by decide) (by decide) (by decide) ?_
          refine g_iload_n (i := 1) F dX5_outcome_158 rfl rfl ?_
          refine g_iload_n (i := 2) F dX5_outcome_159 rfl rfl ?_
          refine g_icmp_ge (tgt := 167) F dX5_outcome_160 (by decide) h (fun a27 h => ?_) (fun a27 h => ?_)
          · refine g_iconst F dX5_outcome_167 (v := 0) (by decide) ?_
            exact g_iret F hr9 rfl hl9 h rfl (by decide) (by decide) dX5_outcome_168
          · refine g_iconst F dX5_outcome_163 (v := 1) (by decide) ?_
            refine g_goto (tgt := 168) F dX5_outcome_164 (by decide) ?_
            exact g_iret F hr9 rfl hl9 h rfl (by decide) (by decide) dX5_outcome_168
        · refine ite_at h (fun a5 h => ?_) (fun a5 h => ?_)
          · refine g_tsw (k := 10) (off := 168) (tgt := 169) F a5 dX5_outcome_1 (by decide) (by decide) (by decide) (by decide) ?_
            refine g_iload_n (i := 1) F dX5_outcome_169 rfl rfl ?_
            refine g_iload_n (i := 2) F dX5_outcome_170 rfl rfl ?_
            refine g_icmp_ne (tgt := 178) F dX5_outcome_171 (by decide) h (fun a28 h => ?_) (fun a28 h => ?_)
            · refine g_iconst F dX5_outcome_178 (v := 0) (by decide) ?_
              exact g_iret F hr9 rfl hl9 h rfl (by decide) (by decide) dX5_outcome_179
            · refine g_iconst F dX5_outcome_174 (v := 1) (by decide) ?_
              refine g_goto (tgt := 179) F dX5_outcome_175 (by decide) ?_
              exact g_iret F hr9 rfl hl9 h rfl (by decide) (by decide) dX5_outcome_179
          · refine ite_at h (fun a6 h => ?_) (fun a6 h => ?_)
            · refine g_tsw (k := 11) (off := 187) (tgt := 188) F a6 dX5_outcome_1 (by decide) (by decide) (by decide) (by decide) ?_
              refine g_iload_n (i := 2) F dX5_outcome_188 rfl rfl ?_
              refine g_ineg F dX5_outcome_189 ?_
              exact g_iret F hr9 rfl hl9 h rfl (by decide) (by decide) dX5_outcome_190
            · refine ite_at h (fun a7 h => ?_) (fun a7 h => ?_)
              · refine g_tsw (k := 12) (off := 190) (tgt := 191) F a7 dX5_outcome_1 (by decide) (by decide) (by decide) (by decide) ?_
                refine g_iload_n (i := 1) F dX5_outcome_191 rfl rfl ?_
                refine g_iload_n (i := 2) F dX5_outcome_192 rfl rfl ?_
                refine g_imul F dX5_outcome_193 ?_
                exact g_iret F hr9 rfl hl9 h rfl (by decide) (by decide) dX5_outcome_194
              · refine ite_at h (fun a8 h => ?_) (fun a8 h => ?_)
                · refine g_tsw (k := 13) (off := 190) (tgt := 191) F a8 dX5_outcome_1 (by decide) (by decide) (by decide) (by decide) ?_
                  refine g_iload_n (i := 1) F dX5_outcome_191 rfl rfl ?_
                  refine g_iload_n (i := 2) F dX5_outcome_192 rfl rfl ?_
                  refine g_imul F dX5_outcome_193 ?_
                  exact g_iret F hr9 rfl hl9 h rfl (by decide) (by decide) dX5_outcome_194
                · refine ite_at h (fun a9 h => ?_) (fun a9 h => ?_)
                  · refine g_tsw (k := 14) (off := 190) (tgt := 191) F a9 dX5_outcome_1 (by decide) (by decide) (by decide) (by decide) ?_
                    refine g_iload_n (i := 1) F dX5_outcome_191 rfl rfl ?_
                    refine g_iload_n (i := 2) F dX5_outcome_192 rfl rfl ?_
                    refine g_imul F dX5_outcome_193 ?_
                    exact g_iret F hr9 rfl hl9 h rfl (by decide) (by decide) dX5_outcome_194
                  · refine ite_at h (fun a10 h => ?_) (fun a10 h => ?_)
                    · refine g_tsw (k := 15) (off := 190) (tgt := 191) F a10 dX5_outcome_1 (by decide) (by decide) (by decide) (by decide) ?_
                      refine g_iload_n (i := 1) F dX5_outcome_191 rfl rfl ?_
                      refine g_iload_n (i := 2) F dX5_outcome_192 rfl rfl ?_
                      refine g_imul F dX5_outcome_193 ?_
                      exact g_iret F hr9 rfl hl9 h rfl (by decide) (by decide) dX5_outcome_194
                    · refine ite_at h (fun a11 h => ?_) (fun a11 h => ?_)
                      · refine g_tsw (k := 16) (off := 190) (tgt := 191) F a11 dX5_outcome_1 (by decide) (by decide) (by decide) (by decide) ?_
                        refine g_iload_n (i := 1) F dX5_outcome_191 rfl rfl ?_
                        refine g_iload_n (i := 2) F dX5_outcome_192 rfl rfl ?_
                        refine g_imul F dX5_outcome_193 ?_
                        exact g_iret F hr9 rfl hl9 h rfl (by decide) (by decide) dX5_outcome_194
                      · refine ite_at h (fun a12 h => ?_) (fun a12 h => ?_)
                        · refine g_tsw (k := 17) (off := 190) (tgt := 191) F a12 dX5_outcome_1 (by decide) (by decide) (by decide) (by decide) ?_
                          refine g_iload_n (i := 1) F dX5_outcome_191 rfl rfl ?_
                          refine g_iload_n (i := 2) F dX5_outcome_192 rfl rfl ?_
                          refine g_imul F dX5_outcome_193 ?_
                          exact g_iret F hr9 rfl hl9 h rfl (by decide) (by decide) dX5_outcome_194
                        · refine ite_at h (fun a13 h => ?_) (fun a13 h => ?_)
                          · refine g_tsw (k := 18) (off := 190) (tgt := 191) F a13 dX5_outcome_1 (by decide) (by decide) (by decide) (by decide) ?_
                            refine g_iload_n (i := 1) F dX5_outcome_191 rfl rfl ?_
                            refine g_iload_n (i := 2) F dX5_outcome_192 rfl rfl ?_
                            refine g_imul F dX5_outcome_193 ?_
                            exact g_iret F hr9 rfl hl9 h rfl (by decide) (by decide) dX5_outcome_194
                          · refine ite_at h (fun a14 h => ?_) (fun a14 h => ?_)
                            · refine g_tsw (k := 19) (off := 190) (tgt := 191) F a14 dX5_outcome_1 (by decide) (by decide) (by decide) (by decide) ?_
                              refine g_iload_n (i := 1) F dX5_outcome_191 rfl rfl ?_
                              refine g_iload_n (i := 2) F dX5_outcome_192 rfl rfl ?_
                              refine g_imul F dX5_outcome_193 ?_
                              exact g_iret F hr9 rfl hl9 h rfl (by decide) (by decide) dX5_outcome_194
                            · refine ite_at h (fun a15 h => ?_) (fun a15 h => ?_)
                              · refine g_tsw (k := 20) (off := 190) (tgt := 191) F a15 dX5_outcome_1 (by decide) (by decide) (by decide) (by decide) ?_
                                refine g_iload_n (i := 1) F dX5_outcome_191 rfl rfl ?_
                                refine g_iload_n (i := 2) F dX5_outcome_192 rfl rfl ?_
                                refine g_imul F dX5_outcome_193 ?_
                                exact g_iret F hr9 rfl hl9 h rfl (by decide) (by decide) dX5_outcome_194
                              · refine ite_at h (fun a16 h => ?_) (fun a16 h => ?_)
                                · refine g_tsw (k := 21) (off := 190) (tgt := 191) F a16 dX5_outcome_1 (by decide) (by decide) (by decide) (by decide) ?_
                                  refine g_iload_n (i := 1) F dX5_outcome_191 rfl rfl ?_
                                  refine g_iload_n (i := 2) F dX5_outcome_192 rfl rfl ?_
                                  refine g_imul F dX5_outcome_193 ?_
                                  exact g_iret F hr9 rfl hl9 h rfl (by decide) (by decide) dX5_outcome_194
                                · refine ite_at h (fun a17 h => ?_) (fun a17 h => ?_)
                                  · refine g_tsw (k := 22) (off := 190) (tgt := 191) F a17 dX5_outcome_1 (by decide) (by decide) (by decide) (by decide) ?_
                                    refine g_iload_n (i := 1) F dX5_outcome_191 rfl rfl ?_
                                    refine g_iload_n (i := 2) F dX5_outcome_192 rfl rfl ?_
                                    refine g_imul F dX5_outcome_193 ?_
                                    exact g_iret F hr9 rfl hl9 h rfl (by decide) (by decide) dX5_outcome_194
                                  · refine ite_at h (fun a18 h => ?_) (fun a18 h => ?_)
                                    · refine g_tsw (k := 23) (off := 190) (tgt := 191) F a18 dX5_outcome_1 (by decide) (by decide) (by decide) (by decide) ?_
                                      refine g_iload_n (i := 1) F dX5_outcome_191 rfl rfl ?_
                                      refine g_iload_n (i := 2) F dX5_outcome_192 rfl rfl ?_
                                      refine g_imul F dX5_outcome_193 ?_
                                      exact g_iret F hr9 rfl hl9 h rfl (by decide) (by decide) dX5_outcome_194
                                    · refine ite_at h (fun a19 h => ?_) (fun a19 h => ?_)
                                      · refine g_tsw (k := 24) (off := 190) (tgt := 191) F a19 dX5_outcome_1 (by decide) (by decide) (by decide) (by decide) ?_
                                        refine g_iload_n (i := 1) F dX5_outcome_191 rfl rfl ?_
                                        refine g_iload_n (i := 2) F dX5_outcome_192 rfl rfl ?_
                                        refine g_imul F dX5_outcome_193 ?_
                                        exact g_iret F hr9 rfl hl9 h rfl (by decide) (by decide) dX5_outcome_194
                                      · refine ite_at h (fun a20 h => ?_) (fun a20 h => ?_)
                                        · refine g_tsw (k := 25) (off := 190) (tgt := 191) F a20 dX5_outcome_1 (by decide) (by decide) (by decide) (by decide) ?_
                                          refine g_iload_n (i := 1) F dX5_outcome_191 rfl rfl ?_
                                          refine g_iload_n (i := 2) F dX5_outcome_192 rfl rfl ?_
                                          refine g_imul F dX5_outcome_193 ?_
                                          exact g_iret F hr9 rfl hl9 h rfl (by decide) (by decide) dX5_outcome_194
                                        · refine ite_at h (fun a21 h => ?_) (fun a21 h => ?_)
                                          · refine g_tsw (k := 26) (off := 190) (tgt := 191) F a21 dX5_outcome_1 (by decide) (by decide) (by decide) (by decide) ?_
                                            refine g_iload_n (i := 1) F dX5_outcome_191 rfl rfl ?_
                                            refine g_iload_n (i := 2) F dX5_outcome_192 rfl rfl ?_
                                            refine g_imul F dX5_outcome_193 ?_
                                            exact g_iret F hr9 rfl hl9 h rfl (by decide) (by decide) dX5_outcome_194
                                          · refine ite_at h (fun a22 h => ?_) (fun a22 h => ?_)
                                            · refine g_tsw (k := 27) (off := 190) (tgt := 191) F a22 dX5_outcome_1 (by decide) (by decide) (by decide) (by decide) ?_
                                              refine g_iload_n (i := 1) F dX5_outcome_191 rfl rfl ?_
                                              refine g_iload_n (i := 2) F dX5_outcome_192 rfl rfl ?_
                                              refine g_imul F dX5_outcome_193 ?_
                                              exact g_iret F hr9 rfl hl9 h rfl (by decide) (by decide) dX5_outcome_194
                                            · refine ite_at h (fun a23 h => ?_) (fun a23 h => ?_)
                                              · refine g_tsw (k := 28) (off := 190) (tgt := 191) F a23 dX5_outcome_1 (by decide) (by decide) (by decide) (by decide) ?_
                                                refine g_iload_n (i := 1) F dX5_outcome_191 rfl rfl ?_
                                                refine g_iload_n (i := 2) F dX5_outcome_192 rfl rfl ?_
                                                refine g_imul F dX5_outcome_193 ?_
                                                exact g_iret F hr9 rfl hl9 h rfl (by decide) (by decide) dX5_outcome_194
                                              · refine ite_at h (fun a24 h => ?_) (fun a24 h => ?_)
                                                · refine g_tsw (k := 29) (off := 119) (tgt := 120) F a24 dX5_outcome_1 (by decide) (by decide) (by decide) (by decide) ?_
                                                  refine g_iload_n (i := 1) F dX5_outcome_120 rfl rfl ?_
                                                  refine g_if_ne (tgt := 128) F dX5_outcome_121 (by decide) h (fun a30 h => ?_) (fun a30 h => ?_)
                                                  · refine g_iconst F dX5_outcome_128 (v := 1) (by decide) ?_
                                                    refine g_goto (tgt := 133) F dX5_outcome_129 (by decide) ?_
                                                    exact g_iret F hr9 rfl hl9 h rfl (by decide) (by decide) dX5_outcome_133
                                                  · refine g_iload_n (i := 2) F dX5_outcome_124 rfl rfl ?_
                                                    refine g_if_eq (tgt := 132) F dX5_outcome_125 (by decide) h (fun a29 h => ?_) (fun a29 h => ?_)
                                                    · refine g_iconst F dX5_outcome_132 (v := 0) (by decide) ?_
                                                      exact g_iret F hr9 rfl hl9 h rfl (by decide) (by decide) dX5_outcome_133
                                                    · refine g_iconst F dX5_outcome_128 (v := 1) (by decide) ?_
                                                      refine g_goto (tgt := 133) F dX5_outcome_129 (by decide) ?_
                                                      exact g_iret F hr9 rfl hl9 h rfl (by decide) (by decide) dX5_outcome_133
                                                · refine ite_at h (fun a25 h => ?_) (fun a25 h => ?_)
                                                  · refine g_tsw (k := 30) (off := 133) (tgt := 134) F a25 dX5_outcome_1 (by decide) (by decide) (by decide) (by decide) ?_
                                                    refine g_iload_n (i := 1) F dX5_outcome_134 rfl rfl ?_
                                                    refine g_if_eq (tgt := 146) F dX5_outcome_135 (by decide) h (fun a32 h => ?_) (fun a32 h => ?_)
                                                    · refine g_iconst F dX5_outcome_146 (v := 0) (by decide) ?_
                                                      exact g_iret F hr9 rfl hl9 h rfl (by decide) (by decide) dX5_outcome_147
                                                    · refine g_iload_n (i := 2) F dX5_outcome_138 rfl rfl ?_
                                                      refine g_if_eq (tgt := 146) F dX5_outcome_139 (by decide) h (fun a31 h => ?_) (fun a31 h => ?_)
                                                      · refine g_iconst F dX5_outcome_146 (v := 0) (by decide) ?_
                                                        exact g_iret F hr9 rfl hl9 h rfl (by decide) (by decide) dX5_outcome_147
                                                      · refine g_iconst F dX5_outcome_142 (v := 1) (by decide) ?_
                                                        refine g_goto (tgt := 147) F dX5_outcome_143 (by decide) ?_
                                                        exact g_iret F hr9 rfl hl9 h rfl (by decide) (by decide) dX5_outcome_147
                                                  · refine ite_at h (fun a26 h => ?_) (fun a26 h => ?_)
                                                    · refine g_tsw (k := 31) (off := 147) (tgt := 148) F a26 dX5_outcome_1 (by decide) (by decide) (by decide) (by decide) ?_
                                                      refine g_iload_n (i := 2) F dX5_outcome_148 rfl rfl ?_
                                                      refine g_if_ne (tgt := 156) F dX5_outcome_149 (by decide) h (fun a33 h => ?_) (fun a33 h => ?_)
                                                      · refine g_iconst F dX5_outcome_156 (v := 0) (by decide) ?_
                                                        exact g_iret F hr9 rfl hl9 h rfl (by decide) (by decide) dX5_outcome_157
                                                      · refine g_iconst F dX5_outcome_152 (v := 1) (by decide) ?_
                                                        refine g_goto (tgt := 157) F dX5_outcome_153 (by decide) ?_
                                                        exact g_iret F hr9 rfl hl9 h rfl (by decide) (by decide) dX5_outcome_157
                                                    · have q0 : l0.toInt ≠ 6 := fun q => a1 (Int32.toInt_inj.mp (q.trans (by decide)))
                                                      have q1 : l0.toInt ≠ 7 := fun q => a2 (Int32.toInt_inj.mp (q.trans (by decide)))
                                                      have q2 : l0.toInt ≠ 8 := fun q => a3 (Int32.toInt_inj.mp (q.trans (by decide)))
                                                      have q3 : l0.toInt ≠ 9 := fun q => a4 (Int32.toInt_inj.mp (q.trans (by decide)))
                                                      have q4 : l0.toInt ≠ 10 := fun q => a5 (Int32.toInt_inj.mp (q.trans (by decide)))
                                                      have q5 : l0.toInt ≠ 11 := fun q => a6 (Int32.toInt_inj.mp (q.trans (by decide)))
                                                      have q6 : l0.toInt ≠ 12 := fun q => a7 (Int32.toInt_inj.mp (q.trans (by decide)))
                                                      have q7 : l0.toInt ≠ 13 := fun q => a8 (Int32.toInt_inj.mp (q.trans (by decide)))
                                                      have q8 : l0.toInt ≠ 14 := fun q => a9 (Int32.toInt_inj.mp (q.trans (by decide)))
                                                      have q9 : l0.toInt ≠ 15 := fun q => a10 (Int32.toInt_inj.mp (q.trans (by decide)))
                                                      have q10 : l0.toInt ≠ 16 := fun q => a11 (Int32.toInt_inj.mp (q.trans (by decide)))
                                                      have q11 : l0.toInt ≠ 17 := fun q => a12 (Int32.toInt_inj.mp (q.trans (by decide)))
                                                      have q12 : l0.toInt ≠ 18 := fun q => a13 (Int32.toInt_inj.mp (q.trans (by decide)))
                                                      have q13 : l0.toInt ≠ 19 := fun q => a14 (Int32.toInt_inj.mp (q.trans (by decide)))
                                                      have q14 : l0.toInt ≠ 20 := fun q => a15 (Int32.toInt_inj.mp (q.trans (by decide)))
                                                      have q15 : l0.toInt ≠ 21 := fun q => a16 (Int32.toInt_inj.mp (q.trans (by decide)))
                                                      have q16 : l0.toInt ≠ 22 := fun q => a17 (Int32.toInt_inj.mp (q.trans (by decide)))
                                                      have q17 : l0.toInt ≠ 23 := fun q => a18 (Int32.toInt_inj.mp (q.trans (by decide)))
                                                      have q18 : l0.toInt ≠ 24 := fun q => a19 (Int32.toInt_inj.mp (q.trans (by decide)))
                                                      have q19 : l0.toInt ≠ 25 := fun q => a20 (Int32.toInt_inj.mp (q.trans (by decide)))
                                                      have q20 : l0.toInt ≠ 26 := fun q => a21 (Int32.toInt_inj.mp (q.trans (by decide)))
                                                      have q21 : l0.toInt ≠ 27 := fun q => a22 (Int32.toInt_inj.mp (q.trans (by decide)))
                                                      have q22 : l0.toInt ≠ 28 := fun q => a23 (Int32.toInt_inj.mp (q.trans (by decide)))
                                                      have q23 : l0.toInt ≠ 29 := fun q => a24 (Int32.toInt_inj.mp (q.trans (by decide)))
                                                      have q24 : l0.toInt ≠ 30 := fun q => a25 (Int32.toInt_inj.mp (q.trans (by decide)))
                                                      have q25 : l0.toInt ≠ 31 := fun q => a26 (Int32.toInt_inj.mp (q.trans (by decide)))
                                                      refine g_tswd (tgt := 191) F (by omega) dX5_outcome_1 (by decide) ?_
                                                      refine g_iload_n (i := 1) F dX5_outcome_191 rfl rfl ?_
                                                      refine g_iload_n (i := 2) F dX5_outcome_192 rfl rfl ?_
                                                      refine g_imul F dX5_outcome_193 ?_
                                                      exact g_iret F hr9 rfl hl9 h rfl (by decide) (by decide) dX5_outcome_194
def fX5_valueOf_b199 (X : XW) (l3 : Nat) (l4 : Int32) : Option (Int32 × XW) :=
  if l4 ≤ 0 then some ((0 : Int32), X)
  else if kd l3 = 11 then (rd (X.2.1 l3) (ln l3) (0 : Int32)).bind fun v10 =>
  some (v10, X) else none
def fX5_valueOf_b147 (l0f32 : Nat) (l1f32 : Int32) (l2f32 : Nat) (l3f32 : Nat) (K32 : XW → Int32 → Int32 → Option (Int32 × XW)) (X : XW) (l4 : Int32) (l5 : Int32) (l7 : Int32) (l8 : Int32) : Option (Int32 × XW) :=
  if l8 ≤ 0 then K32 X l4 (l5 + (1 : Int32))
  else if l4 < l8 then K32 X l4 (l5 + (1 : Int32))
  else if kd l3f32 = 11 then (rd (X.2.1 l3f32) (ln l3f32) (l4 - l8)).bind fun v18 =>
  (rd (X.2.1 l3f32) (ln l3f32) (l4 - (1 : Int32))).bind fun v20 =>
  if inb (l4 - l8) (ln l3f32) then bd (xA X l3f32 (l4 - l8) (fX5_outcome l7 v18 v20)) fun X25 =>
  bd ((l4 - l8) + (1 : Int32)) fun v27 =>
  K32 X25 v27 (l5 + (1 : Int32))
  else none else none
def fX5_valueOf_b140 (l0f32 : Nat) (l1f32 : Int32) (l2f32 : Nat) (l3f32 : Nat) (K32 : XW → Int32 → Int32 → Option (Int32 × XW)) (X : XW) (l4 : Int32) (l5 : Int32) (t0 : Nat) (t1 : Int32) (t2 : Int32) : Option (Int32 × XW) :=
  if kd t0 = 11 then if inb t1 (ln t0) then bd (xA X t0 t1 t2) fun X37 =>
  K32 X37 (l4 + (1 : Int32)) (l5 + (1 : Int32))
  else none else none
def fX5_valueOf_b98 (l0f32 : Nat) (l1f32 : Int32) (l2f32 : Nat) (l3f32 : Nat) (K32 : XW → Int32 → Int32 → Option (Int32 × XW)) (X : XW) (l4 : Int32) (l5 : Int32) (l6 : Int32) (l7 : Int32) (t0 : Int32) : Option (Int32 × XW) :=
  if t0 = 0 then if kd l3f32 = 11 then if (Int32.ofNat (ln l3f32)) ≤ l4 then fX5_valueOf_b147 l0f32 l1f32 l2f32 l3f32 K32 X l4 l5 l7 t0
  else if (10000 : Int32) ≤ l6 then if kd l2f32 = 11 then (rd (X.2.1 l2f32) (ln l2f32) (jmin (l6 - (10000 : Int32)) (5 : Int32))).bind fun v33 =>
  fX5_valueOf_b140 l0f32 l1f32 l2f32 l3f32 K32 X l4 l5 l3f32 l4 v33 else none
  else fX5_valueOf_b140 l0f32 l1f32 l2f32 l3f32 K32 X l4 l5 l3f32 l4 l6 else none
  else fX5_valueOf_b147 l0f32 l1f32 l2f32 l3f32 K32 X l4 l5 l7 t0
def fX5_valueOf_b93 (l0f32 : Nat) (l1f32 : Int32) (l2f32 : Nat) (l3f32 : Nat) (K32 : XW → Int32 → Int32 → Option (Int32 × XW)) (X : XW) (l4 : Int32) (l5 : Int32) (l6 : Int32) (l7 : Int32) : Option (Int32 × XW) :=
  fX5_valueOf_b98 l0f32 l1f32 l2f32 l3f32 K32 X l4 l5 l6 l7 (1 : Int32)
def fX5_valueOf_l32 (l0f32 : Nat) (l1f32 : Int32) (l2f32 : Nat) (l3f32 : Nat) (K32 : XW → Int32 → Int32 → Option (Int32 × XW)) (X : XW) (l4 : Int32) (l5 : Int32) : Option (Int32 × XW) :=
  if kd l0f32 = 5 then (rd (X.2.1 (l0f32 + 2)) 3 l1f32).bind fun v7 =>
  if v7 ≤ l5 then fX5_valueOf_b199 X l3f32 l4
  else if (160 : Int32) ≤ l5 then fX5_valueOf_b199 X l3f32 l4
  else (rd (X.2.1 (l0f32 + 1)) 160 l5).bind fun v13 =>
  bd (v13 - (20000 : Int32)) fun v15 =>
  if 0 ≤ v15 then if v15 = (31 : Int32) then fX5_valueOf_b93 l0f32 l1f32 l2f32 l3f32 K32 X l4 l5 v13 v15
  else if v15 = (11 : Int32) then fX5_valueOf_b93 l0f32 l1f32 l2f32 l3f32 K32 X l4 l5 v13 v15
  else fX5_valueOf_b98 l0f32 l1f32 l2f32 l3f32 K32 X l4 l5 v13 v15 (2 : Int32)
  else fX5_valueOf_b98 l0f32 l1f32 l2f32 l3f32 K32 X l4 l5 v13 v15 (0 : Int32) else none
def fX5_valueOf_b30 (X : XW) (l0 : Nat) (l1 : Int32) (l2 : Nat) (l3 : Nat) (l4 : Int32) (t0 : Int32) : Option (Int32 × XW) :=
  lo3 (fX5_valueOf_l32 l0 l1 l2 l3) FU X l4 t0
def fX5_valueOf (X : XW) (l0 : Nat) (l1 : Int32) (l2 : Nat) (l3 : Nat) : Option (Int32 × XW) :=
  if (fX9_within l1 (0 : Int32) (2 : Int32)) = 0 then some ((0 : Int32), X)
  else if l1 = 0 then fX5_valueOf_b30 X l0 l1 l2 l3 (0 : Int32) (0 : Int32)
  else if kd l0 = 5 then (rd (X.2.1 (l0 + 2)) 3 (l1 - (1 : Int32))).bind fun v4 =>
  fX5_valueOf_b30 X l0 l1 l2 l3 (0 : Int32) v4 else none
set_option maxRecDepth 100000 in
set_option maxHeartbeats 4000000 in
theorem c_X5_valueOf {l : Launch} {s0 : State} {D : va_G} {ev : Nat → Nat} (G0 : Gl s0 D ev) {X : XW} {M : MW} {nb : Nat} {l0 : Nat} {l1 : Int32} {l2 : Nat} {l3 : Nat} {r' : Int32} {X' : XW}  (h : fX5_valueOf X l0 l1 l2 l3 = some (r', X')) : CT l s0 D ev yX5_valueOf cX5_valueOf 9 (some .int) 1 0 0 [.ref (ev 0 + l0), .int l1, .ref (ev 0 + l2), .ref (ev 0 + l3)] (cells ev X M nb) (QI s0 D ev r' (cells ev X' M nb)) := by
  refine ct_of G0 (by decide) (Nat.le_of_ble_eq_true rfl) ?_
  intro p9 e9 s9 m9 args9 below9 meth9 c9 F hr9 hl9 hin9 hargs9 hts9
  have U199 : ∀ (X : XW) (l3 : Nat) (l4 : Int32), fX5_valueOf_b199 X l3 l4 = some (r', X') → GJ p9 l e9 (rg 1 0 0) s9 m9 args9 below9 meth9 c9 (MQ below9 (QI s0 D ev r' (cells ev X' M nb)) args9 s9 0 0 (frA ev)) s0 D ev 9 0 0 199 [(3, .ref (ev 0 + l3)), (4, .int l4)] ([]) (cells ev X M nb) := by
    intro X l3 l4 h
    rw [fX5_valueOf_b199] at h
    refine g_iload (i := 4) F dX5_valueOf_199 rfl ?_
    refine g_if_le (tgt := 210) F dX5_valueOf_201 (by decide) h (fun a12 h => ?_) (fun a12 h => ?_)
    · refine g_iconst F dX5_valueOf_210 (v := 0) (by decide) ?_
      have hp := Prod.mk.inj (Option.some.inj h)
      exact g_iret F hr9 rfl hl9 hp.1 (by rw [hp.2]) (by decide) (by decide) dX5_valueOf_211
    · refine g_aload_n (i := 3) F dX5_valueOf_204 rfl rfl ?_
      refine g_iconst F dX5_valueOf_205 (v := 0) (by decide) ?_
      obtain ⟨h9, h⟩ := if_at h
      obtain ⟨v10, e11, h⟩ := bind_at h
      refine g_ildX F h9 rfl e11 dX5_valueOf_206 ?_
      refine g_goto (tgt := 211) F dX5_valueOf_207 (by decide) ?_
      have hp := Prod.mk.inj (Option.some.inj h)
      exact g_iret F hr9 rfl hl9 hp.1 (by rw [hp.2]) (by decide) (by decide) dX5_valueOf_211
  have L32 : ∀ (l0f32 : Nat) (l1f32 : Int32) (l2f32 : Nat) (l3f32 : Nat) (N32 : Nat) (X : XW) (l4 : Int32) (l5 : Int32), lo3 (fX5_valueOf_l32 l0f32 l1f32 l2f32 l3f32) N32 X l4 l5 = some (r', X') → GJ p9 l e9 (rg 1 0 0) s9 m9 args9 below9 meth9 c9 (MQ below9 (QI s0 D ev r' (cells ev X' M nb)) args9 s9 0 0 (frA ev)) s0 D ev 9 0 0 32 [(0, .ref (ev 0 + l0f32)), (1, .int l1f32), (2, .ref (ev 0 + l2f32)), (3, .ref (ev 0 + l3f32)), (4, .int l4), (5, .int l5)] ([]) (cells ev X M nb) := by
    intro l0f32 l1f32 l2f32 l3f32 N32
    induction N32 with
    | zero => intro X l4 l5 h; cases h
    | succ N32 ih32 =>
      have U147 : ∀ (X : XW) (l4 : Int32) (l5 : Int32) (l7 : Int32) (l8 : Int32), fX5_valueOf_b147 l0f32 l1f32 l2f32 l3f32 (lo3 (fX5_valueOf_l32 l0f32 l1f32 l2f32 l3f32) N32) X l4 l5 l7 l8 = some (r', X') → GJ p9 l e9 (rg 1 0 0) s9 m9 args9 below9 meth9 c9 (MQ below9 (QI s0 D ev r' (cells ev X' M nb)) args9 s9 0 0 (frA ev)) s0 D ev 9 0 0 147 [(0, .ref (ev 0 + l0f32)), (1, .int l1f32), (2, .ref (ev 0 + l2f32)), (3, .ref (ev 0 + l3f32)), (4, .int l4), (5, .int l5), (7, .int l7), (8, .int l8)] ([]) (cells ev X M nb) := by
        intro X l4 l5 l7 l8 h
        rw [fX5_valueOf_b147] at h
        refine g_iload (i := 8) F dX5_valueOf_147 rfl ?_
        refine g_if_le (tgt := 193) F dX5_valueOf_149 (by decide) h (fun a30 h => ?_) (fun a30 h => ?_)
        · refine g_iinc (i := 5) (v := (l5 + (1 : Int32))) (lv' := [(5, .int (l5 + (1 : Int32))), (0, .ref (ev 0 + l0f32)), (1, .int l1f32), (2, .ref (ev 0 + l2f32)), (3, .ref (ev 0 + l3f32)), (4, .int l4), (7, .int l7), (8, .int l8)]) F dX5_valueOf_193 rfl rfl (by decide) rfl ?_
          refine g_goto (tgt := 32) F dX5_valueOf_196 (by decide) ?_
          refine g_lv (lv' := [(0, .ref (ev 0 + l0f32)), (1, .int l1f32), (2, .ref (ev 0 + l2f32)), (3, .ref (ev 0 + l3f32)), (4, .int l4), (5, .int (l5 + (1 : Int32)))]) ⟨rfl, rfl, rfl, rfl, rfl, rfl, trivial⟩ ?_
          exact ih32 _ _ _ h
        · refine g_iload (i := 4) F dX5_valueOf_152 rfl ?_
          refine g_iload (i := 8) F dX5_valueOf_154 rfl ?_
          refine g_icmp_lt (tgt := 193) F dX5_valueOf_156 (by decide) h (fun a29 h => ?_) (fun a29 h => ?_)
          · refine g_iinc (i := 5) (v := (l5 + (1 : Int32))) (lv' := [(5, .int (l5 + (1 : Int32))), (0, .ref (ev 0 + l0f32)), (1, .int l1f32), (2, .ref (ev 0 + l2f32)), (3, .ref (ev 0 + l3f32)), (4, .int l4), (7, .int l7), (8, .int l8)]) F dX5_valueOf_193 rfl rfl (by decide) rfl ?_
            refine g_goto (tgt := 32) F dX5_valueOf_196 (by decide) ?_
            refine g_lv (lv' := [(0, .ref (ev 0 + l0f32)), (1, .int l1f32), (2, .ref (ev 0 + l2f32)), (3, .ref (ev 0 + l3f32)), (4, .int l4), (5, .int (l5 + (1 : Int32)))]) ⟨rfl, rfl, rfl, rfl, rfl, rfl, trivial⟩ ?_
            exact ih32 _ _ _ h
          · refine g_aload_n (i := 3) F dX5_valueOf_159 rfl rfl ?_
            refine g_iload (i := 4) F dX5_valueOf_160 rfl ?_
            refine g_iload (i := 8) F dX5_valueOf_162 rfl ?_
            refine g_isub F dX5_valueOf_164 ?_
            refine g_iload (i := 7) F dX5_valueOf_165 rfl ?_
            refine g_aload_n (i := 3) F dX5_valueOf_167 rfl rfl ?_
            refine g_iload (i := 4) F dX5_valueOf_168 rfl ?_
            refine g_iload (i := 8) F dX5_valueOf_170 rfl ?_
            refine g_isub F dX5_valueOf_172 ?_
            obtain ⟨h17, h⟩ := if_at h
            obtain ⟨v18, e19, h⟩ := bind_at h
            refine g_ildX F h17 rfl e19 dX5_valueOf_173 ?_
            refine g_aload_n (i := 3) F dX5_valueOf_174 rfl rfl ?_
            refine g_iload (i := 4) F dX5_valueOf_175 rfl ?_
            refine g_iconst F dX5_valueOf_177 (v := 1) (by decide) ?_
            refine g_isub F dX5_valueOf_178 ?_
            obtain ⟨v20, e21, h⟩ := bind_at h
            refine g_ildX F h17 rfl e21 dX5_valueOf_179 ?_
            refine g_callSI F (mcR := 0) (msR := 0) (c_X5_outcome G0 (X := X) (M := M) (nb := nb) rfl) wd_20_23 wd_20_21 wd_20_22 wd_3_4 ⟨by decide, by decide⟩ (nn := 3) (by decide) (As := [.int l7, .int v18, .int v20]) rfl rfl (Nat.le_of_ble_eq_true rfl) (by decide) (by decide) ⟨by decide, by decide⟩ dX5_valueOf_180 ?_
            obtain ⟨h24, h⟩ := if_at h
            obtain ⟨X25, e26, h⟩ := bd_at h
            refine g_istX F h17 rfl h24 dX5_valueOf_183 ?_
            rw [← e26]
            refine g_iload (i := 4) F dX5_valueOf_184 rfl ?_
            refine g_iload (i := 8) F dX5_valueOf_186 rfl ?_
            refine g_isub F dX5_valueOf_188 ?_
            refine g_iconst F dX5_valueOf_189 (v := 1) (by decide) ?_
            refine g_iadd F dX5_valueOf_190 ?_
            refine g_topi F h (fun v27 e28 h => ?_)
            refine g_istore (i := 4) (lv' := [(4, .int v27), (0, .ref (ev 0 + l0f32)), (1, .int l1f32), (2, .ref (ev 0 + l2f32)), (3, .ref (ev 0 + l3f32)), (5, .int l5), (7, .int l7), (8, .int l8)]) F dX5_valueOf_191 (by decide) rfl ?_
            refine g_iinc (i := 5) (v := (l5 + (1 : Int32))) (lv' := [(5, .int (l5 + (1 : Int32))), (4, .int v27), (0, .ref (ev 0 + l0f32)), (1, .int l1f32), (2, .ref (ev 0 + l2f32)), (3, .ref (ev 0 + l3f32)), (7, .int l7), (8, .int l8)]) F dX5_valueOf_193 rfl rfl (by decide) rfl ?_
            refine g_goto (tgt := 32) F dX5_valueOf_196 (by decide) ?_
            refine g_lv (lv' := [(0, .ref (ev 0 + l0f32)), (1, .int l1f32), (2, .ref (ev 0 + l2f32)), (3, .ref (ev 0 + l3f32)), (4, .int v27), (5, .int (l5 + (1 : Int32)))]) ⟨rfl, rfl, rfl, rfl, rfl, rfl, trivial⟩ ?_
            exact ih32 _ _ _ h
      have U140 : ∀ (X : XW) (l4 : Int32) (l5 : Int32) (t0 : Nat) (t1 : Int32) (t2 : Int32), fX5_valueOf_b140 l0f32 l1f32 l2f32 l3f32 (lo3 (fX5_valueOf_l32 l0f32 l1f32 l2f32 l3f32) N32) X l4 l5 t0 t1 t2 = some (r', X') → GJ p9 l e9 (rg 1 0 0) s9 m9 args9 below9 meth9 c9 (MQ below9 (QI s0 D ev r' (cells ev X' M nb)) args9 s9 0 0 (frA ev)) s0 D ev 9 0 0 140 [(0, .ref (ev 0 + l0f32)), (1, .int l1f32), (2, .ref (ev 0 + l2f32)), (3, .ref (ev 0 + l3f32)), (4, .int l4), (5, .int l5)] (.int t2 :: .int t1 :: .ref (ev 0 + t0) :: []) (cells ev X M nb) := by
        intro X l4 l5 t0 t1 t2 h
        rw [fX5_valueOf_b140] at h
        obtain ⟨h35, h⟩ := if_at h
        obtain ⟨h36, h⟩ := if_at h
        obtain ⟨X37, e38, h⟩ := bd_at h
        refine g_istX F h35 rfl h36 dX5_valueOf_140 ?_
        rw [← e38]
        refine g_iinc (i := 4) (v := (l4 + (1 : Int32))) (lv' := [(4, .int (l4 + (1 : Int32))), (0, .ref (ev 0 + l0f32)), (1, .int l1f32), (2, .ref (ev 0 + l2f32)), (3, .ref (ev 0 + l3f32)), (5, .int l5)]) F dX5_valueOf_141 rfl rfl (by decide) rfl ?_
        refine g_goto (tgt := 193) F dX5_valueOf_144 (by decide) ?_
        refine g_iinc (i := 5) (v := (l5 + (1 : Int32))) (lv' := [(5, .int (l5 + (1 : Int32))), (4, .int (l4 + (1 : Int32))), (0, .ref (ev 0 + l0f32)), (1, .int l1f32), (2, .ref (ev 0 + l2f32)), (3, .ref (ev 0 + l3f32))]) F dX5_valueOf_193 rfl rfl (by decide) rfl ?_
        refine g_goto (tgt := 32) F dX5_valueOf_196 (by decide) ?_
        refine g_lv (lv' := [(0, .ref (ev 0 + l0f32)), (1, .int l1f32), (2, .ref (ev 0 + l2f32)), (3, .ref (ev 0 + l3f32)), (4, .int (l4 + (1 : Int32))), (5, .int (l5 + (1 : Int32)))]) ⟨rfl, rfl, rfl, rfl, rfl, rfl, trivial⟩ ?_
        exact ih32 _ _ _ h
      have U98 : ∀ (X : XW) (l4 : Int32) (l5 : Int32) (l6 : Int32) (l7 : Int32) (t0 : Int32), fX5_valueOf_b98 l0f32 l1f32 l2f32 l3f32 (lo3 (fX5_valueOf_l32 l0f32 l1f32 l2f32 l3f32) N32) X l4 l5 l6 l7 t0 = some (r', X') → GJ p9 l e9 (rg 1 0 0) s9 m9 args9 below9 meth9 c9 (MQ below9 (QI s0 D ev r' (cells ev X' M nb)) args9 s9 0 0 (frA ev)) s0 D ev 9 0 0 98 [(0, .ref (ev 0 + l0f32)), (1, .int l1f32), (2, .ref (ev 0 + l2f32)), (3, .ref (ev 0 + l3f32)), (4, .int l4), (5, .int l5), (6, .int l6), (7, .int l7)] (.int t0 :: []) (cells ev X M nb) := by
        intro X l4 l5 l6 l7 t0 h
        rw [fX5_valueOf_b98] at h
        refine g_istore (i := 8) (lv' := [(8, .int t0), (0, .ref (ev 0 + l0f32)), (1, .int l1f32), (2, .ref (ev 0 + l2f32)), (3, .ref (ev 0 + l3f32)), (4, .int l4), (5, .int l5), (6, .int l6), (7, .int l7)]) F dX5_valueOf_98 (by decide) rfl ?_
        refine g_iload (i := 8) F dX5_valueOf_100 rfl ?_
        refine g_if_ne (tgt := 147) F dX5_valueOf_102 (by decide) h (fun a41 h => ?_) (fun a41 h => ?_)
        · refine g_lv (lv' := [(0, .ref (ev 0 + l0f32)), (1, .int l1f32), (2, .ref (ev 0 + l2f32)), (3, .ref (ev 0 + l3f32)), (4, .int l4), (5, .int l5), (7, .int l7), (8, .int t0)]) ⟨rfl, rfl, rfl, rfl, rfl, rfl, rfl, rfl, trivial⟩ ?_
          exact U147 _ _ _ _ _ h
        · refine g_iload (i := 4) F dX5_valueOf_105 rfl ?_
          refine g_aload_n (i := 3) F dX5_valueOf_107 rfl rfl ?_
          obtain ⟨h31, h⟩ := if_at h
          refine g_alX F h31 rfl dX5_valueOf_108 ?_
          refine g_icmp_ge (tgt := 147) F dX5_valueOf_109 (by decide) h (fun a40 h => ?_) (fun a40 h => ?_)
          · refine g_lv (lv' := [(0, .ref (ev 0 + l0f32)), (1, .int l1f32), (2, .ref (ev 0 + l2f32)), (3, .ref (ev 0 + l3f32)), (4, .int l4), (5, .int l5), (7, .int l7), (8, .int t0)]) ⟨rfl, rfl, rfl, rfl, rfl, rfl, rfl, rfl, trivial⟩ ?_
            exact U147 _ _ _ _ _ h
          · refine g_aload_n (i := 3) F dX5_valueOf_112 rfl rfl ?_
            refine g_iload (i := 4) F dX5_valueOf_113 rfl ?_
            refine g_iload (i := 6) F dX5_valueOf_115 rfl ?_
            refine g_sipush F dX5_valueOf_117 (v := 10000) (by decide) ?_
            refine g_icmp_ge (tgt := 128) F dX5_valueOf_120 (by decide) h (fun a39 h => ?_) (fun a39 h => ?_)
            · refine g_aload_n (i := 2) F dX5_valueOf_128 rfl rfl ?_
              refine g_iload (i := 6) F dX5_valueOf_129 rfl ?_
              refine g_sipush F dX5_valueOf_131 (v := 10000) (by decide) ?_
              refine g_isub F dX5_valueOf_134 ?_
              refine g_iconst F dX5_valueOf_135 (v := 5) (by decide) ?_
              refine g_mmin F wd_20_20 wd_16_20 wd_16_21 wd_16_22 (Nat.le_of_ble_eq_true rfl) (Nat.le_of_ble_eq_true rfl) (Nat.zero_le _) (Nat.zero_le _) dX5_valueOf_136 ?_
              obtain ⟨h32, h⟩ := if_at h
              obtain ⟨v33, e34, h⟩ := bind_at h
              refine g_ildX F h32 rfl e34 dX5_valueOf_139 ?_
              refine g_lv (lv' := [(0, .ref (ev 0 + l0f32)), (1, .int l1f32), (2, .ref (ev 0 + l2f32)), (3, .ref (ev 0 + l3f32)), (4, .int l4), (5, .int l5)]) ⟨rfl, rfl, rfl, rfl, rfl, rfl, trivial⟩ ?_
              exact U140 _ _ _ _ _ _ h
            · refine g_iload (i := 6) F dX5_valueOf_123 rfl ?_
              refine g_goto (tgt := 140) F dX5_valueOf_125 (by decide) ?_
              refine g_lv (lv' := [(0, .ref (ev 0 + l0f32)), (1, .int l1f32), (2, .ref (ev 0 + l2f32)), (3, .ref (ev 0 + l3f32)), (4, .int l4), (5, .int l5)]) ⟨rfl, rfl, rfl, rfl, rfl, rfl, trivial⟩ ?_
              exact U140 _ _ _ _ _ _ h
      have U93 : ∀ (X : XW) (l4 : Int32) (l5 : Int32) (l6 : Int32) (l7 : Int32), fX5_valueOf_b93 l0f32 l1f32 l2f32 l3f32 (lo3 (fX5_valueOf_l32 l0f32 l1f32 l2f32 l3f32) N32) X l4 l5 l6 l7 = some (r', X') → GJ p9 l e9 (rg 1 0 0) s9 m9 args9 below9 meth9 c9 (MQ below9 (QI s0 D ev r' (cells ev X' M nb)) args9 s9 0 0 (frA ev)) s0 D ev 9 0 0 93 [(0, .ref (ev 0 + l0f32)), (1, .int l1f32), (2, .ref (ev 0 + l2f32)), (3, .ref (ev 0 + l3f32)), (4, .int l4), (5, .int l5), (6, .int l6), (7, .int l7)] ([]) (cells ev X M nb) := by
        intro X l4 l5 l6 l7 h
        rw [fX5_valueOf_b93] at h
        refine g_iconst F dX5_valueOf_93 (v := 1) (by decide) ?_
        refine g_goto (tgt := 98) F dX5_valueOf_94 (by decide) ?_
        refine g_lv (lv' := [(0, .ref (ev 0 + l0f32)), (1, .int l1f32), (2, .ref (ev 0 + l2f32)), (3, .ref (ev 0 + l3f32)), (4, .int l4), (5, .int l5), (6, .int l6), (7, .int l7)]) ⟨rfl, rfl, rfl, rfl, rfl, rfl, rfl, rfl, trivial⟩ ?_
        exact U98 _ _ _ _ _ _ h
      intro X l4 l5 h
      change fX5_valueOf_l32 l0f32 l1f32 l2f32 l3f32 (lo3 (fX5_valueOf_l32 l0f32 l1f32 l2f32 l3f32) N32) X l4 l5 = some (r', X') at h
      rw [fX5_valueOf_l32] at h
      refine g_iload (i := 5) F dX5_valueOf_32 rfl ?_
      refine g_aload_n (i := 0) F dX5_valueOf_34 rfl rfl ?_
      obtain ⟨h6, h⟩ := if_at h
      refine g_get_5_1 F h6 (kd_hid h6 (by decide)) wd_6_4 dX5_valueOf_35 ?_
      refine g_iload_n (i := 1) F dX5_valueOf_38 rfl rfl ?_
      obtain ⟨v7, e8, h⟩ := bind_at h
      refine g_ildX F (kd_5_2 h6).1 (kd_5_2 h6).2 e8 dX5_valueOf_39 ?_
      refine g_icmp_ge (tgt := 199) F dX5_valueOf_40 (by decide) h (fun a46 h => ?_) (fun a46 h => ?_)
      · refine g_lv (lv' := [(3, .ref (ev 0 + l3f32)), (4, .int l4)]) ⟨rfl, rfl, trivial⟩ ?_
        exact U199 _ _ _ h
      · refine g_iload (i := 5) F dX5_valueOf_43 rfl ?_
        refine g_aload_n (i := 0) F dX5_valueOf_45 rfl rfl ?_
        refine g_get_5_0 F h6 (kd_hid h6 (by decide)) wd_6_3 dX5_valueOf_46 ?_
        refine g_alX (n := 160) F (kd_5_1 h6).1 (kd_5_1 h6).2 dX5_valueOf_49 ?_
        refine g_icmp_ge (tgt := 199) F dX5_valueOf_50 (by decide) h (fun a45 h => ?_) (fun a45 h => ?_)
        · refine g_lv (lv' := [(3, .ref (ev 0 + l3f32)), (4, .int l4)]) ⟨rfl, rfl, trivial⟩ ?_
          exact U199 _ _ _ h
        · refine g_aload_n (i := 0) F dX5_valueOf_53 rfl rfl ?_
          refine g_get_5_0 F h6 (kd_hid h6 (by decide)) wd_6_3 dX5_valueOf_54 ?_
          refine g_iload (i := 5) F dX5_valueOf_57 rfl ?_
          obtain ⟨v13, e14, h⟩ := bind_at h
          refine g_ildX F (kd_5_1 h6).1 (kd_5_1 h6).2 e14 dX5_valueOf_59 ?_
          refine g_istore (i := 6) (lv' := [(6, .int v13), (0, .ref (ev 0 + l0f32)), (1, .int l1f32), (2, .ref (ev 0 + l2f32)), (3, .ref (ev 0 + l3f32)), (4, .int l4), (5, .int l5)]) F dX5_valueOf_60 (by decide) rfl ?_
          refine g_iload (i := 6) F dX5_valueOf_62 rfl ?_
          refine g_sipush F dX5_valueOf_64 (v := 20000) (by decide) ?_
          refine g_isub F dX5_valueOf_67 ?_
          refine g_topi F h (fun v15 e16 h => ?_)
          refine g_istore (i := 7) (lv' := [(7, .int v15), (6, .int v13), (0, .ref (ev 0 + l0f32)), (1, .int l1f32), (2, .ref (ev 0 + l2f32)), (3, .ref (ev 0 + l3f32)), (4, .int l4), (5, .int l5)]) F dX5_valueOf_68 (by decide) rfl ?_
          refine g_iload (i := 7) F dX5_valueOf_70 rfl ?_
          refine g_if_ge (tgt := 79) F dX5_valueOf_72 (by decide) h (fun a44 h => ?_) (fun a44 h => ?_)
          · refine g_iload (i := 7) F dX5_valueOf_79 rfl ?_
            refine g_bipush F dX5_valueOf_81 (v := 31) (by decide) ?_
            refine g_icmp_eq (tgt := 93) F dX5_valueOf_83 (by decide) h (fun a43 h => ?_) (fun a43 h => ?_)
            · refine g_lv (lv' := [(0, .ref (ev 0 + l0f32)), (1, .int l1f32), (2, .ref (ev 0 + l2f32)), (3, .ref (ev 0 + l3f32)), (4, .int l4), (5, .int l5), (6, .int v13), (7, .int v15)]) ⟨rfl, rfl, rfl, rfl, rfl, rfl, rfl, rfl, trivial⟩ ?_
              exact U93 _ _ _ _ _ h
            · refine g_iload (i := 7) F dX5_valueOf_86 rfl ?_
              refine g_bipush F dX5_valueOf_88 (v := 11) (by decide) ?_
              refine g_icmp_ne (tgt := 97) F dX5_valueOf_90 (by decide) h (fun a42 h => ?_) (fun a42 h => ?_)
              · refine g_iconst F dX5_valueOf_97 (v := 2) (by decide) ?_
                refine g_lv (lv' := [(0, .ref (ev 0 + l0f32)), (1, .int l1f32), (2, .ref (ev 0 + l2f32)), (3, .ref (ev 0 + l3f32)), (4, .int l4), (5, .int l5), (6, .int v13), (7, .int v15)]) ⟨rfl, rfl, rfl, rfl, rfl, rfl, rfl, rfl, trivial⟩ ?_
                exact U98 _ _ _ _ _ _ h
              · refine g_lv (lv' := [(0, .ref (ev 0 + l0f32)), (1, .int l1f32), (2, .ref (ev 0 + l2f32)), (3, .ref (ev 0 + l3f32)), (4, .int l4), (5, .int l5), (6, .int v13), (7, .int v15)]) ⟨rfl, rfl, rfl, rfl, rfl, rfl, rfl, rfl, trivial⟩ ?_
                exact U93 _ _ _ _ _ h
          · refine g_iconst F dX5_valueOf_75 (v := 0) (by decide) ?_
            refine g_goto (tgt := 98) F dX5_valueOf_76 (by decide) ?_
            refine g_lv (lv' := [(0, .ref (ev 0 + l0f32)), (1, .int l1f32), (2, .ref (ev 0 + l2f32)), (3, .ref (ev 0 + l3f32)), (4, .int l4), (5, .int l5), (6, .int v13), (7, .int v15)]) ⟨rfl, rfl, rfl, rfl, rfl, rfl, rfl, rfl, trivial⟩ ?_
            exact U98 _ _ _ _ _ _ h
  have U30 : ∀ (X : XW) (l0 : Nat) (l1 : Int32) (l2 : Nat) (l3 : Nat) (l4 : Int32) (t0 : Int32), fX5_valueOf_b30 X l0 l1 l2 l3 l4 t0 = some (r', X') → GJ p9 l e9 (rg 1 0 0) s9 m9 args9 below9 meth9 c9 (MQ below9 (QI s0 D ev r' (cells ev X' M nb)) args9 s9 0 0 (frA ev)) s0 D ev 9 0 0 30 [(0, .ref (ev 0 + l0)), (1, .int l1), (2, .ref (ev 0 + l2)), (3, .ref (ev 0 + l3)), (4, .int l4)] (.int t0 :: []) (cells ev X M nb) := by
    intro X l0 l1 l2 l3 l4 t0 h
    rw [fX5_valueOf_b30] at h
    refine g_istore (i := 5) (lv' := [(5, .int t0), (0, .ref (ev 0 + l0)), (1, .int l1), (2, .ref (ev 0 + l2)), (3, .ref (ev 0 + l3)), (4, .int l4)]) F dX5_valueOf_30 (by decide) rfl ?_
    refine g_lv (lv' := [(0, .ref (ev 0 + l0)), (1, .int l1), (2, .ref (ev 0 + l2)), (3, .ref (ev 0 + l3)), (4, .int l4), (5, .int t0)]) ⟨rfl, rfl, rfl, rfl, rfl, rfl, trivial⟩ ?_
    exact L32 _ _ _ _ FU _ _ _ h
  rw [fX5_valueOf] at h
  refine g_lv (lv' := [(0, .ref (ev 0 + l0)), (1, .int l1), (2, .ref (ev 0 + l2)), (3, .ref (ev 0 + l3))]) ⟨rfl, rfl, rfl, rfl, trivial⟩ ?_
  refine g_iload_n (i := 1) F dX5_valueOf_0 rfl rfl ?_
  refine g_iconst F dX5_valueOf_1 (v := 0) (by decide) ?_
  refine g_iconst F dX5_valueOf_2 (v := 2) (by decide) ?_
  refine g_callSNI F (mcR := 0) (msR := 0) (c_X9_within G0 (X := X) (M := M) (nb := nb) rfl) wd_9_7 (List.mem_of_getElem? (l := nwL) (i := 3) rfl) wd_9_6 wd_1_2 ⟨by decide, by decide⟩ (nn := 3) (by decide) (As := [.int l1, .int (0 : Int32), .int (2 : Int32)]) rfl rfl (Nat.le_of_ble_eq_true rfl) (by decide) (by decide) ⟨by decide, by decide⟩ dX5_valueOf_3 ?_
  refine g_if_ne (tgt := 11) F dX5_valueOf_6 (by decide) h (fun a48 h => ?_) (fun a48 h => ?_)
  · refine g_iconst F dX5_valueOf_11 (v := 0) (by decide) ?_
    refine g_istore (i := 4) (lv' := [(4, .int (0 : Int32)), (0, .ref (ev 0 + l0)), (1, .int l1), (2, .ref (ev 0 + l2)), (3, .ref (ev 0 + l3))]) F dX5_valueOf_12 (by decide) rfl ?_
    refine g_iload_n (i := 1) F dX5_valueOf_14 rfl rfl ?_
    refine g_if_ne (tgt := 22) F dX5_valueOf_15 (by decide) h (fun a47 h => ?_) (fun a47 h => ?_)
    · refine g_aload_n (i := 0) F dX5_valueOf_22 rfl rfl ?_
      obtain ⟨h3, h⟩ := if_at h
      refine g_get_5_1 F h3 (kd_hid h3 (by decide)) wd_6_4 dX5_valueOf_23 ?_
      refine g_iload_n (i := 1) F dX5_valueOf_26 rfl rfl ?_
      refine g_iconst F dX5_valueOf_27 (v := 1) (by decide) ?_
      refine g_isub F dX5_valueOf_28 ?_
      obtain ⟨v4, e5, h⟩ := bind_at h
      refine g_ildX F (kd_5_2 h3).1 (kd_5_2 h3).2 e5 dX5_valueOf_29 ?_
      refine g_lv (lv' := [(0, .ref (ev 0 + l0)), (1, .int l1), (2, .ref (ev 0 + l2)), (3, .ref (ev 0 + l3)), (4, .int (0 : Int32))]) ⟨rfl, rfl, rfl, rfl, rfl, trivial⟩ ?_
      exact U30 _ _ _ _ _ _ _ h
    · refine g_iconst F dX5_valueOf_18 (v := 0) (by decide) ?_
      refine g_goto (tgt := 30) F dX5_valueOf_19 (by decide) ?_
      refine g_lv (lv' := [(0, .ref (ev 0 + l0)), (1, .int l1), (2, .ref (ev 0 + l2)), (3, .ref (ev 0 + l3)), (4, .int (0 : Int32))]) ⟨rfl, rfl, rfl, rfl, rfl, trivial⟩ ?_
      exact U30 _ _ _ _ _ _ _ h
  · refine g_iconst F dX5_valueOf_9 (v := 0) (by decide) ?_
    have hp := Prod.mk.inj (Option.some.inj h)
    exact g_iret F hr9 rfl hl9 hp.1 (by rw [hp.2]) (by decide) (by decide) dX5_valueOf_10
def fX2_apart (l0 : Int32) (l1 : Int32) : Int32 :=
  (jmax (jabs ((l0 / (10 : Int32)) - (l1 / (10 : Int32)))) (jabs ((jrem l0 (10 : Int32)) - (jrem l1 (10 : Int32)))))
set_option maxRecDepth 100000 in
set_option maxHeartbeats 4000000 in
theorem c_X2_apart {l : Launch} {s0 : State} {D : va_G} {ev : Nat → Nat} (G0 : Gl s0 D ev) {X : XW} {M : MW} {nb : Nat} {l0 : Int32} {l1 : Int32} {r' : Int32}  (h : fX2_apart l0 l1 = r') : CT l s0 D ev yX2_apart cX2_apart 2 (some .int) 1 0 0 [.int l0, .int l1] (cells ev X M nb) (QI s0 D ev r' (cells ev X M nb)) := by
  refine ct_of G0 (by decide) (Nat.le_of_ble_eq_true rfl) ?_
  intro p9 e9 s9 m9 args9 below9 meth9 c9 F hr9 hl9 hin9 hargs9 hts9
  rw [fX2_apart] at h
  refine g_lv (lv' := [(0, .int l0), (1, .int l1)]) ⟨rfl, rfl, trivial⟩ ?_
  refine g_iload_n (i := 0) F dX2_apart_0 rfl rfl ?_
  refine g_bipush F dX2_apart_1 (v := 10) (by decide) ?_
  refine g_idiv F dX2_apart_3 (by decide) ?_
  refine g_iload_n (i := 1) F dX2_apart_4 rfl rfl ?_
  refine g_bipush F dX2_apart_5 (v := 10) (by decide) ?_
  refine g_idiv F dX2_apart_7 (by decide) ?_
  refine g_isub F dX2_apart_8 ?_
  refine g_mabs F wd_36_4 wd_28_6 wd_16_21 wd_28_7 (Nat.le_of_ble_eq_true rfl) (Nat.le_of_ble_eq_true rfl) (Nat.zero_le _) (Nat.zero_le _) dX2_apart_9 ?_
  refine g_iload_n (i := 0) F dX2_apart_12 rfl rfl ?_
  refine g_bipush F dX2_apart_13 (v := 10) (by decide) ?_
  refine g_irem F dX2_apart_15 (by decide) ?_
  refine g_iload_n (i := 1) F dX2_apart_16 rfl rfl ?_
  refine g_bipush F dX2_apart_17 (v := 10) (by decide) ?_
  refine g_irem F dX2_apart_19 (by decide) ?_
  refine g_isub F dX2_apart_20 ?_
  refine g_mabs F wd_36_4 wd_28_6 wd_16_21 wd_28_7 (Nat.le_of_ble_eq_true rfl) (Nat.le_of_ble_eq_true rfl) (Nat.zero_le _) (Nat.zero_le _) dX2_apart_21 ?_
  refine g_mmax F wd_27_17 wd_20_14 wd_16_21 wd_20_15 (Nat.le_of_ble_eq_true rfl) (Nat.le_of_ble_eq_true rfl) (Nat.zero_le _) (Nat.zero_le _) dX2_apart_24 ?_
  exact g_iret F hr9 rfl hl9 h rfl (by decide) (by decide) dX2_apart_27
def fX9_isFormIn (l0 : Int32) (l1 : Int32) : Int32 :=
  if (fX9_within l0 (0 : Int32) (4 : Int32)) = 0 then (0 : Int32)
  else if (fX9_within l1 (0 : Int32) (3 : Int32)) = 0 then (0 : Int32)
  else (1 : Int32)
set_option maxRecDepth 100000 in
set_option maxHeartbeats 4000000 in
theorem c_X9_isFormIn {l : Launch} {s0 : State} {D : va_G} {ev : Nat → Nat} (G0 : Gl s0 D ev) {X : XW} {M : MW} {nb : Nat} {l0 : Int32} {l1 : Int32} {r' : Int32}  (h : fX9_isFormIn l0 l1 = r') : CT l s0 D ev yX9_isFormIn cX9_isFormIn 2 (some .boolean) 1 0 0 [.int l0, .int l1] (cells ev X M nb) (QI s0 D ev r' (cells ev X M nb)) := by
  refine ct_of G0 (by decide) (Nat.le_of_ble_eq_true rfl) ?_
  intro p9 e9 s9 m9 args9 below9 meth9 c9 F hr9 hl9 hin9 hargs9 hts9
  rw [fX9_isFormIn] at h
  refine g_lv (lv' := [(0, .int l0), (1, .int l1)]) ⟨rfl, rfl, trivial⟩ ?_
  refine g_iload_n (i := 0) F dX9_isFormIn_0 rfl rfl ?_
  refine g_iconst F dX9_isFormIn_1 (v := 0) (by decide) ?_
  refine g_iconst F dX9_isFormIn_2 (v := 4) (by decide) ?_
  refine g_callSI F (mcR := 0) (msR := 0) (c_X9_within G0 (X := X) (M := M) (nb := nb) rfl) wd_9_7 wd_15_21 wd_9_6 wd_1_2 ⟨by decide, by decide⟩ (nn := 3) (by decide) (As := [.int l0, .int (0 : Int32), .int (4 : Int32)]) rfl rfl (Nat.le_of_ble_eq_true rfl) (by decide) (by decide) ⟨by decide, by decide⟩ dX9_isFormIn_3 ?_
  refine g_if_eq (tgt := 22) F dX9_isFormIn_6 (by decide) h (fun a6 h => ?_) (fun a6 h => ?_)
  · refine g_iconst F dX9_isFormIn_22 (v := 0) (by decide) ?_
    exact g_iret F hr9 (by decide) hl9 h rfl (by decide) (by decide) dX9_isFormIn_23
  · refine g_iload_n (i := 1) F dX9_isFormIn_9 rfl rfl ?_
    refine g_iconst F dX9_isFormIn_10 (v := 0) (by decide) ?_
    refine g_iconst F dX9_isFormIn_11 (v := 3) (by decide) ?_
    refine g_callSI F (mcR := 0) (msR := 0) (c_X9_within G0 (X := X) (M := M) (nb := nb) rfl) wd_9_7 wd_15_21 wd_9_6 wd_1_2 ⟨by decide, by decide⟩ (nn := 3) (by decide) (As := [.int l1, .int (0 : Int32), .int (3 : Int32)]) rfl rfl (Nat.le_of_ble_eq_true rfl) (by decide) (by decide) ⟨by decide, by decide⟩ dX9_isFormIn_12 ?_
    refine g_if_eq (tgt := 22) F dX9_isFormIn_15 (by decide) h (fun a5 h => ?_) (fun a5 h => ?_)
    · refine g_iconst F dX9_isFormIn_22 (v := 0) (by decide) ?_
      exact g_iret F hr9 (by decide) hl9 h rfl (by decide) (by decide) dX9_isFormIn_23
    · refine g_iconst F dX9_isFormIn_18 (v := 1) (by decide) ?_
      refine g_goto (tgt := 23) F dX9_isFormIn_19 (by decide) ?_
      exact g_iret F hr9 (by decide) hl9 h rfl (by decide) (by decide) dX9_isFormIn_23
theorem b_X9_isFormIn {l0 : Int32} {l1 : Int32} : (fX9_isFormIn l0 l1) = 0 ∨ (fX9_isFormIn l0 l1) = 1 := by
  unfold fX9_isFormIn
  (repeat' split) <;> first | exact Or.inl rfl | exact Or.inr rfl | exact b_X9_within | exact b_X9_within
def fX5_clear (X : XW) (l0 : Nat) : Option (XW) :=
  if kd l0 = 5 then bd (xI X l0 2 (0 : Int32)) fun X2 =>
  some X2 else none
set_option maxRecDepth 100000 in
set_option maxHeartbeats 4000000 in
theorem c_X5_clear {l : Launch} {s0 : State} {D : va_G} {ev : Nat → Nat} (G0 : Gl s0 D ev) {X : XW} {M : MW} {nb : Nat} {l0 : Nat} {X' : XW}  (h : fX5_clear X l0 = some (X')) : CT l s0 D ev yX5_clear cX5_clear 1 none 0 0 0 [.ref (ev 0 + l0)] (cells ev X M nb) (QV s0 D ev (cells ev X' M nb)) := by
  refine ct_of G0 (by decide) (Nat.le_of_ble_eq_true rfl) ?_
  intro p9 e9 s9 m9 args9 below9 meth9 c9 F hr9 hl9 hin9 hargs9 hts9
  rw [fX5_clear] at h
  refine g_lv (lv' := [(0, .ref (ev 0 + l0))]) ⟨rfl, trivial⟩ ?_
  refine g_aload_n (i := 0) F dX5_clear_0 rfl rfl ?_
  refine g_iconst F dX5_clear_1 (v := 0) (by decide) ?_
  obtain ⟨h1, h⟩ := if_at h
  obtain ⟨X2, e3, h⟩ := bd_at h
  refine g_put_5_2 F h1 (kd_hid h1 (by decide)) wd_6_5 dX5_clear_2 ?_
  rw [← e3]
  exact g_vret F hr9 hl9 (by rw [Option.some.inj h]) (by decide) (by decide) dX5_clear_5
def fX5_add (X : XW) (l0 : Nat) (l1 : Int32) : Option (XW) :=
  if kd l0 = 5 then if (160 : Int32) ≤ (X.1 l0 2) then some X
  else if inb (X.1 l0 2) 160 then bd (xA X (l0 + 1) (X.1 l0 2) l1) fun X3 =>
  bd (xI X3 l0 2 ((X3.1 l0 2) + (1 : Int32))) fun X5 =>
  some X5
  else none else none
set_option maxRecDepth 100000 in
set_option maxHeartbeats 4000000 in
theorem c_X5_add {l : Launch} {s0 : State} {D : va_G} {ev : Nat → Nat} (G0 : Gl s0 D ev) {X : XW} {M : MW} {nb : Nat} {l0 : Nat} {l1 : Int32} {X' : XW}  (h : fX5_add X l0 l1 = some (X')) : CT l s0 D ev yX5_add cX5_add 2 none 0 0 0 [.ref (ev 0 + l0), .int l1] (cells ev X M nb) (QV s0 D ev (cells ev X' M nb)) := by
  refine ct_of G0 (by decide) (Nat.le_of_ble_eq_true rfl) ?_
  intro p9 e9 s9 m9 args9 below9 meth9 c9 F hr9 hl9 hin9 hargs9 hts9
  rw [fX5_add] at h
  refine g_lv (lv' := [(0, .ref (ev 0 + l0)), (1, .int l1)]) ⟨rfl, rfl, trivial⟩ ?_
  refine g_aload_n (i := 0) F dX5_add_0 rfl rfl ?_
  obtain ⟨h1, h⟩ := if_at h
  refine g_get_5_2 F h1 (kd_hid h1 (by decide)) wd_6_5 dX5_add_1 ?_
  refine g_aload_n (i := 0) F dX5_add_4 rfl rfl ?_
  refine g_get_5_0 F h1 (kd_hid h1 (by decide)) wd_6_3 dX5_add_5 ?_
  refine g_alX (n := 160) F (kd_5_1 h1).1 (kd_5_1 h1).2 dX5_add_8 ?_
  refine g_icmp_ge (tgt := 32) F dX5_add_9 (by decide) h (fun a7 h => ?_) (fun a7 h => ?_)
  · exact g_vret F hr9 hl9 (by rw [Option.some.inj h]) (by decide) (by decide) dX5_add_32
  · refine g_aload_n (i := 0) F dX5_add_12 rfl rfl ?_
    refine g_get_5_0 F h1 (kd_hid h1 (by decide)) wd_6_3 dX5_add_13 ?_
    refine g_aload_n (i := 0) F dX5_add_16 rfl rfl ?_
    refine g_get_5_2 F h1 (kd_hid h1 (by decide)) wd_6_5 dX5_add_17 ?_
    refine g_iload_n (i := 1) F dX5_add_20 rfl rfl ?_
    obtain ⟨h2, h⟩ := if_at h
    obtain ⟨X3, e4, h⟩ := bd_at h
    refine g_istX F (kd_5_1 h1).1 (kd_5_1 h1).2 h2 dX5_add_21 ?_
    rw [← e4]
    refine g_aload_n (i := 0) F dX5_add_22 rfl rfl ?_
    refine g_dup F dX5_add_23 rfl ?_
    refine g_get_5_2 F h1 (kd_hid h1 (by decide)) wd_6_5 dX5_add_24 ?_
    refine g_iconst F dX5_add_27 (v := 1) (by decide) ?_
    refine g_iadd F dX5_add_28 ?_
    obtain ⟨X5, e6, h⟩ := bd_at h
    refine g_put_5_2 F h1 (kd_hid h1 (by decide)) wd_6_5 dX5_add_29 ?_
    rw [← e6]
    exact g_vret F hr9 hl9 (by rw [Option.some.inj h]) (by decide) (by decide) dX5_add_32
def fX5_endPart (X : XW) (l0 : Nat) (l1 : Int32) : Option (XW) :=
  if (fX9_within l1 (0 : Int32) (2 : Int32)) = 0 then some X
  else if kd l0 = 5 then if inb l1 3 then bd (xA X (l0 + 2) l1 (X.1 l0 2)) fun X5 =>
  some X5
  else none else none
set_option maxRecDepth 100000 in
set_option maxHeartbeats 4000000 in
theorem c_X5_endPart {l : Launch} {s0 : State} {D : va_G} {ev : Nat → Nat} (G0 : Gl s0 D ev) {X : XW} {M : MW} {nb : Nat} {l0 : Nat} {l1 : Int32} {X' : XW}  (h : fX5_endPart X l0 l1 = some (X')) : CT l s0 D ev yX5_endPart cX5_endPart 2 none 1 0 0 [.ref (ev 0 + l0), .int l1] (cells ev X M nb) (QV s0 D ev (cells ev X' M nb)) := by
  refine ct_of G0 (by decide) (Nat.le_of_ble_eq_true rfl) ?_
  intro p9 e9 s9 m9 args9 below9 meth9 c9 F hr9 hl9 hin9 hargs9 hts9
  rw [fX5_endPart] at h
  refine g_lv (lv' := [(0, .ref (ev 0 + l0)), (1, .int l1)]) ⟨rfl, rfl, trivial⟩ ?_
  refine g_iload_n (i := 1) F dX5_endPart_0 rfl rfl ?_
  refine g_iconst F dX5_endPart_1 (v := 0) (by decide) ?_
  refine g_iconst F dX5_endPart_2 (v := 2) (by decide) ?_
  refine g_callSNI F (mcR := 0) (msR := 0) (c_X9_within G0 (X := X) (M := M) (nb := nb) rfl) wd_9_7 (List.mem_of_getElem? (l := nwL) (i := 3) rfl) wd_9_6 wd_1_2 ⟨by decide, by decide⟩ (nn := 3) (by decide) (As := [.int l1, .int (0 : Int32), .int (2 : Int32)]) rfl rfl (Nat.le_of_ble_eq_true rfl) (by decide) (by decide) ⟨by decide, by decide⟩ dX5_endPart_3 ?_
  refine g_if_eq (tgt := 19) F dX5_endPart_6 (by decide) h (fun a7 h => ?_) (fun a7 h => ?_)
  · exact g_vret F hr9 hl9 (by rw [Option.some.inj h]) (by decide) (by decide) dX5_endPart_19
  · refine g_aload_n (i := 0) F dX5_endPart_9 rfl rfl ?_
    obtain ⟨h3, h⟩ := if_at h
    refine g_get_5_1 F h3 (kd_hid h3 (by decide)) wd_6_4 dX5_endPart_10 ?_
    refine g_iload_n (i := 1) F dX5_endPart_13 rfl rfl ?_
    refine g_aload_n (i := 0) F dX5_endPart_14 rfl rfl ?_
    refine g_get_5_2 F h3 (kd_hid h3 (by decide)) wd_6_5 dX5_endPart_15 ?_
    obtain ⟨h4, h⟩ := if_at h
    obtain ⟨X5, e6, h⟩ := bd_at h
    refine g_istX F (kd_5_2 h3).1 (kd_5_2 h3).2 h4 dX5_endPart_18 ?_
    rw [← e6]
    exact g_vret F hr9 hl9 (by rw [Option.some.inj h]) (by decide) (by decide) dX5_endPart_19
def fX9_isSounding_b14 (l0 : Int32) (l1 : Int32) : Int32 :=
  if l0 = (1 : Int32) then if (fX9_within l1 (0 : Int32) (3 : Int32)) = 0 then (0 : Int32)
  else (1 : Int32)
  else (0 : Int32)
def fX9_isSounding (l0 : Int32) (l1 : Int32) : Int32 :=
  if l0 = 0 then if (fX9_within l1 (0 : Int32) (30 : Int32)) = 0 then fX9_isSounding_b14 l0 l1
  else (1 : Int32)
  else fX9_isSounding_b14 l0 l1
set_option maxRecDepth 100000 in
set_option maxHeartbeats 4000000 in
theorem c_X9_isSounding {l : Launch} {s0 : State} {D : va_G} {ev : Nat → Nat} (G0 : Gl s0 D ev) {X : XW} {M : MW} {nb : Nat} {l0 : Int32} {l1 : Int32} {r' : Int32}  (h : fX9_isSounding l0 l1 = r') : CT l s0 D ev yX9_isSounding cX9_isSounding 2 (some .boolean) 1 0 0 [.int l0, .int l1] (cells ev X M nb) (QI s0 D ev r' (cells ev X M nb)) := by
  refine ct_of G0 (by decide) (Nat.le_of_ble_eq_true rfl) ?_
  intro p9 e9 s9 m9 args9 below9 meth9 c9 F hr9 hl9 hin9 hargs9 hts9
  have U14 : ∀ (l0 : Int32) (l1 : Int32), fX9_isSounding_b14 l0 l1 = r' → GJ p9 l e9 (rg 1 0 0) s9 m9 args9 below9 meth9 c9 (MQ below9 (QI s0 D ev r' (cells ev X M nb)) args9 s9 0 0 (frA ev)) s0 D ev 2 0 0 14 [(0, .int l0), (1, .int l1)] ([]) (cells ev X M nb) := by
    intro l0 l1 h
    rw [fX9_isSounding_b14] at h
    refine g_iload_n (i := 0) F dX9_isSounding_14 rfl rfl ?_
    refine g_iconst F dX9_isSounding_15 (v := 1) (by decide) ?_
    refine g_icmp_ne (tgt := 32) F dX9_isSounding_16 (by decide) h (fun a4 h => ?_) (fun a4 h => ?_)
    · refine g_iconst F dX9_isSounding_32 (v := 0) (by decide) ?_
      exact g_iret F hr9 (by decide) hl9 h rfl (by decide) (by decide) dX9_isSounding_33
    · refine g_iload_n (i := 1) F dX9_isSounding_19 rfl rfl ?_
      refine g_iconst F dX9_isSounding_20 (v := 0) (by decide) ?_
      refine g_iconst F dX9_isSounding_21 (v := 3) (by decide) ?_
      refine g_callSI F (mcR := 0) (msR := 0) (c_X9_within G0 (X := X) (M := M) (nb := nb) rfl) wd_9_7 wd_15_21 wd_9_6 wd_1_2 ⟨by decide, by decide⟩ (nn := 3) (by decide) (As := [.int l1, .int (0 : Int32), .int (3 : Int32)]) rfl rfl (Nat.le_of_ble_eq_true rfl) (by decide) (by decide) ⟨by decide, by decide⟩ dX9_isSounding_22 ?_
      refine g_if_eq (tgt := 32) F dX9_isSounding_25 (by decide) h (fun a3 h => ?_) (fun a3 h => ?_)
      · refine g_iconst F dX9_isSounding_32 (v := 0) (by decide) ?_
        exact g_iret F hr9 (by decide) hl9 h rfl (by decide) (by decide) dX9_isSounding_33
      · refine g_iconst F dX9_isSounding_28 (v := 1) (by decide) ?_
        refine g_goto (tgt := 33) F dX9_isSounding_29 (by decide) ?_
        exact g_iret F hr9 (by decide) hl9 h rfl (by decide) (by decide) dX9_isSounding_33
  rw [fX9_isSounding] at h
  refine g_lv (lv' := [(0, .int l0), (1, .int l1)]) ⟨rfl, rfl, trivial⟩ ?_
  refine g_iload_n (i := 0) F dX9_isSounding_0 rfl rfl ?_
  refine g_if_ne (tgt := 14) F dX9_isSounding_1 (by decide) h (fun a8 h => ?_) (fun a8 h => ?_)
  · refine g_lv (lv' := [(0, .int l0), (1, .int l1)]) ⟨rfl, rfl, trivial⟩ ?_
    exact U14 _ _ h
  · refine g_iload_n (i := 1) F dX9_isSounding_4 rfl rfl ?_
    refine g_iconst F dX9_isSounding_5 (v := 0) (by decide) ?_
    refine g_bipush F dX9_isSounding_6 (v := 30) (by decide) ?_
    refine g_callSI F (mcR := 0) (msR := 0) (c_X9_within G0 (X := X) (M := M) (nb := nb) rfl) wd_9_7 wd_15_21 wd_9_6 wd_1_2 ⟨by decide, by decide⟩ (nn := 3) (by decide) (As := [.int l1, .int (0 : Int32), .int (30 : Int32)]) rfl rfl (Nat.le_of_ble_eq_true rfl) (by decide) (by decide) ⟨by decide, by decide⟩ dX9_isSounding_8 ?_
    refine g_if_ne (tgt := 28) F dX9_isSounding_11 (by decide) h (fun a7 h => ?_) (fun a7 h => ?_)
    · refine g_iconst F dX9_isSounding_28 (v := 1) (by decide) ?_
      refine g_goto (tgt := 33) F dX9_isSounding_29 (by decide) ?_
      exact g_iret F hr9 (by decide) hl9 h rfl (by decide) (by decide) dX9_isSounding_33
    · refine g_lv (lv' := [(0, .int l0), (1, .int l1)]) ⟨rfl, rfl, trivial⟩ ?_
      exact U14 _ _ h
theorem b_X9_isSounding {l0 : Int32} {l1 : Int32} : (fX9_isSounding l0 l1) = 0 ∨ (fX9_isSounding l0 l1) = 1 := by
  unfold fX9_isSounding fX9_isSounding_b14
  (repeat' split) <;> first | exact Or.inl rfl | exact Or.inr rfl | exact b_X9_within | exact b_X9_within
def fX9_sound_b42 (X : XW) (l1 : Int32) (l3 : Int32) (t0 : Nat) : Option (Int32 × XW) :=
  if kd t0 = 11 then (rd (X.2.1 t0) (ln t0) l1).bind fun v6 =>
  if inb l1 (ln t0) then bd (xA X t0 l1 l3) fun X9 =>
  some (v6, X9)
  else none else none
def fX9_sound (X : XW) (l1 : Int32) (l2 : Int32) (l3 : Int32) : Option (Int32 × XW) :=
  if (fX9_isCell l1) = 0 then some ((-5 : Int32), X)
  else if (fX9_isSounding l2 l3) = 0 then some ((-7 : Int32), X)
  else if l2 = 0 then fX9_sound_b42 X l1 l3 2
  else fX9_sound_b42 X l1 l3 3
set_option maxRecDepth 100000 in
set_option maxHeartbeats 4000000 in
theorem c_X9_sound {l : Launch} {s0 : State} {D : va_G} {ev : Nat → Nat} (G0 : Gl s0 D ev) {X : XW} {M : MW} {nb : Nat} {l1 : Int32} {l2 : Int32} {l3 : Int32} {r' : Int32} {X' : XW}  (h : fX9_sound X l1 l2 l3 = some (r', X')) : CT l s0 D ev yX9_sound cX9_sound 6 (some .int) 2 0 0 [.ref (ev 0 + 0), .int l1, .int l2, .int l3] (cells ev X M nb) (QI s0 D ev r' (cells ev X' M nb)) := by
  refine ct_of G0 (by decide) (Nat.le_of_ble_eq_true rfl) ?_
  intro p9 e9 s9 m9 args9 below9 meth9 c9 F hr9 hl9 hin9 hargs9 hts9
  have U42 : ∀ (X : XW) (l1 : Int32) (l3 : Int32) (t0 : Nat), fX9_sound_b42 X l1 l3 t0 = some (r', X') → GJ p9 l e9 (rg 2 0 0) s9 m9 args9 below9 meth9 c9 (MQ below9 (QI s0 D ev r' (cells ev X' M nb)) args9 s9 0 0 (frA ev)) s0 D ev 6 0 0 42 [(1, .int l1), (3, .int l3)] (.ref (ev 0 + t0) :: []) (cells ev X M nb) := by
    intro X l1 l3 t0 h
    rw [fX9_sound_b42] at h
    refine g_astore (i := 4) (lv' := [(4, .ref (ev 0 + t0)), (1, .int l1), (3, .int l3)]) F dX9_sound_42 (by decide) rfl ?_
    refine g_aload (i := 4) F dX9_sound_44 rfl ?_
    refine g_iload_n (i := 1) F dX9_sound_46 rfl rfl ?_
    obtain ⟨h5, h⟩ := if_at h
    obtain ⟨v6, e7, h⟩ := bind_at h
    refine g_ildX F h5 rfl e7 dX9_sound_47 ?_
    refine g_istore (i := 5) (lv' := [(5, .int v6), (4, .ref (ev 0 + t0)), (1, .int l1), (3, .int l3)]) F dX9_sound_48 (by decide) rfl ?_
    refine g_aload (i := 4) F dX9_sound_50 rfl ?_
    refine g_iload_n (i := 1) F dX9_sound_52 rfl rfl ?_
    refine g_iload_n (i := 3) F dX9_sound_53 rfl rfl ?_
    obtain ⟨h8, h⟩ := if_at h
    obtain ⟨X9, e10, h⟩ := bd_at h
    refine g_istX F h5 rfl h8 dX9_sound_54 ?_
    rw [← e10]
    refine g_iload (i := 5) F dX9_sound_55 rfl ?_
    have hp := Prod.mk.inj (Option.some.inj h)
    exact g_iret F hr9 rfl hl9 hp.1 (by rw [hp.2]) (by decide) (by decide) dX9_sound_57
  rw [fX9_sound] at h
  refine g_lv (lv' := [(0, .ref (ev 0 + 0)), (1, .int l1), (2, .int l2), (3, .int l3)]) ⟨rfl, rfl, rfl, rfl, trivial⟩ ?_
  refine g_iload_n (i := 1) F dX9_sound_0 rfl rfl ?_
  refine g_callSI F (mcR := 0) (msR := 0) (c_X9_isCell G0 (X := X) (M := M) (nb := nb) rfl) wd_15_20 wd_15_18 wd_15_19 wd_1_2 ⟨by decide, by decide⟩ (nn := 1) (by decide) (As := [.int l1]) rfl rfl (Nat.le_of_ble_eq_true rfl) (by decide) (by decide) ⟨by decide, by decide⟩ dX9_sound_1 ?_
  refine g_if_ne (tgt := 10) F dX9_sound_4 (by decide) h (fun a13 h => ?_) (fun a13 h => ?_)
  · refine g_iload_n (i := 2) F dX9_sound_10 rfl rfl ?_
    refine g_iload_n (i := 3) F dX9_sound_11 rfl rfl ?_
    refine g_callSI F (mcR := 0) (msR := 0) (c_X9_isSounding G0 (X := X) (M := M) (nb := nb) rfl) wd_16_0 wd_15_22 wd_15_23 wd_1_2 ⟨by decide, by decide⟩ (nn := 2) (by decide) (As := [.int l2, .int l3]) rfl rfl (Nat.le_of_ble_eq_true rfl) (by decide) (by decide) ⟨by decide, by decide⟩ dX9_sound_12 ?_
    refine g_if_ne (tgt := 21) F dX9_sound_15 (by decide) h (fun a12 h => ?_) (fun a12 h => ?_)
    · refine g_iload_n (i := 2) F dX9_sound_21 rfl rfl ?_
      refine g_if_ne (tgt := 35) F dX9_sound_22 (by decide) h (fun a11 h => ?_) (fun a11 h => ?_)
      · refine g_aload_n (i := 0) F dX9_sound_35 rfl rfl ?_
        refine g_get_9_0 F rfl (kd_lit (by decide)) wd_1_15 dX9_sound_36 ?_
        refine g_get_0_1 F rfl (kd_lit (by decide)) wd_15_17 dX9_sound_39 ?_
        refine g_lv (lv' := [(1, .int l1), (3, .int l3)]) ⟨rfl, rfl, trivial⟩ ?_
        exact U42 _ _ _ _ h
      · refine g_aload_n (i := 0) F dX9_sound_25 rfl rfl ?_
        refine g_get_9_0 F rfl (kd_lit (by decide)) wd_1_15 dX9_sound_26 ?_
        refine g_get_0_0 F rfl (kd_lit (by decide)) wd_15_16 dX9_sound_29 ?_
        refine g_goto (tgt := 42) F dX9_sound_32 (by decide) ?_
        refine g_lv (lv' := [(1, .int l1), (3, .int l3)]) ⟨rfl, rfl, trivial⟩ ?_
        exact U42 _ _ _ _ h
    · refine g_bipush F dX9_sound_18 (v := -7) (by decide) ?_
      have hp := Prod.mk.inj (Option.some.inj h)
      exact g_iret F hr9 rfl hl9 hp.1 (by rw [hp.2]) (by decide) (by decide) dX9_sound_20
  · refine g_bipush F dX9_sound_7 (v := -5) (by decide) ?_
    have hp := Prod.mk.inj (Option.some.inj h)
    exact g_iret F hr9 rfl hl9 hp.1 (by rw [hp.2]) (by decide) (by decide) dX9_sound_9
def fX9_chart_l117 (l1f104 : Int32) (l4f104 : Int32) (l5f104 : Nat) (l6f104 : Int32) (l7f104 : Int32) (l9f117 : Int32) (K104 : XW → Int32 → Int32 → Option (Int32 × XW)) (K117 : XW → Int32 → Int32 → Option (Int32 × XW)) (X : XW) (l8 : Int32) (l10 : Int32) : Option (Int32 × XW) :=
  if l7f104 ≤ l10 then K104 X l8 (l9f117 + (1 : Int32))
  else if kd l5f104 = 11 then if inb (((10 : Int32) * l9f117) + l10) (ln l5f104) then bd (xA X l5f104 (((10 : Int32) * l9f117) + l10) l4f104) fun X17 =>
  K117 X17 (l8 + (1 : Int32)) (l10 + (1 : Int32))
  else none else none
def fX9_chart_l104 (l1f104 : Int32) (l4f104 : Int32) (l5f104 : Nat) (l6f104 : Int32) (l7f104 : Int32) (K104 : XW → Int32 → Int32 → Option (Int32 × XW)) (X : XW) (l8 : Int32) (l9 : Int32) : Option (Int32 × XW) :=
  if l6f104 ≤ l9 then some (l8, X)
  else bd (jrem l1f104 (10 : Int32)) fun v13 =>
  lo3 (fX9_chart_l117 l1f104 l4f104 l5f104 l6f104 l7f104 l9 K104) FU X l8 v13
def fX9_chart_b61 (X : XW) (l1 : Int32) (l2 : Int32) (l4 : Int32) (t0 : Nat) : Option (Int32 × XW) :=
  bd (jmin (10 : Int32) ((l1 / (10 : Int32)) + (l2 / (10 : Int32)))) fun v7 =>
  bd (jmin (10 : Int32) ((jrem l1 (10 : Int32)) + (jrem l2 (10 : Int32)))) fun v9 =>
  bd (l1 / (10 : Int32)) fun v11 =>
  lo3 (fX9_chart_l104 l1 l4 t0 v7 v9) FU X (0 : Int32) v11
def fX9_chart (X : XW) (l1 : Int32) (l2 : Int32) (l3 : Int32) (l4 : Int32) : Option (Int32 × XW) :=
  if (fX9_isCell l1) = 0 then some ((-2 : Int32), X)
  else if (fX9_within l2 (11 : Int32) (99 : Int32)) = 0 then some ((-2 : Int32), X)
  else if (jrem l2 (10 : Int32)) = 0 then some ((-2 : Int32), X)
  else if (fX9_isSounding l3 l4) = 0 then some ((-7 : Int32), X)
  else if l3 = 0 then fX9_chart_b61 X l1 l2 l4 2
  else fX9_chart_b61 X l1 l2 l4 3
set_option maxRecDepth 100000 in
set_option maxHeartbeats 4000000 in
theorem c_X9_chart {l : Launch} {s0 : State} {D : va_G} {ev : Nat → Nat} (G0 : Gl s0 D ev) {X : XW} {M : MW} {nb : Nat} {l1 : Int32} {l2 : Int32} {l3 : Int32} {l4 : Int32} {r' : Int32} {X' : XW}  (h : fX9_chart X l1 l2 l3 l4 = some (r', X')) : CT l s0 D ev yX9_chart cX9_chart 11 (some .int) 2 0 0 [.ref (ev 0 + 0), .int l1, .int l2, .int l3, .int l4] (cells ev X M nb) (QI s0 D ev r' (cells ev X' M nb)) := by
  refine ct_of G0 (by decide) (Nat.le_of_ble_eq_true rfl) ?_
  intro p9 e9 s9 m9 args9 below9 meth9 c9 F hr9 hl9 hin9 hargs9 hts9
  have L104 : ∀ (l1f104 : Int32) (l4f104 : Int32) (l5f104 : Nat) (l6f104 : Int32) (l7f104 : Int32) (N104 : Nat) (X : XW) (l8 : Int32) (l9 : Int32), lo3 (fX9_chart_l104 l1f104 l4f104 l5f104 l6f104 l7f104) N104 X l8 l9 = some (r', X') → GJ p9 l e9 (rg 2 0 0) s9 m9 args9 below9 meth9 c9 (MQ below9 (QI s0 D ev r' (cells ev X' M nb)) args9 s9 0 0 (frA ev)) s0 D ev 11 0 0 104 [(1, .int l1f104), (4, .int l4f104), (5, .ref (ev 0 + l5f104)), (6, .int l6f104), (7, .int l7f104), (8, .int l8), (9, .int l9)] ([]) (cells ev X M nb) := by
    intro l1f104 l4f104 l5f104 l6f104 l7f104 N104
    induction N104 with
    | zero => intro X l8 l9 h; cases h
    | succ N104 ih104 =>
      have L117 : ∀ (l9f117 : Int32) (N117 : Nat) (X : XW) (l8 : Int32) (l10 : Int32), lo3 (fX9_chart_l117 l1f104 l4f104 l5f104 l6f104 l7f104 l9f117 (lo3 (fX9_chart_l104 l1f104 l4f104 l5f104 l6f104 l7f104) N104)) N117 X l8 l10 = some (r', X') → GJ p9 l e9 (rg 2 0 0) s9 m9 args9 below9 meth9 c9 (MQ below9 (QI s0 D ev r' (cells ev X' M nb)) args9 s9 0 0 (frA ev)) s0 D ev 11 0 0 117 [(1, .int l1f104), (4, .int l4f104), (5, .ref (ev 0 + l5f104)), (6, .int l6f104), (7, .int l7f104), (8, .int l8), (9, .int l9f117), (10, .int l10)] ([]) (cells ev X M nb) := by
        intro l9f117 N117
        induction N117 with
        | zero => intro X l8 l10 h; cases h
        | succ N117 ih117 =>
          intro X l8 l10 h
          change fX9_chart_l117 l1f104 l4f104 l5f104 l6f104 l7f104 l9f117 (lo3 (fX9_chart_l104 l1f104 l4f104 l5f104 l6f104 l7f104) N104) (lo3 (fX9_chart_l117 l1f104 l4f104 l5f104 l6f104 l7f104 l9f117 (lo3 (fX9_chart_l104 l1f104 l4f104 l5f104 l6f104 l7f104) N104)) N117) X l8 l10 = some (r', X') at h
          rw [fX9_chart_l117] at h
          refine g_iload (i := 10) F dX9_chart_117 rfl ?_
          refine g_iload (i := 7) F dX9_chart_119 rfl ?_
          refine g_icmp_ge (tgt := 146) F dX9_chart_121 (by decide) h (fun a19 h => ?_) (fun a19 h => ?_)
          · refine g_iinc (i := 9) (v := (l9f117 + (1 : Int32))) (lv' := [(9, .int (l9f117 + (1 : Int32))), (1, .int l1f104), (4, .int l4f104), (5, .ref (ev 0 + l5f104)), (6, .int l6f104), (7, .int l7f104), (8, .int l8), (10, .int l10)]) F dX9_chart_146 rfl rfl (by decide) rfl ?_
            refine g_goto (tgt := 104) F dX9_chart_149 (by decide) ?_
            refine g_lv (lv' := [(1, .int l1f104), (4, .int l4f104), (5, .ref (ev 0 + l5f104)), (6, .int l6f104), (7, .int l7f104), (8, .int l8), (9, .int (l9f117 + (1 : Int32)))]) ⟨rfl, rfl, rfl, rfl, rfl, rfl, rfl, trivial⟩ ?_
            exact ih104 _ _ _ h
          · refine g_aload (i := 5) F dX9_chart_124 rfl ?_
            refine g_bipush F dX9_chart_126 (v := 10) (by decide) ?_
            refine g_iload (i := 9) F dX9_chart_128 rfl ?_
            refine g_imul F dX9_chart_130 ?_
            refine g_iload (i := 10) F dX9_chart_131 rfl ?_
            refine g_iadd F dX9_chart_133 ?_
            refine g_iload (i := 4) F dX9_chart_134 rfl ?_
            obtain ⟨h15, h⟩ := if_at h
            obtain ⟨h16, h⟩ := if_at h
            obtain ⟨X17, e18, h⟩ := bd_at h
            refine g_istX F h15 rfl h16 dX9_chart_136 ?_
            rw [← e18]
            refine g_iinc (i := 8) (v := (l8 + (1 : Int32))) (lv' := [(8, .int (l8 + (1 : Int32))), (1, .int l1f104), (4, .int l4f104), (5, .ref (ev 0 + l5f104)), (6, .int l6f104), (7, .int l7f104), (9, .int l9f117), (10, .int l10)]) F dX9_chart_137 rfl rfl (by decide) rfl ?_
            refine g_iinc (i := 10) (v := (l10 + (1 : Int32))) (lv' := [(10, .int (l10 + (1 : Int32))), (8, .int (l8 + (1 : Int32))), (1, .int l1f104), (4, .int l4f104), (5, .ref (ev 0 + l5f104)), (6, .int l6f104), (7, .int l7f104), (9, .int l9f117)]) F dX9_chart_140 rfl rfl (by decide) rfl ?_
            refine g_goto (tgt := 117) F dX9_chart_143 (by decide) ?_
            refine g_lv (lv' := [(1, .int l1f104), (4, .int l4f104), (5, .ref (ev 0 + l5f104)), (6, .int l6f104), (7, .int l7f104), (8, .int (l8 + (1 : Int32))), (9, .int l9f117), (10, .int (l10 + (1 : Int32)))]) ⟨rfl, rfl, rfl, rfl, rfl, rfl, rfl, rfl, trivial⟩ ?_
            exact ih117 _ _ _ h
      intro X l8 l9 h
      change fX9_chart_l104 l1f104 l4f104 l5f104 l6f104 l7f104 (lo3 (fX9_chart_l104 l1f104 l4f104 l5f104 l6f104 l7f104) N104) X l8 l9 = some (r', X') at h
      rw [fX9_chart_l104] at h
      refine g_iload (i := 9) F dX9_chart_104 rfl ?_
      refine g_iload (i := 6) F dX9_chart_106 rfl ?_
      refine g_icmp_ge (tgt := 152) F dX9_chart_108 (by decide) h (fun a20 h => ?_) (fun a20 h => ?_)
      · refine g_iload (i := 8) F dX9_chart_152 rfl ?_
        have hp := Prod.mk.inj (Option.some.inj h)
        exact g_iret F hr9 rfl hl9 hp.1 (by rw [hp.2]) (by decide) (by decide) dX9_chart_154
      · refine g_iload_n (i := 1) F dX9_chart_111 rfl rfl ?_
        refine g_bipush F dX9_chart_112 (v := 10) (by decide) ?_
        refine g_irem F dX9_chart_114 (by decide) ?_
        refine g_topi F h (fun v13 e14 h => ?_)
        refine g_istore (i := 10) (lv' := [(10, .int v13), (1, .int l1f104), (4, .int l4f104), (5, .ref (ev 0 + l5f104)), (6, .int l6f104), (7, .int l7f104), (8, .int l8), (9, .int l9)]) F dX9_chart_115 (by decide) rfl ?_
        refine g_lv (lv' := [(1, .int l1f104), (4, .int l4f104), (5, .ref (ev 0 + l5f104)), (6, .int l6f104), (7, .int l7f104), (8, .int l8), (9, .int l9), (10, .int v13)]) ⟨rfl, rfl, rfl, rfl, rfl, rfl, rfl, rfl, trivial⟩ ?_
        exact L117 _ FU _ _ _ h
  have U61 : ∀ (X : XW) (l1 : Int32) (l2 : Int32) (l4 : Int32) (t0 : Nat), fX9_chart_b61 X l1 l2 l4 t0 = some (r', X') → GJ p9 l e9 (rg 2 0 0) s9 m9 args9 below9 meth9 c9 (MQ below9 (QI s0 D ev r' (cells ev X' M nb)) args9 s9 0 0 (frA ev)) s0 D ev 11 0 0 61 [(1, .int l1), (2, .int l2), (4, .int l4)] (.ref (ev 0 + t0) :: []) (cells ev X M nb) := by
    intro X l1 l2 l4 t0 h
    rw [fX9_chart_b61] at h
    refine g_astore (i := 5) (lv' := [(5, .ref (ev 0 + t0)), (1, .int l1), (2, .int l2), (4, .int l4)]) F dX9_chart_61 (by decide) rfl ?_
    refine g_bipush F dX9_chart_63 (v := 10) (by decide) ?_
    refine g_iload_n (i := 1) F dX9_chart_65 rfl rfl ?_
    refine g_bipush F dX9_chart_66 (v := 10) (by decide) ?_
    refine g_idiv F dX9_chart_68 (by decide) ?_
    refine g_iload_n (i := 2) F dX9_chart_69 rfl rfl ?_
    refine g_bipush F dX9_chart_70 (v := 10) (by decide) ?_
    refine g_idiv F dX9_chart_72 (by decide) ?_
    refine g_iadd F dX9_chart_73 ?_
    refine g_mmin F wd_16_19 wd_16_20 wd_16_21 wd_16_22 (Nat.le_of_ble_eq_true rfl) (Nat.le_of_ble_eq_true rfl) (Nat.zero_le _) (Nat.zero_le _) dX9_chart_74 ?_
    refine g_topi F h (fun v7 e8 h => ?_)
    refine g_istore (i := 6) (lv' := [(6, .int v7), (5, .ref (ev 0 + t0)), (1, .int l1), (2, .int l2), (4, .int l4)]) F dX9_chart_77 (by decide) rfl ?_
    refine g_bipush F dX9_chart_79 (v := 10) (by decide) ?_
    refine g_iload_n (i := 1) F dX9_chart_81 rfl rfl ?_
    refine g_bipush F dX9_chart_82 (v := 10) (by decide) ?_
    refine g_irem F dX9_chart_84 (by decide) ?_
    refine g_iload_n (i := 2) F dX9_chart_85 rfl rfl ?_
    refine g_bipush F dX9_chart_86 (v := 10) (by decide) ?_
    refine g_irem F dX9_chart_88 (by decide) ?_
    refine g_iadd F dX9_chart_89 ?_
    refine g_mmin F wd_16_19 wd_16_20 wd_16_21 wd_16_22 (Nat.le_of_ble_eq_true rfl) (Nat.le_of_ble_eq_true rfl) (Nat.zero_le _) (Nat.zero_le _) dX9_chart_90 ?_
    refine g_topi F h (fun v9 e10 h => ?_)
    refine g_istore (i := 7) (lv' := [(7, .int v9), (6, .int v7), (5, .ref (ev 0 + t0)), (1, .int l1), (2, .int l2), (4, .int l4)]) F dX9_chart_93 (by decide) rfl ?_
    refine g_iconst F dX9_chart_95 (v := 0) (by decide) ?_
    refine g_istore (i := 8) (lv' := [(8, .int (0 : Int32)), (7, .int v9), (6, .int v7), (5, .ref (ev 0 + t0)), (1, .int l1), (2, .int l2), (4, .int l4)]) F dX9_chart_96 (by decide) rfl ?_
    refine g_iload_n (i := 1) F dX9_chart_98 rfl rfl ?_
    refine g_bipush F dX9_chart_99 (v := 10) (by decide) ?_
    refine g_idiv F dX9_chart_101 (by decide) ?_
    refine g_topi F h (fun v11 e12 h => ?_)
    refine g_istore (i := 9) (lv' := [(9, .int v11), (8, .int (0 : Int32)), (7, .int v9), (6, .int v7), (5, .ref (ev 0 + t0)), (1, .int l1), (2, .int l2), (4, .int l4)]) F dX9_chart_102 (by decide) rfl ?_
    refine g_lv (lv' := [(1, .int l1), (4, .int l4), (5, .ref (ev 0 + t0)), (6, .int v7), (7, .int v9), (8, .int (0 : Int32)), (9, .int v11)]) ⟨rfl, rfl, rfl, rfl, rfl, rfl, rfl, trivial⟩ ?_
    exact L104 _ _ _ _ _ FU _ _ _ h
  rw [fX9_chart] at h
  refine g_lv (lv' := [(0, .ref (ev 0 + 0)), (1, .int l1), (2, .int l2), (3, .int l3), (4, .int l4)]) ⟨rfl, rfl, rfl, rfl, rfl, trivial⟩ ?_
  refine g_iload_n (i := 1) F dX9_chart_0 rfl rfl ?_
  refine g_callSI F (mcR := 0) (msR := 0) (c_X9_isCell G0 (X := X) (M := M) (nb := nb) rfl) wd_15_20 wd_15_18 wd_15_19 wd_1_2 ⟨by decide, by decide⟩ (nn := 1) (by decide) (As := [.int l1]) rfl rfl (Nat.le_of_ble_eq_true rfl) (by decide) (by decide) ⟨by decide, by decide⟩ dX9_chart_1 ?_
  refine g_if_eq (tgt := 25) F dX9_chart_4 (by decide) h (fun a25 h => ?_) (fun a25 h => ?_)
  · refine g_bipush F dX9_chart_25 (v := -2) (by decide) ?_
    have hp := Prod.mk.inj (Option.some.inj h)
    exact g_iret F hr9 rfl hl9 hp.1 (by rw [hp.2]) (by decide) (by decide) dX9_chart_27
  · refine g_iload_n (i := 2) F dX9_chart_7 rfl rfl ?_
    refine g_bipush F dX9_chart_8 (v := 11) (by decide) ?_
    refine g_bipush F dX9_chart_10 (v := 99) (by decide) ?_
    refine g_callSI F (mcR := 0) (msR := 0) (c_X9_within G0 (X := X) (M := M) (nb := nb) rfl) wd_9_7 wd_15_21 wd_9_6 wd_1_2 ⟨by decide, by decide⟩ (nn := 3) (by decide) (As := [.int l2, .int (11 : Int32), .int (99 : Int32)]) rfl rfl (Nat.le_of_ble_eq_true rfl) (by decide) (by decide) ⟨by decide, by decide⟩ dX9_chart_12 ?_
    refine g_if_eq (tgt := 25) F dX9_chart_15 (by decide) h (fun a24 h => ?_) (fun a24 h => ?_)
    · refine g_bipush F dX9_chart_25 (v := -2) (by decide) ?_
      have hp := Prod.mk.inj (Option.some.inj h)
      exact g_iret F hr9 rfl hl9 hp.1 (by rw [hp.2]) (by decide) (by decide) dX9_chart_27
    · refine g_iload_n (i := 2) F dX9_chart_18 rfl rfl ?_
      refine g_bipush F dX9_chart_19 (v := 10) (by decide) ?_
      refine g_irem F dX9_chart_21 (by decide) ?_
      refine g_if_ne (tgt := 28) F dX9_chart_22 (by decide) h (fun a23 h => ?_) (fun a23 h => ?_)
      · refine g_iload_n (i := 3) F dX9_chart_28 rfl rfl ?_
        refine g_iload (i := 4) F dX9_chart_29 rfl ?_
        refine g_callSI F (mcR := 0) (msR := 0) (c_X9_isSounding G0 (X := X) (M := M) (nb := nb) rfl) wd_16_0 wd_15_22 wd_15_23 wd_1_2 ⟨by decide, by decide⟩ (nn := 2) (by decide) (As := [.int l3, .int l4]) rfl rfl (Nat.le_of_ble_eq_true rfl) (by decide) (by decide) ⟨by decide, by decide⟩ dX9_chart_31 ?_
        refine g_if_ne (tgt := 40) F dX9_chart_34 (by decide) h (fun a22 h => ?_) (fun a22 h => ?_)
        · refine g_iload_n (i := 3) F dX9_chart_40 rfl rfl ?_
          refine g_if_ne (tgt := 54) F dX9_chart_41 (by decide) h (fun a21 h => ?_) (fun a21 h => ?_)
          · refine g_aload_n (i := 0) F dX9_chart_54 rfl rfl ?_
            refine g_get_9_0 F rfl (kd_lit (by decide)) wd_1_15 dX9_chart_55 ?_
            refine g_get_0_1 F rfl (kd_lit (by decide)) wd_15_17 dX9_chart_58 ?_
            refine g_lv (lv' := [(1, .int l1), (2, .int l2), (4, .int l4)]) ⟨rfl, rfl, rfl, trivial⟩ ?_
            exact U61 _ _ _ _ _ h
          · refine g_aload_n (i := 0) F dX9_chart_44 rfl rfl ?_
            refine g_get_9_0 F rfl (kd_lit (by decide)) wd_1_15 dX9_chart_45 ?_
            refine g_get_0_0 F rfl (kd_lit (by decide)) wd_15_16 dX9_chart_48 ?_
            refine g_goto (tgt := 61) F dX9_chart_51 (by decide) ?_
            refine g_lv (lv' := [(1, .int l1), (2, .int l2), (4, .int l4)]) ⟨rfl, rfl, rfl, trivial⟩ ?_
            exact U61 _ _ _ _ _ h
        · refine g_bipush F dX9_chart_37 (v := -7) (by decide) ?_
          have hp := Prod.mk.inj (Option.some.inj h)
          exact g_iret F hr9 rfl hl9 hp.1 (by rw [hp.2]) (by decide) (by decide) dX9_chart_39
      · refine g_bipush F dX9_chart_25 (v := -2) (by decide) ?_
        have hp := Prod.mk.inj (Option.some.inj h)
        exact g_iret F hr9 rfl hl9 hp.1 (by rw [hp.2]) (by decide) (by decide) dX9_chart_27
def fX9_isBlowing (l0 : Int32) (l1 : Int32) : Int32 :=
  if l0 = (0 : Int32) then (fX9_within l1 (0 : Int32) (7 : Int32))
  else if l0 = (1 : Int32) then (fX9_within l1 (0 : Int32) (99 : Int32))
  else if l0 = (2 : Int32) then (fX9_within l1 (-3 : Int32) (3 : Int32))
  else (0 : Int32)
set_option maxRecDepth 100000 in
set_option maxHeartbeats 4000000 in
theorem c_X9_isBlowing {l : Launch} {s0 : State} {D : va_G} {ev : Nat → Nat} (G0 : Gl s0 D ev) {X : XW} {M : MW} {nb : Nat} {l0 : Int32} {l1 : Int32} {r' : Int32}  (h : fX9_isBlowing l0 l1 = r') : CT l s0 D ev yX9_isBlowing cX9_isBlowing 2 (some .boolean) 1 0 0 [.int l0, .int l1] (cells ev X M nb) (QI s0 D ev r' (cells ev X M nb)) := by
  refine ct_of G0 (by decide) (Nat.le_of_ble_eq_true rfl) ?_
  intro p9 e9 s9 m9 args9 below9 meth9 c9 F hr9 hl9 hin9 hargs9 hts9
  rw [fX9_isBlowing] at h
  refine g_lv (lv' := [(0, .int l0), (1, .int l1)]) ⟨rfl, rfl, trivial⟩ ?_
  refine g_iload_n (i := 0) F dX9_isBlowing_0 rfl rfl ?_
  refine ite_at h (fun a1 h => ?_) (fun a1 h => ?_)
  · refine g_tsw (k := 0) (off := 27) (tgt := 28) F a1 dX9_isBlowing_1 (by decide) (by decide) (by decide) (by decide) ?_
    refine g_iload_n (i := 1) F dX9_isBlowing_28 rfl rfl ?_
    refine g_iconst F dX9_isBlowing_29 (v := 0) (by decide) ?_
    refine g_bipush F dX9_isBlowing_30 (v := 7) (by decide) ?_
    refine g_callSI F (mcR := 0) (msR := 0) (c_X9_within G0 (X := X) (M := M) (nb := nb) rfl) wd_9_7 wd_15_21 wd_9_6 wd_1_2 ⟨by decide, by decide⟩ (nn := 3) (by decide) (As := [.int l1, .int (0 : Int32), .int (7 : Int32)]) rfl rfl (Nat.le_of_ble_eq_true rfl) (by decide) (by decide) ⟨by decide, by decide⟩ dX9_isBlowing_32 ?_
    exact g_iret F hr9 (nar_b b_X9_within) hl9 h rfl (by decide) (by decide) dX9_isBlowing_35
  · refine ite_at h (fun a2 h => ?_) (fun a2 h => ?_)
    · refine g_tsw (k := 1) (off := 35) (tgt := 36) F a2 dX9_isBlowing_1 (by decide) (by decide) (by decide) (by decide) ?_
      refine g_iload_n (i := 1) F dX9_isBlowing_36 rfl rfl ?_
      refine g_iconst F dX9_isBlowing_37 (v := 0) (by decide) ?_
      refine g_bipush F dX9_isBlowing_38 (v := 99) (by decide) ?_
      refine g_callSI F (mcR := 0) (msR := 0) (c_X9_within G0 (X := X) (M := M) (nb := nb) rfl) wd_9_7 wd_15_21 wd_9_6 wd_1_2 ⟨by decide, by decide⟩ (nn := 3) (by decide) (As := [.int l1, .int (0 : Int32), .int (99 : Int32)]) rfl rfl (Nat.le_of_ble_eq_true rfl) (by decide) (by decide) ⟨by decide, by decide⟩ dX9_isBlowing_40 ?_
      exact g_iret F hr9 (nar_b b_X9_within) hl9 h rfl (by decide) (by decide) dX9_isBlowing_43
    · refine ite_at h (fun a3 h => ?_) (fun a3 h => ?_)
      · refine g_tsw (k := 2) (off := 43) (tgt := 44) F a3 dX9_isBlowing_1 (by decide) (by decide) (by decide) (by decide) ?_
        refine g_iload_n (i := 1) F dX9_isBlowing_44 rfl rfl ?_
        refine g_bipush F dX9_isBlowing_45 (v := -3) (by decide) ?_
        refine g_iconst F dX9_isBlowing_47 (v := 3) (by decide) ?_
        refine g_callSI F (mcR := 0) (msR := 0) (c_X9_within G0 (X := X) (M := M) (nb := nb) rfl) wd_9_7 wd_15_21 wd_9_6 wd_1_2 ⟨by decide, by decide⟩ (nn := 3) (by decide) (As := [.int l1, .int (-3 : Int32), .int (3 : Int32)]) rfl rfl (Nat.le_of_ble_eq_true rfl) (by decide) (by decide) ⟨by decide, by decide⟩ dX9_isBlowing_48 ?_
        exact g_iret F hr9 (nar_b b_X9_within) hl9 h rfl (by decide) (by decide) dX9_isBlowing_51
      · have q0 : l0.toInt ≠ 0 := fun q => a1 (Int32.toInt_inj.mp (q.trans (by decide)))
        have q1 : l0.toInt ≠ 1 := fun q => a2 (Int32.toInt_inj.mp (q.trans (by decide)))
        have q2 : l0.toInt ≠ 2 := fun q => a3 (Int32.toInt_inj.mp (q.trans (by decide)))
        refine g_tswd (tgt := 52) F (by omega) dX9_isBlowing_1 (by decide) ?_
        refine g_iconst F dX9_isBlowing_52 (v := 0) (by decide) ?_
        exact g_iret F hr9 (by decide) hl9 h rfl (by decide) (by decide) dX9_isBlowing_53
theorem b_X9_isBlowing {l0 : Int32} {l1 : Int32} : (fX9_isBlowing l0 l1) = 0 ∨ (fX9_isBlowing l0 l1) = 1 := by
  unfold fX9_isBlowing
  (repeat' split) <;> first | exact Or.inl rfl | exact Or.inr rfl | exact b_X9_within | exact b_X9_within | exact b_X9_within
def fX9_blow (X : XW) (l1 : Int32) (l2 : Int32) (l3 : Int32) : Option (Int32 × XW) :=
  if (fX9_isHour l1) = 0 then some ((-5 : Int32), X)
  else if (fX9_isBlowing l2 l3) = 0 then some ((-7 : Int32), X)
  else bd (fX0_hourRow X l2) fun r5 =>
  (r5).bind fun b7 =>
  if kd b7 = 11 then (rd (X.2.1 b7) (ln b7) l1).bind fun v10 =>
  if inb l1 (ln b7) then bd (xA X b7 l1 l3) fun X13 =>
  some (v10, X13)
  else none else none
set_option maxRecDepth 100000 in
set_option maxHeartbeats 4000000 in
theorem c_X9_blow {l : Launch} {s0 : State} {D : va_G} {ev : Nat → Nat} (G0 : Gl s0 D ev) {X : XW} {M : MW} {nb : Nat} {l1 : Int32} {l2 : Int32} {l3 : Int32} {r' : Int32} {X' : XW}  (h : fX9_blow X l1 l2 l3 = some (r', X')) : CT l s0 D ev yX9_blow cX9_blow 6 (some .int) 2 0 0 [.ref (ev 0 + 0), .int l1, .int l2, .int l3] (cells ev X M nb) (QI s0 D ev r' (cells ev X' M nb)) := by
  refine ct_of G0 (by decide) (Nat.le_of_ble_eq_true rfl) ?_
  intro p9 e9 s9 m9 args9 below9 meth9 c9 F hr9 hl9 hin9 hargs9 hts9
  rw [fX9_blow] at h
  refine g_lv (lv' := [(0, .ref (ev 0 + 0)), (1, .int l1), (2, .int l2), (3, .int l3)]) ⟨rfl, rfl, rfl, rfl, trivial⟩ ?_
  refine g_iload_n (i := 1) F dX9_blow_0 rfl rfl ?_
  refine g_callSI F (mcR := 0) (msR := 0) (c_X9_isHour G0 (X := X) (M := M) (nb := nb) rfl) wd_17_9 wd_17_7 wd_17_8 wd_1_2 ⟨by decide, by decide⟩ (nn := 1) (by decide) (As := [.int l1]) rfl rfl (Nat.le_of_ble_eq_true rfl) (by decide) (by decide) ⟨by decide, by decide⟩ dX9_blow_1 ?_
  refine g_if_ne (tgt := 10) F dX9_blow_4 (by decide) h (fun a16 h => ?_) (fun a16 h => ?_)
  · refine g_iload_n (i := 2) F dX9_blow_10 rfl rfl ?_
    refine g_iload_n (i := 3) F dX9_blow_11 rfl rfl ?_
    refine g_callSI F (mcR := 0) (msR := 0) (c_X9_isBlowing G0 (X := X) (M := M) (nb := nb) rfl) wd_17_12 wd_17_10 wd_17_11 wd_1_2 ⟨by decide, by decide⟩ (nn := 2) (by decide) (As := [.int l2, .int l3]) rfl rfl (Nat.le_of_ble_eq_true rfl) (by decide) (by decide) ⟨by decide, by decide⟩ dX9_blow_12 ?_
    refine g_if_ne (tgt := 21) F dX9_blow_15 (by decide) h (fun a15 h => ?_) (fun a15 h => ?_)
    · refine g_aload_n (i := 0) F dX9_blow_21 rfl rfl ?_
      refine g_get_9_0 F rfl (kd_lit (by decide)) wd_1_15 dX9_blow_22 ?_
      refine g_iload_n (i := 2) F dX9_blow_25 rfl rfl ?_
      obtain ⟨r5, e6, h⟩ := bd_at h
      refine g_callVR F (mcR := 0) (msR := 0) (id := 1) (cells_at (kd_lit (i := 1) (by decide)) (xc_0 rfl)) (ci := 0) rfl rfl rfl (c_X0_hourRow G0 (X := X) (M := M) (nb := nb) e6.symm) wd_17_16 wd_17_13 wd_17_14 wd_17_15 wd_1_14 ⟨by decide, by decide⟩ (nn := 1) (by decide) (As := [.int l2]) rfl rfl (Nat.le_of_ble_eq_true rfl) (by decide) (by decide) ⟨by decide, by decide⟩ dX9_blow_26 ?_
      refine g_zastore (i := 4) (lv' := [(4, zr ev r5), (0, .ref (ev 0 + 0)), (1, .int l1), (2, .int l2), (3, .int l3)]) F dX9_blow_29 (by decide) rfl ?_
      refine g_zaload (i := 4) F dX9_blow_31 rfl ?_
      refine g_iload_n (i := 1) F dX9_blow_33 rfl rfl ?_
      obtain ⟨b7, e8, h⟩ := bind_at h
      subst e8
      obtain ⟨h9, h⟩ := if_at h
      obtain ⟨v10, e11, h⟩ := bind_at h
      refine g_ildX F h9 rfl e11 dX9_blow_34 ?_
      refine g_istore (i := 5) (lv' := [(5, .int v10), (4, .ref (ev 0 + b7)), (0, .ref (ev 0 + 0)), (1, .int l1), (2, .int l2), (3, .int l3)]) F dX9_blow_35 (by decide) rfl ?_
      refine g_aload (i := 4) F dX9_blow_37 rfl ?_
      refine g_iload_n (i := 1) F dX9_blow_39 rfl rfl ?_
      refine g_iload_n (i := 3) F dX9_blow_40 rfl rfl ?_
      obtain ⟨h12, h⟩ := if_at h
      obtain ⟨X13, e14, h⟩ := bd_at h
      refine g_istX F h9 rfl h12 dX9_blow_41 ?_
      rw [← e14]
      refine g_iload (i := 5) F dX9_blow_42 rfl ?_
      have hp := Prod.mk.inj (Option.some.inj h)
      exact g_iret F hr9 rfl hl9 hp.1 (by rw [hp.2]) (by decide) (by decide) dX9_blow_44
    · refine g_bipush F dX9_blow_18 (v := -7) (by decide) ?_
      have hp := Prod.mk.inj (Option.some.inj h)
      exact g_iret F hr9 rfl hl9 hp.1 (by rw [hp.2]) (by decide) (by decide) dX9_blow_20
  · refine g_bipush F dX9_blow_7 (v := -5) (by decide) ?_
    have hp := Prod.mk.inj (Option.some.inj h)
    exact g_iret F hr9 rfl hl9 hp.1 (by rw [hp.2]) (by decide) (by decide) dX9_blow_9
def fX9_told (X : XW) (l1 : Int32) (l2 : Int32) : Option Int32 :=
  if (fX9_within l2 (0 : Int32) (4 : Int32)) = 0 then some (-7 : Int32)
  else if l2 < (2 : Int32) then if (fX9_isCell l1) = 0 then some (-5 : Int32)
  else if l2 = 0 then (rd (X.2.1 2) 100 l1).bind fun v7 =>
  some v7
  else (rd (X.2.1 3) 100 l1).bind fun v5 =>
  some v5
  else if (fX9_isHour l1) = 0 then some (-5 : Int32)
  else bd (fX0_hourRow X (l2 - (2 : Int32))) fun r13 =>
  (r13).bind fun b15 =>
  if kd b15 = 11 then (rd (X.2.1 b15) (ln b15) l1).bind fun v18 =>
  some v18 else none
set_option maxRecDepth 100000 in
set_option maxHeartbeats 4000000 in
theorem c_X9_told {l : Launch} {s0 : State} {D : va_G} {ev : Nat → Nat} (G0 : Gl s0 D ev) {X : XW} {M : MW} {nb : Nat} {l1 : Int32} {l2 : Int32} {r' : Int32}  (h : fX9_told X l1 l2 = some r') : CT l s0 D ev yX9_told cX9_told 3 (some .int) 2 0 0 [.ref (ev 0 + 0), .int l1, .int l2] (cells ev X M nb) (QI s0 D ev r' (cells ev X M nb)) := by
  refine ct_of G0 (by decide) (Nat.le_of_ble_eq_true rfl) ?_
  intro p9 e9 s9 m9 args9 below9 meth9 c9 F hr9 hl9 hin9 hargs9 hts9
  rw [fX9_told] at h
  refine g_lv (lv' := [(0, .ref (ev 0 + 0)), (1, .int l1), (2, .int l2)]) ⟨rfl, rfl, rfl, trivial⟩ ?_
  refine g_iload_n (i := 2) F dX9_told_0 rfl rfl ?_
  refine g_iconst F dX9_told_1 (v := 0) (by decide) ?_
  refine g_iconst F dX9_told_2 (v := 4) (by decide) ?_
  refine g_callSI F (mcR := 0) (msR := 0) (c_X9_within G0 (X := X) (M := M) (nb := nb) rfl) wd_9_7 wd_15_21 wd_9_6 wd_1_2 ⟨by decide, by decide⟩ (nn := 3) (by decide) (As := [.int l2, .int (0 : Int32), .int (4 : Int32)]) rfl rfl (Nat.le_of_ble_eq_true rfl) (by decide) (by decide) ⟨by decide, by decide⟩ dX9_told_3 ?_
  refine g_if_ne (tgt := 12) F dX9_told_6 (by decide) h (fun a22 h => ?_) (fun a22 h => ?_)
  · refine g_iload_n (i := 2) F dX9_told_12 rfl rfl ?_
    refine g_iconst F dX9_told_13 (v := 2) (by decide) ?_
    refine g_icmp_lt (tgt := 42) F dX9_told_14 (by decide) h (fun a21 h => ?_) (fun a21 h => ?_)
    · refine g_iload_n (i := 1) F dX9_told_42 rfl rfl ?_
      refine g_callSI F (mcR := 0) (msR := 0) (c_X9_isCell G0 (X := X) (M := M) (nb := nb) rfl) wd_15_20 wd_15_18 wd_15_19 wd_1_2 ⟨by decide, by decide⟩ (nn := 1) (by decide) (As := [.int l1]) rfl rfl (Nat.le_of_ble_eq_true rfl) (by decide) (by decide) ⟨by decide, by decide⟩ dX9_told_43 ?_
      refine g_if_ne (tgt := 52) F dX9_told_46 (by decide) h (fun a10 h => ?_) (fun a10 h => ?_)
      · refine g_iload_n (i := 2) F dX9_told_52 rfl rfl ?_
        refine g_if_ne (tgt := 68) F dX9_told_53 (by decide) h (fun a9 h => ?_) (fun a9 h => ?_)
        · refine g_aload_n (i := 0) F dX9_told_68 rfl rfl ?_
          refine g_get_9_0 F rfl (kd_lit (by decide)) wd_1_15 dX9_told_69 ?_
          refine g_get_0_1 F rfl (kd_lit (by decide)) wd_15_17 dX9_told_72 ?_
          refine g_iload_n (i := 1) F dX9_told_75 rfl rfl ?_
          obtain ⟨v5, e6, h⟩ := bind_at h
          refine g_ildX F rfl rfl e6 dX9_told_76 ?_
          exact g_iret F hr9 rfl hl9 (Option.some.inj h) rfl (by decide) (by decide) dX9_told_77
        · refine g_aload_n (i := 0) F dX9_told_56 rfl rfl ?_
          refine g_get_9_0 F rfl (kd_lit (by decide)) wd_1_15 dX9_told_57 ?_
          refine g_get_0_0 F rfl (kd_lit (by decide)) wd_15_16 dX9_told_60 ?_
          refine g_iload_n (i := 1) F dX9_told_63 rfl rfl ?_
          obtain ⟨v7, e8, h⟩ := bind_at h
          refine g_ildX F rfl rfl e8 dX9_told_64 ?_
          refine g_goto (tgt := 77) F dX9_told_65 (by decide) ?_
          exact g_iret F hr9 rfl hl9 (Option.some.inj h) rfl (by decide) (by decide) dX9_told_77
      · refine g_bipush F dX9_told_49 (v := -5) (by decide) ?_
        exact g_iret F hr9 rfl hl9 (Option.some.inj h) rfl (by decide) (by decide) dX9_told_51
    · refine g_iload_n (i := 1) F dX9_told_17 rfl rfl ?_
      refine g_callSI F (mcR := 0) (msR := 0) (c_X9_isHour G0 (X := X) (M := M) (nb := nb) rfl) wd_17_9 wd_17_7 wd_17_8 wd_1_2 ⟨by decide, by decide⟩ (nn := 1) (by decide) (As := [.int l1]) rfl rfl (Nat.le_of_ble_eq_true rfl) (by decide) (by decide) ⟨by decide, by decide⟩ dX9_told_18 ?_
      refine g_if_eq (tgt := 39) F dX9_told_21 (by decide) h (fun a20 h => ?_) (fun a20 h => ?_)
      · refine g_bipush F dX9_told_39 (v := -5) (by decide) ?_
        exact g_iret F hr9 rfl hl9 (Option.some.inj h) rfl (by decide) (by decide) dX9_told_41
      · refine g_aload_n (i := 0) F dX9_told_24 rfl rfl ?_
        refine g_get_9_0 F rfl (kd_lit (by decide)) wd_1_15 dX9_told_25 ?_
        refine g_iload_n (i := 2) F dX9_told_28 rfl rfl ?_
        refine g_iconst F dX9_told_29 (v := 2) (by decide) ?_
        refine g_isub F dX9_told_30 ?_
        obtain ⟨r13, e14, h⟩ := bd_at h
        refine g_callVR F (mcR := 0) (msR := 0) (id := 1) (cells_at (kd_lit (i := 1) (by decide)) (xc_0 rfl)) (ci := 0) rfl rfl rfl (c_X0_hourRow G0 (X := X) (M := M) (nb := nb) e14.symm) wd_17_16 wd_17_13 wd_17_14 wd_17_15 wd_1_14 ⟨by decide, by decide⟩ (nn := 1) (by decide) (As := [.int (l2 - (2 : Int32))]) rfl rfl (Nat.le_of_ble_eq_true rfl) (by decide) (by decide) ⟨by decide, by decide⟩ dX9_told_31 ?_
        refine g_iload_n (i := 1) F dX9_told_34 rfl rfl ?_
        obtain ⟨b15, e16, h⟩ := bind_at h
        subst e16
        obtain ⟨h17, h⟩ := if_at h
        obtain ⟨v18, e19, h⟩ := bind_at h
        refine g_ildX F h17 rfl e19 dX9_told_35 ?_
        refine g_goto (tgt := 41) F dX9_told_36 (by decide) ?_
        exact g_iret F hr9 rfl hl9 (Option.some.inj h) rfl (by decide) (by decide) dX9_told_41
  · refine g_bipush F dX9_told_9 (v := -7) (by decide) ?_
    exact g_iret F hr9 rfl hl9 (Option.some.inj h) rfl (by decide) (by decide) dX9_told_11
def fX9_count (X : XW) (l1 : Int32) : Int32 :=
  if l1 = (0 : Int32) then (X.1 0 11)
  else if l1 = (1 : Int32) then (X.1 0 12)
  else if l1 = (2 : Int32) then (X.1 0 13)
  else if l1 = (3 : Int32) then (X.1 0 14)
  else if l1 = (4 : Int32) then (X.1 7 1)
  else (-2 : Int32)
set_option maxRecDepth 100000 in
set_option maxHeartbeats 4000000 in
theorem c_X9_count {l : Launch} {s0 : State} {D : va_G} {ev : Nat → Nat} (G0 : Gl s0 D ev) {X : XW} {M : MW} {nb : Nat} {l1 : Int32} {r' : Int32}  (h : fX9_count X l1 = r') : CT l s0 D ev yX9_count cX9_count 2 (some .int) 0 0 0 [.ref (ev 0 + 0), .int l1] (cells ev X M nb) (QI s0 D ev r' (cells ev X M nb)) := by
  refine ct_of G0 (by decide) (Nat.le_of_ble_eq_true rfl) ?_
  intro p9 e9 s9 m9 args9 below9 meth9 c9 F hr9 hl9 hin9 hargs9 hts9
  rw [fX9_count] at h
  refine g_lv (lv' := [(0, .ref (ev 0 + 0)), (1, .int l1)]) ⟨rfl, rfl, trivial⟩ ?_
  refine g_iload_n (i := 1) F dX9_count_0 rfl rfl ?_
  refine ite_at h (fun a1 h => ?_) (fun a1 h => ?_)
  · refine g_tsw (k := 0) (off := 35) (tgt := 36) F a1 dX9_count_1 (by decide) (by decide) (by decide) (by decide) ?_
    refine g_aload_n (i := 0) F dX9_count_36 rfl rfl ?_
    refine g_get_9_11 F rfl (kd_lit (by decide)) wd_2_19 dX9_count_37 ?_
    exact g_iret F hr9 rfl hl9 h rfl (by decide) (by decide) dX9_count_40
  · refine ite_at h (fun a2 h => ?_) (fun a2 h => ?_)
    · refine g_tsw (k := 1) (off := 40) (tgt := 41) F a2 dX9_count_1 (by decide) (by decide) (by decide) (by decide) ?_
      refine g_aload_n (i := 0) F dX9_count_41 rfl rfl ?_
      refine g_get_9_12 F rfl (kd_lit (by decide)) wd_2_20 dX9_count_42 ?_
      exact g_iret F hr9 rfl hl9 h rfl (by decide) (by decide) dX9_count_45
    · refine ite_at h (fun a3 h => ?_) (fun a3 h => ?_)
      · refine g_tsw (k := 2) (off := 45) (tgt := 46) F a3 dX9_count_1 (by decide) (by decide) (by decide) (by decide) ?_
        refine g_aload_n (i := 0) F dX9_count_46 rfl rfl ?_
        refine g_get_9_13 F rfl (kd_lit (by decide)) wd_2_21 dX9_count_47 ?_
        exact g_iret F hr9 rfl hl9 h rfl (by decide) (by decide) dX9_count_50
      · refine ite_at h (fun a4 h => ?_) (fun a4 h => ?_)
        · refine g_tsw (k := 3) (off := 50) (tgt := 51) F a4 dX9_count_1 (by decide) (by decide) (by decide) (by decide) ?_
          refine g_aload_n (i := 0) F dX9_count_51 rfl rfl ?_
          refine g_get_9_14 F rfl (kd_lit (by decide)) wd_2_22 dX9_count_52 ?_
          exact g_iret F hr9 rfl hl9 h rfl (by decide) (by decide) dX9_count_55
        · refine ite_at h (fun a5 h => ?_) (fun a5 h => ?_)
          · refine g_tsw (k := 4) (off := 55) (tgt := 56) F a5 dX9_count_1 (by decide) (by decide) (by decide) (by decide) ?_
            refine g_aload_n (i := 0) F dX9_count_56 rfl rfl ?_
            refine g_get_9_1 F rfl (kd_lit (by decide)) wd_1_19 dX9_count_57 ?_
            refine g_get_6_1 F rfl (kd_lit (by decide)) wd_18_12 dX9_count_60 ?_
            exact g_iret F hr9 rfl hl9 h rfl (by decide) (by decide) dX9_count_63
          · have q0 : l1.toInt ≠ 0 := fun q => a1 (Int32.toInt_inj.mp (q.trans (by decide)))
            have q1 : l1.toInt ≠ 1 := fun q => a2 (Int32.toInt_inj.mp (q.trans (by decide)))
            have q2 : l1.toInt ≠ 2 := fun q => a3 (Int32.toInt_inj.mp (q.trans (by decide)))
            have q3 : l1.toInt ≠ 3 := fun q => a4 (Int32.toInt_inj.mp (q.trans (by decide)))
            have q4 : l1.toInt ≠ 4 := fun q => a5 (Int32.toInt_inj.mp (q.trans (by decide)))
            refine g_tswd (tgt := 64) F (by omega) dX9_count_1 (by decide) ?_
            refine g_bipush F dX9_count_64 (v := -2) (by decide) ?_
            exact g_iret F hr9 rfl hl9 h rfl (by decide) (by decide) dX9_count_66
def fX9_isByte (l0 : Int32) : Int32 :=
  (fX9_within l0 (0 : Int32) (255 : Int32))
set_option maxRecDepth 100000 in
set_option maxHeartbeats 4000000 in
theorem c_X9_isByte {l : Launch} {s0 : State} {D : va_G} {ev : Nat → Nat} (G0 : Gl s0 D ev) {X : XW} {M : MW} {nb : Nat} {l0 : Int32} {r' : Int32}  (h : fX9_isByte l0 = r') : CT l s0 D ev yX9_isByte cX9_isByte 1 (some .boolean) 1 0 0 [.int l0] (cells ev X M nb) (QI s0 D ev r' (cells ev X M nb)) := by
  refine ct_of G0 (by decide) (Nat.le_of_ble_eq_true rfl) ?_
  intro p9 e9 s9 m9 args9 below9 meth9 c9 F hr9 hl9 hin9 hargs9 hts9
  rw [fX9_isByte] at h
  refine g_lv (lv' := [(0, .int l0)]) ⟨rfl, trivial⟩ ?_
  refine g_iload_n (i := 0) F dX9_isByte_0 rfl rfl ?_
  refine g_iconst F dX9_isByte_1 (v := 0) (by decide) ?_
  refine g_sipush F dX9_isByte_2 (v := 255) (by decide) ?_
  refine g_callSI F (mcR := 0) (msR := 0) (c_X9_within G0 (X := X) (M := M) (nb := nb) rfl) wd_9_7 wd_15_21 wd_9_6 wd_1_2 ⟨by decide, by decide⟩ (nn := 3) (by decide) (As := [.int l0, .int (0 : Int32), .int (255 : Int32)]) rfl rfl (Nat.le_of_ble_eq_true rfl) (by decide) (by decide) ⟨by decide, by decide⟩ dX9_isByte_5 ?_
  exact g_iret F hr9 (nar_b b_X9_within) hl9 h rfl (by decide) (by decide) dX9_isByte_8
theorem b_X9_isByte {l0 : Int32} : (fX9_isByte l0) = 0 ∨ (fX9_isByte l0) = 1 := by
  unfold fX9_isByte
  (repeat' split) <;> first | exact Or.inl rfl | exact Or.inr rfl | exact b_X9_within
def fX9_isNight (X : XW) (l1 : Int32) : Int32 :=
  (fX9_within l1 (0 : Int32) ((12 : Int32) - (X.1 0 11)))
set_option maxRecDepth 100000 in
set_option maxHeartbeats 4000000 in
theorem c_X9_isNight {l : Launch} {s0 : State} {D : va_G} {ev : Nat → Nat} (G0 : Gl s0 D ev) {X : XW} {M : MW} {nb : Nat} {l1 : Int32} {r' : Int32}  (h : fX9_isNight X l1 = r') : CT l s0 D ev yX9_isNight cX9_isNight 2 (some .boolean) 1 0 0 [.ref (ev 0 + 0), .int l1] (cells ev X M nb) (QI s0 D ev r' (cells ev X M nb)) := by
  refine ct_of G0 (by decide) (Nat.le_of_ble_eq_true rfl) ?_
  intro p9 e9 s9 m9 args9 below9 meth9 c9 F hr9 hl9 hin9 hargs9 hts9
  rw [fX9_isNight] at h
  refine g_lv (lv' := [(0, .ref (ev 0 + 0)), (1, .int l1)]) ⟨rfl, rfl, trivial⟩ ?_
  refine g_iload_n (i := 1) F dX9_isNight_0 rfl rfl ?_
  refine g_iconst F dX9_isNight_1 (v := 0) (by decide) ?_
  refine g_bipush F dX9_isNight_2 (v := 12) (by decide) ?_
  refine g_aload_n (i := 0) F dX9_isNight_4 rfl rfl ?_
  refine g_get_9_11 F rfl (kd_lit (by decide)) wd_2_19 dX9_isNight_5 ?_
  refine g_isub F dX9_isNight_8 ?_
  refine g_callSI F (mcR := 0) (msR := 0) (c_X9_within G0 (X := X) (M := M) (nb := nb) rfl) wd_9_7 wd_15_21 wd_9_6 wd_1_2 ⟨by decide, by decide⟩ (nn := 3) (by decide) (As := [.int l1, .int (0 : Int32), .int ((12 : Int32) - (X.1 0 11))]) rfl rfl (Nat.le_of_ble_eq_true rfl) (by decide) (by decide) ⟨by decide, by decide⟩ dX9_isNight_9 ?_
  exact g_iret F hr9 (nar_b b_X9_within) hl9 h rfl (by decide) (by decide) dX9_isNight_12
theorem b_X9_isNight {X : XW} {l1 : Int32} : (fX9_isNight X l1) = 0 ∨ (fX9_isNight X l1) = 1 := by
  unfold fX9_isNight
  (repeat' split) <;> first | exact Or.inl rfl | exact Or.inr rfl | exact b_X9_within
def fX9_sideOf (l0 : Int32) (l1 : Int32) (l2 : Int32) : Int32 :=
  bd (jrem l0 (10 : Int32)) fun v1 =>
  bd (l0 / (10 : Int32)) fun v3 =>
  ((((jrem l1 (10 : Int32)) - v1) * ((l2 / (10 : Int32)) - v3)) - (((l1 / (10 : Int32)) - v3) * ((jrem l2 (10 : Int32)) - v1)))
set_option maxRecDepth 100000 in
set_option maxHeartbeats 4000000 in
theorem c_X9_sideOf {l : Launch} {s0 : State} {D : va_G} {ev : Nat → Nat} (G0 : Gl s0 D ev) {X : XW} {M : MW} {nb : Nat} {l0 : Int32} {l1 : Int32} {l2 : Int32} {r' : Int32}  (h : fX9_sideOf l0 l1 l2 = r') : CT l s0 D ev yX9_sideOf cX9_sideOf 5 (some .int) 0 0 0 [.int l0, .int l1, .int l2] (cells ev X M nb) (QI s0 D ev r' (cells ev X M nb)) := by
  refine ct_of G0 (by decide) (Nat.le_of_ble_eq_true rfl) ?_
  intro p9 e9 s9 m9 args9 below9 meth9 c9 F hr9 hl9 hin9 hargs9 hts9
  rw [fX9_sideOf] at h
  refine g_lv (lv' := [(0, .int l0), (1, .int l1), (2, .int l2)]) ⟨rfl, rfl, rfl, trivial⟩ ?_
  refine g_iload_n (i := 0) F dX9_sideOf_0 rfl rfl ?_
  refine g_bipush F dX9_sideOf_1 (v := 10) (by decide) ?_
  refine g_irem F dX9_sideOf_3 (by decide) ?_
  refine g_topi F h (fun v1 e2 h => ?_)
  refine g_istore_n (i := 3) (lv' := [(3, .int v1), (0, .int l0), (1, .int l1), (2, .int l2)]) F dX9_sideOf_4 rfl (by decide) rfl ?_
  refine g_iload_n (i := 0) F dX9_sideOf_5 rfl rfl ?_
  refine g_bipush F dX9_sideOf_6 (v := 10) (by decide) ?_
  refine g_idiv F dX9_sideOf_8 (by decide) ?_
  refine g_topi F h (fun v3 e4 h => ?_)
  refine g_istore (i := 4) (lv' := [(4, .int v3), (3, .int v1), (0, .int l0), (1, .int l1), (2, .int l2)]) F dX9_sideOf_9 (by decide) rfl ?_
  refine g_iload_n (i := 1) F dX9_sideOf_11 rfl rfl ?_
  refine g_bipush F dX9_sideOf_12 (v := 10) (by decide) ?_
  refine g_irem F dX9_sideOf_14 (by decide) ?_
  refine g_iload_n (i := 3) F dX9_sideOf_15 rfl rfl ?_
  refine g_isub F dX9_sideOf_16 ?_
  refine g_iload_n (i := 2) F dX9_sideOf_17 rfl rfl ?_
  refine g_bipush F dX9_sideOf_18 (v := 10) (by decide) ?_
  refine g_idiv F dX9_sideOf_20 (by decide) ?_
  refine g_iload (i := 4) F dX9_sideOf_21 rfl ?_
  refine g_isub F dX9_sideOf_23 ?_
  refine g_imul F dX9_sideOf_24 ?_
  refine g_iload_n (i := 1) F dX9_sideOf_25 rfl rfl ?_
  refine g_bipush F dX9_sideOf_26 (v := 10) (by decide) ?_
  refine g_idiv F dX9_sideOf_28 (by decide) ?_
  refine g_iload (i := 4) F dX9_sideOf_29 rfl ?_
  refine g_isub F dX9_sideOf_31 ?_
  refine g_iload_n (i := 2) F dX9_sideOf_32 rfl rfl ?_
  refine g_bipush F dX9_sideOf_33 (v := 10) (by decide) ?_
  refine g_irem F dX9_sideOf_35 (by decide) ?_
  refine g_iload_n (i := 3) F dX9_sideOf_36 rfl rfl ?_
  refine g_isub F dX9_sideOf_37 ?_
  refine g_imul F dX9_sideOf_38 ?_
  refine g_isub F dX9_sideOf_39 ?_
  exact g_iret F hr9 rfl hl9 h rfl (by decide) (by decide) dX9_sideOf_40
def fX9_line (l1 : Int32) (l2 : Int32) (l3 : Int32) : Int32 :=
  if (fX9_isCell l1) = 0 then (-1000000 : Int32)
  else if (fX9_isCell l2) = 0 then (-1000000 : Int32)
  else if (fX9_isCell l3) = 0 then (-1000000 : Int32)
  else if l1 = l2 then (-1000000 : Int32)
  else (fX9_sideOf l1 l2 l3)
set_option maxRecDepth 100000 in
set_option maxHeartbeats 4000000 in
theorem c_X9_line {l : Launch} {s0 : State} {D : va_G} {ev : Nat → Nat} (G0 : Gl s0 D ev) {X : XW} {M : MW} {nb : Nat} {l1 : Int32} {l2 : Int32} {l3 : Int32} {r' : Int32}  (h : fX9_line l1 l2 l3 = r') : CT l s0 D ev yX9_line cX9_line 4 (some .int) 2 0 0 [.ref (ev 0 + 0), .int l1, .int l2, .int l3] (cells ev X M nb) (QI s0 D ev r' (cells ev X M nb)) := by
  refine ct_of G0 (by decide) (Nat.le_of_ble_eq_true rfl) ?_
  intro p9 e9 s9 m9 args9 below9 meth9 c9 F hr9 hl9 hin9 hargs9 hts9
  rw [fX9_line] at h
  refine g_lv (lv' := [(0, .ref (ev 0 + 0)), (1, .int l1), (2, .int l2), (3, .int l3)]) ⟨rfl, rfl, rfl, rfl, trivial⟩ ?_
  refine g_iload_n (i := 1) F dX9_line_0 rfl rfl ?_
  refine g_callSI F (mcR := 0) (msR := 0) (c_X9_isCell G0 (X := X) (M := M) (nb := nb) rfl) wd_15_20 wd_15_18 wd_15_19 wd_1_2 ⟨by decide, by decide⟩ (nn := 1) (by decide) (As := [.int l1]) rfl rfl (Nat.le_of_ble_eq_true rfl) (by decide) (by decide) ⟨by decide, by decide⟩ dX9_line_1 ?_
  refine g_if_eq (tgt := 26) F dX9_line_4 (by decide) h (fun a12 h => ?_) (fun a12 h => ?_)
  · refine g_ldcw F dX9_line_26 wd_37_8 ?_
    refine g_goto (tgt := 38) F dX9_line_29 (by decide) ?_
    exact g_iret F hr9 rfl hl9 h rfl (by decide) (by decide) dX9_line_38
  · refine g_iload_n (i := 2) F dX9_line_7 rfl rfl ?_
    refine g_callSI F (mcR := 0) (msR := 0) (c_X9_isCell G0 (X := X) (M := M) (nb := nb) rfl) wd_15_20 wd_15_18 wd_15_19 wd_1_2 ⟨by decide, by decide⟩ (nn := 1) (by decide) (As := [.int l2]) rfl rfl (Nat.le_of_ble_eq_true rfl) (by decide) (by decide) ⟨by decide, by decide⟩ dX9_line_8 ?_
    refine g_if_eq (tgt := 26) F dX9_line_11 (by decide) h (fun a11 h => ?_) (fun a11 h => ?_)
    · refine g_ldcw F dX9_line_26 wd_37_8 ?_
      refine g_goto (tgt := 38) F dX9_line_29 (by decide) ?_
      exact g_iret F hr9 rfl hl9 h rfl (by decide) (by decide) dX9_line_38
    · refine g_iload_n (i := 3) F dX9_line_14 rfl rfl ?_
      refine g_callSI F (mcR := 0) (msR := 0) (c_X9_isCell G0 (X := X) (M := M) (nb := nb) rfl) wd_15_20 wd_15_18 wd_15_19 wd_1_2 ⟨by decide, by decide⟩ (nn := 1) (by decide) (As := [.int l3]) rfl rfl (Nat.le_of_ble_eq_true rfl) (by decide) (by decide) ⟨by decide, by decide⟩ dX9_line_15 ?_
      refine g_if_eq (tgt := 26) F dX9_line_18 (by decide) h (fun a10 h => ?_) (fun a10 h => ?_)
      · refine g_ldcw F dX9_line_26 wd_37_8 ?_
        refine g_goto (tgt := 38) F dX9_line_29 (by decide) ?_
        exact g_iret F hr9 rfl hl9 h rfl (by decide) (by decide) dX9_line_38
      · refine g_iload_n (i := 1) F dX9_line_21 rfl rfl ?_
        refine g_iload_n (i := 2) F dX9_line_22 rfl rfl ?_
        refine g_icmp_ne (tgt := 32) F dX9_line_23 (by decide) h (fun a9 h => ?_) (fun a9 h => ?_)
        · refine g_iload_n (i := 1) F dX9_line_32 rfl rfl ?_
          refine g_iload_n (i := 2) F dX9_line_33 rfl rfl ?_
          refine g_iload_n (i := 3) F dX9_line_34 rfl rfl ?_
          refine g_callSI F (mcR := 0) (msR := 0) (c_X9_sideOf G0 (X := X) (M := M) (nb := nb) rfl) wd_37_11 wd_37_9 wd_37_10 wd_1_2 ⟨by decide, by decide⟩ (nn := 3) (by decide) (As := [.int l1, .int l2, .int l3]) rfl rfl (Nat.le_of_ble_eq_true rfl) (by decide) (by decide) ⟨by decide, by decide⟩ dX9_line_35 ?_
          exact g_iret F hr9 rfl hl9 h rfl (by decide) (by decide) dX9_line_38
        · refine g_ldcw F dX9_line_26 wd_37_8 ?_
          refine g_goto (tgt := 38) F dX9_line_29 (by decide) ?_
          exact g_iret F hr9 rfl hl9 h rfl (by decide) (by decide) dX9_line_38

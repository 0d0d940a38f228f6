def fX7_jerkOn (X : XW) (nb : Nat) (l1 : Nat) (l2 : Int32) (l3 : Int32) (l4 : Int32) : Option (Int32 × XW) :=
  (fX7_tell X nb l1 l2 l3 l4).bind fun X1 =>
  bd2 (fX7_says X1 (2 : Int32)) fun v4 X3 =>
  some (v4, X3)
set_option maxRecDepth 100000 in
set_option maxHeartbeats 4000000 in
theorem c_X7_jerkOn {l : Launch} {s0 : State} {D : va_G} {ev : Nat → Nat} (G0 : Gl s0 D ev) {X : XW} {M : MW} {nb : Nat} {l1 : Nat} {l2 : Int32} {l3 : Int32} {l4 : Int32} {r' : Int32} {X' : XW}  (h : fX7_jerkOn X nb l1 l2 l3 l4 = some (r', X')) : CT l s0 D ev yX7_jerkOn cX7_jerkOn 5 (some .int) 3 0 0 [.ref (ev 0 + 10), .ref (ev 0 + l1), .int l2, .int l3, .int l4] (cells ev X M nb) (QI s0 D ev r' (cells ev X' M nb)) := by
  refine ct_of G0 (by decide) (Nat.le_of_ble_eq_true rfl) ?_
  intro p9 e9 s9 m9 args9 below9 meth9 c9 F hr9 hl9 hin9 hargs9 hts9
  rw [fX7_jerkOn] at h
  refine g_lv (lv' := [(0, .ref (ev 0 + 10)), (1, .ref (ev 0 + l1)), (2, .int l2), (3, .int l3), (4, .int l4)]) ⟨rfl, rfl, rfl, rfl, rfl, trivial⟩ ?_
  refine g_aload_n (i := 0) F dX7_jerkOn_0 rfl rfl ?_
  refine g_aload_n (i := 1) F dX7_jerkOn_1 rfl rfl ?_
  refine g_iload_n (i := 2) F dX7_jerkOn_2 rfl rfl ?_
  refine g_iload_n (i := 3) F dX7_jerkOn_3 rfl rfl ?_
  refine g_iload (i := 4) F dX7_jerkOn_4 rfl ?_
  obtain ⟨X1, e2, h⟩ := bind_at h
  refine g_callVV F (mcR := 0) (msR := 0) (id := 10) (cells_at (kd_lit (i := 10) (by decide)) (xc_7 rfl)) (ci := 7) rfl rfl rfl (c_X7_tell G0 e2) wd_24_19 wd_24_16 wd_24_17 wd_24_18 wd_2_0 ⟨by decide, by decide⟩ (nn := 4) (by decide) (As := [.ref (ev 0 + l1), .int l2, .int l3, .int l4]) rfl rfl (Nat.le_of_ble_eq_true rfl) (by decide) (by decide) ⟨by decide, by decide⟩ dX7_jerkOn_6 ?_
  refine g_aload_n (i := 0) F dX7_jerkOn_9 rfl rfl ?_
  refine g_iconst F dX7_jerkOn_10 (v := 2) (by decide) ?_
  obtain ⟨v4, X3, e5, h⟩ := bd2_at h
  refine g_callVI F (mcR := 0) (msR := 0) (id := 10) (cells_at (kd_lit (i := 10) (by decide)) (xc_7 rfl)) (ci := 7) rfl rfl rfl (c_X7_says G0 e5) wd_20_11 wd_25_0 wd_20_9 wd_20_10 wd_2_0 ⟨by decide, by decide⟩ (nn := 1) (by decide) (As := [.int (2 : Int32)]) rfl rfl (Nat.le_of_ble_eq_true rfl) (by decide) (by decide) ⟨by decide, by decide⟩ dX7_jerkOn_11 ?_
  have hp := Prod.mk.inj (Option.some.inj h)
  exact g_iret F hr9 rfl hl9 hp.1 (by rw [hp.2]) (by decide) (by decide) dX7_jerkOn_14
def fX7_powerOf (X : XW) (nb : Nat) (l1 : Nat) (l2 : Int32) (l3 : Int32) (l4 : Int32) : Option (Int32 × XW) :=
  (fX7_tell X nb l1 l2 l3 l4).bind fun X1 =>
  bd2 (fX7_powerTold X1 nb l1) fun v4 X3 =>
  some (v4, X3)
set_option maxRecDepth 100000 in
set_option maxHeartbeats 4000000 in
theorem c_X7_powerOf {l : Launch} {s0 : State} {D : va_G} {ev : Nat → Nat} (G0 : Gl s0 D ev) {X : XW} {M : MW} {nb : Nat} {l1 : Nat} {l2 : Int32} {l3 : Int32} {l4 : Int32} {r' : Int32} {X' : XW}  (h : fX7_powerOf X nb l1 l2 l3 l4 = some (r', X')) : CT l s0 D ev yX7_powerOf cX7_powerOf 5 (some .int) 4 0 0 [.ref (ev 0 + 10), .ref (ev 0 + l1), .int l2, .int l3, .int l4] (cells ev X M nb) (QI s0 D ev r' (cells ev X' M nb)) := by
  refine ct_of G0 (by decide) (Nat.le_of_ble_eq_true rfl) ?_
  intro p9 e9 s9 m9 args9 below9 meth9 c9 F hr9 hl9 hin9 hargs9 hts9
  rw [fX7_powerOf] at h
  refine g_lv (lv' := [(0, .ref (ev 0 + 10)), (1, .ref (ev 0 + l1)), (2, .int l2), (3, .int l3), (4, .int l4)]) ⟨rfl, rfl, rfl, rfl, rfl, trivial⟩ ?_
  refine g_aload_n (i := 0) F dX7_powerOf_0 rfl rfl ?_
  refine g_aload_n (i := 1) F dX7_powerOf_1 rfl rfl ?_
  refine g_iload_n (i := 2) F dX7_powerOf_2 rfl rfl ?_
  refine g_iload_n (i := 3) F dX7_powerOf_3 rfl rfl ?_
  refine g_iload (i := 4) F dX7_powerOf_4 rfl ?_
  obtain ⟨X1, e2, h⟩ := bind_at h
  refine g_callVV F (mcR := 0) (msR := 0) (id := 10) (cells_at (kd_lit (i := 10) (by decide)) (xc_7 rfl)) (ci := 7) rfl rfl rfl (c_X7_tell G0 e2) wd_24_19 wd_24_16 wd_24_17 wd_24_18 wd_2_0 ⟨by decide, by decide⟩ (nn := 4) (by decide) (As := [.ref (ev 0 + l1), .int l2, .int l3, .int l4]) rfl rfl (Nat.le_of_ble_eq_true rfl) (by decide) (by decide) ⟨by decide, by decide⟩ dX7_powerOf_6 ?_
  refine g_aload_n (i := 0) F dX7_powerOf_9 rfl rfl ?_
  refine g_aload_n (i := 1) F dX7_powerOf_10 rfl rfl ?_
  obtain ⟨v4, X3, e5, h⟩ := bd2_at h
  refine g_callVI F (mcR := 0) (msR := 0) (id := 10) (cells_at (kd_lit (i := 10) (by decide)) (xc_7 rfl)) (ci := 7) rfl rfl rfl (c_X7_powerTold G0 e5) wd_25_8 wd_25_5 wd_25_6 wd_25_7 wd_2_0 ⟨by decide, by decide⟩ (nn := 1) (by decide) (As := [.ref (ev 0 + l1)]) rfl rfl (Nat.le_of_ble_eq_true rfl) (by decide) (by decide) ⟨by decide, by decide⟩ dX7_powerOf_11 ?_
  have hp := Prod.mk.inj (Option.some.inj h)
  exact g_iret F hr9 rfl hl9 hp.1 (by rw [hp.2]) (by decide) (by decide) dX7_powerOf_14
def fX8_isMissing (X : XW) (l0 : Nat) : Option Int32 :=
  if kd l0 = 8 then if (X.1 l0 1) = (-1 : Int32) then some (1 : Int32)
  else some (0 : Int32) else none
set_option maxRecDepth 100000 in
set_option maxHeartbeats 4000000 in
theorem c_X8_isMissing {l : Launch} {s0 : State} {D : va_G} {ev : Nat → Nat} (G0 : Gl s0 D ev) {X : XW} {M : MW} {nb : Nat} {l0 : Nat} {r' : Int32}  (h : fX8_isMissing X l0 = some r') : CT l s0 D ev yX8_isMissing cX8_isMissing 1 (some .boolean) 0 0 0 [.ref (ev 0 + l0)] (cells ev X M nb) (QI s0 D ev r' (cells ev X M nb)) := by
  refine ct_of G0 (by decide) (Nat.le_of_ble_eq_true rfl) ?_
  intro p9 e9 s9 m9 args9 below9 meth9 c9 F hr9 hl9 hin9 hargs9 hts9
  rw [fX8_isMissing] at h
  refine g_lv (lv' := [(0, .ref (ev 0 + l0))]) ⟨rfl, trivial⟩ ?_
  refine g_aload_n (i := 0) F dX8_isMissing_0 rfl rfl ?_
  obtain ⟨h1, h⟩ := if_at h
  refine g_get_8_1 F h1 (kd_hid h1 (by decide)) wd_5_22 dX8_isMissing_1 ?_
  refine g_iconst F dX8_isMissing_4 (v := -1) (by decide) ?_
  refine g_icmp_ne (tgt := 12) F dX8_isMissing_5 (by decide) h (fun a2 h => ?_) (fun a2 h => ?_)
  · refine g_iconst F dX8_isMissing_12 (v := 0) (by decide) ?_
    exact g_iret F hr9 (by decide) hl9 (Option.some.inj h) rfl (by decide) (by decide) dX8_isMissing_13
  · refine g_iconst F dX8_isMissing_8 (v := 1) (by decide) ?_
    refine g_goto (tgt := 13) F dX8_isMissing_9 (by decide) ?_
    exact g_iret F hr9 (by decide) hl9 (Option.some.inj h) rfl (by decide) (by decide) dX8_isMissing_13
def fX8_put_b45 (X : XW) (t0 : Nat) (t1 : Int32) (t2 : Int32) : Option (XW) :=
  if kd t0 = 11 then if inb t1 (ln t0) then bd (xA X t0 t1 t2) fun X6 =>
  some X6
  else none else none
def fX8_put (X : XW) (l0 : Nat) (l1 : Int32) (l2 : Int32) : Option (XW) :=
  if kd l0 = 8 then if (fX9_within l1 (0 : Int32) ((X.1 l0 2) - (1 : Int32))) = 0 then some X
  else if (X.1 l0 1) = 0 then fX8_put_b45 X (l0 + 1) l1 (l2.toInt8.toInt32)
  else if (X.1 l0 1) = (1 : Int32) then fX8_put_b45 X (l0 + 1) l1 (l2.toInt16.toInt32)
  else fX8_put_b45 X (l0 + 1) l1 l2 else none
set_option maxRecDepth 100000 in
set_option maxHeartbeats 4000000 in
theorem c_X8_put {l : Launch} {s0 : State} {D : va_G} {ev : Nat → Nat} (G0 : Gl s0 D ev) {X : XW} {M : MW} {nb : Nat} {l0 : Nat} {l1 : Int32} {l2 : Int32} {X' : XW}  (h : fX8_put X l0 l1 l2 = some (X')) : CT l s0 D ev yX8_put cX8_put 3 none 1 0 0 [.ref (ev 0 + l0), .int l1, .int l2] (cells ev X M nb) (QV s0 D ev (cells ev X' M nb)) := by
  refine ct_of G0 (by decide) (Nat.le_of_ble_eq_true rfl) ?_
  intro p9 e9 s9 m9 args9 below9 meth9 c9 F hr9 hl9 hin9 hargs9 hts9
  have U45 : ∀ (X : XW) (t0 : Nat) (t1 : Int32) (t2 : Int32), fX8_put_b45 X t0 t1 t2 = some (X') → GJ p9 l e9 (rg 1 0 0) s9 m9 args9 below9 meth9 c9 (MQ below9 (QV s0 D ev (cells ev X' M nb)) args9 s9 0 0 (frA ev)) s0 D ev 3 0 0 45 [] (.int t2 :: .int t1 :: .ref (ev 0 + t0) :: []) (cells ev X M nb) := by
    intro X t0 t1 t2 h
    rw [fX8_put_b45] at h
    obtain ⟨h4, h⟩ := if_at h
    obtain ⟨h5, h⟩ := if_at h
    obtain ⟨X6, e7, h⟩ := bd_at h
    refine g_istX F h4 rfl h5 dX8_put_45 ?_
    rw [← e7]
    exact g_vret F hr9 hl9 (by rw [Option.some.inj h]) (by decide) (by decide) dX8_put_46
  rw [fX8_put] at h
  refine g_lv (lv' := [(0, .ref (ev 0 + l0)), (1, .int l1), (2, .int l2)]) ⟨rfl, rfl, rfl, trivial⟩ ?_
  refine g_iload_n (i := 1) F dX8_put_0 rfl rfl ?_
  refine g_iconst F dX8_put_1 (v := 0) (by decide) ?_
  refine g_aload_n (i := 0) F dX8_put_2 rfl rfl ?_
  obtain ⟨h1, h⟩ := if_at h
  refine g_get_8_2 F h1 (kd_hid h1 (by decide)) wd_5_23 dX8_put_3 ?_
  refine g_iconst F dX8_put_6 (v := 1) (by decide) ?_
  refine g_isub F dX8_put_7 ?_
  refine g_callSNI F (mcR := 0) (msR := 0) (c_X9_within G0 (X := X) (M := M) (nb := nb) rfl) wd_9_7 (List.mem_of_getElem? (l := nwL) (i := 15) rfl) wd_9_6 wd_1_2 ⟨by decide, by decide⟩ (nn := 3) (by decide) (As := [.int l1, .int (0 : Int32), .int ((X.1 l0 2) - (1 : Int32))]) rfl rfl (Nat.le_of_ble_eq_true rfl) (by decide) (by decide) ⟨by decide, by decide⟩ dX8_put_8 ?_
  refine g_if_eq (tgt := 46) F dX8_put_11 (by decide) h (fun a10 h => ?_) (fun a10 h => ?_)
  · exact g_vret F hr9 hl9 (by rw [Option.some.inj h]) (by decide) (by decide) dX8_put_46
  · refine g_aload_n (i := 0) F dX8_put_14 rfl rfl ?_
    refine g_get_8_0 F h1 (kd_hid h1 (by decide)) wd_5_21 dX8_put_15 ?_
    refine g_iload_n (i := 1) F dX8_put_18 rfl rfl ?_
    refine g_aload_n (i := 0) F dX8_put_19 rfl rfl ?_
    refine g_get_8_1 F h1 (kd_hid h1 (by decide)) wd_5_22 dX8_put_20 ?_
    refine g_if_ne (tgt := 31) F dX8_put_23 (by decide) h (fun a9 h => ?_) (fun a9 h => ?_)
    · refine g_aload_n (i := 0) F dX8_put_31 rfl rfl ?_
      refine g_get_8_1 F h1 (kd_hid h1 (by decide)) wd_5_22 dX8_put_32 ?_
      refine g_iconst F dX8_put_35 (v := 1) (by decide) ?_
      refine g_icmp_ne (tgt := 44) F dX8_put_36 (by decide) h (fun a8 h => ?_) (fun a8 h => ?_)
      · refine g_iload_n (i := 2) F dX8_put_44 rfl rfl ?_
        refine g_lv (lv' := []) trivial ?_
        exact U45 _ _ _ _ h
      · refine g_iload_n (i := 2) F dX8_put_39 rfl rfl ?_
        refine g_i2s F dX8_put_40 ?_
        refine g_goto (tgt := 45) F dX8_put_41 (by decide) ?_
        refine g_lv (lv' := []) trivial ?_
        exact U45 _ _ _ _ h
    · refine g_iload_n (i := 2) F dX8_put_26 rfl rfl ?_
      refine g_i2b F dX8_put_27 ?_
      refine g_goto (tgt := 45) F dX8_put_28 (by decide) ?_
      refine g_lv (lv' := []) trivial ?_
      exact U45 _ _ _ _ h
def fX8_hasRun (X : XW) (l0 : Nat) (l1 : Int32) (l2 : Int32) : Option Int32 :=
  if l1 < 0 then some (0 : Int32)
  else if l2 < 0 then some (0 : Int32)
  else if kd l0 = 8 then if (X.1 l0 2) < l2 then some (0 : Int32)
  else if ((X.1 l0 2) - l2) < l1 then some (0 : Int32)
  else some (1 : Int32) else none
set_option maxRecDepth 100000 in
set_option maxHeartbeats 4000000 in
theorem c_X8_hasRun {l : Launch} {s0 : State} {D : va_G} {ev : Nat → Nat} (G0 : Gl s0 D ev) {X : XW} {M : MW} {nb : Nat} {l0 : Nat} {l1 : Int32} {l2 : Int32} {r' : Int32}  (h : fX8_hasRun X l0 l1 l2 = some r') : CT l s0 D ev yX8_hasRun cX8_hasRun 3 (some .boolean) 0 0 0 [.ref (ev 0 + l0), .int l1, .int l2] (cells ev X M nb) (QI s0 D ev r' (cells ev X M nb)) := by
  refine ct_of G0 (by decide) (Nat.le_of_ble_eq_true rfl) ?_
  intro p9 e9 s9 m9 args9 below9 meth9 c9 F hr9 hl9 hin9 hargs9 hts9
  rw [fX8_hasRun] at h
  refine g_lv (lv' := [(0, .ref (ev 0 + l0)), (1, .int l1), (2, .int l2)]) ⟨rfl, rfl, rfl, trivial⟩ ?_
  refine g_iload_n (i := 1) F dX8_hasRun_0 rfl rfl ?_
  refine g_if_lt (tgt := 30) F dX8_hasRun_1 (by decide) h (fun a5 h => ?_) (fun a5 h => ?_)
  · refine g_iconst F dX8_hasRun_30 (v := 0) (by decide) ?_
    exact g_iret F hr9 (by decide) hl9 (Option.some.inj h) rfl (by decide) (by decide) dX8_hasRun_31
  · refine g_iload_n (i := 2) F dX8_hasRun_4 rfl rfl ?_
    refine g_if_lt (tgt := 30) F dX8_hasRun_5 (by decide) h (fun a4 h => ?_) (fun a4 h => ?_)
    · refine g_iconst F dX8_hasRun_30 (v := 0) (by decide) ?_
      exact g_iret F hr9 (by decide) hl9 (Option.some.inj h) rfl (by decide) (by decide) dX8_hasRun_31
    · refine g_iload_n (i := 2) F dX8_hasRun_8 rfl rfl ?_
      refine g_aload_n (i := 0) F dX8_hasRun_9 rfl rfl ?_
      obtain ⟨h1, h⟩ := if_at h
      refine g_get_8_2 F h1 (kd_hid h1 (by decide)) wd_5_23 dX8_hasRun_10 ?_
      refine g_icmp_gt (tgt := 30) F dX8_hasRun_13 (by decide) h (fun a3 h => ?_) (fun a3 h => ?_)
      · refine g_iconst F dX8_hasRun_30 (v := 0) (by decide) ?_
        exact g_iret F hr9 (by decide) hl9 (Option.some.inj h) rfl (by decide) (by decide) dX8_hasRun_31
      · refine g_iload_n (i := 1) F dX8_hasRun_16 rfl rfl ?_
        refine g_aload_n (i := 0) F dX8_hasRun_17 rfl rfl ?_
        refine g_get_8_2 F h1 (kd_hid h1 (by decide)) wd_5_23 dX8_hasRun_18 ?_
        refine g_iload_n (i := 2) F dX8_hasRun_21 rfl rfl ?_
        refine g_isub F dX8_hasRun_22 ?_
        refine g_icmp_gt (tgt := 30) F dX8_hasRun_23 (by decide) h (fun a2 h => ?_) (fun a2 h => ?_)
        · refine g_iconst F dX8_hasRun_30 (v := 0) (by decide) ?_
          exact g_iret F hr9 (by decide) hl9 (Option.some.inj h) rfl (by decide) (by decide) dX8_hasRun_31
        · refine g_iconst F dX8_hasRun_26 (v := 1) (by decide) ?_
          refine g_goto (tgt := 31) F dX8_hasRun_27 (by decide) ?_
          exact g_iret F hr9 (by decide) hl9 (Option.some.inj h) rfl (by decide) (by decide) dX8_hasRun_31
def fX9_isSounding_b14 (l0 : Int32) (l1 : Int32) : Int32 :=
  if l0 = (1 : Int32) then if (fX9_within l1 (0 : Int32) (3 : Int32)) = 0 then (0 : Int32)
  else (1 : Int32)
  else (0 : Int32)
def fX9_isSounding (l0 : Int32) (l1 : Int32) : Int32 :=
  if l0 = 0 then if (fX9_within l1 (0 : Int32) (30 : Int32)) = 0 then fX9_isSounding_b14 l0 l1
  else (1 : Int32)
  else fX9_isSounding_b14 l0 l1
set_option maxRecDepth 100000 in
set_option maxHeartbeats 4000000 in
theorem c_X9_isSounding {l : Launch} {s0 : State} {D : va_G} {ev : Nat → Nat} (G0 : Gl s0 D ev) {X : XW} {M : MW} {nb : Nat} {l0 : Int32} {l1 : Int32} {r' : Int32}  (h : fX9_isSounding l0 l1 = r') : CT l s0 D ev yX9_isSounding cX9_isSounding 2 (some .boolean) 1 0 0 [.int l0, .int l1] (cells ev X M nb) (QI s0 D ev r' (cells ev X M nb)) := by
  refine ct_of G0 (by decide) (Nat.le_of_ble_eq_true rfl) ?_
  intro p9 e9 s9 m9 args9 below9 meth9 c9 F hr9 hl9 hin9 hargs9 hts9
  have U14 : ∀ (l0 : Int32) (l1 : Int32), fX9_isSounding_b14 l0 l1 = r' → GJ p9 l e9 (rg 1 0 0) s9 m9 args9 below9 meth9 c9 (MQ below9 (QI s0 D ev r' (cells ev X M nb)) args9 s9 0 0 (frA ev)) s0 D ev 2 0 0 14 [(0, .int l0), (1, .int l1)] ([]) (cells ev X M nb) := by
    intro l0 l1 h
    rw [fX9_isSounding_b14] at h
    refine g_iload_n (i := 0) F dX9_isSounding_14 rfl rfl ?_
    refine g_iconst F dX9_isSounding_15 (v := 1) (by decide) ?_
    refine g_icmp_ne (tgt := 32) F dX9_isSounding_16 (by decide) h (fun a4 h => ?_) (fun a4 h => ?_)
    · refine g_iconst F dX9_isSounding_32 (v := 0) (by decide) ?_
      exact g_iret F hr9 (by decide) hl9 h rfl (by decide) (by decide) dX9_isSounding_33
    · refine g_iload_n (i := 1) F dX9_isSounding_19 rfl rfl ?_
      refine g_iconst F dX9_isSounding_20 (v := 0) (by decide) ?_
      refine g_iconst F dX9_isSounding_21 (v := 3) (by decide) ?_
      refine g_callSI F (mcR := 0) (msR := 0) (c_X9_within G0 (X := X) (M := M) (nb := nb) rfl) wd_9_7 wd_15_21 wd_9_6 wd_1_2 ⟨by decide, by decide⟩ (nn := 3) (by decide) (As := [.int l1, .int (0 : Int32), .int (3 : Int32)]) rfl rfl (Nat.le_of_ble_eq_true rfl) (by decide) (by decide) ⟨by decide, by decide⟩ dX9_isSounding_22 ?_
      refine g_if_eq (tgt := 32) F dX9_isSounding_25 (by decide) h (fun a3 h => ?_) (fun a3 h => ?_)
      · refine g_iconst F dX9_isSounding_32 (v := 0) (by decide) ?_
        exact g_iret F hr9 (by decide) hl9 h rfl (by decide) (by decide) dX9_isSounding_33
      · refine g_iconst F dX9_isSounding_28 (v := 1) (by decide) ?_
        refine g_goto (tgt := 33) F dX9_isSounding_29 (by decide) ?_
        exact g_iret F hr9 (by decide) hl9 h rfl (by decide) (by decide) dX9_isSounding_33
  rw [fX9_isSounding] at h
  refine g_lv (lv' := [(0, .int l0), (1, .int l1)]) ⟨rfl, rfl, trivial⟩ ?_
  refine g_iload_n (i := 0) F dX9_isSounding_0 rfl rfl ?_
  refine g_if_ne (tgt := 14) F dX9_isSounding_1 (by decide) h (fun a8 h => ?_) (fun a8 h => ?_)
  · refine g_lv (lv' := [(0, .int l0), (1, .int l1)]) ⟨rfl, rfl, trivial⟩ ?_
    exact U14 _ _ h
  · refine g_iload_n (i := 1) F dX9_isSounding_4 rfl rfl ?_
    refine g_iconst F dX9_isSounding_5 (v := 0) (by decide) ?_
    refine g_bipush F dX9_isSounding_6 (v := 30) (by decide) ?_
    refine g_callSI F (mcR := 0) (msR := 0) (c_X9_within G0 (X := X) (M := M) (nb := nb) rfl) wd_9_7 wd_15_21 wd_9_6 wd_1_2 ⟨by decide, by decide⟩ (nn := 3) (by decide) (As := [.int l1, .int (0 : Int32), .int (30 : Int32)]) rfl rfl (Nat.le_of_ble_eq_true rfl) (by decide) (by decide) ⟨by decide, by decide⟩ dX9_isSounding_8 ?_
    refine g_if_ne (tgt := 28) F dX9_isSounding_11 (by decide) h (fun a7 h => ?_) (fun a7 h => ?_)
    · refine g_iconst F dX9_isSounding_28 (v := 1) (by decide) ?_
      refine g_goto (tgt := 33) F dX9_isSounding_29 (by decide) ?_
      exact g_iret F hr9 (by decide) hl9 h rfl (by decide) (by decide) dX9_isSounding_33
    · refine g_lv (lv' := [(0, .int l0), (1, .int l1)]) ⟨rfl, rfl, trivial⟩ ?_
      exact U14 _ _ h
theorem b_X9_isSounding {l0 : Int32} {l1 : Int32} : (fX9_isSounding l0 l1) = 0 ∨ (fX9_isSounding l0 l1) = 1 := by
  unfold fX9_isSounding fX9_isSounding_b14
  (repeat' split) <;> first | exact Or.inl rfl | exact Or.inr rfl | exact b_X9_within | exact b_X9_within
def fX9_sound_b42 (X : XW) (l1 : Int32) (l3 : Int32) (t0 : Nat) : Option (Int32 × XW) :=
  if kd t0 = 11 then (rd (X.2.1 t0) (ln t0) l1).bind fun v6 =>
  if inb l1 (ln t0) then bd (xA X t0 l1 l3) fun X9 =>
  some (v6, X9)
  else none else none
def fX9_sound (X : XW) (l1 : Int32) (l2 : Int32) (l3 : Int32) : Option (Int32 × XW) :=
  if (fX9_isCell l1) = 0 then some ((-5 : Int32), X)
  else if (fX9_isSounding l2 l3) = 0 then some ((-7 : Int32), X)
  else if l2 = 0 then fX9_sound_b42 X l1 l3 2
  else fX9_sound_b42 X l1 l3 3
set_option maxRecDepth 100000 in
set_option maxHeartbeats 4000000 in
theorem c_X9_sound {l : Launch} {s0 : State} {D : va_G} {ev : Nat → Nat} (G0 : Gl s0 D ev) {X : XW} {M : MW} {nb : Nat} {l1 : Int32} {l2 : Int32} {l3 : Int32} {r' : Int32} {X' : XW}  (h : fX9_sound X l1 l2 l3 = some (r', X')) : CT l s0 D ev yX9_sound cX9_sound 6 (some .int) 2 0 0 [.ref (ev 0 + 0), .int l1, .int l2, .int l3] (cells ev X M nb) (QI s0 D ev r' (cells ev X' M nb)) := by
  refine ct_of G0 (by decide) (Nat.le_of_ble_eq_true rfl) ?_
  intro p9 e9 s9 m9 args9 below9 meth9 c9 F hr9 hl9 hin9 hargs9 hts9
  have U42 : ∀ (X : XW) (l1 : Int32) (l3 : Int32) (t0 : Nat), fX9_sound_b42 X l1 l3 t0 = some (r', X') → GJ p9 l e9 (rg 2 0 0) s9 m9 args9 below9 meth9 c9 (MQ below9 (QI s0 D ev r' (cells ev X' M nb)) args9 s9 0 0 (frA ev)) s0 D ev 6 0 0 42 [(1, .int l1), (3, .int l3)] (.ref (ev 0 + t0) :: []) (cells ev X M nb) := by
    intro X l1 l3 t0 h
    rw [fX9_sound_b42] at h
    refine g_astore (i := 4) (lv' := [(4, .ref (ev 0 + t0)), (1, .int l1), (3, .int l3)]) F dX9_sound_42 (by decide) rfl ?_
    refine g_aload (i := 4) F dX9_sound_44 rfl ?_
    refine g_iload_n (i := 1) F dX9_sound_46 rfl rfl ?_
    obtain ⟨h5, h⟩ := if_at h
    obtain ⟨v6, e7, h⟩ := bind_at h
    refine g_ildX F h5 rfl e7 dX9_sound_47 ?_
    refine g_istore (i := 5) (lv' := [(5, .int v6), (4, .ref (ev 0 + t0)), (1, .int l1), (3, .int l3)]) F dX9_sound_48 (by decide) rfl ?_
    refine g_aload (i := 4) F dX9_sound_50 rfl ?_
    refine g_iload_n (i := 1) F dX9_sound_52 rfl rfl ?_
    refine g_iload_n (i := 3) F dX9_sound_53 rfl rfl ?_
    obtain ⟨h8, h⟩ := if_at h
    obtain ⟨X9, e10, h⟩ := bd_at h
    refine g_istX F h5 rfl h8 dX9_sound_54 ?_
    rw [← e10]
    refine g_iload (i := 5) F dX9_sound_55 rfl ?_
    have hp := Prod.mk.inj (Option.some.inj h)
    exact g_iret F hr9 rfl hl9 hp.1 (by rw [hp.2]) (by decide) (by decide) dX9_sound_57
  rw [fX9_sound] at h
  refine g_lv (lv' := [(0, .ref (ev 0 + 0)), (1, .int l1), (2, .int l2), (3, .int l3)]) ⟨rfl, rfl, rfl, rfl, trivial⟩ ?_
  refine g_iload_n (i := 1) F dX9_sound_0 rfl rfl ?_
  refine g_callSI F (mcR := 0) (msR := 0) (c_X9_isCell G0 (X := X) (M := M) (nb := nb) rfl) wd_15_20 wd_15_18 wd_15_19 wd_1_2 ⟨by decide, by decide⟩ (nn := 1) (by decide) (As := [.int l1]) rfl rfl (Nat.le_of_ble_eq_true rfl) (by decide) (by decide) ⟨by decide, by decide⟩ dX9_sound_1 ?_
  refine g_if_ne (tgt := 10) F dX9_sound_4 (by decide) h (fun a13 h => ?_) (fun a13 h => ?_)
  · refine g_iload_n (i := 2) F dX9_sound_10 rfl rfl ?_
    refine g_iload_n (i := 3) F dX9_sound_11 rfl rfl ?_
    refine g_callSI F (mcR := 0) (msR := 0) (c_X9_isSounding G0 (X := X) (M := M) (nb := nb) rfl) wd_16_0 wd_15_22 wd_15_23 wd_1_2 ⟨by decide, by decide⟩ (nn := 2) (by decide) (As := [.int l2, .int l3]) rfl rfl (Nat.le_of_ble_eq_true rfl) (by decide) (by decide) ⟨by decide, by decide⟩ dX9_sound_12 ?_
    refine g_if_ne (tgt := 21) F dX9_sound_15 (by decide) h (fun a12 h => ?_) (fun a12 h => ?_)
    · refine g_iload_n (i := 2) F dX9_sound_21 rfl rfl ?_
      refine g_if_ne (tgt := 35) F dX9_sound_22 (by decide) h (fun a11 h => ?_) (fun a11 h => ?_)
      · refine g_aload_n (i := 0) F dX9_sound_35 rfl rfl ?_
        refine g_get_9_0 F rfl (kd_lit (by decide)) wd_1_15 dX9_sound_36 ?_
        refine g_get_0_1 F rfl (kd_lit (by decide)) wd_15_17 dX9_sound_39 ?_
        refine g_lv (lv' := [(1, .int l1), (3, .int l3)]) ⟨rfl, rfl, trivial⟩ ?_
        exact U42 _ _ _ _ h
      · refine g_aload_n (i := 0) F dX9_sound_25 rfl rfl ?_
        refine g_get_9_0 F rfl (kd_lit (by decide)) wd_1_15 dX9_sound_26 ?_
        refine g_get_0_0 F rfl (kd_lit (by decide)) wd_15_16 dX9_sound_29 ?_
        refine g_goto (tgt := 42) F dX9_sound_32 (by decide) ?_
        refine g_lv (lv' := [(1, .int l1), (3, .int l3)]) ⟨rfl, rfl, trivial⟩ ?_
        exact U42 _ _ _ _ h
    · refine g_bipush F dX9_sound_18 (v := -7) (by decide) ?_
      have hp := Prod.mk.inj (Option.some.inj h)
      exact g_iret F hr9 rfl hl9 hp.1 (by rw [hp.2]) (by decide) (by decide) dX9_sound_20
  · refine g_bipush F dX9_sound_7 (v := -5) (by decide) ?_
    have hp := Prod.mk.inj (Option.some.inj h)
    exact g_iret F hr9 rfl hl9 hp.1 (by rw [hp.2]) (by decide) (by decide) dX9_sound_9
def fX9_chart_l117 (l1f104 : Int32) (l4f104 : Int32) (l5f104 : Nat) (l6f104 : Int32) (l7f104 : Int32) (l9f117 : Int32) (K104 : XW → Int32 → Int32 → Option (Int32 × XW)) (K117 : XW → Int32 → Int32 → Option (Int32 × XW)) (X : XW) (l8 : Int32) (l10 : Int32) : Option (Int32 × XW) :=
  if l7f104 ≤ l10 then K104 X l8 (l9f117 + (1 : Int32))
  else if kd l5f104 = 11 then if inb (((10 : Int32) * l9f117) + l10) (ln l5f104) then bd (xA X l5f104 (((10 : Int32) * l9f117) + l10) l4f104) fun X17 =>
  K117 X17 (l8 + (1 : Int32)) (l10 + (1 : Int32))
  else none else none
def fX9_chart_l104 (l1f104 : Int32) (l4f104 : Int32) (l5f104 : Nat) (l6f104 : Int32) (l7f104 : Int32) (K104 : XW → Int32 → Int32 → Option (Int32 × XW)) (X : XW) (l8 : Int32) (l9 : Int32) : Option (Int32 × XW) :=
  if l6f104 ≤ l9 then some (l8, X)
  else bd (jrem l1f104 (10 : Int32)) fun v13 =>
  lo3 (fX9_chart_l117 l1f104 l4f104 l5f104 l6f104 l7f104 l9 K104) FU X l8 v13
def fX9_chart_b61 (X : XW) (l1 : Int32) (l2 : Int32) (l4 : Int32) (t0 : Nat) : Option (Int32 × XW) :=
  bd (jmin (10 : Int32) ((l1 / (10 : Int32)) + (l2 / (10 : Int32)))) fun v7 =>
  bd (jmin (10 : Int32) ((jrem l1 (10 : Int32)) + (jrem l2 (10 : Int32)))) fun v9 =>
  bd (l1 / (10 : Int32)) fun v11 =>
  lo3 (fX9_chart_l104 l1 l4 t0 v7 v9) FU X (0 : Int32) v11
def fX9_chart (X : XW) (l1 : Int32) (l2 : Int32) (l3 : Int32) (l4 : Int32) : Option (Int32 × XW) :=
  if (fX9_isCell l1) = 0 then some ((-2 : Int32), X)
  else if (fX9_within l2 (11 : Int32) (99 : Int32)) = 0 then some ((-2 : Int32), X)
  else if (jrem l2 (10 : Int32)) = 0 then some ((-2 : Int32), X)
  else if (fX9_isSounding l3 l4) = 0 then some ((-7 : Int32), X)
  else if l3 = 0 then fX9_chart_b61 X l1 l2 l4 2
  else fX9_chart_b61 X l1 l2 l4 3
set_option maxRecDepth 100000 in
set_option maxHeartbeats 4000000 in
theorem c_X9_chart {l : Launch} {s0 : State} {D : va_G} {ev : Nat → Nat} (G0 : Gl s0 D ev) {X : XW} {M : MW} {nb : Nat} {l1 : Int32} {l2 : Int32} {l3 : Int32} {l4 : Int32} {r' : Int32} {X' : XW}  (h : fX9_chart X l1 l2 l3 l4 = some (r', X')) : CT l s0 D ev yX9_chart cX9_chart 11 (some .int) 2 0 0 [.ref (ev 0 + 0), .int l1, .int l2, .int l3, .int l4] (cells ev X M nb) (QI s0 D ev r' (cells ev X' M nb)) := by
  refine ct_of G0 (by decide) (Nat.le_of_ble_eq_true rfl) ?_
  intro p9 e9 s9 m9 args9 below9 meth9 c9 F hr9 hl9 hin9 hargs9 hts9
  have L104 : ∀ (l1f104 : Int32) (l4f104 : Int32) (l5f104 : Nat) (l6f104 : Int32) (l7f104 : Int32) (N104 : Nat) (X : XW) (l8 : Int32) (l9 : Int32), lo3 (fX9_chart_l104 l1f104 l4f104 l5f104 l6f104 l7f104) N104 X l8 l9 = some (r', X') → GJ p9 l e9 (rg 2 0 0) s9 m9 args9 below9 meth9 c9 (MQ below9 (QI s0 D ev r' (cells ev X' M nb)) args9 s9 0 0 (frA ev)) s0 D ev 11 0 0 104 [(1, .int l1f104), (4, .int l4f104), (5, .ref (ev 0 + l5f104)), (6, .int l6f104), (7, .int l7f104), (8, .int l8), (9, .int l9)] ([]) (cells ev X M nb) := by
    intro l1f104 l4f104 l5f104 l6f104 l7f104 N104
    induction N104 with
    | zero => intro X l8 l9 h; cases h
    | succ N104 ih104 =>
      have L117 : ∀ (l9f117 : Int32) (N117 : Nat) (X : XW) (l8 : Int32) (l10 : Int32), lo3 (fX9_chart_l117 l1f104 l4f104 l5f104 l6f104 l7f104 l9f117 (lo3 (fX9_chart_l104 l1f104 l4f104 l5f104 l6f104 l7f104) N104)) N117 X l8 l10 = some (r', X') → GJ p9 l e9 (rg 2 0 0) s9 m9 args9 below9 meth9 c9 (MQ below9 (QI s0 D ev r' (cells ev X' M nb)) args9 s9 0 0 (frA ev)) s0 D ev 11 0 0 117 [(1, .int l1f104), (4, .int l4f104), (5, .ref (ev 0 + l5f104)), (6, .int l6f104), (7, .int l7f104), (8, .int l8), (9, .int l9f117), (10, .int l10)] ([]) (cells ev X M nb) := by
        intro l9f117 N117
        induction N117 with
        | zero => intro X l8 l10 h; cases h
        | succ N117 ih117 =>
          intro X l8 l10 h
          change fX9_chart_l117 l1f104 l4f104 l5f104 l6f104 l7f104 l9f117 (lo3 (fX9_chart_l104 l1f104 l4f104 l5f104 l6f104 l7f104) N104) (lo3 (fX9_chart_l117 l1f104 l4f104 l5f104 l6f104 l7f104 l9f117 (lo3 (fX9_chart_l104 l1f104 l4f104 l5f104 l6f104 l7f104) N104)) N117) X l8 l10 = some (r', X') at h
          rw [fX9_chart_l117] at h
          refine g_iload (i := 10) F dX9_chart_117 rfl ?_
          refine g_iload (i := 7) F dX9_chart_119 rfl ?_
          refine g_icmp_ge (tgt := 146) F dX9_chart_121 (by decide) h (fun a19 h => ?_) (fun a19 h => ?_)
          · refine g_iinc (i := 9) (v := (l9f117 + (1 : Int32))) (lv' := [(9, .int (l9f117 + (1 : Int32))), (1, .int l1f104), (4, .int l4f104), (5, .ref (ev 0 + l5f104)), (6, .int l6f104), (7, .int l7f104), (8, .int l8), (10, .int l10)]) F dX9_chart_146 rfl rfl (by decide) rfl ?_
            refine g_goto (tgt := 104) F dX9_chart_149 (by decide) ?_
            refine g_lv (lv' := [(1, .int l1f104), (4, .int l4f104), (5, .ref (ev 0 + l5f104)), (6, .int l6f104), (7, .int l7f104), (8, .int l8), (9, .int (l9f117 + (1 : Int32)))]) ⟨rfl, rfl, rfl, rfl, rfl, rfl, rfl, trivial⟩ ?_
            exact ih104 _ _ _ h
          · refine g_aload (i := 5) F dX9_chart_124 rfl ?_
            refine g_bipush F dX9_chart_126 (v := 10) (by decide) ?_
            refine g_iload (i := 9) F dX9_chart_128 rfl ?_
            refine g_imul F dX9_chart_130 ?_
            refine g_iload (i := 10) F dX9_chart_131 rfl ?_
            refine g_iadd F dX9_chart_133 ?_
            refine g_iload (i := 4) F dX9_chart_134 rfl ?_
            obtain ⟨h15, h⟩ := if_at h
            obtain ⟨h16, h⟩ := if_at h
            obtain ⟨X17, e18, h⟩ := bd_at h
            refine g_istX F h15 rfl h16 dX9_chart_136 ?_
            rw [← e18]
            refine g_iinc (i := 8) (v := (l8 + (1 : Int32))) (lv' := [(8, .int (l8 + (1 : Int32))), (1, .int l1f104), (4, .int l4f104), (5, .ref (ev 0 + l5f104)), (6, .int l6f104), (7, .int l7f104), (9, .int l9f117), (10, .int l10)]) F dX9_chart_137 rfl rfl (by decide) rfl ?_
            refine g_iinc (i := 10) (v := (l10 + (1 : Int32))) (lv' := [(10, .int (l10 + (1 : Int32))), (8, .int (l8 + (1 : Int32))), (1, .int l1f104), (4, .int l4f104), (5, .ref (ev 0 + l5f104)), (6, .int l6f104), (7, .int l7f104), (9, .int l9f117)]) F dX9_chart_140 rfl rfl (by decide) rfl ?_
            refine g_goto (tgt := 117) F dX9_chart_143 (by decide) ?_
            refine g_lv (lv' := [(1, .int l1f104), (4, .int l4f104), (5, .ref (ev 0 + l5f104)), (6, .int l6f104), (7, .int l7f104), (8, .int (l8 + (1 : Int32))), (9, .int l9f117), (10, .int (l10 + (1 : Int32)))]) ⟨rfl, rfl, rfl, rfl, rfl, rfl, rfl, rfl, trivial⟩ ?_
            exact ih117 _ _ _ h
      intro X l8 l9 h
      change fX9_chart_l104 l1f104 l4f104 l5f104 l6f104 l7f104 (lo3 (fX9_chart_l104 l1f104 l4f104 l5f104 l6f104 l7f104) N104) X l8 l9 = some (r', X') at h
      rw [fX9_chart_l104] at h
      refine g_iload (i := 9) F dX9_chart_104 rfl ?_
      refine g_iload (i := 6) F dX9_chart_106 rfl ?_
      refine g_icmp_ge (tgt := 152) F dX9_chart_108 (by decide) h (fun a20 h => ?_) (fun a20 h => ?_)
      · refine g_iload (i := 8) F dX9_chart_152 rfl ?_
        have hp := Prod.mk.inj (Option.some.inj h)
        exact g_iret F hr9 rfl hl9 hp.1 (by rw [hp.2]) (by decide) (by decide) dX9_chart_154
      · refine g_iload_n (i := 1) F dX9_chart_111 rfl rfl ?_
        refine g_bipush F dX9_chart_112 (v := 10) (by decide) ?_
        refine g_irem F dX9_chart_114 (by decide) ?_
        refine g_topi F h (fun v13 e14 h => ?_)
        refine g_istore (i := 10) (lv' := [(10, .int v13), (1, .int l1f104), (4, .int l4f104), (5, .ref (ev 0 + l5f104)), (6, .int l6f104), (7, .int l7f104), (8, .int l8), (9, .int l9)]) F dX9_chart_115 (by decide) rfl ?_
        refine g_lv (lv' := [(1, .int l1f104), (4, .int l4f104), (5, .ref (ev 0 + l5f104)), (6, .int l6f104), (7, .int l7f104), (8, .int l8), (9, .int l9), (10, .int v13)]) ⟨rfl, rfl, rfl, rfl, rfl, rfl, rfl, rfl, trivial⟩ ?_
        exact L117 _ FU _ _ _ h
  have U61 : ∀ (X : XW) (l1 : Int32) (l2 : Int32) (l4 : Int32) (t0 : Nat), fX9_chart_b61 X l1 l2 l4 t0 = some (r', X') → GJ p9 l e9 (rg 2 0 0) s9 m9 args9 below9 meth9 c9 (MQ below9 (QI s0 D ev r' (cells ev X' M nb)) args9 s9 0 0 (frA ev)) s0 D ev 11 0 0 61 [(1, .int l1), (2, .int l2), (4, .int l4)] (.ref (ev 0 + t0) :: []) (cells ev X M nb) := by
    intro X l1 l2 l4 t0 h
    rw [fX9_chart_b61] at h
    refine g_astore (i := 5) (lv' := [(5, .ref (ev 0 + t0)), (1, .int l1), (2, .int l2), (4, .int l4)]) F dX9_chart_61 (by decide) rfl ?_
    refine g_bipush F dX9_chart_63 (v := 10) (by decide) ?_
    refine g_iload_n (i := 1) F dX9_chart_65 rfl rfl ?_
    refine g_bipush F dX9_chart_66 (v := 10) (by decide) ?_
    refine g_idiv F dX9_chart_68 (by decide) ?_
    refine g_iload_n (i := 2) F dX9_chart_69 rfl rfl ?_
    refine g_bipush F dX9_chart_70 (v := 10) (by decide) ?_
    refine g_idiv F dX9_chart_72 (by decide) ?_
    refine g_iadd F dX9_chart_73 ?_
    refine g_mmin F wd_16_19 wd_16_20 wd_16_21 wd_16_22 (Nat.le_of_ble_eq_true rfl) (Nat.le_of_ble_eq_true rfl) (Nat.zero_le _) (Nat.zero_le _) dX9_chart_74 ?_
    refine g_topi F h (fun v7 e8 h => ?_)
    refine g_istore (i := 6) (lv' := [(6, .int v7), (5, .ref (ev 0 + t0)), (1, .int l1), (2, .int l2), (4, .int l4)]) F dX9_chart_77 (by decide) rfl ?_
    refine g_bipush F dX9_chart_79 (v := 10) (by decide) ?_
    refine g_iload_n (i := 1) F dX9_chart_81 rfl rfl ?_
    refine g_bipush F dX9_chart_82 (v := 10) (by decide) ?_
    refine g_irem F dX9_chart_84 (by decide) ?_
    refine g_iload_n (i := 2) F dX9_chart_85 rfl rfl ?_
    refine g_bipush F dX9_chart_86 (v := 10) (by decide) ?_
    refine g_irem F dX9_chart_88 (by decide) ?_
    refine g_iadd F dX9_chart_89 ?_
    refine g_mmin F wd_16_19 wd_16_20 wd_16_21 wd_16_22 (Nat.le_of_ble_eq_true rfl) (Nat.le_of_ble_eq_true rfl) (Nat.zero_le _) (Nat.zero_le _) dX9_chart_90 ?_
    refine g_topi F h (fun v9 e10 h => ?_)
    refine g_istore (i := 7) (lv' := [(7, .int v9), (6, .int v7), (5, .ref (ev 0 + t0)), (1, .int l1), (2, .int l2), (4, .int l4)]) F dX9_chart_93 (by decide) rfl ?_
    refine g_iconst F dX9_chart_95 (v := 0) (by decide) ?_
    refine g_istore (i := 8) (lv' := [(8, .int (0 : Int32)), (7, .int v9), (6, .int v7), (5, .ref (ev 0 + t0)), (1, .int l1), (2, .int l2), (4, .int l4)]) F dX9_chart_96 (by decide) rfl ?_
    refine g_iload_n (i := 1) F dX9_chart_98 rfl rfl ?_
    refine g_bipush F dX9_chart_99 (v := 10) (by decide) ?_
    refine g_idiv F dX9_chart_101 (by decide) ?_
    refine g_topi F h (fun v11 e12 h => ?_)
    refine g_istore (i := 9) (lv' := [(9, .int v11), (8, .int (0 : Int32)), (7, .int v9), (6, .int v7), (5, .ref (ev 0 + t0)), (1, .int l1), (2, .int l2), (4, .int l4)]) F dX9_chart_102 (by decide) rfl ?_
    refine g_lv (lv' := [(1, .int l1), (4, .int l4), (5, .ref (ev 0 + t0)), (6, .int v7), (7, .int v9), (8, .int (0 : Int32)), (9, .int v11)]) ⟨rfl, rfl, rfl, rfl, rfl, rfl, rfl, trivial⟩ ?_
    exact L104 _ _ _ _ _ FU _ _ _ h
  rw [fX9_chart] at h
  refine g_lv (lv' := [(0, .ref (ev 0 + 0)), (1, .int l1), (2, .int l2), (3, .int l3), (4, .int l4)]) ⟨rfl, rfl, rfl, rfl, rfl, trivial⟩ ?_
  refine g_iload_n (i := 1) F dX9_chart_0 rfl rfl ?_
  refine g_callSI F (mcR := 0) (msR := 0) (c_X9_isCell G0 (X := X) (M := M) (nb := nb) rfl) wd_15_20 wd_15_18 wd_15_19 wd_1_2 ⟨by decide, by decide⟩ (nn := 1) (by decide) (As := [.int l1]) rfl rfl (Nat.le_of_ble_eq_true rfl) (by decide) (by decide) ⟨by decide, by decide⟩ dX9_chart_1 ?_
  refine g_if_eq (tgt := 25) F dX9_chart_4 (by decide) h (fun a25 h => ?_) (fun a25 h => ?_)
  · refine g_bipush F dX9_chart_25 (v := -2) (by decide) ?_
    have hp := Prod.mk.inj (Option.some.inj h)
    exact g_iret F hr9 rfl hl9 hp.1 (by rw [hp.2]) (by decide) (by decide) dX9_chart_27
  · refine g_iload_n (i := 2) F dX9_chart_7 rfl rfl ?_
    refine g_bipush F dX9_chart_8 (v := 11) (by decide) ?_
    refine g_bipush F dX9_chart_10 (v := 99) (by decide) ?_
    refine g_callSI F (mcR := 0) (msR := 0) (c_X9_within G0 (X := X) (M := M) (nb := nb) rfl) wd_9_7 wd_15_21 wd_9_6 wd_1_2 ⟨by decide, by decide⟩ (nn := 3) (by decide) (As := [.int l2, .int (11 : Int32), .int (99 : Int32)]) rfl rfl (Nat.le_of_ble_eq_true rfl) (by decide) (by decide) ⟨by decide, by decide⟩ dX9_chart_12 ?_
    refine g_if_eq (tgt := 25) F dX9_chart_15 (by decide) h (fun a24 h => ?_) (fun a24 h => ?_)
    · refine g_bipush F dX9_chart_25 (v := -2) (by decide) ?_
      have hp := Prod.mk.inj (Option.some.inj h)
      exact g_iret F hr9 rfl hl9 hp.1 (by rw [hp.2]) (by decide) (by decide) dX9_chart_27
    · refine g_iload_n (i := 2) F dX9_chart_18 rfl rfl ?_
      refine g_bipush F dX9_chart_19 (v := 10) (by decide) ?_
      refine g_irem F dX9_chart_21 (by decide) ?_
      refine g_if_ne (tgt := 28) F dX9_chart_22 (by decide) h (fun a23 h => ?_) (fun a23 h => ?_)
      · refine g_iload_n (i := 3) F dX9_chart_28 rfl rfl ?_
        refine g_iload (i := 4) F dX9_chart_29 rfl ?_
        refine g_callSI F (mcR := 0) (msR := 0) (c_X9_isSounding G0 (X := X) (M := M) (nb := nb) rfl) wd_16_0 wd_15_22 wd_15_23 wd_1_2 ⟨by decide, by decide⟩ (nn := 2) (by decide) (As := [.int l3, .int l4]) rfl rfl (Nat.le_of_ble_eq_true rfl) (by decide) (by decide) ⟨by decide, by decide⟩ dX9_chart_31 ?_
        refine g_if_ne (tgt := 40) F dX9_chart_34 (by decide) h (fun a22 h => ?_) (fun a22 h => ?_)
        · refine g_iload_n (i := 3) F dX9_chart_40 rfl rfl ?_
          refine g_if_ne (tgt := 54) F dX9_chart_41 (by decide) h (fun a21 h => ?_) (fun a21 h => ?_)
          · refine g_aload_n (i := 0) F dX9_chart_54 rfl rfl ?_
            refine g_get_9_0 F rfl (kd_lit (by decide)) wd_1_15 dX9_chart_55 ?_
            refine g_get_0_1 F rfl (kd_lit (by decide)) wd_15_17 dX9_chart_58 ?_
            refine g_lv (lv' := [(1, .int l1), (2, .int l2), (4, .int l4)]) ⟨rfl, rfl, rfl, trivial⟩ ?_
            exact U61 _ _ _ _ _ h
          · refine g_aload_n (i := 0) F dX9_chart_44 rfl rfl ?_
            refine g_get_9_0 F rfl (kd_lit (by decide)) wd_1_15 dX9_chart_45 ?_
            refine g_get_0_0 F rfl (kd_lit (by decide)) wd_15_16 dX9_chart_48 ?_
            refine g_goto (tgt := 61) F dX9_chart_51 (by decide) ?_
            refine g_lv (lv' := [(1, .int l1), (2, .int l2), (4, .int l4)]) ⟨rfl, rfl, rfl, trivial⟩ ?_
            exact U61 _ _ _ _ _ h
        · refine g_bipush F dX9_chart_37 (v := -7) (by decide) ?_
          have hp := Prod.mk.inj (Option.some.inj h)
          exact g_iret F hr9 rfl hl9 hp.1 (by rw [hp.2]) (by decide) (by decide) dX9_chart_39
      · refine g_bipush F dX9_chart_25 (v := -2) (by decide) ?_
        have hp := Prod.mk.inj (Option.some.inj h)
        exact g_iret F hr9 rfl hl9 hp.1 (by rw [hp.2]) (by decide) (by decide) dX9_chart_27
def fX9_isBlowing (l0 : Int32) (l1 : Int32) : Int32 :=
  if l0 = (0 : Int32) then (fX9_within l1 (0 : Int32) (7 : Int32))
  else if l0 = (1 : Int32) then (fX9_within l1 (0 : Int32) (99 : Int32))
  else if l0 = (2 : Int32) then (fX9_within l1 (-3 : Int32) (3 : Int32))
  else (0 : Int32)
set_option maxRecDepth 100000 in
set_option maxHeartbeats 4000000 in
theorem c_X9_isBlowing {l : Launch} {s0 : State} {D : va_G} {ev : Nat → Nat} (G0 : Gl s0 D ev) {X : XW} {M : MW} {nb : Nat} {l0 : Int32} {l1 : Int32} {r' : Int32}  (h : fX9_isBlowing l0 l1 = r') : CT l s0 D ev yX9_isBlowing cX9_isBlowing 2 (some .boolean) 1 0 0 [.int l0, .int l1] (cells ev X M nb) (QI s0 D ev r' (cells ev X M nb)) := by
  refine ct_of G0 (by decide) (Nat.le_of_ble_eq_true rfl) ?_
  intro p9 e9 s9 m9 args9 below9 meth9 c9 F hr9 hl9 hin9 hargs9 hts9
  rw [fX9_isBlowing] at h
  refine g_lv (lv' := [(0, .int l0), (1, .int l1)]) ⟨rfl, rfl, trivial⟩ ?_
  refine g_iload_n (i := 0) F dX9_isBlowing_0 rfl rfl ?_
  refine ite_at h (fun a1 h => ?_) (fun a1 h => ?_)
  · refine g_tsw (k := 0) (off := 27) (tgt := 28) F a1 dX9_isBlowing_1 (by decide) (by decide) (by decide) (by decide) ?_
    refine g_iload_n (i := 1) F dX9_isBlowing_28 rfl rfl ?_
    refine g_iconst F dX9_isBlowing_29 (v := 0) (by decide) ?_
    refine g_bipush F dX9_isBlowing_30 (v := 7) (by decide) ?_
    refine g_callSI F (mcR := 0) (msR := 0) (c_X9_within G0 (X := X) (M := M) (nb := nb) rfl) wd_9_7 wd_15_21 wd_9_6 wd_1_2 ⟨by decide, by decide⟩ (nn := 3) (by decide) (As := [.int l1, .int (0 : Int32), .int (7 : Int32)]) rfl rfl (Nat.le_of_ble_eq_true rfl) (by decide) (by decide) ⟨by decide, by decide⟩ dX9_isBlowing_32 ?_
    exact g_iret F hr9 (nar_b b_X9_within) hl9 h rfl (by decide) (by decide) dX9_isBlowing_35
  · refine ite_at h (fun a2 h => ?_) (fun a2 h => ?_)
    · refine g_tsw (k := 1) (off := 35) (tgt := 36) F a2 dX9_isBlowing_1 (by decide) (by decide) (by decide) (by decide) ?_
      refine g_iload_n (i := 1) F dX9_isBlowing_36 rfl rfl ?_
      refine g_iconst F dX9_isBlowing_37 (v := 0) (by decide) ?_
      refine g_bipush F dX9_isBlowing_38 (v := 99) (by decide) ?_
      refine g_callSI F (mcR := 0) (msR := 0) (c_X9_within G0 (X := X) (M := M) (nb := nb) rfl) wd_9_7 wd_15_21 wd_9_6 wd_1_2 ⟨by decide, by decide⟩ (nn := 3) (by decide) (As := [.int l1, .int (0 : Int32), .int (99 : Int32)]) rfl rfl (Nat.le_of_ble_eq_true rfl) (by decide) (by decide) ⟨by decide, by decide⟩ dX9_isBlowing_40 ?_
      exact g_iret F hr9 (nar_b b_X9_within) hl9 h rfl (by decide) (by decide) dX9_isBlowing_43
    · refine ite_at h (fun a3 h => ?_) (fun a3 h => ?_)
      · refine g_tsw (k := 2) (off := 43) (tgt := 44) F a3 dX9_isBlowing_1 (by decide) (by decide) (by decide) (by decide) ?_
        refine g_iload_n (i := 1) F dX9_isBlowing_44 rfl rfl ?_
        refine g_bipush F dX9_isBlowing_45 (v := -3) (by decide) ?_
        refine g_iconst F dX9_isBlowing_47 (v := 3) (by decide) ?_
        refine g_callSI F (mcR := 0) (msR := 0) (c_X9_within G0 (X := X) (M := M) (nb := nb) rfl) wd_9_7 wd_15_21 wd_9_6 wd_1_2 ⟨by decide, by decide⟩ (nn := 3) (by decide) (As := [.int l1, .int (-3 : Int32), .int (3 : Int32)]) rfl rfl (Nat.le_of_ble_eq_true rfl) (by decide) (by decide) ⟨by decide, by decide⟩ dX9_isBlowing_48 ?_
        exact g_iret F hr9 (nar_b b_X9_within) hl9 h rfl (by decide) (by decide) dX9_isBlowing_51
      · have q0 : l0.toInt ≠ 0 := fun q => a1 (Int32.toInt_inj.mp (q.trans (by decide)))
        have q1 : l0.toInt ≠ 1 := fun q => a2 (Int32.toInt_inj.mp (q.trans (by decide)))
        have q2 : l0.toInt ≠ 2 := fun q => a3 (Int32.toInt_inj.mp (q.trans (by decide)))
        refine g_tswd (tgt := 52) F (by omega) dX9_isBlowing_1 (by decide) ?_
        refine g_iconst F dX9_isBlowing_52 (v := 0) (by decide) ?_
        exact g_iret F hr9 (by decide) hl9 h rfl (by decide) (by decide) dX9_isBlowing_53
theorem b_X9_isBlowing {l0 : Int32} {l1 : Int32} : (fX9_isBlowing l0 l1) = 0 ∨ (fX9_isBlowing l0 l1) = 1 := by
  unfold fX9_isBlowing
  (repeat' split) <;> first | exact Or.inl rfl | exact Or.inr rfl | exact b_X9_within | exact b_X9_within | exact b_X9_within
def fX9_blow (X : XW) (l1 : Int32) (l2 : Int32) (l3 : Int32) : Option (Int32 × XW) :=
  if (fX9_isHour l1) = 0 then some ((-5 : Int32), X)
  else if (fX9_isBlowing l2 l3) = 0 then some ((-7 : Int32), X)
  else bd (fX0_hourRow X l2) fun r5 =>
  (r5).bind fun b7 =>
  if kd b7 = 11 then (rd (X.2.1 b7) (ln b7) l1).bind fun v10 =>
  if inb l1 (ln b7) then bd (xA X b7 l1 l3) fun X13 =>
  some (v10, X13)
  else none else none
set_option maxRecDepth 100000 in
set_option maxHeartbeats 4000000 in
theorem c_X9_blow {l : Launch} {s0 : State} {D : va_G} {ev : Nat → Nat} (G0 : Gl s0 D ev) {X : XW} {M : MW} {nb : Nat} {l1 : Int32} {l2 : Int32} {l3 : Int32} {r' : Int32} {X' : XW}  (h : fX9_blow X l1 l2 l3 = some (r', X')) : CT l s0 D ev yX9_blow cX9_blow 6 (some .int) 2 0 0 [.ref (ev 0 + 0), .int l1, .int l2, .int l3] (cells ev X M nb) (QI s0 D ev r' (cells ev X' M nb)) := by
  refine ct_of G0 (by decide) (Nat.le_of_ble_eq_true rfl) ?_
  intro p9 e9 s9 m9 args9 below9 meth9 c9 F hr9 hl9 hin9 hargs9 hts9
  rw [fX9_blow] at h
  refine g_lv (lv' := [(0, .ref (ev 0 + 0)), (1, .int l1), (2, .int l2), (3, .int l3)]) ⟨rfl, rfl, rfl, rfl, trivial⟩ ?_
  refine g_iload_n (i := 1) F dX9_blow_0 rfl rfl ?_
  refine g_callSI F (mcR := 0) (msR := 0) (c_X9_isHour G0 (X := X) (M := M) (nb := nb) rfl) wd_17_9 wd_17_7 wd_17_8 wd_1_2 ⟨by decide, by decide⟩ (nn := 1) (by decide) (As := [.int l1]) rfl rfl (Nat.le_of_ble_eq_true rfl) (by decide) (by decide) ⟨by decide, by decide⟩ dX9_blow_1 ?_
  refine g_if_ne (tgt := 10) F dX9_blow_4 (by decide) h (fun a16 h => ?_) (fun a16 h => ?_)
  · refine g_iload_n (i := 2) F dX9_blow_10 rfl rfl ?_
    refine g_iload_n (i := 3) F dX9_blow_11 rfl rfl ?_
    refine g_callSI F (mcR := 0) (msR := 0) (c_X9_isBlowing G0 (X := X) (M := M) (nb := nb) rfl) wd_17_12 wd_17_10 wd_17_11 wd_1_2 ⟨by decide, by decide⟩ (nn := 2) (by decide) (As := [.int l2, .int l3]) rfl rfl (Nat.le_of_ble_eq_true rfl) (by decide) (by decide) ⟨by decide, by decide⟩ dX9_blow_12 ?_
    refine g_if_ne (tgt := 21) F dX9_blow_15 (by decide) h (fun a15 h => ?_) (fun a15 h => ?_)
    · refine g_aload_n (i := 0) F dX9_blow_21 rfl rfl ?_
      refine g_get_9_0 F rfl (kd_lit (by decide)) wd_1_15 dX9_blow_22 ?_
      refine g_iload_n (i := 2) F dX9_blow_25 rfl rfl ?_
      obtain ⟨r5, e6, h⟩ := bd_at h
      refine g_callVR F (mcR := 0) (msR := 0) (id := 1) (cells_at (kd_lit (i := 1) (by decide)) (xc_0 rfl)) (ci := 0) rfl rfl rfl (c_X0_hourRow G0 (X := X) (M := M) (nb := nb) e6.symm) wd_17_16 wd_17_13 wd_17_14 wd_17_15 wd_1_14 ⟨by decide, by decide⟩ (nn := 1) (by decide) (As := [.int l2]) rfl rfl (Nat.le_of_ble_eq_true rfl) (by decide) (by decide) ⟨by decide, by decide⟩ dX9_blow_26 ?_
      refine g_zastore (i := 4) (lv' := [(4, zr ev r5), (0, .ref (ev 0 + 0)), (1, .int l1), (2, .int l2), (3, .int l3)]) F dX9_blow_29 (by decide) rfl ?_
      refine g_zaload (i := 4) F dX9_blow_31 rfl ?_
      refine g_iload_n (i := 1) F dX9_blow_33 rfl rfl ?_
      obtain ⟨b7, e8, h⟩ := bind_at h
      rw [e8]
      obtain ⟨h9, h⟩ := if_at h
      obtain ⟨v10, e11, h⟩ := bind_at h
      refine g_ildX F h9 rfl e11 dX9_blow_34 ?_
      refine g_istore (i := 5) (lv' := [(5, .int v10), (4, .ref (ev 0 + b7)), (0, .ref (ev 0 + 0)), (1, .int l1), (2, .int l2), (3, .int l3)]) F dX9_blow_35 (by decide) rfl ?_
      refine g_aload (i := 4) F dX9_blow_37 rfl ?_
      refine g_iload_n (i := 1) F dX9_blow_39 rfl rfl ?_
      refine g_iload_n (i := 3) F dX9_blow_40 rfl rfl ?_
      obtain ⟨h12, h⟩ := if_at h
      obtain ⟨X13, e14, h⟩ := bd_at h
      refine g_istX F h9 rfl h12 dX9_blow_41 ?_
      rw [← e14]
      refine g_iload (i := 5) F dX9_blow_42 rfl ?_
      have hp := Prod.mk.inj (Option.some.inj h)
      exact g_iret F hr9 rfl hl9 hp.1 (by rw [hp.2]) (by decide) (by decide) dX9_blow_44
    · refine g_bipush F dX9_blow_18 (v := -7) (by decide) ?_
      have hp := Prod.mk.inj (Option.some.inj h)
      exact g_iret F hr9 rfl hl9 hp.1 (by rw [hp.2]) (by decide) (by decide) dX9_blow_20
  · refine g_bipush F dX9_blow_7 (v := -5) (by decide) ?_
    have hp := Prod.mk.inj (Option.some.inj h)
    exact g_iret F hr9 rfl hl9 hp.1 (by rw [hp.2]) (by decide) (by decide) dX9_blow_9
def fX9_told (X : XW) (l1 : Int32) (l2 : Int32) : Option Int32 :=
  if (fX9_within l2 (0 : Int32) (4 : Int32)) = 0 then some (-7 : Int32)
  else if l2 < (2 : Int32) then if (fX9_isCell l1) = 0 then some (-5 : Int32)
  else if l2 = 0 then (rd (X.2.1 2) 100 l1).bind fun v7 =>
  some v7
  else (rd (X.2.1 3) 100 l1).bind fun v5 =>
  some v5
  else if (fX9_isHour l1) = 0 then some (-5 : Int32)
  else bd (fX0_hourRow X (l2 - (2 : Int32))) fun r13 =>
  (r13).bind fun b15 =>
  if kd b15 = 11 then (rd (X.2.1 b15) (ln b15) l1).bind fun v18 =>
  some v18 else none
set_option maxRecDepth 100000 in
set_option maxHeartbeats 4000000 in
theorem c_X9_told {l : Launch} {s0 : State} {D : va_G} {ev : Nat → Nat} (G0 : Gl s0 D ev) {X : XW} {M : MW} {nb : Nat} {l1 : Int32} {l2 : Int32} {r' : Int32}  (h : fX9_told X l1 l2 = some r') : CT l s0 D ev yX9_told cX9_told 3 (some .int) 2 0 0 [.ref (ev 0 + 0), .int l1, .int l2] (cells ev X M nb) (QI s0 D ev r' (cells ev X M nb)) := by
  refine ct_of G0 (by decide) (Nat.le_of_ble_eq_true rfl) ?_
  intro p9 e9 s9 m9 args9 below9 meth9 c9 F hr9 hl9 hin9 hargs9 hts9
  rw [fX9_told] at h
  refine g_lv (lv' := [(0, .ref (ev 0 + 0)), (1, .int l1), (2, .int l2)]) ⟨rfl, rfl, rfl, trivial⟩ ?_
  refine g_iload_n (i := 2) F dX9_told_0 rfl rfl ?_
  refine g_iconst F dX9_told_1 (v := 0) (by decide) ?_
  refine g_iconst F dX9_told_2 (v := 4) (by decide) ?_
  refine g_callSI F (mcR := 0) (msR := 0) (c_X9_within G0 (X := X) (M := M) (nb := nb) rfl) wd_9_7 wd_15_21 wd_9_6 wd_1_2 ⟨by decide, by decide⟩ (nn := 3) (by decide) (As := [.int l2, .int (0 : Int32), .int (4 : Int32)]) rfl rfl (Nat.le_of_ble_eq_true rfl) (by decide) (by decide) ⟨by decide, by decide⟩ dX9_told_3 ?_
  refine g_if_ne (tgt := 12) F dX9_told_6 (by decide) h (fun a22 h => ?_) (fun a22 h => ?_)
  · refine g_iload_n (i := 2) F dX9_told_12 rfl rfl ?_
    refine g_iconst F dX9_told_13 (v := 2) (by decide) ?_
    refine g_icmp_lt (tgt := 42) F dX9_told_14 (by decide) h (fun a21 h => ?_) (fun a21 h => ?_)
    · refine g_iload_n (i := 1) F dX9_told_42 rfl rfl ?_
      refine g_callSI F (mcR := 0) (msR := 0) (c_X9_isCell G0 (X := X) (M := M) (nb := nb) rfl) wd_15_20 wd_15_18 wd_15_19 wd_1_2 ⟨by decide, by decide⟩ (nn := 1) (by decide) (As := [.int l1]) rfl rfl (Nat.le_of_ble_eq_true rfl) (by decide) (by decide) ⟨by decide, by decide⟩ dX9_told_43 ?_
      refine g_if_ne (tgt := 52) F dX9_told_46 (by decide) h (fun a10 h => ?_) (fun a10 h => ?_)
      · refine g_iload_n (i := 2) F dX9_told_52 rfl rfl ?_
        refine g_if_ne (tgt := 68) F dX9_told_53 (by decide) h (fun a9 h => ?_) (fun a9 h => ?_)
        · refine g_aload_n (i := 0) F dX9_told_68 rfl rfl ?_
          refine g_get_9_0 F rfl (kd_lit (by decide)) wd_1_15 dX9_told_69 ?_
          refine g_get_0_1 F rfl (kd_lit (by decide)) wd_15_17 dX9_told_72 ?_
          refine g_iload_n (i := 1) F dX9_told_75 rfl rfl ?_
          obtain ⟨v5, e6, h⟩ := bind_at h
          refine g_ildX F rfl rfl e6 dX9_told_76 ?_
          exact g_iret F hr9 rfl hl9 (Option.some.inj h) rfl (by decide) (by decide) dX9_told_77
        · refine g_aload_n (i := 0) F dX9_told_56 rfl rfl ?_
          refine g_get_9_0 F rfl (kd_lit (by decide)) wd_1_15 dX9_told_57 ?_
          refine g_get_0_0 F rfl (kd_lit (by decide)) wd_15_16 dX9_told_60 ?_
          refine g_iload_n (i := 1) F dX9_told_63 rfl rfl ?_
          obtain ⟨v7, e8, h⟩ := bind_at h
          refine g_ildX F rfl rfl e8 dX9_told_64 ?_
          refine g_goto (tgt := 77) F dX9_told_65 (by decide) ?_
          exact g_iret F hr9 rfl hl9 (Option.some.inj h) rfl (by decide) (by decide) dX9_told_77
      · refine g_bipush F dX9_told_49 (v := -5) (by decide) ?_
        exact g_iret F hr9 rfl hl9 (Option.some.inj h) rfl (by decide) (by decide) dX9_told_51
    · refine g_iload_n (i := 1) F dX9_told_17 rfl rfl ?_
      refine g_callSI F (mcR := 0) (msR := 0) (c_X9_isHour G0 (X := X) (M := M) (nb := nb) rfl) wd_17_9 wd_17_7 wd_17_8 wd_1_2 ⟨by decide, by decide⟩ (nn := 1) (by decide) (As := [.int l1]) rfl rfl (Nat.le_of_ble_eq_true rfl) (by decide) (by decide) ⟨by decide, by decide⟩ dX9_told_18 ?_
      refine g_if_eq (tgt := 39) F dX9_told_21 (by decide) h (fun a20 h => ?_) (fun a20 h => ?_)
      · refine g_bipush F dX9_told_39 (v := -5) (by decide) ?_
        exact g_iret F hr9 rfl hl9 (Option.some.inj h) rfl (by decide) (by decide) dX9_told_41
      · refine g_aload_n (i := 0) F dX9_told_24 rfl rfl ?_
        refine g_get_9_0 F rfl (kd_lit (by decide)) wd_1_15 dX9_told_25 ?_
        refine g_iload_n (i := 2) F dX9_told_28 rfl rfl ?_
        refine g_iconst F dX9_told_29 (v := 2) (by decide) ?_
        refine g_isub F dX9_told_30 ?_
        obtain ⟨r13, e14, h⟩ := bd_at h
        refine g_callVR F (mcR := 0) (msR := 0) (id := 1) (cells_at (kd_lit (i := 1) (by decide)) (xc_0 rfl)) (ci := 0) rfl rfl rfl (c_X0_hourRow G0 (X := X) (M := M) (nb := nb) e14.symm) wd_17_16 wd_17_13 wd_17_14 wd_17_15 wd_1_14 ⟨by decide, by decide⟩ (nn := 1) (by decide) (As := [.int (l2 - (2 : Int32))]) rfl rfl (Nat.le_of_ble_eq_true rfl) (by decide) (by decide) ⟨by decide, by decide⟩ dX9_told_31 ?_
        refine g_iload_n (i := 1) F dX9_told_34 rfl rfl ?_
        obtain ⟨b15, e16, h⟩ := bind_at h
        rw [e16]
        obtain ⟨h17, h⟩ := if_at h
        obtain ⟨v18, e19, h⟩ := bind_at h
        refine g_ildX F h17 rfl e19 dX9_told_35 ?_
        refine g_goto (tgt := 41) F dX9_told_36 (by decide) ?_
        exact g_iret F hr9 rfl hl9 (Option.some.inj h) rfl (by decide) (by decide) dX9_told_41
  · refine g_bipush F dX9_told_9 (v := -7) (by decide) ?_
    exact g_iret F hr9 rfl hl9 (Option.some.inj h) rfl (by decide) (by decide) dX9_told_11
def fX9_count (X : XW) (l1 : Int32) : Int32 :=
  if l1 = (0 : Int32) then (X.1 0 11)
  else if l1 = (1 : Int32) then (X.1 0 12)
  else if l1 = (2 : Int32) then (X.1 0 13)
  else if l1 = (3 : Int32) then (X.1 0 14)
  else if l1 = (4 : Int32) then (X.1 7 1)
  else (-2 : Int32)
set_option maxRecDepth 100000 in
set_option maxHeartbeats 4000000 in
theorem c_X9_count {l : Launch} {s0 : State} {D : va_G} {ev : Nat → Nat} (G0 : Gl s0 D ev) {X : XW} {M : MW} {nb : Nat} {l1 : Int32} {r' : Int32}  (h : fX9_count X l1 = r') : CT l s0 D ev yX9_count cX9_count 2 (some .int) 0 0 0 [.ref (ev 0 + 0), .int l1] (cells ev X M nb) (QI s0 D ev r' (cells ev X M nb)) := by
  refine ct_of G0 (by decide) (Nat.le_of_ble_eq_true rfl) ?_
  intro p9 e9 s9 m9 args9 below9 meth9 c9 F hr9 hl9 hin9 hargs9 hts9
  rw [fX9_count] at h
  refine g_lv (lv' := [(0, .ref (ev 0 + 0)), (1, .int l1)]) ⟨rfl, rfl, trivial⟩ ?_
  refine g_iload_n (i := 1) F dX9_count_0 rfl rfl ?_
  refine ite_at h (fun a1 h => ?_) (fun a1 h => ?_)
  · refine g_tsw (k := 0) (off := 35) (tgt := 36) F a1 dX9_count_1 (by decide) (by decide) (by decide) (by decide) ?_
    refine g_aload_n (i := 0) F dX9_count_36 rfl rfl ?_
    refine g_get_9_11 F rfl (kd_lit (by decide)) wd_2_19 dX9_count_37 ?_
    exact g_iret F hr9 rfl hl9 h rfl (by decide) (by decide) dX9_count_40
  · refine ite_at h (fun a2 h => ?_) (fun a2 h => ?_)
    · refine g_tsw (k := 1) (off := 40) (tgt := 41) F a2 dX9_count_1 (by decide) (by decide) (by decide) (by decide) ?_
      refine g_aload_n (i := 0) F dX9_count_41 rfl rfl ?_
      refine g_get_9_12 F rfl (kd_lit (by decide)) wd_2_20 dX9_count_42 ?_
      exact g_iret F hr9 rfl hl9 h rfl (by decide) (by decide) dX9_count_45
    · refine ite_at h (fun a3 h => ?_) (fun a3 h => ?_)
      · refine g_tsw (k := 2) (off := 45) (tgt := 46) F a3 dX9_count_1 (by decide) (by decide) (by decide) (by decide) ?_
        refine g_aload_n (i := 0) F dX9_count_46 rfl rfl ?_
        refine g_get_9_13 F rfl (kd_lit (by decide)) wd_2_21 dX9_count_47 ?_
        exact g_iret F hr9 rfl hl9 h rfl (by decide) (by decide) dX9_count_50
      · refine ite_at h (fun a4 h => ?_) (fun a4 h => ?_)
        · refine g_tsw (k := 3) (off := 50) (tgt := 51) F a4 dX9_count_1 (by decide) (by decide) (by decide) (by decide) ?_
          refine g_aload_n (i := 0) F dX9_count_51 rfl rfl ?_
          refine g_get_9_14 F rfl (kd_lit (by decide)) wd_2_22 dX9_count_52 ?_
          exact g_iret F hr9 rfl hl9 h rfl (by decide) (by decide) dX9_count_55
        · refine ite_at h (fun a5 h => ?_) (fun a5 h => ?_)
          · refine g_tsw (k := 4) (off := 55) (tgt := 56) F a5 dX9_count_1 (by decide) (by decide) (by decide) (by decide) ?_
            refine g_aload_n (i := 0) F dX9_count_56 rfl rfl ?_
            refine g_get_9_1 F rfl (kd_lit (by decide)) wd_1_19 dX9_count_57 ?_
            refine g_get_6_1 F rfl (kd_lit (by decide)) wd_18_12 dX9_count_60 ?_
            exact g_iret F hr9 rfl hl9 h rfl (by decide) (by decide) dX9_count_63
          · have q0 : l1.toInt ≠ 0 := fun q => a1 (Int32.toInt_inj.mp (q.trans (by decide)))
            have q1 : l1.toInt ≠ 1 := fun q => a2 (Int32.toInt_inj.mp (q.trans (by decide)))
            have q2 : l1.toInt ≠ 2 := fun q => a3 (Int32.toInt_inj.mp (q.trans (by decide)))
            have q3 : l1.toInt ≠ 3 := fun q => a4 (Int32.toInt_inj.mp (q.trans (by decide)))
            have q4 : l1.toInt ≠ 4 := fun q => a5 (Int32.toInt_inj.mp (q.trans (by decide)))
            refine g_tswd (tgt := 64) F (by omega) dX9_count_1 (by decide) ?_
            refine g_bipush F dX9_count_64 (v := -2) (by decide) ?_
            exact g_iret F hr9 rfl hl9 h rfl (by decide) (by decide) dX9_count_66
def fX9_isByte (l0 : Int32) : Int32 :=
  (fX9_within l0 (0 : Int32) (255 : Int32))
set_option maxRecDepth 100000 in
set_option maxHeartbeats 4000000 in
theorem c_X9_isByte {l : Launch} {s0 : State} {D : va_G} {ev : Nat → Nat} (G0 : Gl s0 D ev) {X : XW} {M : MW} {nb : Nat} {l0 : Int32} {r' : Int32}  (h : fX9_isByte l0 = r') : CT l s0 D ev yX9_isByte cX9_isByte 1 (some .boolean) 1 0 0 [.int l0] (cells ev X M nb) (QI s0 D ev r' (cells ev X M nb)) := by
  refine ct_of G0 (by decide) (Nat.le_of_ble_eq_true rfl) ?_
  intro p9 e9 s9 m9 args9 below9 meth9 c9 F hr9 hl9 hin9 hargs9 hts9
  rw [fX9_isByte] at h
  refine g_lv (lv' := [(0, .int l0)]) ⟨rfl, trivial⟩ ?_
  refine g_iload_n (i := 0) F dX9_isByte_0 rfl rfl ?_
  refine g_iconst F dX9_isByte_1 (v := 0) (by decide) ?_
  refine g_sipush F dX9_isByte_2 (v := 255) (by decide) ?_
  refine g_callSI F (mcR := 0) (msR := 0) (c_X9_within G0 (X := X) (M := M) (nb := nb) rfl) wd_9_7 wd_15_21 wd_9_6 wd_1_2 ⟨by decide, by decide⟩ (nn := 3) (by decide) (As := [.int l0, .int (0 : Int32), .int (255 : Int32)]) rfl rfl (Nat.le_of_ble_eq_true rfl) (by decide) (by decide) ⟨by decide, by decide⟩ dX9_isByte_5 ?_
  exact g_iret F hr9 (nar_b b_X9_within) hl9 h rfl (by decide) (by decide) dX9_isByte_8
theorem b_X9_isByte {l0 : Int32} : (fX9_isByte l0) = 0 ∨ (fX9_isByte l0) = 1 := by
  unfold fX9_isByte
  (repeat' split) <;> first | exact Or.inl rfl | exact Or.inr rfl | exact b_X9_within
def fX9_feed_b117 (X : XW) (l1 : Int32) (l6 : Int32) : Option (Int32 × XW) :=
  if l1 ≤ (4 : Int32) then some ((X.1 7 1), X)
  else (fX6_add X l6).bind fun X15 =>
  some ((X15.1 7 1), X15)
def fX9_feed_b103 (X : XW) (l1 : Int32) (l5 : Int32) (l6 : Int32) : Option (Int32 × XW) :=
  if l1 ≤ (3 : Int32) then fX9_feed_b117 X l1 l6
  else (fX6_add X l5).bind fun X18 =>
  fX9_feed_b117 X18 l1 l6
def fX9_feed_b89 (X : XW) (l1 : Int32) (l4 : Int32) (l5 : Int32) (l6 : Int32) : Option (Int32 × XW) :=
  if l1 ≤ (2 : Int32) then fX9_feed_b103 X l1 l5 l6
  else (fX6_add X l4).bind fun X21 =>
  fX9_feed_b103 X21 l1 l5 l6
def fX9_feed (X : XW) (l1 : Int32) (l2 : Int32) (l3 : Int32) (l4 : Int32) (l5 : Int32) (l6 : Int32) : Option (Int32 × XW) :=
  if (fX9_within l1 (1 : Int32) (5 : Int32)) = 0 then some ((-2 : Int32), X)
  else if (fX9_isByte l2) = 0 then some ((-2 : Int32), X)
  else if (fX9_isByte l3) = 0 then some ((-2 : Int32), X)
  else if (fX9_isByte l4) = 0 then some ((-2 : Int32), X)
  else if (fX9_isByte l5) = 0 then some ((-2 : Int32), X)
  else if (fX9_isByte l6) = 0 then some ((-2 : Int32), X)
  else if ((X.1 7 1) + l1) ≤ (160 : Int32) then (fX6_add X l2).bind fun X13 =>
  if l1 ≤ (1 : Int32) then fX9_feed_b89 X13 l1 l4 l5 l6
  else (fX6_add X13 l3).bind fun X24 =>
  fX9_feed_b89 X24 l1 l4 l5 l6
  else some ((-4 : Int32), X)
set_option maxRecDepth 100000 in
set_option maxHeartbeats 4000000 in
theorem c_X9_feed {l : Launch} {s0 : State} {D : va_G} {ev : Nat → Nat} (G0 : Gl s0 D ev) {X : XW} {M : MW} {nb : Nat} {l1 : Int32} {l2 : Int32} {l3 : Int32} {l4 : Int32} {l5 : Int32} {l6 : Int32} {r' : Int32} {X' : XW}  (h : fX9_feed X l1 l2 l3 l4 l5 l6 = some (r', X')) : CT l s0 D ev yX9_feed cX9_feed 7 (some .int) 2 0 0 [.ref (ev 0 + 0), .int l1, .int l2, .int l3, .int l4, .int l5, .int l6] (cells ev X M nb) (QI s0 D ev r' (cells ev X' M nb)) := by
  refine ct_of G0 (by decide) (Nat.le_of_ble_eq_true rfl) ?_
  intro p9 e9 s9 m9 args9 below9 meth9 c9 F hr9 hl9 hin9 hargs9 hts9
  have U117 : ∀ (X : XW) (l1 : Int32) (l6 : Int32), fX9_feed_b117 X l1 l6 = some (r', X') → GJ p9 l e9 (rg 2 0 0) s9 m9 args9 below9 meth9 c9 (MQ below9 (QI s0 D ev r' (cells ev X' M nb)) args9 s9 0 0 (frA ev)) s0 D ev 7 0 0 117 [(0, .ref (ev 0 + 0)), (1, .int l1), (6, .int l6)] ([]) (cells ev X M nb) := by
    intro X l1 l6 h
    rw [fX9_feed_b117] at h
    refine g_iload_n (i := 1) F dX9_feed_117 rfl rfl ?_
    refine g_iconst F dX9_feed_118 (v := 4) (by decide) ?_
    refine g_icmp_le (tgt := 131) F dX9_feed_119 (by decide) h (fun a17 h => ?_) (fun a17 h => ?_)
    · refine g_aload_n (i := 0) F dX9_feed_131 rfl rfl ?_
      refine g_get_9_1 F rfl (kd_lit (by decide)) wd_1_19 dX9_feed_132 ?_
      refine g_get_6_1 F rfl (kd_lit (by decide)) wd_18_12 dX9_feed_135 ?_
      have hp := Prod.mk.inj (Option.some.inj h)
      exact g_iret F hr9 rfl hl9 hp.1 (by rw [hp.2]) (by decide) (by decide) dX9_feed_138
    · refine g_aload_n (i := 0) F dX9_feed_122 rfl rfl ?_
      refine g_get_9_1 F rfl (kd_lit (by decide)) wd_1_19 dX9_feed_123 ?_
      refine g_iload (i := 6) F dX9_feed_126 rfl ?_
      obtain ⟨X15, e16, h⟩ := bind_at h
      refine g_callVV F (mcR := 0) (msR := 0) (id := 7) (cells_at (kd_lit (i := 7) (by decide)) (xc_6 rfl)) (ci := 6) rfl rfl rfl (c_X6_add G0 e16) wd_8_10 wd_8_7 wd_8_8 wd_8_9 wd_1_18 ⟨by decide, by decide⟩ (nn := 1) (by decide) (As := [.int l6]) rfl rfl (Nat.le_of_ble_eq_true rfl) (by decide) (by decide) ⟨by decide, by decide⟩ dX9_feed_128 ?_
      refine g_aload_n (i := 0) F dX9_feed_131 rfl rfl ?_
      refine g_get_9_1 F rfl (kd_lit (by decide)) wd_1_19 dX9_feed_132 ?_
      refine g_get_6_1 F rfl (kd_lit (by decide)) wd_18_12 dX9_feed_135 ?_
      have hp := Prod.mk.inj (Option.some.inj h)
      exact g_iret F hr9 rfl hl9 hp.1 (by rw [hp.2]) (by decide) (by decide) dX9_feed_138
  have U103 : ∀ (X : XW) (l1 : Int32) (l5 : Int32) (l6 : Int32), fX9_feed_b103 X l1 l5 l6 = some (r', X') → GJ p9 l e9 (rg 2 0 0) s9 m9 args9 below9 meth9 c9 (MQ below9 (QI s0 D ev r' (cells ev X' M nb)) args9 s9 0 0 (frA ev)) s0 D ev 7 0 0 103 [(0, .ref (ev 0 + 0)), (1, .int l1), (5, .int l5), (6, .int l6)] ([]) (cells ev X M nb) := by
    intro X l1 l5 l6 h
    rw [fX9_feed_b103] at h
    refine g_iload_n (i := 1) F dX9_feed_103 rfl rfl ?_
    refine g_iconst F dX9_feed_104 (v := 3) (by decide) ?_
    refine g_icmp_le (tgt := 117) F dX9_feed_105 (by decide) h (fun a20 h => ?_) (fun a20 h => ?_)
    · refine g_lv (lv' := [(0, .ref (ev 0 + 0)), (1, .int l1), (6, .int l6)]) ⟨rfl, rfl, rfl, trivial⟩ ?_
      exact U117 _ _ _ h
    · refine g_aload_n (i := 0) F dX9_feed_108 rfl rfl ?_
      refine g_get_9_1 F rfl (kd_lit (by decide)) wd_1_19 dX9_feed_109 ?_
      refine g_iload (i := 5) F dX9_feed_112 rfl ?_
      obtain ⟨X18, e19, h⟩ := bind_at h
      refine g_callVV F (mcR := 0) (msR := 0) (id := 7) (cells_at (kd_lit (i := 7) (by decide)) (xc_6 rfl)) (ci := 6) rfl rfl rfl (c_X6_add G0 e19) wd_8_10 wd_8_7 wd_8_8 wd_8_9 wd_1_18 ⟨by decide, by decide⟩ (nn := 1) (by decide) (As := [.int l5]) rfl rfl (Nat.le_of_ble_eq_true rfl) (by decide) (by decide) ⟨by decide, by decide⟩ dX9_feed_114 ?_
      refine g_lv (lv' := [(0, .ref (ev 0 + 0)), (1, .int l1), (6, .int l6)]) ⟨rfl, rfl, rfl, trivial⟩ ?_
      exact U117 _ _ _ h
  have U89 : ∀ (X : XW) (l1 : Int32) (l4 : Int32) (l5 : Int32) (l6 : Int32), fX9_feed_b89 X l1 l4 l5 l6 = some (r', X') → GJ p9 l e9 (rg 2 0 0) s9 m9 args9 below9 meth9 c9 (MQ below9 (QI s0 D ev r' (cells ev X' M nb)) args9 s9 0 0 (frA ev)) s0 D ev 7 0 0 89 [(0, .ref (ev 0 + 0)), (1, .int l1), (4, .int l4), (5, .int l5), (6, .int l6)] ([]) (cells ev X M nb) := by
    intro X l1 l4 l5 l6 h
    rw [fX9_feed_b89] at h
    refine g_iload_n (i := 1) F dX9_feed_89 rfl rfl ?_
    refine g_iconst F dX9_feed_90 (v := 2) (by decide) ?_
    refine g_icmp_le (tgt := 103) F dX9_feed_91 (by decide) h (fun a23 h => ?_) (fun a23 h => ?_)
    · refine g_lv (lv' := [(0, .ref (ev 0 + 0)), (1, .int l1), (5, .int l5), (6, .int l6)]) ⟨rfl, rfl, rfl, rfl, trivial⟩ ?_
      exact U103 _ _ _ _ h
    · refine g_aload_n (i := 0) F dX9_feed_94 rfl rfl ?_
      refine g_get_9_1 F rfl (kd_lit (by decide)) wd_1_19 dX9_feed_95 ?_
      refine g_iload (i := 4) F dX9_feed_98 rfl ?_
      obtain ⟨X21, e22, h⟩ := bind_at h
      refine g_callVV F (mcR := 0) (msR := 0) (id := 7) (cells_at (kd_lit (i := 7) (by decide)) (xc_6 rfl)) (ci := 6) rfl rfl rfl (c_X6_add G0 e22) wd_8_10 wd_8_7 wd_8_8 wd_8_9 wd_1_18 ⟨by decide, by decide⟩ (nn := 1) (by decide) (As := [.int l4]) rfl rfl (Nat.le_of_ble_eq_true rfl) (by decide) (by decide) ⟨by decide, by decide⟩ dX9_feed_100 ?_
      refine g_lv (lv' := [(0, .ref (ev 0 + 0)), (1, .int l1), (5, .int l5), (6, .int l6)]) ⟨rfl, rfl, rfl, rfl, trivial⟩ ?_
      exact U103 _ _ _ _ h
  rw [fX9_feed] at h
  refine g_lv (lv' := [(0, .ref (ev 0 + 0)), (1, .int l1), (2, .int l2), (3, .int l3), (4, .int l4), (5, .int l5), (6, .int l6)]) ⟨rfl, rfl, rfl, rfl, rfl, rfl, rfl, trivial⟩ ?_
  refine g_iload_n (i := 1) F dX9_feed_0 rfl rfl ?_
  refine g_iconst F dX9_feed_1 (v := 1) (by decide) ?_
  refine g_iconst F dX9_feed_2 (v := 5) (by decide) ?_
  refine g_callSI F (mcR := 0) (msR := 0) (c_X9_within G0 (X := X) (M := M) (nb := nb) rfl) wd_9_7 wd_15_21 wd_9_6 wd_1_2 ⟨by decide, by decide⟩ (nn := 3) (by decide) (As := [.int l1, .int (1 : Int32), .int (5 : Int32)]) rfl rfl (Nat.le_of_ble_eq_true rfl) (by decide) (by decide) ⟨by decide, by decide⟩ dX9_feed_3 ?_
  refine g_if_eq (tgt := 47) F dX9_feed_6 (by decide) h (fun a33 h => ?_) (fun a33 h => ?_)
  · refine g_bipush F dX9_feed_47 (v := -2) (by decide) ?_
    have hp := Prod.mk.inj (Option.some.inj h)
    exact g_iret F hr9 rfl hl9 hp.1 (by rw [hp.2]) (by decide) (by decide) dX9_feed_49
  · refine g_iload_n (i := 2) F dX9_feed_9 rfl rfl ?_
    refine g_callSI F (mcR := 0) (msR := 0) (c_X9_isByte G0 (X := X) (M := M) (nb := nb) rfl) wd_19_2 wd_19_0 wd_19_1 wd_1_2 ⟨by decide, by decide⟩ (nn := 1) (by decide) (As := [.int l2]) rfl rfl (Nat.le_of_ble_eq_true rfl) (by decide) (by decide) ⟨by decide, by decide⟩ dX9_feed_10 ?_
    refine g_if_eq (tgt := 47) F dX9_feed_13 (by decide) h (fun a32 h => ?_) (fun a32 h => ?_)
    · refine g_bipush F dX9_feed_47 (v := -2) (by decide) ?_
      have hp := Prod.mk.inj (Option.some.inj h)
      exact g_iret F hr9 rfl hl9 hp.1 (by rw [hp.2]) (by decide) (by decide) dX9_feed_49
    · refine g_iload_n (i := 3) F dX9_feed_16 rfl rfl ?_
      refine g_callSI F (mcR := 0) (msR := 0) (c_X9_isByte G0 (X := X) (M := M) (nb := nb) rfl) wd_19_2 wd_19_0 wd_19_1 wd_1_2 ⟨by decide, by decide⟩ (nn := 1) (by decide) (As := [.int l3]) rfl rfl (Nat.le_of_ble_eq_true rfl) (by decide) (by decide) ⟨by decide, by decide⟩ dX9_feed_17 ?_
      refine g_if_eq (tgt := 47) F dX9_feed_20 (by decide) h (fun a31 h => ?_) (fun a31 h => ?_)
      · refine g_bipush F dX9_feed_47 (v := -2) (by decide) ?_
        have hp := Prod.mk.inj (Option.some.inj h)
        exact g_iret F hr9 rfl hl9 hp.1 (by rw [hp.2]) (by decide) (by decide) dX9_feed_49
      · refine g_iload (i := 4) F dX9_feed_23 rfl ?_
        refine g_callSI F (mcR := 0) (msR := 0) (c_X9_isByte G0 (X := X) (M := M) (nb := nb) rfl) wd_19_2 wd_19_0 wd_19_1 wd_1_2 ⟨by decide, by decide⟩ (nn := 1) (by decide) (As := [.int l4]) rfl rfl (Nat.le_of_ble_eq_true rfl) (by decide) (by decide) ⟨by decide, by decide⟩ dX9_feed_25 ?_
        refine g_if_eq (tgt := 47) F dX9_feed_28 (by decide) h (fun a30 h => ?_) (fun a30 h => ?_)
        · refine g_bipush F dX9_feed_47 (v := -2) (by decide) ?_
          have hp := Prod.mk.inj (Option.some.inj h)
          exact g_iret F hr9 rfl hl9 hp.1 (by rw [hp.2]) (by decide) (by decide) dX9_feed_49
        · refine g_iload (i := 5) F dX9_feed_31 rfl ?_
          refine g_callSI F (mcR := 0) (msR := 0) (c_X9_isByte G0 (X := X) (M := M) (nb := nb) rfl) wd_19_2 wd_19_0 wd_19_1 wd_1_2 ⟨by decide, by decide⟩ (nn := 1) (by decide) (As := [.int l5]) rfl rfl (Nat.le_of_ble_eq_true rfl) (by decide) (by decide) ⟨by decide, by decide⟩ dX9_feed_33 ?_
          refine g_if_eq (tgt := 47) F dX9_feed_36 (by decide) h (fun a29 h => ?_) (fun a29 h => ?_)
          · refine g_bipush F dX9_feed_47 (v := -2) (by decide) ?_
            have hp := Prod.mk.inj (Option.some.inj h)
            exact g_iret F hr9 rfl hl9 hp.1 (by rw [hp.2]) (by decide) (by decide) dX9_feed_49
          · refine g_iload (i := 6) F dX9_feed_39 rfl ?_
            refine g_callSI F (mcR := 0) (msR := 0) (c_X9_isByte G0 (X := X) (M := M) (nb := nb) rfl) wd_19_2 wd_19_0 wd_19_1 wd_1_2 ⟨by decide, by decide⟩ (nn := 1) (by decide) (As := [.int l6]) rfl rfl (Nat.le_of_ble_eq_true rfl) (by decide) (by decide) ⟨by decide, by decide⟩ dX9_feed_41 ?_
            refine g_if_ne (tgt := 50) F dX9_feed_44 (by decide) h (fun a28 h => ?_) (fun a28 h => ?_)
            · refine g_aload_n (i := 0) F dX9_feed_50 rfl rfl ?_
              refine g_get_9_1 F rfl (kd_lit (by decide)) wd_1_19 dX9_feed_51 ?_
              refine g_get_6_1 F rfl (kd_lit (by decide)) wd_18_12 dX9_feed_54 ?_
              refine g_iload_n (i := 1) F dX9_feed_57 rfl rfl ?_
              refine g_iadd F dX9_feed_58 ?_
              refine g_sipush F dX9_feed_59 (v := 160) (by decide) ?_
              refine g_icmp_le (tgt := 68) F dX9_feed_62 (by decide) h (fun a27 h => ?_) (fun a27 h => ?_)
              · refine g_aload_n (i := 0) F dX9_feed_68 rfl rfl ?_
                refine g_get_9_1 F rfl (kd_lit (by decide)) wd_1_19 dX9_feed_69 ?_
                refine g_iload_n (i := 2) F dX9_feed_72 rfl rfl ?_
                obtain ⟨X13, e14, h⟩ := bind_at h
                refine g_callVV F (mcR := 0) (msR := 0) (id := 7) (cells_at (kd_lit (i := 7) (by decide)) (xc_6 rfl)) (ci := 6) rfl rfl rfl (c_X6_add G0 e14) wd_8_10 wd_8_7 wd_8_8 wd_8_9 wd_1_18 ⟨by decide, by decide⟩ (nn := 1) (by decide) (As := [.int l2]) rfl rfl (Nat.le_of_ble_eq_true rfl) (by decide) (by decide) ⟨by decide, by decide⟩ dX9_feed_73 ?_
                refine g_iload_n (i := 1) F dX9_feed_76 rfl rfl ?_
                refine g_iconst F dX9_feed_77 (v := 1) (by decide) ?_
                refine g_icmp_le (tgt := 89) F dX9_feed_78 (by decide) h (fun a26 h => ?_) (fun a26 h => ?_)
                · refine g_lv (lv' := [(0, .ref (ev 0 + 0)), (1, .int l1), (4, .int l4), (5, .int l5), (6, .int l6)]) ⟨rfl, rfl, rfl, rfl, rfl, trivial⟩ ?_
                  exact U89 _ _ _ _ _ h
                · refine g_aload_n (i := 0) F dX9_feed_81 rfl rfl ?_
                  refine g_get_9_1 F rfl (kd_lit (by decide)) wd_1_19 dX9_feed_82 ?_
                  refine g_iload_n (i := 3) F dX9_feed_85 rfl rfl ?_
                  obtain ⟨X24, e25, h⟩ := bind_at h
                  refine g_callVV F (mcR := 0) (msR := 0) (id := 7) (cells_at (kd_lit (i := 7) (by decide)) (xc_6 rfl)) (ci := 6) rfl rfl rfl (c_X6_add G0 e25) wd_8_10 wd_8_7 wd_8_8 wd_8_9 wd_1_18 ⟨by decide, by decide⟩ (nn := 1) (by decide) (As := [.int l3]) rfl rfl (Nat.le_of_ble_eq_true rfl) (by decide) (by decide) ⟨by decide, by decide⟩ dX9_feed_86 ?_
                  refine g_lv (lv' := [(0, .ref (ev 0 + 0)), (1, .int l1), (4, .int l4), (5, .int l5), (6, .int l6)]) ⟨rfl, rfl, rfl, rfl, rfl, trivial⟩ ?_
                  exact U89 _ _ _ _ _ h
              · refine g_bipush F dX9_feed_65 (v := -4) (by decide) ?_
                have hp := Prod.mk.inj (Option.some.inj h)
                exact g_iret F hr9 rfl hl9 hp.1 (by rw [hp.2]) (by decide) (by decide) dX9_feed_67
            · refine g_bipush F dX9_feed_47 (v := -2) (by decide) ?_
              have hp := Prod.mk.inj (Option.some.inj h)
              exact g_iret F hr9 rfl hl9 hp.1 (by rw [hp.2]) (by decide) (by decide) dX9_feed_49
def fX9_rule (X : XW) (l1 : Int32) : Option (XW) :=
  bd (xI X 0 14 l1) fun X1 =>
  if inb l1 6 then bd (47 + 3 * (l1).toNatClampNeg) fun o4 =>
  bd (xR X1 10 3 (some o4)) fun X7 =>
  some X7
  else none
set_option maxRecDepth 100000 in
set_option maxHeartbeats 4000000 in
theorem c_X9_rule {l : Launch} {s0 : State} {D : va_G} {ev : Nat → Nat} (G0 : Gl s0 D ev) {X : XW} {M : MW} {nb : Nat} {l1 : Int32} {X' : XW}  (h : fX9_rule X l1 = some (X')) : CT l s0 D ev yX9_rule cX9_rule 2 none 0 0 0 [.ref (ev 0 + 0), .int l1] (cells ev X M nb) (QV s0 D ev (cells ev X' M nb)) := by
  refine ct_of G0 (by decide) (Nat.le_of_ble_eq_true rfl) ?_
  intro p9 e9 s9 m9 args9 below9 meth9 c9 F hr9 hl9 hin9 hargs9 hts9
  rw [fX9_rule] at h
  refine g_lv (lv' := [(0, .ref (ev 0 + 0)), (1, .int l1)]) ⟨rfl, rfl, trivial⟩ ?_
  refine g_aload_n (i := 0) F dX9_rule_0 rfl rfl ?_
  refine g_iload_n (i := 1) F dX9_rule_1 rfl rfl ?_
  obtain ⟨X1, e2, h⟩ := bd_at h
  refine g_put_9_14 F rfl (kd_lit (by decide)) wd_2_22 dX9_rule_2 ?_
  rw [← e2]
  refine g_aload_n (i := 0) F dX9_rule_5 rfl rfl ?_
  refine g_get_9_3 F rfl (kd_lit (by decide)) wd_2_1 dX9_rule_6 ?_
  refine g_aload_n (i := 0) F dX9_rule_9 rfl rfl ?_
  refine g_get_9_2 F rfl (kd_lit (by decide)) wd_1_21 dX9_rule_10 ?_
  refine g_iload_n (i := 1) F dX9_rule_13 rfl rfl ?_
  obtain ⟨h3, h⟩ := if_at h
  obtain ⟨o4, e5, h⟩ := bd_at h
  refine g_ald_14 F h3 dX9_rule_14 ?_
  rw [← e5]
  have h6 : kd o4 = 5 := by rw [e5]; exact kd_p (clamp_lt h3)
  obtain ⟨X7, e8, h⟩ := bd_at h
  refine g_put_7_3 F (v := (some o4)) rfl rfl (kd_lit (by decide)) wd_3_5 dX9_rule_15 ?_
  rw [← e8]
  exact g_vret F hr9 hl9 (by rw [Option.some.inj h]) (by decide) (by decide) dX9_rule_18
def fX9_force (X : XW) (l1 : Int32) : Option (Int32 × XW) :=
  if (fX9_within l1 (0 : Int32) ((X.1 0 13) - (1 : Int32))) = 0 then some ((-2 : Int32), X)
  else bd (X.1 0 14) fun v3 =>
  (fX9_rule X l1).bind fun X5 =>
  some (v3, X5)
set_option maxRecDepth 100000 in
set_option maxHeartbeats 4000000 in
theorem c_X9_force {l : Launch} {s0 : State} {D : va_G} {ev : Nat → Nat} (G0 : Gl s0 D ev) {X : XW} {M : MW} {nb : Nat} {l1 : Int32} {r' : Int32} {X' : XW}  (h : fX9_force X l1 = some (r', X')) : CT l s0 D ev yX9_force cX9_force 3 (some .int) 1 0 0 [.ref (ev 0 + 0), .int l1] (cells ev X M nb) (QI s0 D ev r' (cells ev X' M nb)) := by
  refine ct_of G0 (by decide) (Nat.le_of_ble_eq_true rfl) ?_
  intro p9 e9 s9 m9 args9 below9 meth9 c9 F hr9 hl9 hin9 hargs9 hts9
  rw [fX9_force] at h
  refine g_lv (lv' := [(0, .ref (ev 0 + 0)), (1, .int l1)]) ⟨rfl, rfl, trivial⟩ ?_
  refine g_iload_n (i := 1) F dX9_force_0 rfl rfl ?_
  refine g_iconst F dX9_force_1 (v := 0) (by decide) ?_
  refine g_aload_n (i := 0) F dX9_force_2 rfl rfl ?_
  refine g_get_9_13 F rfl (kd_lit (by decide)) wd_2_21 dX9_force_3 ?_
  refine g_iconst F dX9_force_6 (v := 1) (by decide) ?_
  refine g_isub F dX9_force_7 ?_
  refine g_callSI F (mcR := 0) (msR := 0) (c_X9_within G0 (X := X) (M := M) (nb := nb) rfl) wd_9_7 wd_15_21 wd_9_6 wd_1_2 ⟨by decide, by decide⟩ (nn := 3) (by decide) (As := [.int l1, .int (0 : Int32), .int ((X.1 0 13) - (1 : Int32))]) rfl rfl (Nat.le_of_ble_eq_true rfl) (by decide) (by decide) ⟨by decide, by decide⟩ dX9_force_8 ?_
  refine g_if_ne (tgt := 17) F dX9_force_11 (by decide) h (fun a7 h => ?_) (fun a7 h => ?_)
  · refine g_aload_n (i := 0) F dX9_force_17 rfl rfl ?_
    refine g_get_9_14 F rfl (kd_lit (by decide)) wd_2_22 dX9_force_18 ?_
    refine g_topi F h (fun v3 e4 h => ?_)
    refine g_istore_n (i := 2) (lv' := [(2, .int v3), (0, .ref (ev 0 + 0)), (1, .int l1)]) F dX9_force_21 rfl (by decide) rfl ?_
    refine g_aload_n (i := 0) F dX9_force_22 rfl rfl ?_
    refine g_iload_n (i := 1) F dX9_force_23 rfl rfl ?_
    obtain ⟨X5, e6, h⟩ := bind_at h
    refine g_callVV F (mcR := 0) (msR := 0) (id := 0) (cells_at (kd_lit (i := 0) (by decide)) (xc_9 rfl)) (ci := 9) rfl rfl rfl (c_X9_rule G0 e6) wd_19_22 wd_19_19 wd_19_20 wd_19_21 wd_1_2 ⟨by decide, by decide⟩ (nn := 1) (by decide) (As := [.int l1]) rfl rfl (Nat.le_of_ble_eq_true rfl) (by decide) (by decide) ⟨by decide, by decide⟩ dX9_force_24 ?_
    refine g_iload_n (i := 2) F dX9_force_27 rfl rfl ?_
    have hp := Prod.mk.inj (Option.some.inj h)
    exact g_iret F hr9 rfl hl9 hp.1 (by rw [hp.2]) (by decide) (by decide) dX9_force_28
  · refine g_bipush F dX9_force_14 (v := -2) (by decide) ?_
    have hp := Prod.mk.inj (Option.some.inj h)
    exact g_iret F hr9 rfl hl9 hp.1 (by rw [hp.2]) (by decide) (by decide) dX9_force_16
def fX9_asks (X : XW) (l1 : Int32) (l2 : Int32) (l3 : Int32) (l4 : Int32) : Option (Int32 × XW) :=
  if (fX9_within l1 (0 : Int32) (2 : Int32)) = 0 then some ((-2 : Int32), X)
  else if (fX9_within l2 (0 : Int32) (9999 : Int32)) = 0 then some ((-2 : Int32), X)
  else if (fX9_within l3 (0 : Int32) (9999 : Int32)) = 0 then some ((-2 : Int32), X)
  else if (fX9_within l4 (0 : Int32) (39 : Int32)) = 0 then some ((-2 : Int32), X)
  else if inb (0 : Int32) 6 then bd (xA X 11 (0 : Int32) (l2 / (100 : Int32))) fun X10 =>
  if inb (1 : Int32) 6 then bd (xA X10 11 (1 : Int32) (jrem l2 (100 : Int32))) fun X13 =>
  if inb (2 : Int32) 6 then bd (xA X13 11 (2 : Int32) (l3 / (100 : Int32))) fun X16 =>
  if inb (3 : Int32) 6 then bd (xA X16 11 (3 : Int32) (jrem l3 (100 : Int32))) fun X19 =>
  if inb (4 : Int32) 6 then bd (xA X19 11 (4 : Int32) (l4 / (10 : Int32))) fun X22 =>
  if inb (5 : Int32) 6 then bd (xA X22 11 (5 : Int32) (jrem l4 (10 : Int32))) fun X25 =>
  bd2 (fX7_says X25 l1) fun v28 X27 =>
  some (v28, X27)
  else none
  else none
  else none
  else none
  else none
  else none
set_option maxRecDepth 100000 in
set_option maxHeartbeats 4000000 in
theorem c_X9_asks {l : Launch} {s0 : State} {D : va_G} {ev : Nat → Nat} (G0 : Gl s0 D ev) {X : XW} {M : MW} {nb : Nat} {l1 : Int32} {l2 : Int32} {l3 : Int32} {l4 : Int32} {r' : Int32} {X' : XW}  (h : fX9_asks X l1 l2 l3 l4 = some (r', X')) : CT l s0 D ev yX9_asks cX9_asks 6 (some .int) 3 0 0 [.ref (ev 0 + 0), .int l1, .int l2, .int l3, .int l4] (cells ev X M nb) (QI s0 D ev r' (cells ev X' M nb)) := by
  refine ct_of G0 (by decide) (Nat.le_of_ble_eq_true rfl) ?_
  intro p9 e9 s9 m9 args9 below9 meth9 c9 F hr9 hl9 hin9 hargs9 hts9
  rw [fX9_asks] at h
  refine g_lv (lv' := [(0, .ref (ev 0 + 0)), (1, .int l1), (2, .int l2), (3, .int l3), (4, .int l4)]) ⟨rfl, rfl, rfl, rfl, rfl, trivial⟩ ?_
  refine g_iload_n (i := 1) F dX9_asks_0 rfl rfl ?_
  refine g_iconst F dX9_asks_1 (v := 0) (by decide) ?_
  refine g_iconst F dX9_asks_2 (v := 2) (by decide) ?_
  refine g_callSI F (mcR := 0) (msR := 0) (c_X9_within G0 (X := X) (M := M) (nb := nb) rfl) wd_9_7 wd_15_21 wd_9_6 wd_1_2 ⟨by decide, by decide⟩ (nn := 3) (by decide) (As := [.int l1, .int (0 : Int32), .int (2 : Int32)]) rfl rfl (Nat.le_of_ble_eq_true rfl) (by decide) (by decide) ⟨by decide, by decide⟩ dX9_asks_3 ?_
  refine g_if_eq (tgt := 42) F dX9_asks_6 (by decide) h (fun a33 h => ?_) (fun a33 h => ?_)
  · refine g_bipush F dX9_asks_42 (v := -2) (by decide) ?_
    have hp := Prod.mk.inj (Option.some.inj h)
    exact g_iret F hr9 rfl hl9 hp.1 (by rw [hp.2]) (by decide) (by decide) dX9_asks_44
  · refine g_iload_n (i := 2) F dX9_asks_9 rfl rfl ?_
    refine g_iconst F dX9_asks_10 (v := 0) (by decide) ?_
    refine g_sipush F dX9_asks_11 (v := 9999) (by decide) ?_
    refine g_callSI F (mcR := 0) (msR := 0) (c_X9_within G0 (X := X) (M := M) (nb := nb) rfl) wd_9_7 wd_15_21 wd_9_6 wd_1_2 ⟨by decide, by decide⟩ (nn := 3) (by decide) (As := [.int l2, .int (0 : Int32), .int (9999 : Int32)]) rfl rfl (Nat.le_of_ble_eq_true rfl) (by decide) (by decide) ⟨by decide, by decide⟩ dX9_asks_14 ?_
    refine g_if_eq (tgt := 42) F dX9_asks_17 (by decide) h (fun a32 h => ?_) (fun a32 h => ?_)
    · refine g_bipush F dX9_asks_42 (v := -2) (by decide) ?_
      have hp := Prod.mk.inj (Option.some.inj h)
      exact g_iret F hr9 rfl hl9 hp.1 (by rw [hp.2]) (by decide) (by decide) dX9_asks_44
    · refine g_iload_n (i := 3) F dX9_asks_20 rfl rfl ?_
      refine g_iconst F dX9_asks_21 (v := 0) (by decide) ?_
      refine g_sipush F dX9_asks_22 (v := 9999) (by decide) ?_
      refine g_callSI F (mcR := 0) (msR := 0) (c_X9_within G0 (X := X) (M := M) (nb := nb) rfl) wd_9_7 wd_15_21 wd_9_6 wd_1_2 ⟨by decide, by decide⟩ (nn := 3) (by decide) (As := [.int l3, .int (0 : Int32), .int (9999 : Int32)]) rfl rfl (Nat.le_of_ble_eq_true rfl) (by decide) (by decide) ⟨by decide, by decide⟩ dX9_asks_25 ?_
      refine g_if_eq (tgt := 42) F dX9_asks_28 (by decide) h (fun a31 h => ?_) (fun a31 h => ?_)
      · refine g_bipush F dX9_asks_42 (v := -2) (by decide) ?_
        have hp := Prod.mk.inj (Option.some.inj h)
        exact g_iret F hr9 rfl hl9 hp.1 (by rw [hp.2]) (by decide) (by decide) dX9_asks_44
      · refine g_iload (i := 4) F dX9_asks_31 rfl ?_
        refine g_iconst F dX9_asks_33 (v := 0) (by decide) ?_
        refine g_bipush F dX9_asks_34 (v := 39) (by decide) ?_
        refine g_callSI F (mcR := 0) (msR := 0) (c_X9_within G0 (X := X) (M := M) (nb := nb) rfl) wd_9_7 wd_15_21 wd_9_6 wd_1_2 ⟨by decide, by decide⟩ (nn := 3) (by decide) (As := [.int l4, .int (0 : Int32), .int (39 : Int32)]) rfl rfl (Nat.le_of_ble_eq_true rfl) (by decide) (by decide) ⟨by decide, by decide⟩ dX9_asks_36 ?_
        refine g_if_ne (tgt := 45) F dX9_asks_39 (by decide) h (fun a30 h => ?_) (fun a30 h => ?_)
        · refine g_aload_n (i := 0) F dX9_asks_45 rfl rfl ?_
          refine g_get_9_3 F rfl (kd_lit (by decide)) wd_2_1 dX9_asks_46 ?_
          refine g_get_7_1 F rfl (kd_lit (by decide)) wd_20_7 dX9_asks_49 ?_
          refine g_astore (i := 5) (lv' := [(5, .ref (ev 0 + 11)), (0, .ref (ev 0 + 0)), (1, .int l1), (2, .int l2), (3, .int l3), (4, .int l4)]) F dX9_asks_52 (by decide) rfl ?_
          refine g_aload (i := 5) F dX9_asks_54 rfl ?_
          refine g_iconst F dX9_asks_56 (v := 0) (by decide) ?_
          refine g_iload_n (i := 2) F dX9_asks_57 rfl rfl ?_
          refine g_bipush F dX9_asks_58 (v := 100) (by decide) ?_
          refine g_idiv F dX9_asks_60 (by decide) ?_
          obtain ⟨h9, h⟩ := if_at h
          obtain ⟨X10, e11, h⟩ := bd_at h
          refine g_istX F rfl rfl h9 dX9_asks_61 ?_
          rw [← e11]
          refine g_aload (i := 5) F dX9_asks_62 rfl ?_
          refine g_iconst F dX9_asks_64 (v := 1) (by decide) ?_
          refine g_iload_n (i := 2) F dX9_asks_65 rfl rfl ?_
          refine g_bipush F dX9_asks_66 (v := 100) (by decide) ?_
          refine g_irem F dX9_asks_68 (by decide) ?_
          obtain ⟨h12, h⟩ := if_at h
          obtain ⟨X13, e14, h⟩ := bd_at h
          refine g_istX F rfl rfl h12 dX9_asks_69 ?_
          rw [← e14]
          refine g_aload (i := 5) F dX9_asks_70 rfl ?_
          refine g_iconst F dX9_asks_72 (v := 2) (by decide) ?_
          refine g_iload_n (i := 3) F dX9_asks_73 rfl rfl ?_
          refine g_bipush F dX9_asks_74 (v := 100) (by decide) ?_
          refine g_idiv F dX9_asks_76 (by decide) ?_
          obtain ⟨h15, h⟩ := if_at h
          obtain ⟨X16, e17, h⟩ := bd_at h
          refine g_istX F rfl rfl h15 dX9_asks_77 ?_
          rw [← e17]
          refine g_aload (i := 5) F dX9_asks_78 rfl ?_
          refine g_iconst F dX9_asks_80 (v := 3) (by decide) ?_
          refine g_iload_n (i := 3) F dX9_asks_81 rfl rfl ?_
          refine g_bipush F dX9_asks_82 (v := 100) (by decide) ?_
          refine g_irem F dX9_asks_84 (by decide) ?_
          obtain ⟨h18, h⟩ := if_at h
          obtain ⟨X19, e20, h⟩ := bd_at h
          refine g_istX F rfl rfl h18 dX9_asks_85 ?_
          rw [← e20]
          refine g_aload (i := 5) F dX9_asks_86 rfl ?_
          refine g_iconst F dX9_asks_88 (v := 4) (by decide) ?_
          refine g_iload (i := 4) F dX9_asks_89 rfl ?_
          refine g_bipush F dX9_asks_91 (v := 10) (by decide) ?_
          refine g_idiv F dX9_asks_93 (by decide) ?_
          obtain ⟨h21, h⟩ := if_at h
          obtain ⟨X22, e23, h⟩ := bd_at h
          refine g_istX F rfl rfl h21 dX9_asks_94 ?_
          rw [← e23]
          refine g_aload (i := 5) F dX9_asks_95 rfl ?_
          refine g_iconst F dX9_asks_97 (v := 5) (by decide) ?_
          refine g_iload (i := 4) F dX9_asks_98 rfl ?_
          refine g_bipush F dX9_asks_100 (v := 10) (by decide) ?_
          refine g_irem F dX9_asks_102 (by decide) ?_
          obtain ⟨h24, h⟩ := if_at h
          obtain ⟨X25, e26, h⟩ := bd_at h
          refine g_istX F rfl rfl h24 dX9_asks_103 ?_
          rw [← e26]
          refine g_aload_n (i := 0) F dX9_asks_104 rfl rfl ?_
          refine g_get_9_3 F rfl (kd_lit (by decide)) wd_2_1 dX9_asks_105 ?_
          refine g_iload_n (i := 1) F dX9_asks_108 rfl rfl ?_
          obtain ⟨v28, X27, e29, h⟩ := bd2_at h
          refine g_callVI F (mcR := 0) (msR := 0) (id := 10) (cells_at (kd_lit (i := 10) (by decide)) (xc_7 rfl)) (ci := 7) rfl rfl rfl (c_X7_says G0 e29) wd_20_11 wd_20_8 wd_20_9 wd_20_10 wd_2_0 ⟨by decide, by decide⟩ (nn := 1) (by decide) (As := [.int l1]) rfl rfl (Nat.le_of_ble_eq_true rfl) (by decide) (by decide) ⟨by decide, by decide⟩ dX9_asks_109 ?_
          have hp := Prod.mk.inj (Option.some.inj h)
          exact g_iret F hr9 rfl hl9 hp.1 (by rw [hp.2]) (by decide) (by decide) dX9_asks_112
        · refine g_bipush F dX9_asks_42 (v := -2) (by decide) ?_
          have hp := Prod.mk.inj (Option.some.inj h)
          exact g_iret F hr9 rfl hl9 hp.1 (by rw [hp.2]) (by decide) (by decide) dX9_asks_44
def fX9_boatOf (X : XW) (l1 : Int32) : Option (Option Nat) :=
  if (fX9_within l1 (0 : Int32) ((X.1 0 12) - (1 : Int32))) = 0 then some none
  else (rdR (X.2.2 13) 6 l1).bind fun r3 =>
  some r3
set_option maxRecDepth 100000 in
set_option maxHeartbeats 4000000 in
theorem c_X9_boatOf {l : Launch} {s0 : State} {D : va_G} {ev : Nat → Nat} (G0 : Gl s0 D ev) {X : XW} {M : MW} {nb : Nat} {l1 : Int32} {r' : Option Nat}  (h : fX9_boatOf X l1 = some r') : CT l s0 D ev yX9_boatOf cX9_boatOf 2 (some (.object "AnchorThatDrags$Boat")) 1 0 0 [.ref (ev 0 + 0), .int l1] (cells ev X M nb) (QR s0 D ev (Option.map (fun k => ev 0 + k) r') (cells ev X M nb)) := by
  refine ct_of G0 (by decide) (Nat.le_of_ble_eq_true rfl) ?_
  intro p9 e9 s9 m9 args9 below9 meth9 c9 F hr9 hl9 hin9 hargs9 hts9
  rw [fX9_boatOf] at h
  refine g_lv (lv' := [(0, .ref (ev 0 + 0)), (1, .int l1)]) ⟨rfl, rfl, trivial⟩ ?_
  refine g_iload_n (i := 1) F dX9_boatOf_0 rfl rfl ?_
  refine g_iconst F dX9_boatOf_1 (v := 0) (by decide) ?_
  refine g_aload_n (i := 0) F dX9_boatOf_2 rfl rfl ?_
  refine g_get_9_12 F rfl (kd_lit (by decide)) wd_2_20 dX9_boatOf_3 ?_
  refine g_iconst F dX9_boatOf_6 (v := 1) (by decide) ?_
  refine g_isub F dX9_boatOf_7 ?_
  refine g_callSI F (mcR := 0) (msR := 0) (c_X9_within G0 (X := X) (M := M) (nb := nb) rfl) wd_9_7 wd_15_21 wd_9_6 wd_1_2 ⟨by decide, by decide⟩ (nn := 3) (by decide) (As := [.int l1, .int (0 : Int32), .int ((X.1 0 12) - (1 : Int32))]) rfl rfl (Nat.le_of_ble_eq_true rfl) (by decide) (by decide) ⟨by decide, by decide⟩ dX9_boatOf_8 ?_
  refine g_if_eq (tgt := 23) F dX9_boatOf_11 (by decide) h (fun a5 h => ?_) (fun a5 h => ?_)
  · refine g_null F dX9_boatOf_23 ?_
    exact g_aret F hr9 (Or.inl ⟨_, rfl⟩) hl9 (by rw [← (Option.some.inj h)]; rfl) rfl (by decide) (by decide) dX9_boatOf_24
  · refine g_aload_n (i := 0) F dX9_boatOf_14 rfl rfl ?_
    refine g_get_9_4 F rfl (kd_lit (by decide)) wd_2_3 dX9_boatOf_15 ?_
    refine g_iload_n (i := 1) F dX9_boatOf_18 rfl rfl ?_
    obtain ⟨r3, e4, h⟩ := bind_at h
    refine g_aldB F e4 dX9_boatOf_19 ?_
    refine g_goto (tgt := 24) F dX9_boatOf_20 (by decide) ?_
    exact g_aret F hr9 (Or.inl ⟨_, rfl⟩) hl9 (by rw [← (Option.some.inj h)]; rfl) rfl (by decide) (by decide) dX9_boatOf_24
def fX9_let_b42 (nb : Nat) (X : XW) (l2 : Int32) (l3 : Int32) (l4 : Option Nat) : Option (Int32 × XW) :=
  if l2 = (1 : Int32) then if (fX9_within l3 (1 : Int32) (40 : Int32)) = 0 then some ((-7 : Int32), X)
  else (l4).bind fun b7 =>
  if NS ≤ b7 ∧ b7 < TT nb then bd (X.1 b7 5) fun v10 =>
  bd (xI X b7 5 l3) fun X12 =>
  some (v10, X12) else none
  else some ((-7 : Int32), X)
def fX9_let (X : XW) (nb : Nat) (l1 : Int32) (l2 : Int32) (l3 : Int32) : Option (Int32 × XW) :=
  (fX9_boatOf X l1).bind fun r1 =>
  oc r1 (some ((-5 : Int32), X)) (fun b3 => if l2 = 0 then if (fX9_isCell l3) = 0 then fX9_let_b42 nb X l2 l3 (some b3)
  else if NS ≤ b3 ∧ b3 < TT nb then bd (X.1 b3 4) fun v19 =>
  bd (xI X b3 4 l3) fun X21 =>
  some (v19, X21) else none
  else fX9_let_b42 nb X l2 l3 (some b3))
set_option maxRecDepth 100000 in
set_option maxHeartbeats 4000000 in
theorem c_X9_let {l : Launch} {s0 : State} {D : va_G} {ev : Nat → Nat} (G0 : Gl s0 D ev) {X : XW} {M : MW} {nb : Nat} {l1 : Int32} {l2 : Int32} {l3 : Int32} {r' : Int32} {X' : XW}  (h : fX9_let X nb l1 l2 l3 = some (r', X')) : CT l s0 D ev yX9_let cX9_let 6 (some .int) 2 0 0 [.ref (ev 0 + 0), .int l1, .int l2, .int l3] (cells ev X M nb) (QI s0 D ev r' (cells ev X' M nb)) := by
  refine ct_of G0 (by decide) (Nat.le_of_ble_eq_true rfl) ?_
  intro p9 e9 s9 m9 args9 below9 meth9 c9 F hr9 hl9 hin9 hargs9 hts9
  have U42 : ∀ (X : XW) (l2 : Int32) (l3 : Int32) (l4 : Option Nat), fX9_let_b42 nb X l2 l3 l4 = some (r', X') → GJ p9 l e9 (rg 2 0 0) s9 m9 args9 below9 meth9 c9 (MQ below9 (QI s0 D ev r' (cells ev X' M nb)) args9 s9 0 0 (frA ev)) s0 D ev 6 0 0 42 [(2, .int l2), (3, .int l3), (4, zr ev l4)] ([]) (cells ev X M nb) := by
    intro X l2 l3 l4 h
    rw [fX9_let_b42] at h
    refine g_iload_n (i := 2) F dX9_let_42 rfl rfl ?_
    refine g_iconst F dX9_let_43 (v := 1) (by decide) ?_
    refine g_icmp_ne (tgt := 73) F dX9_let_44 (by decide) h (fun a15 h => ?_) (fun a15 h => ?_)
    · refine g_bipush F dX9_let_73 (v := -7) (by decide) ?_
      have hp := Prod.mk.inj (Option.some.inj h)
      exact g_iret F hr9 rfl hl9 hp.1 (by rw [hp.2]) (by decide) (by decide) dX9_let_75
    · refine g_iload_n (i := 3) F dX9_let_47 rfl rfl ?_
      refine g_iconst F dX9_let_48 (v := 1) (by decide) ?_
      refine g_bipush F dX9_let_49 (v := 40) (by decide) ?_
      refine g_callSI F (mcR := 0) (msR := 0) (c_X9_within G0 (X := X) (M := M) (nb := nb) rfl) wd_9_7 wd_15_21 wd_9_6 wd_1_2 ⟨by decide, by decide⟩ (nn := 3) (by decide) (As := [.int l3, .int (1 : Int32), .int (40 : Int32)]) rfl rfl (Nat.le_of_ble_eq_true rfl) (by decide) (by decide) ⟨by decide, by decide⟩ dX9_let_51 ?_
      refine g_if_eq (tgt := 73) F dX9_let_54 (by decide) h (fun a14 h => ?_) (fun a14 h => ?_)
      · refine g_bipush F dX9_let_73 (v := -7) (by decide) ?_
        have hp := Prod.mk.inj (Option.some.inj h)
        exact g_iret F hr9 rfl hl9 hp.1 (by rw [hp.2]) (by decide) (by decide) dX9_let_75
      · refine g_zaload (i := 4) F dX9_let_57 rfl ?_
        obtain ⟨b7, e8, h⟩ := bind_at h
        rw [e8]
        obtain ⟨h9, h⟩ := if_at h
        refine g_get_1_5 F (kd_b h9) h9.2 wd_22_19 dX9_let_59 ?_
        refine g_topi F h (fun v10 e11 h => ?_)
        refine g_istore (i := 5) (lv' := [(5, .int v10), (2, .int l2), (3, .int l3), (4, .ref (ev 0 + b7))]) F dX9_let_62 (by decide) rfl ?_
        refine g_aload (i := 4) F dX9_let_64 rfl ?_
        refine g_iload_n (i := 3) F dX9_let_66 rfl rfl ?_
        obtain ⟨X12, e13, h⟩ := bd_at h
        refine g_put_1_5 F (kd_b h9) h9.2 wd_22_19 dX9_let_67 ?_
        rw [← e13]
        refine g_iload (i := 5) F dX9_let_70 rfl ?_
        have hp := Prod.mk.inj (Option.some.inj h)
        exact g_iret F hr9 rfl hl9 hp.1 (by rw [hp.2]) (by decide) (by decide) dX9_let_72
  rw [fX9_let] at h
  refine g_lv (lv' := [(0, .ref (ev 0 + 0)), (1, .int l1), (2, .int l2), (3, .int l3)]) ⟨rfl, rfl, rfl, rfl, trivial⟩ ?_
  refine g_aload_n (i := 0) F dX9_let_0 rfl rfl ?_
  refine g_iload_n (i := 1) F dX9_let_1 rfl rfl ?_
  obtain ⟨r1, e2, h⟩ := bind_at h
  refine g_callVR F (mcR := 0) (msR := 0) (id := 0) (cells_at (kd_lit (i := 0) (by decide)) (xc_9 rfl)) (ci := 9) rfl rfl rfl (c_X9_boatOf G0 e2) wd_22_23 wd_22_20 wd_22_21 wd_22_22 wd_1_2 ⟨by decide, by decide⟩ (nn := 1) (by decide) (As := [.int l1]) rfl rfl (Nat.le_of_ble_eq_true rfl) (by decide) (by decide) ⟨by decide, by decide⟩ dX9_let_2 ?_
  refine g_zastore (i := 4) (lv' := [(4, zr ev r1), (0, .ref (ev 0 + 0)), (1, .int l1), (2, .int l2), (3, .int l3)]) F dX9_let_5 (by decide) rfl ?_
  refine g_zaload (i := 4) F dX9_let_7 rfl ?_
  rcases oc_at h with ⟨e4, h⟩ | ⟨b3, e4, h⟩
  · rw [e4]
    refine g_ifnnN F dX9_let_9 ?_
    refine g_bipush F dX9_let_12 (v := -5) (by decide) ?_
    have hp := Prod.mk.inj (Option.some.inj h)
    exact g_iret F hr9 rfl hl9 hp.1 (by rw [hp.2]) (by decide) (by decide) dX9_let_14
  · rw [e4]
    refine g_ifnn (tgt := 15) F dX9_let_9 (by decide) ?_
    refine g_iload_n (i := 2) F dX9_let_15 rfl rfl ?_
    refine g_if_ne (tgt := 42) F dX9_let_16 (by decide) h (fun a24 h => ?_) (fun a24 h => ?_)
    · refine g_lv (lv' := [(2, .int l2), (3, .int l3), (4, zr ev (some b3))]) ⟨rfl, rfl, rfl, trivial⟩ ?_
      exact U42 _ _ _ _ h
    · refine g_iload_n (i := 3) F dX9_let_19 rfl rfl ?_
      refine g_callSI F (mcR := 0) (msR := 0) (c_X9_isCell G0 (X := X) (M := M) (nb := nb) rfl) wd_15_20 wd_15_18 wd_15_19 wd_1_2 ⟨by decide, by decide⟩ (nn := 1) (by decide) (As := [.int l3]) rfl rfl (Nat.le_of_ble_eq_true rfl) (by decide) (by decide) ⟨by decide, by decide⟩ dX9_let_20 ?_
      refine g_if_eq (tgt := 42) F dX9_let_23 (by decide) h (fun a23 h => ?_) (fun a23 h => ?_)
      · refine g_lv (lv' := [(2, .int l2), (3, .int l3), (4, zr ev (some b3))]) ⟨rfl, rfl, rfl, trivial⟩ ?_
        exact U42 _ _ _ _ h
      · refine g_aload (i := 4) F dX9_let_26 rfl ?_
        obtain ⟨h18, h⟩ := if_at h
        refine g_get_1_4 F (kd_b h18) h18.2 wd_22_18 dX9_let_28 ?_
        refine g_topi F h (fun v19 e20 h => ?_)
        refine g_istore (i := 5) (lv' := [(5, .int v19), (4, .ref (ev 0 + b3)), (0, .ref (ev 0 + 0)), (1, .int l1), (2, .int l2), (3, .int l3)]) F dX9_let_31 (by decide) rfl ?_
        refine g_aload (i := 4) F dX9_let_33 rfl ?_
        refine g_iload_n (i := 3) F dX9_let_35 rfl rfl ?_
        obtain ⟨X21, e22, h⟩ := bd_at h
        refine g_put_1_4 F (kd_b h18) h18.2 wd_22_18 dX9_let_36 ?_
        rw [← e22]
        refine g_iload (i := 5) F dX9_let_39 rfl ?_
        have hp := Prod.mk.inj (Option.some.inj h)
        exact g_iret F hr9 rfl hl9 hp.1 (by rw [hp.2]) (by decide) (by decide) dX9_let_41
def fX9_boatTold (X : XW) (nb : Nat) (l1 : Int32) (l2 : Int32) : Option Int32 :=
  (fX9_boatOf X l1).bind fun r1 =>
  oc r1 (some (-5 : Int32)) (fun b3 => if l2 = (0 : Int32) then if NS ≤ b3 ∧ b3 < TT nb then some (X.1 b3 0) else none
  else if l2 = (1 : Int32) then if NS ≤ b3 ∧ b3 < TT nb then some (X.1 b3 1) else none
  else if l2 = (2 : Int32) then if NS ≤ b3 ∧ b3 < TT nb then some (X.1 b3 2) else none
  else if l2 = (3 : Int32) then if NS ≤ b3 ∧ b3 < TT nb then some (X.1 b3 3) else none
  else if l2 = (4 : Int32) then if NS ≤ b3 ∧ b3 < TT nb then some (X.1 b3 4) else none
  else if l2 = (5 : Int32) then if NS ≤ b3 ∧ b3 < TT nb then some (X.1 b3 5) else none
  else some (-7 : Int32))
set_option maxRecDepth 100000 in
set_option maxHeartbeats 4000000 in
theorem c_X9_boatTold {l : Launch} {s0 : State} {D : va_G} {ev : Nat → Nat} (G0 : Gl s0 D ev) {X : XW} {M : MW} {nb : Nat} {l1 : Int32} {l2 : Int32} {r' : Int32}  (h : fX9_boatTold X nb l1 l2 = some r') : CT l s0 D ev yX9_boatTold cX9_boatTold 4 (some .int) 2 0 0 [.ref (ev 0 + 0), .int l1, .int l2] (cells ev X M nb) (QI s0 D ev r' (cells ev X M nb)) := by
  refine ct_of G0 (by decide) (Nat.le_of_ble_eq_true rfl) ?_
  intro p9 e9 s9 m9 args9 below9 meth9 c9 F hr9 hl9 hin9 hargs9 hts9
  rw [fX9_boatTold] at h
  refine g_lv (lv' := [(0, .ref (ev 0 + 0)), (1, .int l1), (2, .int l2)]) ⟨rfl, rfl, rfl, trivial⟩ ?_
  refine g_aload_n (i := 0) F dX9_boatTold_0 rfl rfl ?_
  refine g_iload_n (i := 1) F dX9_boatTold_1 rfl rfl ?_
  obtain ⟨r1, e2, h⟩ := bind_at h
  refine g_callVR F (mcR := 0) (msR := 0) (id := 0) (cells_at (kd_lit (i := 0) (by decide)) (xc_9 rfl)) (ci := 9) rfl rfl rfl (c_X9_boatOf G0 e2) wd_22_23 wd_22_20 wd_22_21 wd_22_22 wd_1_2 ⟨by decide, by decide⟩ (nn := 1) (by decide) (As := [.int l1]) rfl rfl (Nat.le_of_ble_eq_true rfl) (by decide) (by decide) ⟨by decide, by decide⟩ dX9_boatTold_2 ?_
  refine g_zastore_n (i := 3) (lv' := [(3, zr ev r1), (0, .ref (ev 0 + 0)), (1, .int l1), (2, .int l2)]) F dX9_boatTold_5 rfl (by decide) rfl ?_
  refine g_zaload_n (i := 3) F dX9_boatTold_6 rfl rfl ?_
  rcases oc_at h with ⟨e4, h⟩ | ⟨b3, e4, h⟩
  · rw [e4]
    refine g_ifnnN F dX9_boatTold_7 ?_
    refine g_bipush F dX9_boatTold_10 (v := -5) (by decide) ?_
    exact g_iret F hr9 rfl hl9 (Option.some.inj h) rfl (by decide) (by decide) dX9_boatTold_12
  · rw [e4]
    refine g_ifnn (tgt := 13) F dX9_boatTold_7 (by decide) ?_
    refine g_iload_n (i := 2) F dX9_boatTold_13 rfl rfl ?_
    refine ite_at h (fun a5 h => ?_) (fun a5 h => ?_)
    · refine g_tsw (k := 0) (off := 38) (tgt := 52) F a5 dX9_boatTold_14 (by decide) (by decide) (by decide) (by decide) ?_
      refine g_aload_n (i := 3) F dX9_boatTold_52 rfl rfl ?_
      obtain ⟨h11, h⟩ := if_at h
      refine g_get_1_0 F (kd_b h11) h11.2 wd_23_12 dX9_boatTold_53 ?_
      exact g_iret F hr9 rfl hl9 (Option.some.inj h) rfl (by decide) (by decide) dX9_boatTold_56
    · refine ite_at h (fun a6 h => ?_) (fun a6 h => ?_)
      · refine g_tsw (k := 1) (off := 43) (tgt := 57) F a6 dX9_boatTold_14 (by decide) (by decide) (by decide) (by decide) ?_
        refine g_aload_n (i := 3) F dX9_boatTold_57 rfl rfl ?_
        obtain ⟨h12, h⟩ := if_at h
        refine g_get_1_1 F (kd_b h12) h12.2 wd_23_13 dX9_boatTold_58 ?_
        exact g_iret F hr9 rfl hl9 (Option.some.inj h) rfl (by decide) (by decide) dX9_boatTold_61
      · refine ite_at h (fun a7 h => ?_) (fun a7 h => ?_)
        · refine g_tsw (k := 2) (off := 48) (tgt := 62) F a7 dX9_boatTold_14 (by decide) (by decide) (by decide) (by decide) ?_
          refine g_aload_n (i := 3) F dX9_boatTold_62 rfl rfl ?_
          obtain ⟨h13, h⟩ := if_at h
          refine g_get_1_2 F (kd_b h13) h13.2 wd_23_14 dX9_boatTold_63 ?_
          exact g_iret F hr9 rfl hl9 (Option.some.inj h) rfl (by decide) (by decide) dX9_boatTold_66
        · refine ite_at h (fun a8 h => ?_) (fun a8 h => ?_)
          · refine g_tsw (k := 3) (off := 53) (tgt := 67) F a8 dX9_boatTold_14 (by decide) (by decide) (by decide) (by decide) ?_
            refine g_aload_n (i := 3) F dX9_boatTold_67 rfl rfl ?_
            obtain ⟨h14, h⟩ := if_at h
            refine g_get_1_3 F (kd_b h14) h14.2 wd_23_15 dX9_boatTold_68 ?_
            exact g_iret F hr9 rfl hl9 (Option.some.inj h) rfl (by decide) (by decide) dX9_boatTold_71
          · refine ite_at h (fun a9 h => ?_) (fun a9 h => ?_)
            · refine g_tsw (k := 4) (off := 58) (tgt := 72) F a9 dX9_boatTold_14 (by decide) (by decide) (by decide) (by decide) ?_
              refine g_aload_n (i := 3) F dX9_boatTold_72 rfl rfl ?_
              obtain ⟨h15, h⟩ := if_at h
              refine g_get_1_4 F (kd_b h15) h15.2 wd_22_18 dX9_boatTold_73 ?_
              exact g_iret F hr9 rfl hl9 (Option.some.inj h) rfl (by decide) (by decide) dX9_boatTold_76
            · refine ite_at h (fun a10 h => ?_) (fun a10 h => ?_)
              · refine g_tsw (k := 5) (off := 63) (tgt := 77) F a10 dX9_boatTold_14 (by decide) (by decide) (by decide) (by decide) ?_
                refine g_aload_n (i := 3) F dX9_boatTold_77 rfl rfl ?_
                obtain ⟨h16, h⟩ := if_at h
                refine g_get_1_5 F (kd_b h16) h16.2 wd_22_19 dX9_boatTold_78 ?_
                exact g_iret F hr9 rfl hl9 (Option.some.inj h) rfl (by decide) (by decide) dX9_boatTold_81
              · have q0 : l2.toInt ≠ 0 := fun q => a5 (Int32.toInt_inj.mp (q.trans (by decide)))
                have q1 : l2.toInt ≠ 1 := fun q => a6 (Int32.toInt_inj.mp (q.trans (by decide)))
                have q2 : l2.toInt ≠ 2 := fun q => a7 (Int32.toInt_inj.mp (q.trans (by decide)))
                have q3 : l2.toInt ≠ 3 := fun q => a8 (Int32.toInt_inj.mp (q.trans (by decide)))
                have q4 : l2.toInt ≠ 4 := fun q => a9 (Int32.toInt_inj.mp (q.trans (by decide)))
                have q5 : l2.toInt ≠ 5 := fun q => a10 (Int32.toInt_inj.mp (q.trans (by decide)))
                refine g_tswd (tgt := 82) F (by omega) dX9_boatTold_14 (by decide) ?_
                refine g_bipush F dX9_boatTold_82 (v := -7) (by decide) ?_
                exact g_iret F hr9 rfl hl9 (Option.some.inj h) rfl (by decide) (by decide) dX9_boatTold_84
def fX9_refusal (X : XW) (nb : Nat) (l0 : Option Nat) (l1 : Int32) : Option Int32 :=
  oc l0 (some (-5 : Int32)) (fun b1 => if l1 = 0 then some (-7 : Int32)
  else if NS ≤ b1 ∧ b1 < TT nb then (fX1_isGone X nb b1).bind fun v4 =>
  if v4 = 0 then some (0 : Int32)
  else some (-3 : Int32) else none)
set_option maxRecDepth 100000 in
set_option maxHeartbeats 4000000 in
theorem c_X9_refusal {l : Launch} {s0 : State} {D : va_G} {ev : Nat → Nat} (G0 : Gl s0 D ev) {X : XW} {M : MW} {nb : Nat} {l0 : Option Nat} {l1 : Int32} {r' : Int32}  (h : fX9_refusal X nb l0 l1 = some r') : CT l s0 D ev yX9_refusal cX9_refusal 2 (some .int) 1 0 0 [zr ev l0, .int l1] (cells ev X M nb) (QI s0 D ev r' (cells ev X M nb)) := by
  refine ct_of G0 (by decide) (by cases l0 <;> exact (Nat.le_of_ble_eq_true rfl)) ?_
  intro p9 e9 s9 m9 args9 below9 meth9 c9 F hr9 hl9 hin9 hargs9 hts9
  rw [fX9_refusal] at h
  refine g_lv (lv' := [(0, zr ev l0), (1, .int l1)]) (by cases l0 <;> exact ⟨rfl, rfl, trivial⟩) ?_
  refine g_zaload_n (i := 0) F dX9_refusal_0 rfl rfl ?_
  rcases oc_at h with ⟨e2, h⟩ | ⟨b1, e2, h⟩
  · rw [e2]
    refine g_ifnnN F dX9_refusal_1 ?_
    refine g_bipush F dX9_refusal_4 (v := -5) (by decide) ?_
    exact g_iret F hr9 rfl hl9 (Option.some.inj h) rfl (by decide) (by decide) dX9_refusal_6
  · rw [e2]
    refine g_ifnn (tgt := 7) F dX9_refusal_1 (by decide) ?_
    refine g_iload_n (i := 1) F dX9_refusal_7 rfl rfl ?_
    refine g_if_ne (tgt := 14) F dX9_refusal_8 (by decide) h (fun a7 h => ?_) (fun a7 h => ?_)
    · refine g_aload_n (i := 0) F dX9_refusal_14 rfl rfl ?_
      obtain ⟨h3, h⟩ := if_at h
      obtain ⟨v4, e5, h⟩ := bind_at h
      refine g_callVI F (mcR := 0) (msR := 0) (id := b1) (cells_at h3.2 (xc_1 (kd_b h3))) (ci := 1) rfl rfl rfl (c_X1_isGone G0 e5) wd_24_6 wd_24_3 wd_24_4 wd_24_5 wd_21_23 ⟨by decide, by decide⟩ (nn := 0) (by decide) (As := []) rfl rfl (Nat.le_of_ble_eq_true rfl) (by decide) (by decide) ⟨by decide, by decide⟩ dX9_refusal_15 ?_
      refine g_if_eq (tgt := 26) F dX9_refusal_18 (by decide) h (fun a6 h => ?_) (fun a6 h => ?_)
      · refine g_iconst F dX9_refusal_26 (v := 0) (by decide) ?_
        exact g_iret F hr9 rfl hl9 (Option.some.inj h) rfl (by decide) (by decide) dX9_refusal_27
      · refine g_bipush F dX9_refusal_21 (v := -3) (by decide) ?_
        refine g_goto (tgt := 27) F dX9_refusal_23 (by decide) ?_
        exact g_iret F hr9 rfl hl9 (Option.some.inj h) rfl (by decide) (by decide) dX9_refusal_27
    · refine g_bipush F dX9_refusal_11 (v := -7) (by decide) ?_
      exact g_iret F hr9 rfl hl9 (Option.some.inj h) rfl (by decide) (by decide) dX9_refusal_13
def fX9_hold_b30 (nb : Nat) (X : XW) (l2 : Int32) (l3 : Int32) (l4 : Option Nat) (t0 : Option Nat) (t1 : Int32) : Option (Int32 × XW) :=
  (fX9_refusal X nb t0 t1).bind fun v5 =>
  oc l4 (some (v5, X)) (fun b7 => if v5 = 0 then if NS ≤ b7 ∧ b7 < TT nb then (fX0_deepOf X (X.1 b7 4) l2).bind fun v10 =>
  if l3 = (0 : Int32) then bd2 (fX7_pullOn X nb b7 (X.1 b7 4) (X.1 b7 5) l2) fun v16 X15 =>
  some (v16, X15)
  else if l3 = (1 : Int32) then bd2 (fX7_powerOf X nb b7 (X.1 b7 4) (X.1 b7 5) l2) fun v19 X18 =>
  some (v19, X18)
  else if l3 = (2 : Int32) then (fX0_cellsOff (X.1 b7 5) v10).bind fun v21 =>
  some (v21, X)
  else if 0 < v10 then if ((3 : Int32) * v10) = 0 then none else some ((jmin (100 : Int32) (((100 : Int32) * (X.1 b7 5)) / ((3 : Int32) * v10))), X)
  else some ((100 : Int32), X) else none
  else some (v5, X))
def fX9_hold_b29 (nb : Nat) (X : XW) (l2 : Int32) (l3 : Int32) (l4 : Option Nat) (t0 : Option Nat) : Option (Int32 × XW) :=
  fX9_hold_b30 nb X l2 l3 l4 t0 (0 : Int32)
def fX9_hold (X : XW) (nb : Nat) (l1 : Int32) (l2 : Int32) (l3 : Int32) : Option (Int32 × XW) :=
  (fX9_boatOf X l1).bind fun r1 =>
  if (fX9_isHour l2) = 0 then fX9_hold_b29 nb X l2 l3 r1 r1
  else if (fX9_within l3 (0 : Int32) (3 : Int32)) = 0 then fX9_hold_b29 nb X l2 l3 r1 r1
  else fX9_hold_b30 nb X l2 l3 r1 r1 (1 : Int32)
set_option maxRecDepth 100000 in
set_option maxHeartbeats 4000000 in
theorem c_X9_hold {l : Launch} {s0 : State} {D : va_G} {ev : Nat → Nat} (G0 : Gl s0 D ev) {X : XW} {M : MW} {nb : Nat} {l1 : Int32} {l2 : Int32} {l3 : Int32} {r' : Int32} {X' : XW}  (h : fX9_hold X nb l1 l2 l3 = some (r', X')) : CT l s0 D ev yX9_hold cX9_hold 7 (some .int) 5 0 0 [.ref (ev 0 + 0), .int l1, .int l2, .int l3] (cells ev X M nb) (QI s0 D ev r' (cells ev X' M nb)) := by
  refine ct_of G0 (by decide) (Nat.le_of_ble_eq_true rfl) ?_
  intro p9 e9 s9 m9 args9 below9 meth9 c9 F hr9 hl9 hin9 hargs9 hts9
  have U30 : ∀ (X : XW) (l2 : Int32) (l3 : Int32) (l4 : Option Nat) (t0 : Option Nat) (t1 : Int32), fX9_hold_b30 nb X l2 l3 l4 t0 t1 = some (r', X') → GJ p9 l e9 (rg 5 0 0) s9 m9 args9 below9 meth9 c9 (MQ below9 (QI s0 D ev r' (cells ev X' M nb)) args9 s9 0 0 (frA ev)) s0 D ev 7 0 0 30 [(0, .ref (ev 0 + 0)), (2, .int l2), (3, .int l3), (4, zr ev l4)] (.int t1 :: zr ev t0 :: []) (cells ev X M nb) := by
    intro X l2 l3 l4 t0 t1 h
    rw [fX9_hold_b30] at h
    obtain ⟨v5, e6, h⟩ := bind_at h
    refine g_callSI F (mcR := 0) (msR := 0) (c_X9_refusal G0 e6) wd_24_2 wd_24_0 wd_24_1 wd_1_2 ⟨by decide, by decide⟩ (nn := 2) (by decide) (As := [zr ev t0, .int t1]) rfl rfl (Nat.le_of_ble_eq_true rfl) (by decide) (by decide) ⟨by decide, by decide⟩ dX9_hold_30 ?_
    refine g_istore (i := 5) (lv' := [(5, .int v5), (0, .ref (ev 0 + 0)), (2, .int l2), (3, .int l3), (4, zr ev l4)]) F dX9_hold_33 (by decide) (by cases l4 <;> exact rfl) ?_
    refine g_zaload (i := 4) F dX9_hold_35 rfl ?_
    rcases oc_at h with ⟨e8, h⟩ | ⟨b7, e8, h⟩
    · rw [e8]
      refine g_ifnN (tgt := 45) F dX9_hold_37 (by decide) ?_
      refine g_iload (i := 5) F dX9_hold_45 rfl ?_
      have hp := Prod.mk.inj (Option.some.inj h)
      exact g_iret F hr9 rfl hl9 hp.1 (by rw [hp.2]) (by decide) (by decide) dX9_hold_47
    · rw [e8]
      refine g_ifn F dX9_hold_37 ?_
      refine g_iload (i := 5) F dX9_hold_40 rfl ?_
      refine g_if_eq (tgt := 48) F dX9_hold_42 (by decide) h (fun a25 h => ?_) (fun a25 h => ?_)
      · refine g_aload_n (i := 0) F dX9_hold_48 rfl rfl ?_
        refine g_get_9_0 F rfl (kd_lit (by decide)) wd_1_15 dX9_hold_49 ?_
        refine g_aload (i := 4) F dX9_hold_52 rfl ?_
        obtain ⟨h9, h⟩ := if_at h
        refine g_get_1_4 F (kd_b h9) h9.2 wd_22_18 dX9_hold_54 ?_
        refine g_iload_n (i := 2) F dX9_hold_57 rfl rfl ?_
        obtain ⟨v10, e11, h⟩ := bind_at h
        refine g_callVI F (mcR := 0) (msR := 0) (id := 1) (cells_at (kd_lit (i := 1) (by decide)) (xc_0 rfl)) (ci := 0) rfl rfl rfl (c_X0_deepOf G0 e11) wd_24_10 wd_24_7 wd_24_8 wd_24_9 wd_1_14 ⟨by decide, by decide⟩ (nn := 2) (by decide) (As := [.int (X.1 b7 4), .int l2]) rfl rfl (Nat.le_of_ble_eq_true rfl) (by decide) (by decide) ⟨by decide, by decide⟩ dX9_hold_58 ?_
        refine g_istore (i := 6) (lv' := [(6, .int v10), (5, .int v5), (0, .ref (ev 0 + 0)), (2, .int l2), (3, .int l3), (4, .ref (ev 0 + b7))]) F dX9_hold_61 (by decide) rfl ?_
        refine g_iload_n (i := 3) F dX9_hold_63 rfl rfl ?_
        refine ite_at h (fun a12 h => ?_) (fun a12 h => ?_)
        · refine g_tsw (k := 0) (off := 28) (tgt := 92) F a12 dX9_hold_64 (by decide) (by decide) (by decide) (by decide) ?_
          refine g_aload_n (i := 0) F dX9_hold_92 rfl rfl ?_
          refine g_get_9_3 F rfl (kd_lit (by decide)) wd_2_1 dX9_hold_93 ?_
          refine g_aload (i := 4) F dX9_hold_96 rfl ?_
          refine g_aload (i := 4) F dX9_hold_98 rfl ?_
          refine g_get_1_4 F (kd_b h9) h9.2 wd_22_18 dX9_hold_100 ?_
          refine g_aload (i := 4) F dX9_hold_103 rfl ?_
          refine g_get_1_5 F (kd_b h9) h9.2 wd_22_19 dX9_hold_105 ?_
          refine g_iload_n (i := 2) F dX9_hold_108 rfl rfl ?_
          obtain ⟨v16, X15, e17, h⟩ := bd2_at h
          refine g_callVI F (mcR := 0) (msR := 0) (id := 10) (cells_at (kd_lit (i := 10) (by decide)) (xc_7 rfl)) (ci := 7) rfl rfl rfl (c_X7_pullOn G0 e17) wd_24_15 wd_24_12 wd_24_13 wd_24_14 wd_2_0 ⟨by decide, by decide⟩ (nn := 4) (by decide) (As := [.ref (ev 0 + b7), .int (X.1 b7 4), .int (X.1 b7 5), .int l2]) rfl rfl (Nat.le_of_ble_eq_true rfl) (by decide) (by decide) ⟨by decide, by decide⟩ dX9_hold_109 ?_
          have hp := Prod.mk.inj (Option.some.inj h)
          exact g_iret F hr9 rfl hl9 hp.1 (by rw [hp.2]) (by decide) (by decide) dX9_hold_112
        · refine ite_at h (fun a13 h => ?_) (fun a13 h => ?_)
          · refine g_tsw (k := 1) (off := 49) (tgt := 113) F a13 dX9_hold_64 (by decide) (by decide) (by decide) (by decide) ?_
            refine g_aload_n (i := 0) F dX9_hold_113 rfl rfl ?_
            refine g_get_9_3 F rfl (kd_lit (by decide)) wd_2_1 dX9_hold_114 ?_
            refine g_aload (i := 4) F dX9_hold_117 rfl ?_
            refine g_aload (i := 4) F dX9_hold_119 rfl ?_
            refine g_get_1_4 F (kd_b h9) h9.2 wd_22_18 dX9_hold_121 ?_
            refine g_aload (i := 4) F dX9_hold_124 rfl ?_
            refine g_get_1_5 F (kd_b h9) h9.2 wd_22_19 dX9_hold_126 ?_
            refine g_iload_n (i := 2) F dX9_hold_129 rfl rfl ?_
            obtain ⟨v19, X18, e20, h⟩ := bd2_at h
            refine g_callVI F (mcR := 0) (msR := 0) (id := 10) (cells_at (kd_lit (i := 10) (by decide)) (xc_7 rfl)) (ci := 7) rfl rfl rfl (c_X7_powerOf G0 e20) wd_25_4 wd_25_1 wd_25_2 wd_25_3 wd_2_0 ⟨by decide, by decide⟩ (nn := 4) (by decide) (As := [.ref (ev 0 + b7), .int (X.1 b7 4), .int (X.1 b7 5), .int l2]) rfl rfl (Nat.le_of_ble_eq_true rfl) (by decide) (by decide) ⟨by decide, by decide⟩ dX9_hold_130 ?_
            have hp := Prod.mk.inj (Option.some.inj h)
            exact g_iret F hr9 rfl hl9 hp.1 (by rw [hp.2]) (by decide) (by decide) dX9_hold_133
          · refine ite_at h (fun a14 h => ?_) (fun a14 h => ?_)
            · refine g_tsw (k := 2) (off := 70) (tgt := 134) F a14 dX9_hold_64 (by decide) (by decide) (by decide) (by decide) ?_
              refine g_aload (i := 4) F dX9_hold_134 rfl ?_
              refine g_get_1_5 F (kd_b h9) h9.2 wd_22_19 dX9_hold_136 ?_
              refine g_iload (i := 6) F dX9_hold_139 rfl ?_
              obtain ⟨v21, e22, h⟩ := bind_at h
              refine g_callSI F (mcR := 0) (msR := 0) (c_X0_cellsOff G0 e22) wd_25_15 wd_25_13 wd_25_14 wd_1_14 ⟨by decide, by decide⟩ (nn := 2) (by decide) (As := [.int (X.1 b7 5), .int v10]) rfl rfl (Nat.le_of_ble_eq_true rfl) (by decide) (by decide) ⟨by decide, by decide⟩ dX9_hold_141 ?_
              have hp := Prod.mk.inj (Option.some.inj h)
              exact g_iret F hr9 rfl hl9 hp.1 (by rw [hp.2]) (by decide) (by decide) dX9_hold_144
            · have q0 : l3.toInt ≠ 0 := fun q => a12 (Int32.toInt_inj.mp (q.trans (by decide)))
              have q1 : l3.toInt ≠ 1 := fun q => a13 (Int32.toInt_inj.mp (q.trans (by decide)))
              have q2 : l3.toInt ≠ 2 := fun q => a14 (Int32.toInt_inj.mp (q.trans (by decide)))
              refine g_tswd (tgt := 145) F (by omega) dX9_hold_64 (by decide) ?_
              refine g_iload (i := 6) F dX9_hold_145 rfl ?_
              refine g_if_gt (tgt := 155) F dX9_hold_147 (by decide) h (fun a24 h => ?_) (fun a24 h => ?_)
              · refine g_bipush F dX9_hold_155 (v := 100) (by decide) ?_
                refine g_bipush F dX9_hold_157 (v := 100) (by decide) ?_
                refine g_aload (i := 4) F dX9_hold_159 rfl ?_
                refine g_get_1_5 F (kd_b h9) h9.2 wd_22_19 dX9_hold_161 ?_
                refine g_imul F dX9_hold_164 ?_
                refine g_iconst F dX9_hold_165 (v := 3) (by decide) ?_
                refine g_iload (i := 6) F dX9_hold_166 rfl ?_
                refine g_imul F dX9_hold_168 ?_
                refine ite_at h (fun _ h => by cases h) (fun h23 h => ?_)
                refine g_idiv F dX9_hold_169 h23 ?_
                refine g_mmin F wd_16_19 wd_16_20 wd_16_21 wd_16_22 (Nat.le_of_ble_eq_true rfl) (Nat.le_of_ble_eq_true rfl) (Nat.zero_le _) (Nat.zero_le _) dX9_hold_170 ?_
                have hp := Prod.mk.inj (Option.some.inj h)
                exact g_iret F hr9 rfl hl9 hp.1 (by rw [hp.2]) (by decide) (by decide) dX9_hold_173
              · refine g_bipush F dX9_hold_150 (v := 100) (by decide) ?_
                refine g_goto (tgt := 173) F dX9_hold_152 (by decide) ?_
                have hp := Prod.mk.inj (Option.some.inj h)
                exact g_iret F hr9 rfl hl9 hp.1 (by rw [hp.2]) (by decide) (by decide) dX9_hold_173
      · refine g_iload (i := 5) F dX9_hold_45 rfl ?_
        have hp := Prod.mk.inj (Option.some.inj h)
        exact g_iret F hr9 rfl hl9 hp.1 (by rw [hp.2]) (by decide) (by decide) dX9_hold_47
  have U29 : ∀ (X : XW) (l2 : Int32) (l3 : Int32) (l4 : Option Nat) (t0 : Option Nat), fX9_hold_b29 nb X l2 l3 l4 t0 = some (r', X') → GJ p9 l e9 (rg 5 0 0) s9 m9 args9 below9 meth9 c9 (MQ below9 (QI s0 D ev r' (cells ev X' M nb)) args9 s9 0 0 (frA ev)) s0 D ev 7 0 0 29 [(0, .ref (ev 0 + 0)), (2, .int l2), (3, .int l3), (4, zr ev l4)] (zr ev t0 :: []) (cells ev X M nb) := by
    intro X l2 l3 l4 t0 h
    rw [fX9_hold_b29] at h
    refine g_iconst F dX9_hold_29 (v := 0) (by decide) ?_
    refine g_lv (lv' := [(0, .ref (ev 0 + 0)), (2, .int l2), (3, .int l3), (4, zr ev l4)]) ⟨rfl, rfl, rfl, rfl, trivial⟩ ?_
    exact U30 _ _ _ _ _ _ h
  rw [fX9_hold] at h
  refine g_lv (lv' := [(0, .ref (ev 0 + 0)), (1, .int l1), (2, .int l2), (3, .int l3)]) ⟨rfl, rfl, rfl, rfl, trivial⟩ ?_
  refine g_aload_n (i := 0) F dX9_hold_0 rfl rfl ?_
  refine g_iload_n (i := 1) F dX9_hold_1 rfl rfl ?_
  obtain ⟨r1, e2, h⟩ := bind_at h
  refine g_callVR F (mcR := 0) (msR := 0) (id := 0) (cells_at (kd_lit (i := 0) (by decide)) (xc_9 rfl)) (ci := 9) rfl rfl rfl (c_X9_boatOf G0 e2) wd_22_23 wd_22_20 wd_22_21 wd_22_22 wd_1_2 ⟨by decide, by decide⟩ (nn := 1) (by decide) (As := [.int l1]) rfl rfl (Nat.le_of_ble_eq_true rfl) (by decide) (by decide) ⟨by decide, by decide⟩ dX9_hold_2 ?_
  refine g_zastore (i := 4) (lv' := [(4, zr ev r1), (0, .ref (ev 0 + 0)), (1, .int l1), (2, .int l2), (3, .int l3)]) F dX9_hold_5 (by decide) rfl ?_
  refine g_zaload (i := 4) F dX9_hold_7 rfl ?_
  refine g_iload_n (i := 2) F dX9_hold_9 rfl rfl ?_
  refine g_callSI F (mcR := 0) (msR := 0) (c_X9_isHour G0 (X := X) (M := M) (nb := nb) rfl) wd_17_9 wd_17_7 wd_17_8 wd_1_2 ⟨by decide, by decide⟩ (nn := 1) (by decide) (As := [.int l2]) rfl rfl (by cases r1 <;> exact (Nat.le_of_ble_eq_true rfl)) (by decide) (by decide) ⟨by decide, by decide⟩ dX9_hold_10 ?_
  refine g_if_eq (tgt := 29) F dX9_hold_13 (by decide) h (fun a29 h => ?_) (fun a29 h => ?_)
  · refine g_lv (lv' := [(0, .ref (ev 0 + 0)), (2, .int l2), (3, .int l3), (4, zr ev r1)]) ⟨rfl, rfl, rfl, rfl, trivial⟩ ?_
    exact U29 _ _ _ _ _ h
  · refine g_iload_n (i := 3) F dX9_hold_16 rfl rfl ?_
    refine g_iconst F dX9_hold_17 (v := 0) (by decide) ?_
    refine g_iconst F dX9_hold_18 (v := 3) (by decide) ?_
    refine g_callSI F (mcR := 0) (msR := 0) (c_X9_within G0 (X := X) (M := M) (nb := nb) rfl) wd_9_7 wd_15_21 wd_9_6 wd_1_2 ⟨by decide, by decide⟩ (nn := 3) (by decide) (As := [.int l3, .int (0 : Int32), .int (3 : Int32)]) rfl rfl (by cases r1 <;> exact (Nat.le_of_ble_eq_true rfl)) (by decide) (by decide) ⟨by decide, by decide⟩ dX9_hold_19 ?_
    refine g_if_eq (tgt := 29) F dX9_hold_22 (by decide) h (fun a28 h => ?_) (fun a28 h => ?_)
    · refine g_lv (lv' := [(0, .ref (ev 0 + 0)), (2, .int l2), (3, .int l3), (4, zr ev r1)]) ⟨rfl, rfl, rfl, rfl, trivial⟩ ?_
      exact U29 _ _ _ _ _ h
    · refine g_iconst F dX9_hold_25 (v := 1) (by decide) ?_
      refine g_goto (tgt := 30) F dX9_hold_26 (by decide) ?_
      refine g_lv (lv' := [(0, .ref (ev 0 + 0)), (2, .int l2), (3, .int l3), (4, zr ev r1)]) ⟨rfl, rfl, rfl, rfl, trivial⟩ ?_
      exact U30 _ _ _ _ _ _ h
def fX9_isNight (X : XW) (l1 : Int32) : Int32 :=
  (fX9_within l1 (0 : Int32) ((12 : Int32) - (X.1 0 11)))
set_option maxRecDepth 100000 in
set_option maxHeartbeats 4000000 in
theorem c_X9_isNight {l : Launch} {s0 : State} {D : va_G} {ev : Nat → Nat} (G0 : Gl s0 D ev) {X : XW} {M : MW} {nb : Nat} {l1 : Int32} {r' : Int32}  (h : fX9_isNight X l1 = r') : CT l s0 D ev yX9_isNight cX9_isNight 2 (some .boolean) 1 0 0 [.ref (ev 0 + 0), .int l1] (cells ev X M nb) (QI s0 D ev r' (cells ev X M nb)) := by
  refine ct_of G0 (by decide) (Nat.le_of_ble_eq_true rfl) ?_
  intro p9 e9 s9 m9 args9 below9 meth9 c9 F hr9 hl9 hin9 hargs9 hts9
  rw [fX9_isNight] at h
  refine g_lv (lv' := [(0, .ref (ev 0 + 0)), (1, .int l1)]) ⟨rfl, rfl, trivial⟩ ?_
  refine g_iload_n (i := 1) F dX9_isNight_0 rfl rfl ?_
  refine g_iconst F dX9_isNight_1 (v := 0) (by decide) ?_
  refine g_bipush F dX9_isNight_2 (v := 12) (by decide) ?_
  refine g_aload_n (i := 0) F dX9_isNight_4 rfl rfl ?_
  refine g_get_9_11 F rfl (kd_lit (by decide)) wd_2_19 dX9_isNight_5 ?_
  refine g_isub F dX9_isNight_8 ?_
  refine g_callSI F (mcR := 0) (msR := 0) (c_X9_within G0 (X := X) (M := M) (nb := nb) rfl) wd_9_7 wd_15_21 wd_9_6 wd_1_2 ⟨by decide, by decide⟩ (nn := 3) (by decide) (As := [.int l1, .int (0 : Int32), .int ((12 : Int32) - (X.1 0 11))]) rfl rfl (Nat.le_of_ble_eq_true rfl) (by decide) (by decide) ⟨by decide, by decide⟩ dX9_isNight_9 ?_
  exact g_iret F hr9 (nar_b b_X9_within) hl9 h rfl (by decide) (by decide) dX9_isNight_12
theorem b_X9_isNight {X : XW} {l1 : Int32} : (fX9_isNight X l1) = 0 ∨ (fX9_isNight X l1) = 1 := by
  unfold fX9_isNight
  (repeat' split) <;> first | exact Or.inl rfl | exact Or.inr rfl | exact b_X9_within
def fX9_sailed (X : XW) (nb : Nat) (l1 : Int32) (l2 : Nat) (l3 : Int32) : Option ((Option Nat) × XW) :=
  if inb l1 6 then bd (27 + 2 * (l1).toNatClampNeg) fun o2 =>
  (fX2_sail X nb o2 l2 (X.1 0 11) ((X.1 0 11) + l3)).bind fun X5 =>
  some ((some o2), X5)
  else none
set_option maxRecDepth 100000 in
set_option maxHeartbeats 4000000 in
theorem c_X9_sailed {l : Launch} {s0 : State} {D : va_G} {ev : Nat → Nat} (G0 : Gl s0 D ev) {X : XW} {M : MW} {nb : Nat} {l1 : Int32} {l2 : Nat} {l3 : Int32} {r' : Option Nat} {X' : XW}  (h : fX9_sailed X nb l1 l2 l3 = some (r', X')) : CT l s0 D ev yX9_sailed cX9_sailed 5 (some (.object "AnchorThatDrags$Course")) 6 0 0 [.ref (ev 0 + 0), .int l1, .ref (ev 0 + l2), .int l3] (cells ev X M nb) (QR s0 D ev (Option.map (fun k => ev 0 + k) r') (cells ev X' M nb)) := by
  refine ct_of G0 (by decide) (Nat.le_of_ble_eq_true rfl) ?_
  intro p9 e9 s9 m9 args9 below9 meth9 c9 F hr9 hl9 hin9 hargs9 hts9
  rw [fX9_sailed] at h
  refine g_lv (lv' := [(0, .ref (ev 0 + 0)), (1, .int l1), (2, .ref (ev 0 + l2)), (3, .int l3)]) ⟨rfl, rfl, rfl, rfl, trivial⟩ ?_
  refine g_aload_n (i := 0) F dX9_sailed_0 rfl rfl ?_
  refine g_get_9_5 F rfl (kd_lit (by decide)) wd_2_5 dX9_sailed_1 ?_
  refine g_iload_n (i := 1) F dX9_sailed_4 rfl rfl ?_
  obtain ⟨h1, h⟩ := if_at h
  obtain ⟨o2, e3, h⟩ := bd_at h
  refine g_ald_13 F h1 dX9_sailed_5 ?_
  rw [← e3]
  have h4 : kd o2 = 2 := by rw [e3]; exact kd_c (clamp_lt h1)
  refine g_astore (i := 4) (lv' := [(4, .ref (ev 0 + o2)), (0, .ref (ev 0 + 0)), (1, .int l1), (2, .ref (ev 0 + l2)), (3, .int l3)]) F dX9_sailed_6 (by decide) rfl ?_
  refine g_aload (i := 4) F dX9_sailed_8 rfl ?_
  refine g_aload_n (i := 0) F dX9_sailed_10 rfl rfl ?_
  refine g_get_9_3 F rfl (kd_lit (by decide)) wd_2_1 dX9_sailed_11 ?_
  refine g_aload_n (i := 2) F dX9_sailed_14 rfl rfl ?_
  refine g_aload_n (i := 0) F dX9_sailed_15 rfl rfl ?_
  refine g_get_9_11 F rfl (kd_lit (by decide)) wd_2_19 dX9_sailed_16 ?_
  refine g_aload_n (i := 0) F dX9_sailed_19 rfl rfl ?_
  refine g_get_9_11 F rfl (kd_lit (by decide)) wd_2_19 dX9_sailed_20 ?_
  refine g_iload_n (i := 3) F dX9_sailed_23 rfl rfl ?_
  refine g_iadd F dX9_sailed_24 ?_
  obtain ⟨X5, e6, h⟩ := bind_at h
  refine g_callVV F (mcR := 0) (msR := 0) (id := o2) (cells_at (kd_hid h4 (by decide)) (xc_2 h4)) (ci := 2) rfl rfl rfl (c_X2_sail G0 e6) wd_27_15 wd_27_12 wd_27_13 wd_27_14 wd_3_0 ⟨by decide, by decide⟩ (nn := 4) (by decide) (As := [.ref (ev 0 + 10), .ref (ev 0 + l2), .int (X.1 0 11), .int ((X.1 0 11) + l3)]) rfl rfl (Nat.le_of_ble_eq_true rfl) (by decide) (by decide) ⟨by decide, by decide⟩ dX9_sailed_25 ?_
  refine g_aload (i := 4) F dX9_sailed_28 rfl ?_
  have hp := Prod.mk.inj (Option.some.inj h)
  exact g_aret F hr9 (Or.inl ⟨_, rfl⟩) hl9 (by rw [← hp.1]; rfl) (by rw [hp.2]) (by decide) (by decide) dX9_sailed_30
def fX9_night (X : XW) (nb : Nat) (l1 : Int32) (l2 : Int32) (l3 : Int32) : Option (Int32 × XW) :=
  (fX9_boatOf X l2).bind fun r1 =>
  oc r1 (some ((-5 : Int32), X)) (fun b3 => if (fX9_isNight X l1) = 0 then some ((-7 : Int32), X)
  else if (fX9_within l3 (0 : Int32) (3 : Int32)) = 0 then some ((-7 : Int32), X)
  else bd2 (fX9_sailed X nb l2 b3 l1) fun r10 X9 =>
  if l3 = (0 : Int32) then (r10).bind fun b15 =>
  if kd b15 = 2 then some ((X9.1 b15 1), X9) else none
  else if l3 = (1 : Int32) then (r10).bind fun b18 =>
  if kd b18 = 2 then some ((X9.1 b18 2), X9) else none
  else if l3 = (2 : Int32) then (r10).bind fun b21 =>
  if kd b21 = 2 then some ((X9.1 b21 3), X9) else none
  else if l1 = 0 then some ((-1 : Int32), X9)
  else (r10).bind fun b24 =>
  if kd b24 = 2 then (fX2_liesIn X9 b24 (((X9.1 0 11) + l1) - (1 : Int32))).bind fun v27 =>
  some (v27, X9) else none)
set_option maxRecDepth 100000 in
set_option maxHeartbeats 4000000 in
theorem c_X9_night {l : Launch} {s0 : State} {D : va_G} {ev : Nat → Nat} (G0 : Gl s0 D ev) {X : XW} {M : MW} {nb : Nat} {l1 : Int32} {l2 : Int32} {l3 : Int32} {r' : Int32} {X' : XW}  (h : fX9_night X nb l1 l2 l3 = some (r', X')) : CT l s0 D ev yX9_night cX9_night 6 (some .int) 7 0 0 [.ref (ev 0 + 0), .int l1, .int l2, .int l3] (cells ev X M nb) (QI s0 D ev r' (cells ev X' M nb)) := by
  refine ct_of G0 (by decide) (Nat.le_of_ble_eq_true rfl) ?_
  intro p9 e9 s9 m9 args9 below9 meth9 c9 F hr9 hl9 hin9 hargs9 hts9
  rw [fX9_night] at h
  refine g_lv (lv' := [(0, .ref (ev 0 + 0)), (1, .int l1), (2, .int l2), (3, .int l3)]) ⟨rfl, rfl, rfl, rfl, trivial⟩ ?_
  refine g_aload_n (i := 0) F dX9_night_0 rfl rfl ?_
  refine g_iload_n (i := 2) F dX9_night_1 rfl rfl ?_
  obtain ⟨r1, e2, h⟩ := bind_at h
  refine g_callVR F (mcR := 0) (msR := 0) (id := 0) (cells_at (kd_lit (i := 0) (by decide)) (xc_9 rfl)) (ci := 9) rfl rfl rfl (c_X9_boatOf G0 e2) wd_22_23 wd_22_20 wd_22_21 wd_22_22 wd_1_2 ⟨by decide, by decide⟩ (nn := 1) (by decide) (As := [.int l2]) rfl rfl (Nat.le_of_ble_eq_true rfl) (by decide) (by decide) ⟨by decide, by decide⟩ dX9_night_2 ?_
  refine g_zastore (i := 4) (lv' := [(4, zr ev r1), (0, .ref (ev 0 + 0)), (1, .int l1), (2, .int l2), (3, .int l3)]) F dX9_night_5 (by decide) rfl ?_
  refine g_zaload (i := 4) F dX9_night_7 rfl ?_
  rcases oc_at h with ⟨e4, h⟩ | ⟨b3, e4, h⟩
  · rw [e4]
    refine g_ifnnN F dX9_night_9 ?_
    refine g_bipush F dX9_night_12 (v := -5) (by decide) ?_
    have hp := Prod.mk.inj (Option.some.inj h)
    exact g_iret F hr9 rfl hl9 hp.1 (by rw [hp.2]) (by decide) (by decide) dX9_night_14
  · rw [e4]
    refine g_ifnn (tgt := 15) F dX9_night_9 (by decide) ?_
    refine g_aload_n (i := 0) F dX9_night_15 rfl rfl ?_
    refine g_iload_n (i := 1) F dX9_night_16 rfl rfl ?_
    refine g_callVI F (mcR := 0) (msR := 0) (id := 0) (cells_at (kd_lit (i := 0) (by decide)) (xc_9 rfl)) (ci := 9) rfl rfl rfl (c_X9_isNight G0 (X := X) (M := M) (nb := nb) rfl) wd_27_7 wd_27_4 wd_27_5 wd_27_6 wd_1_2 ⟨by decide, by decide⟩ (nn := 1) (by decide) (As := [.int l1]) rfl rfl (Nat.le_of_ble_eq_true rfl) (by decide) (by decide) ⟨by decide, by decide⟩ dX9_night_17 ?_
    refine g_if_eq (tgt := 32) F dX9_night_20 (by decide) h (fun a31 h => ?_) (fun a31 h => ?_)
    · refine g_bipush F dX9_night_32 (v := -7) (by decide) ?_
      have hp := Prod.mk.inj (Option.some.inj h)
      exact g_iret F hr9 rfl hl9 hp.1 (by rw [hp.2]) (by decide) (by decide) dX9_night_34
    · refine g_iload_n (i := 3) F dX9_night_23 rfl rfl ?_
      refine g_iconst F dX9_night_24 (v := 0) (by decide) ?_
      refine g_iconst F dX9_night_25 (v := 3) (by decide) ?_
      refine g_callSI F (mcR := 0) (msR := 0) (c_X9_within G0 (X := X) (M := M) (nb := nb) rfl) wd_9_7 wd_15_21 wd_9_6 wd_1_2 ⟨by decide, by decide⟩ (nn := 3) (by decide) (As := [.int l3, .int (0 : Int32), .int (3 : Int32)]) rfl rfl (Nat.le_of_ble_eq_true rfl) (by decide) (by decide) ⟨by decide, by decide⟩ dX9_night_26 ?_
      refine g_if_ne (tgt := 35) F dX9_night_29 (by decide) h (fun a30 h => ?_) (fun a30 h => ?_)
      · refine g_aload_n (i := 0) F dX9_night_35 rfl rfl ?_
        refine g_iload_n (i := 2) F dX9_night_36 rfl rfl ?_
        refine g_aload (i := 4) F dX9_night_37 rfl ?_
        refine g_iload_n (i := 1) F dX9_night_39 rfl rfl ?_
        obtain ⟨r10, X9, e11, h⟩ := bd2_at h
        refine g_callVR F (mcR := 0) (msR := 0) (id := 0) (cells_at (kd_lit (i := 0) (by decide)) (xc_9 rfl)) (ci := 9) rfl rfl rfl (c_X9_sailed G0 e11) wd_27_11 wd_27_8 wd_27_9 wd_27_10 wd_1_2 ⟨by decide, by decide⟩ (nn := 3) (by decide) (As := [.int l2, .ref (ev 0 + b3), .int l1]) rfl rfl (Nat.le_of_ble_eq_true rfl) (by decide) (by decide) ⟨by decide, by decide⟩ dX9_night_40 ?_
        refine g_zastore (i := 5) (lv' := [(5, zr ev r10), (4, .ref (ev 0 + b3)), (0, .ref (ev 0 + 0)), (1, .int l1), (2, .int l2), (3, .int l3)]) F dX9_night_43 (by decide) rfl ?_
        refine g_iload_n (i := 3) F dX9_night_45 rfl rfl ?_
        refine ite_at h (fun a12 h => ?_) (fun a12 h => ?_)
        · refine g_tsw (k := 0) (off := 26) (tgt := 72) F a12 dX9_night_46 (by decide) (by decide) (by decide) (by decide) ?_
          refine g_zaload (i := 5) F dX9_night_72 rfl ?_
          obtain ⟨b15, e16, h⟩ := bind_at h
          rw [e16]
          obtain ⟨h17, h⟩ := if_at h
          refine g_get_2_1 F h17 (kd_hid h17 (by decide)) wd_27_1 dX9_night_74 ?_
          have hp := Prod.mk.inj (Option.some.inj h)
          exact g_iret F hr9 rfl hl9 hp.1 (by rw [hp.2]) (by decide) (by decide) dX9_night_77
        · refine ite_at h (fun a13 h => ?_) (fun a13 h => ?_)
          · refine g_tsw (k := 1) (off := 32) (tgt := 78) F a13 dX9_night_46 (by decide) (by decide) (by decide) (by decide) ?_
            refine g_zaload (i := 5) F dX9_night_78 rfl ?_
            obtain ⟨b18, e19, h⟩ := bind_at h
            rw [e19]
            obtain ⟨h20, h⟩ := if_at h
            refine g_get_2_2 F h20 (kd_hid h20 (by decide)) wd_27_2 dX9_night_80 ?_
            have hp := Prod.mk.inj (Option.some.inj h)
            exact g_iret F hr9 rfl hl9 hp.1 (by rw [hp.2]) (by decide) (by decide) dX9_night_83
          · refine ite_at h (fun a14 h => ?_) (fun a14 h => ?_)
            · refine g_tsw (k := 2) (off := 38) (tgt := 84) F a14 dX9_night_46 (by decide) (by decide) (by decide) (by decide) ?_
              refine g_zaload (i := 5) F dX9_night_84 rfl ?_
              obtain ⟨b21, e22, h⟩ := bind_at h
              rw [e22]
              obtain ⟨h23, h⟩ := if_at h
              refine g_get_2_3 F h23 (kd_hid h23 (by decide)) wd_27_3 dX9_night_86 ?_
              have hp := Prod.mk.inj (Option.some.inj h)
              exact g_iret F hr9 rfl hl9 hp.1 (by rw [hp.2]) (by decide) (by decide) dX9_night_89
            · have q0 : l3.toInt ≠ 0 := fun q => a12 (Int32.toInt_inj.mp (q.trans (by decide)))
              have q1 : l3.toInt ≠ 1 := fun q => a13 (Int32.toInt_inj.mp (q.trans (by decide)))
              have q2 : l3.toInt ≠ 2 := fun q => a14 (Int32.toInt_inj.mp (q.trans (by decide)))
              refine g_tswd (tgt := 90) F (by omega) dX9_night_46 (by decide) ?_
              refine g_iload_n (i := 1) F dX9_night_90 rfl rfl ?_
              refine g_if_ne (tgt := 98) F dX9_night_91 (by decide) h (fun a29 h => ?_) (fun a29 h => ?_)
              · refine g_zaload (i := 5) F dX9_night_98 rfl ?_
                refine g_aload_n (i := 0) F dX9_night_100 rfl rfl ?_
                refine g_get_9_11 F rfl (kd_lit (by decide)) wd_2_19 dX9_night_101 ?_
                refine g_iload_n (i := 1) F dX9_night_104 rfl rfl ?_
                refine g_iadd F dX9_night_105 ?_
                refine g_iconst F dX9_night_106 (v := 1) (by decide) ?_
                refine g_isub F dX9_night_107 ?_
                obtain ⟨b24, e25, h⟩ := bind_at h
                rw [e25]
                obtain ⟨h26, h⟩ := if_at h
                obtain ⟨v27, e28, h⟩ := bind_at h
                refine g_callVI F (mcR := 0) (msR := 0) (id := b24) (cells_at (kd_hid h26 (by decide)) (xc_2 h26)) (ci := 2) rfl rfl rfl (c_X2_liesIn G0 e28) wd_29_9 wd_29_6 wd_29_7 wd_29_8 wd_3_0 ⟨by decide, by decide⟩ (nn := 1) (by decide) (As := [.int (((X9.1 0 11) + l1) - (1 : Int32))]) rfl rfl (Nat.le_of_ble_eq_true rfl) (by decide) (by decide) ⟨by decide, by decide⟩ dX9_night_108 ?_
                have hp := Prod.mk.inj (Option.some.inj h)
                exact g_iret F hr9 rfl hl9 hp.1 (by rw [hp.2]) (by decide) (by decide) dX9_night_111
              · refine g_iconst F dX9_night_94 (v := -1) (by decide) ?_
                refine g_goto (tgt := 111) F dX9_night_95 (by decide) ?_
                have hp := Prod.mk.inj (Option.some.inj h)
                exact g_iret F hr9 rfl hl9 hp.1 (by rw [hp.2]) (by decide) (by decide) dX9_night_111
      · refine g_bipush F dX9_night_32 (v := -7) (by decide) ?_
        have hp := Prod.mk.inj (Option.some.inj h)
        exact g_iret F hr9 rfl hl9 hp.1 (by rw [hp.2]) (by decide) (by decide) dX9_night_34
def fX9_sailAll_l2 (nb : Nat) (l1f2 : Int32) (K2 : XW → Int32 → Option (XW)) (X : XW) (l2 : Int32) : Option (XW) :=
  if (X.1 0 12) ≤ l2 then some X
  else if inb l2 6 then bd (27 + 2 * (l2).toNatClampNeg) fun o2 =>
  (rdR (X.2.2 13) 6 l2).bind fun r5 =>
  (r5).bind fun b7 =>
  (fX2_sail X nb o2 b7 (X.1 0 11) ((X.1 0 11) + l1f2)).bind fun X9 =>
  K2 X9 (l2 + (1 : Int32))
  else none
def fX9_sailAll (X : XW) (nb : Nat) (l1 : Int32) : Option (XW) :=
  lo2 (fX9_sailAll_l2 nb l1) FU X (0 : Int32)
set_option maxRecDepth 100000 in
set_option maxHeartbeats 4000000 in
theorem c_X9_sailAll {l : Launch} {s0 : State} {D : va_G} {ev : Nat → Nat} (G0 : Gl s0 D ev) {X : XW} {M : MW} {nb : Nat} {l1 : Int32} {X' : XW}  (h : fX9_sailAll X nb l1 = some (X')) : CT l s0 D ev yX9_sailAll cX9_sailAll 3 none 6 0 0 [.ref (ev 0 + 0), .int l1] (cells ev X M nb) (QV s0 D ev (cells ev X' M nb)) := by
  refine ct_of G0 (by decide) (Nat.le_of_ble_eq_true rfl) ?_
  intro p9 e9 s9 m9 args9 below9 meth9 c9 F hr9 hl9 hin9 hargs9 hts9
  have L2 : ∀ (l1f2 : Int32) (N2 : Nat) (X : XW) (l2 : Int32), lo2 (fX9_sailAll_l2 nb l1f2) N2 X l2 = some (X') → GJ p9 l e9 (rg 6 0 0) s9 m9 args9 below9 meth9 c9 (MQ below9 (QV s0 D ev (cells ev X' M nb)) args9 s9 0 0 (frA ev)) s0 D ev 3 0 0 2 [(0, .ref (ev 0 + 0)), (1, .int l1f2), (2, .int l2)] ([]) (cells ev X M nb) := by
    intro l1f2 N2
    induction N2 with
    | zero => intro X l2 h; cases h
    | succ N2 ih2 =>
      intro X l2 h
      change fX9_sailAll_l2 nb l1f2 (lo2 (fX9_sailAll_l2 nb l1f2) N2) X l2 = some (X') at h
      rw [fX9_sailAll_l2] at h
      refine g_iload_n (i := 2) F dX9_sailAll_2 rfl rfl ?_
      refine g_aload_n (i := 0) F dX9_sailAll_3 rfl rfl ?_
      refine g_get_9_12 F rfl (kd_lit (by decide)) wd_2_20 dX9_sailAll_4 ?_
      refine g_icmp_ge (tgt := 45) F dX9_sailAll_7 (by decide) h (fun a11 h => ?_) (fun a11 h => ?_)
      · exact g_vret F hr9 hl9 (by rw [Option.some.inj h]) (by decide) (by decide) dX9_sailAll_45
      · refine g_aload_n (i := 0) F dX9_sailAll_10 rfl rfl ?_
        refine g_get_9_5 F rfl (kd_lit (by decide)) wd_2_5 dX9_sailAll_11 ?_
        refine g_iload_n (i := 2) F dX9_sailAll_14 rfl rfl ?_
        obtain ⟨h1, h⟩ := if_at h
        obtain ⟨o2, e3, h⟩ := bd_at h
        refine g_ald_13 F h1 dX9_sailAll_15 ?_
        rw [← e3]
        have h4 : kd o2 = 2 := by rw [e3]; exact kd_c (clamp_lt h1)
        refine g_aload_n (i := 0) F dX9_sailAll_16 rfl rfl ?_
        refine g_get_9_3 F rfl (kd_lit (by decide)) wd_2_1 dX9_sailAll_17 ?_
        refine g_aload_n (i := 0) F dX9_sailAll_20 rfl rfl ?_
        refine g_get_9_4 F rfl (kd_lit (by decide)) wd_2_3 dX9_sailAll_21 ?_
        refine g_iload_n (i := 2) F dX9_sailAll_24 rfl rfl ?_
        obtain ⟨r5, e6, h⟩ := bind_at h
        refine g_aldB F e6 dX9_sailAll_25 ?_
        refine g_aload_n (i := 0) F dX9_sailAll_26 rfl rfl ?_
        refine g_get_9_11 F rfl (kd_lit (by decide)) wd_2_19 dX9_sailAll_27 ?_
        refine g_aload_n (i := 0) F dX9_sailAll_30 rfl rfl ?_
        refine g_get_9_11 F rfl (kd_lit (by decide)) wd_2_19 dX9_sailAll_31 ?_
        refine g_iload_n (i := 1) F dX9_sailAll_34 rfl rfl ?_
        refine g_iadd F dX9_sailAll_35 ?_
        obtain ⟨b7, e8, h⟩ := bind_at h
        rw [e8]
        obtain ⟨X9, e10, h⟩ := bind_at h
        refine g_callVV F (mcR := 0) (msR := 0) (id := o2) (cells_at (kd_hid h4 (by decide)) (xc_2 h4)) (ci := 2) rfl rfl rfl (c_X2_sail G0 e10) wd_27_15 wd_27_12 wd_27_13 wd_27_14 wd_3_0 ⟨by decide, by decide⟩ (nn := 4) (by decide) (As := [.ref (ev 0 + 10), .ref (ev 0 + b7), .int (X.1 0 11), .int ((X.1 0 11) + l1f2)]) rfl rfl (Nat.le_of_ble_eq_true rfl) (by decide) (by decide) ⟨by decide, by decide⟩ dX9_sailAll_36 ?_
        refine g_iinc (i := 2) (v := (l2 + (1 : Int32))) (lv' := [(2, .int (l2 + (1 : Int32))), (0, .ref (ev 0 + 0)), (1, .int l1f2)]) F dX9_sailAll_39 rfl rfl (by decide) rfl ?_
        refine g_goto (tgt := 2) F dX9_sailAll_42 (by decide) ?_
        refine g_lv (lv' := [(0, .ref (ev 0 + 0)), (1, .int l1f2), (2, .int (l2 + (1 : Int32)))]) ⟨rfl, rfl, rfl, trivial⟩ ?_
        exact ih2 _ _ h
  rw [fX9_sailAll] at h
  refine g_lv (lv' := [(0, .ref (ev 0 + 0)), (1, .int l1)]) ⟨rfl, rfl, trivial⟩ ?_
  refine g_iconst F dX9_sailAll_0 (v := 0) (by decide) ?_
  refine g_istore_n (i := 2) (lv' := [(2, .int (0 : Int32)), (0, .ref (ev 0 + 0)), (1, .int l1)]) F dX9_sailAll_1 rfl (by decide) rfl ?_
  refine g_lv (lv' := [(0, .ref (ev 0 + 0)), (1, .int l1), (2, .int (0 : Int32))]) ⟨rfl, rfl, rfl, trivial⟩ ?_
  exact L2 _ FU _ _ h
def fX9_meetings_l35 (l1f7 : Int32) (l3f20 : Int32) (l4f35 : Int32) (K7 : XW → Int32 → Int32 → Option (Int32 × XW)) (K20 : XW → Int32 → Int32 → Option (Int32 × XW)) (K35 : XW → Int32 → Int32 → Option (Int32 × XW)) (X : XW) (l2 : Int32) (l5 : Int32) : Option (Int32 × XW) :=
  if (X.1 0 12) ≤ l5 then K20 X l2 (l4f35 + (1 : Int32))
  else if inb l4f35 6 then bd (27 + 2 * (l4f35).toNatClampNeg) fun o6 =>
  if inb l5 6 then bd (27 + 2 * (l5).toNatClampNeg) fun o10 =>
  (fX2_liesIn X o10 l3f20).bind fun v13 =>
  (fX2_meetsIn X o6 l3f20 v13).bind fun v15 =>
  if v15 = 0 then K35 X l2 (l5 + (1 : Int32))
  else if (180 : Int32) ≤ l2 then K35 X l2 (l5 + (1 : Int32))
  else if inb l2 180 then bd (xA X 15 l2 ((((100 : Int32) * l3f20) + ((10 : Int32) * l4f35)) + l5)) fun X18 =>
  K35 X18 (l2 + (1 : Int32)) (l5 + (1 : Int32))
  else none
  else none
  else none
def fX9_meetings_l20 (l1f7 : Int32) (l3f20 : Int32) (K7 : XW → Int32 → Int32 → Option (Int32 × XW)) (K20 : XW → Int32 → Int32 → Option (Int32 × XW)) (X : XW) (l2 : Int32) (l4 : Int32) : Option (Int32 × XW) :=
  if (X.1 0 12) ≤ l4 then K7 X l2 (l3f20 + (1 : Int32))
  else bd (l4 + (1 : Int32)) fun v3 =>
  lo3 (fX9_meetings_l35 l1f7 l3f20 l4 K7 K20) FU X l2 v3
def fX9_meetings_l7 (l1f7 : Int32) (K7 : XW → Int32 → Int32 → Option (Int32 × XW)) (X : XW) (l2 : Int32) (l3 : Int32) : Option (Int32 × XW) :=
  if ((X.1 0 11) + l1f7) ≤ l3 then some (l2, X)
  else lo3 (fX9_meetings_l20 l1f7 l3 K7) FU X l2 (0 : Int32)
def fX9_meetings (X : XW) (l1 : Int32) : Option (Int32 × XW) :=
  bd (X.1 0 11) fun v1 =>
  lo3 (fX9_meetings_l7 l1) FU X (0 : Int32) v1
set_option maxRecDepth 100000 in
set_option maxHeartbeats 4000000 in
theorem c_X9_meetings {l : Launch} {s0 : State} {D : va_G} {ev : Nat → Nat} (G0 : Gl s0 D ev) {X : XW} {M : MW} {nb : Nat} {l1 : Int32} {r' : Int32} {X' : XW}  (h : fX9_meetings X l1 = some (r', X')) : CT l s0 D ev yX9_meetings cX9_meetings 6 (some .int) 4 0 0 [.ref (ev 0 + 0), .int l1] (cells ev X M nb) (QI s0 D ev r' (cells ev X' M nb)) := by
  refine ct_of G0 (by decide) (Nat.le_of_ble_eq_true rfl) ?_
  intro p9 e9 s9 m9 args9 below9 meth9 c9 F hr9 hl9 hin9 hargs9 hts9
  have L7 : ∀ (l1f7 : Int32) (N7 : Nat) (X : XW) (l2 : Int32) (l3 : Int32), lo3 (fX9_meetings_l7 l1f7) N7 X l2 l3 = some (r', X') → GJ p9 l e9 (rg 4 0 0) s9 m9 args9 below9 meth9 c9 (MQ below9 (QI s0 D ev r' (cells ev X' M nb)) args9 s9 0 0 (frA ev)) s0 D ev 6 0 0 7 [(0, .ref (ev 0 + 0)), (1, .int l1f7), (2, .int l2), (3, .int l3)] ([]) (cells ev X M nb) := by
    intro l1f7 N7
    induction N7 with
    | zero => intro X l2 l3 h; cases h
    | succ N7 ih7 =>
      have L20 : ∀ (l3f20 : Int32) (N20 : Nat) (X : XW) (l2 : Int32) (l4 : Int32), lo3 (fX9_meetings_l20 l1f7 l3f20 (lo3 (fX9_meetings_l7 l1f7) N7)) N20 X l2 l4 = some (r', X') → GJ p9 l e9 (rg 4 0 0) s9 m9 args9 below9 meth9 c9 (MQ below9 (QI s0 D ev r' (cells ev X' M nb)) args9 s9 0 0 (frA ev)) s0 D ev 6 0 0 20 [(0, .ref (ev 0 + 0)), (1, .int l1f7), (2, .int l2), (3, .int l3f20), (4, .int l4)] ([]) (cells ev X M nb) := by
        intro l3f20 N20
        induction N20 with
        | zero => intro X l2 l4 h; cases h
        | succ N20 ih20 =>
          have L35 : ∀ (l4f35 : Int32) (N35 : Nat) (X : XW) (l2 : Int32) (l5 : Int32), lo3 (fX9_meetings_l35 l1f7 l3f20 l4f35 (lo3 (fX9_meetings_l7 l1f7) N7) (lo3 (fX9_meetings_l20 l1f7 l3f20 (lo3 (fX9_meetings_l7 l1f7) N7)) N20)) N35 X l2 l5 = some (r', X') → GJ p9 l e9 (rg 4 0 0) s9 m9 args9 below9 meth9 c9 (MQ below9 (QI s0 D ev r' (cells ev X' M nb)) args9 s9 0 0 (frA ev)) s0 D ev 6 0 0 35 [(0, .ref (ev 0 + 0)), (1, .int l1f7), (2, .int l2), (3, .int l3f20), (4, .int l4f35), (5, .int l5)] ([]) (cells ev X M nb) := by
            intro l4f35 N35
            induction N35 with
            | zero => intro X l2 l5 h; cases h
            | succ N35 ih35 =>
              intro X l2 l5 h
              change fX9_meetings_l35 l1f7 l3f20 l4f35 (lo3 (fX9_meetings_l7 l1f7) N7) (lo3 (fX9_meetings_l20 l1f7 l3f20 (lo3 (fX9_meetings_l7 l1f7) N7)) N20) (lo3 (fX9_meetings_l35 l1f7 l3f20 l4f35 (lo3 (fX9_meetings_l7 l1f7) N7) (lo3 (fX9_meetings_l20 l1f7 l3f20 (lo3 (fX9_meetings_l7 l1f7) N7)) N20)) N35) X l2 l5 = some (r', X') at h
              rw [fX9_meetings_l35] at h
              refine g_iload (i := 5) F dX9_meetings_35 rfl ?_
              refine g_aload_n (i := 0) F dX9_meetings_37 rfl rfl ?_
              refine g_get_9_12 F rfl (kd_lit (by decide)) wd_2_20 dX9_meetings_38 ?_
              refine g_icmp_ge (tgt := 106) F dX9_meetings_41 (by decide) h (fun a22 h => ?_) (fun a22 h => ?_)
              · refine g_iinc (i := 4) (v := (l4f35 + (1 : Int32))) (lv' := [(4, .int (l4f35 + (1 : Int32))), (0, .ref (ev 0 + 0)), (1, .int l1f7), (2, .int l2), (3, .int l3f20), (5, .int l5)]) F dX9_meetings_106 rfl rfl (by decide) rfl ?_
                refine g_goto (tgt := 20) F dX9_meetings_109 (by decide) ?_
                refine g_lv (lv' := [(0, .ref (ev 0 + 0)), (1, .int l1f7), (2, .int l2), (3, .int l3f20), (4, .int (l4f35 + (1 : Int32)))]) ⟨rfl, rfl, rfl, rfl, rfl, trivial⟩ ?_
                exact ih20 _ _ _ h
              · refine g_aload_n (i := 0) F dX9_meetings_44 rfl rfl ?_
                refine g_get_9_5 F rfl (kd_lit (by decide)) wd_2_5 dX9_meetings_45 ?_
                refine g_iload (i := 4) F dX9_meetings_48 rfl ?_
                obtain ⟨h5, h⟩ := if_at h
                obtain ⟨o6, e7, h⟩ := bd_at h
                refine g_ald_13 F h5 dX9_meetings_50 ?_
                rw [← e7]
                have h8 : kd o6 = 2 := by rw [e7]; exact kd_c (clamp_lt h5)
                refine g_iload_n (i := 3) F dX9_meetings_51 rfl rfl ?_
                refine g_aload_n (i := 0) F dX9_meetings_52 rfl rfl ?_
                refine g_get_9_5 F rfl (kd_lit (by decide)) wd_2_5 dX9_meetings_53 ?_
                refine g_iload (i := 5) F dX9_meetings_56 rfl ?_
                obtain ⟨h9, h⟩ := if_at h
                obtain ⟨o10, e11, h⟩ := bd_at h
                refine g_ald_13 F h9 dX9_meetings_58 ?_
                rw [← e11]
                have h12 : kd o10 = 2 := by rw [e11]; exact kd_c (clamp_lt h9)
                refine g_iload_n (i := 3) F dX9_meetings_59 rfl rfl ?_
                obtain ⟨v13, e14, h⟩ := bind_at h
                refine g_callVI F (mcR := 0) (msR := 0) (id := o10) (cells_at (kd_hid h12 (by decide)) (xc_2 h12)) (ci := 2) rfl rfl rfl (c_X2_liesIn G0 e14) wd_29_9 wd_29_6 wd_29_7 wd_29_8 wd_3_0 ⟨by decide, by decide⟩ (nn := 1) (by decide) (As := [.int l3f20]) rfl rfl (Nat.le_of_ble_eq_true rfl) (by decide) (by decide) ⟨by decide, by decide⟩ dX9_meetings_60 ?_
                obtain ⟨v15, e16, h⟩ := bind_at h
                refine g_callVI F (mcR := 0) (msR := 0) (id := o6) (cells_at (kd_hid h8 (by decide)) (xc_2 h8)) (ci := 2) rfl rfl rfl (c_X2_meetsIn G0 e16) wd_31_20 wd_31_17 wd_31_18 wd_31_19 wd_3_0 ⟨by decide, by decide⟩ (nn := 2) (by decide) (As := [.int l3f20, .int v13]) rfl rfl (Nat.le_of_ble_eq_true rfl) (by decide) (by decide) ⟨by decide, by decide⟩ dX9_meetings_63 ?_
                refine g_if_eq (tgt := 100) F dX9_meetings_66 (by decide) h (fun a21 h => ?_) (fun a21 h => ?_)
                · refine g_iinc (i := 5) (v := (l5 + (1 : Int32))) (lv' := [(5, .int (l5 + (1 : Int32))), (0, .ref (ev 0 + 0)), (1, .int l1f7), (2, .int l2), (3, .int l3f20), (4, .int l4f35)]) F dX9_meetings_100 rfl rfl (by decide) rfl ?_
                  refine g_goto (tgt := 35) F dX9_meetings_103 (by decide) ?_
                  refine g_lv (lv' := [(0, .ref (ev 0 + 0)), (1, .int l1f7), (2, .int l2), (3, .int l3f20), (4, .int l4f35), (5, .int (l5 + (1 : Int32)))]) ⟨rfl, rfl, rfl, rfl, rfl, rfl, trivial⟩ ?_
                  exact ih35 _ _ _ h
                · refine g_iload_n (i := 2) F dX9_meetings_69 rfl rfl ?_
                  refine g_aload_n (i := 0) F dX9_meetings_70 rfl rfl ?_
                  refine g_get_9_6 F rfl (kd_lit (by decide)) wd_2_7 dX9_meetings_71 ?_
                  refine g_alX (n := 180) F rfl rfl dX9_meetings_74 ?_
                  refine g_icmp_ge (tgt := 100) F dX9_meetings_75 (by decide) h (fun a20 h => ?_) (fun a20 h => ?_)
                  · refine g_iinc (i := 5) (v := (l5 + (1 : Int32))) (lv' := [(5, .int (l5 + (1 : Int32))), (0, .ref (ev 0 + 0)), (1, .int l1f7), (2, .int l2), (3, .int l3f20), (4, .int l4f35)]) F dX9_meetings_100 rfl rfl (by decide) rfl ?_
                    refine g_goto (tgt := 35) F dX9_meetings_103 (by decide) ?_
                    refine g_lv (lv' := [(0, .ref (ev 0 + 0)), (1, .int l1f7), (2, .int l2), (3, .int l3f20), (4, .int l4f35), (5, .int (l5 + (1 : Int32)))]) ⟨rfl, rfl, rfl, rfl, rfl, rfl, trivial⟩ ?_
                    exact ih35 _ _ _ h
                  · refine g_aload_n (i := 0) F dX9_meetings_78 rfl rfl ?_
                    refine g_get_9_6 F rfl (kd_lit (by decide)) wd_2_7 dX9_meetings_79 ?_
                    refine g_iload_n (i := 2) F dX9_meetings_82 rfl rfl ?_
                    refine g_bipush F dX9_meetings_83 (v := 100) (by decide) ?_
                    refine g_iload_n (i := 3) F dX9_meetings_85 rfl rfl ?_
                    refine g_imul F dX9_meetings_86 ?_
                    refine g_bipush F dX9_meetings_87 (v := 10) (by decide) ?_
                    refine g_iload (i := 4) F dX9_meetings_89 rfl ?_
                    refine g_imul F dX9_meetings_91 ?_
                    refine g_iadd F dX9_meetings_92 ?_
                    refine g_iload (i := 5) F dX9_meetings_93 rfl ?_
                    refine g_iadd F dX9_meetings_95 ?_
                    obtain ⟨h17, h⟩ := if_at h
                    obtain ⟨X18, e19, h⟩ := bd_at h
                    refine g_istX F rfl rfl h17 dX9_meetings_96 ?_
                    rw [← e19]
                    refine g_iinc (i := 2) (v := (l2 + (1 : Int32))) (lv' := [(2, .int (l2 + (1 : Int32))), (0, .ref (ev 0 + 0)), (1, .int l1f7), (3, .int l3f20), (4, .int l4f35), (5, .int l5)]) F dX9_meetings_97 rfl rfl (by decide) rfl ?_
                    refine g_iinc (i := 5) (v := (l5 + (1 : Int32))) (lv' := [(5, .int (l5 + (1 : Int32))), (2, .int (l2 + (1 : Int32))), (0, .ref (ev 0 + 0)), (1, .int l1f7), (3, .int l3f20), (4, .int l4f35)]) F dX9_meetings_100 rfl rfl (by decide) rfl ?_
                    refine g_goto (tgt := 35) F dX9_meetings_103 (by decide) ?_
                    refine g_lv (lv' := [(0, .ref (ev 0 + 0)), (1, .int l1f7), (2, .int (l2 + (1 : Int32))), (3, .int l3f20), (4, .int l4f35), (5, .int (l5 + (1 : Int32)))]) ⟨rfl, rfl, rfl, rfl, rfl, rfl, trivial⟩ ?_
                    exact ih35 _ _ _ h
          intro X l2 l4 h
          change fX9_meetings_l20 l1f7 l3f20 (lo3 (fX9_meetings_l7 l1f7) N7) (lo3 (fX9_meetings_l20 l1f7 l3f20 (lo3 (fX9_meetings_l7 l1f7) N7)) N20) X l2 l4 = some (r', X') at h
          rw [fX9_meetings_l20] at h
          refine g_iload (i := 4) F dX9_meetings_20 rfl ?_
          refine g_aload_n (i := 0) F dX9_meetings_22 rfl rfl ?_
          refine g_get_9_12 F rfl (kd_lit (by decide)) wd_2_20 dX9_meetings_23 ?_
          refine g_icmp_ge (tgt := 112) F dX9_meetings_26 (by decide) h (fun a23 h => ?_) (fun a23 h => ?_)
          · refine g_iinc (i := 3) (v := (l3f20 + (1 : Int32))) (lv' := [(3, .int (l3f20 + (1 : Int32))), (0, .ref (ev 0 + 0)), (1, .int l1f7), (2, .int l2), (4, .int l4)]) F dX9_meetings_112 rfl rfl (by decide) rfl ?_
            refine g_goto (tgt := 7) F dX9_meetings_115 (by decide) ?_
            refine g_lv (lv' := [(0, .ref (ev 0 + 0)), (1, .int l1f7), (2, .int l2), (3, .int (l3f20 + (1 : Int32)))]) ⟨rfl, rfl, rfl, rfl, trivial⟩ ?_
            exact ih7 _ _ _ h
          · refine g_iload (i := 4) F dX9_meetings_29 rfl ?_
            refine g_iconst F dX9_meetings_31 (v := 1) (by decide) ?_
            refine g_iadd F dX9_meetings_32 ?_
            refine g_topi F h (fun v3 e4 h => ?_)
            refine g_istore (i := 5) (lv' := [(5, .int v3), (0, .ref (ev 0 + 0)), (1, .int l1f7), (2, .int l2), (3, .int l3f20), (4, .int l4)]) F dX9_meetings_33 (by decide) rfl ?_
            refine g_lv (lv' := [(0, .ref (ev 0 + 0)), (1, .int l1f7), (2, .int l2), (3, .int l3f20), (4, .int l4), (5, .int v3)]) ⟨rfl, rfl, rfl, rfl, rfl, rfl, trivial⟩ ?_
            exact L35 _ FU _ _ _ h
      intro X l2 l3 h
      change fX9_meetings_l7 l1f7 (lo3 (fX9_meetings_l7 l1f7) N7) X l2 l3 = some (r', X') at h
      rw [fX9_meetings_l7] at h
      refine g_iload_n (i := 3) F dX9_meetings_7 rfl rfl ?_
      refine g_aload_n (i := 0) F dX9_meetings_8 rfl rfl ?_
      refine g_get_9_11 F rfl (kd_lit (by decide)) wd_2_19 dX9_meetings_9 ?_
      refine g_iload_n (i := 1) F dX9_meetings_12 rfl rfl ?_
      refine g_iadd F dX9_meetings_13 ?_
      refine g_icmp_ge (tgt := 118) F dX9_meetings_14 (by decide) h (fun a24 h => ?_) (fun a24 h => ?_)
      · refine g_iload_n (i := 2) F dX9_meetings_118 rfl rfl ?_
        have hp := Prod.mk.inj (Option.some.inj h)
        exact g_iret F hr9 rfl hl9 hp.1 (by rw [hp.2]) (by decide) (by decide) dX9_meetings_119
      · refine g_iconst F dX9_meetings_17 (v := 0) (by decide) ?_
        refine g_istore (i := 4) (lv' := [(4, .int (0 : Int32)), (0, .ref (ev 0 + 0)), (1, .int l1f7), (2, .int l2), (3, .int l3)]) F dX9_meetings_18 (by decide) rfl ?_
        refine g_lv (lv' := [(0, .ref (ev 0 + 0)), (1, .int l1f7), (2, .int l2), (3, .int l3), (4, .int (0 : Int32))]) ⟨rfl, rfl, rfl, rfl, rfl, trivial⟩ ?_
        exact L20 _ FU _ _ _ h
  rw [fX9_meetings] at h
  refine g_lv (lv' := [(0, .ref (ev 0 + 0)), (1, .int l1)]) ⟨rfl, rfl, trivial⟩ ?_
  refine g_iconst F dX9_meetings_0 (v := 0) (by decide) ?_
  refine g_istore_n (i := 2) (lv' := [(2, .int (0 : Int32)), (0, .ref (ev 0 + 0)), (1, .int l1)]) F dX9_meetings_1 rfl (by decide) rfl ?_
  refine g_aload_n (i := 0) F dX9_meetings_2 rfl rfl ?_
  refine g_get_9_11 F rfl (kd_lit (by decide)) wd_2_19 dX9_meetings_3 ?_
  refine g_topi F h (fun v1 e2 h => ?_)
  refine g_istore_n (i := 3) (lv' := [(3, .int v1), (2, .int (0 : Int32)), (0, .ref (ev 0 + 0)), (1, .int l1)]) F dX9_meetings_6 rfl (by decide) rfl ?_
  refine g_lv (lv' := [(0, .ref (ev 0 + 0)), (1, .int l1), (2, .int (0 : Int32)), (3, .int v1)]) ⟨rfl, rfl, rfl, rfl, trivial⟩ ?_
  exact L7 _ FU _ _ _ h
def fX9_lost_l4 (X : XW) (nb : Nat) (K4 : Int32 → Int32 → Option Int32) (l1 : Int32) (l2 : Int32) : Option Int32 :=
  if (X.1 0 12) ≤ l2 then some l1
  else (rdR (X.2.2 13) 6 l2).bind fun r1 =>
  (r1).bind fun b3 =>
  if NS ≤ b3 ∧ b3 < TT nb then (fX1_isGone X nb b3).bind fun v6 =>
  if v6 = 0 then if inb l2 6 then bd (27 + 2 * (l2).toNatClampNeg) fun o9 =>
  if (X.1 o9 1) = (-1 : Int32) then K4 (l1 + (1 : Int32)) (l2 + (1 : Int32))
  else K4 l1 (l2 + (1 : Int32))
  else none
  else K4 l1 (l2 + (1 : Int32)) else none
def fX9_lost (X : XW) (nb : Nat) : Option Int32 :=
  lo2 (fX9_lost_l4 X nb) FU (0 : Int32) (0 : Int32)
set_option maxRecDepth 100000 in
set_option maxHeartbeats 4000000 in
theorem c_X9_lost {l : Launch} {s0 : State} {D : va_G} {ev : Nat → Nat} (G0 : Gl s0 D ev) {X : XW} {M : MW} {nb : Nat}  {r' : Int32}  (h : fX9_lost X nb = some r') : CT l s0 D ev yX9_lost cX9_lost 3 (some .int) 1 0 0 [.ref (ev 0 + 0)] (cells ev X M nb) (QI s0 D ev r' (cells ev X M nb)) := by
  refine ct_of G0 (by decide) (Nat.le_of_ble_eq_true rfl) ?_
  intro p9 e9 s9 m9 args9 below9 meth9 c9 F hr9 hl9 hin9 hargs9 hts9
  have L4 : ∀  (N4 : Nat) (l1 : Int32) (l2 : Int32), lo2 (fX9_lost_l4 X nb) N4 l1 l2 = some r' → GJ p9 l e9 (rg 1 0 0) s9 m9 args9 below9 meth9 c9 (MQ below9 (QI s0 D ev r' (cells ev X M nb)) args9 s9 0 0 (frA ev)) s0 D ev 3 0 0 4 [(0, .ref (ev 0 + 0)), (1, .int l1), (2, .int l2)] ([]) (cells ev X M nb) := by
    intro  N4
    induction N4 with
    | zero => intro l1 l2 h; cases h
    | succ N4 ih4 =>
      intro l1 l2 h
      change fX9_lost_l4 X nb (lo2 (fX9_lost_l4 X nb) N4) l1 l2 = some r' at h
      rw [fX9_lost_l4] at h
      refine g_iload_n (i := 2) F dX9_lost_4 rfl rfl ?_
      refine g_aload_n (i := 0) F dX9_lost_5 rfl rfl ?_
      refine g_get_9_12 F rfl (kd_lit (by decide)) wd_2_20 dX9_lost_6 ?_
      refine g_icmp_ge (tgt := 46) F dX9_lost_9 (by decide) h (fun a14 h => ?_) (fun a14 h => ?_)
      · refine g_iload_n (i := 1) F dX9_lost_46 rfl rfl ?_
        exact g_iret F hr9 rfl hl9 (Option.some.inj h) rfl (by decide) (by decide) dX9_lost_47
      · refine g_aload_n (i := 0) F dX9_lost_12 rfl rfl ?_
        refine g_get_9_4 F rfl (kd_lit (by decide)) wd_2_3 dX9_lost_13 ?_
        refine g_iload_n (i := 2) F dX9_lost_16 rfl rfl ?_
        obtain ⟨r1, e2, h⟩ := bind_at h
        refine g_aldB F e2 dX9_lost_17 ?_
        obtain ⟨b3, e4, h⟩ := bind_at h
        rw [e4]
        obtain ⟨h5, h⟩ := if_at h
        obtain ⟨v6, e7, h⟩ := bind_at h
        refine g_callVI F (mcR := 0) (msR := 0) (id := b3) (cells_at h5.2 (xc_1 (kd_b h5))) (ci := 1) rfl rfl rfl (c_X1_isGone G0 e7) wd_24_6 wd_24_3 wd_24_4 wd_24_5 wd_21_23 ⟨by decide, by decide⟩ (nn := 0) (by decide) (As := []) rfl rfl (Nat.le_of_ble_eq_true rfl) (by decide) (by decide) ⟨by decide, by decide⟩ dX9_lost_18 ?_
        refine g_if_ne (tgt := 40) F dX9_lost_21 (by decide) h (fun a13 h => ?_) (fun a13 h => ?_)
        · refine g_iinc (i := 2) (v := (l2 + (1 : Int32))) (lv' := [(2, .int (l2 + (1 : Int32))), (0, .ref (ev 0 + 0)), (1, .int l1)]) F dX9_lost_40 rfl rfl (by decide) rfl ?_
          refine g_goto (tgt := 4) F dX9_lost_43 (by decide) ?_
          refine g_lv (lv' := [(0, .ref (ev 0 + 0)), (1, .int l1), (2, .int (l2 + (1 : Int32)))]) ⟨rfl, rfl, rfl, trivial⟩ ?_
          exact ih4 _ _ h
        · refine g_aload_n (i := 0) F dX9_lost_24 rfl rfl ?_
          refine g_get_9_5 F rfl (kd_lit (by decide)) wd_2_5 dX9_lost_25 ?_
          refine g_iload_n (i := 2) F dX9_lost_28 rfl rfl ?_
          obtain ⟨h8, h⟩ := if_at h
          obtain ⟨o9, e10, h⟩ := bd_at h
          refine g_ald_13 F h8 dX9_lost_29 ?_
          rw [← e10]
          have h11 : kd o9 = 2 := by rw [e10]; exact kd_c (clamp_lt h8)
          refine g_get_2_1 F h11 (kd_hid h11 (by decide)) wd_27_1 dX9_lost_30 ?_
          refine g_iconst F dX9_lost_33 (v := -1) (by decide) ?_
          refine g_icmp_ne (tgt := 40) F dX9_lost_34 (by decide) h (fun a12 h => ?_) (fun a12 h => ?_)
          · refine g_iinc (i := 2) (v := (l2 + (1 : Int32))) (lv' := [(2, .int (l2 + (1 : Int32))), (0, .ref (ev 0 + 0)), (1, .int l1)]) F dX9_lost_40 rfl rfl (by decide) rfl ?_
            refine g_goto (tgt := 4) F dX9_lost_43 (by decide) ?_
            refine g_lv (lv' := [(0, .ref (ev 0 + 0)), (1, .int l1), (2, .int (l2 + (1 : Int32)))]) ⟨rfl, rfl, rfl, trivial⟩ ?_
            exact ih4 _ _ h
          · refine g_iinc (i := 1) (v := (l1 + (1 : Int32))) (lv' := [(1, .int (l1 + (1 : Int32))), (0, .ref (ev 0 + 0)), (2, .int l2)]) F dX9_lost_37 rfl rfl (by decide) rfl ?_
            refine g_iinc (i := 2) (v := (l2 + (1 : Int32))) (lv' := [(2, .int (l2 + (1 : Int32))), (1, .int (l1 + (1 : Int32))), (0, .ref (ev 0 + 0))]) F dX9_lost_40 rfl rfl (by decide) rfl ?_
            refine g_goto (tgt := 4) F dX9_lost_43 (by decide) ?_
            refine g_lv (lv' := [(0, .ref (ev 0 + 0)), (1, .int (l1 + (1 : Int32))), (2, .int (l2 + (1 : Int32)))]) ⟨rfl, rfl, rfl, trivial⟩ ?_
            exact ih4 _ _ h
  rw [fX9_lost] at h
  refine g_lv (lv' := [(0, .ref (ev 0 + 0))]) ⟨rfl, trivial⟩ ?_
  refine g_iconst F dX9_lost_0 (v := 0) (by decide) ?_
  refine g_istore_n (i := 1) (lv' := [(1, .int (0 : Int32)), (0, .ref (ev 0 + 0))]) F dX9_lost_1 rfl (by decide) rfl ?_
  refine g_iconst F dX9_lost_2 (v := 0) (by decide) ?_
  refine g_istore_n (i := 2) (lv' := [(2, .int (0 : Int32)), (1, .int (0 : Int32)), (0, .ref (ev 0 + 0))]) F dX9_lost_3 rfl (by decide) rfl ?_
  refine g_lv (lv' := [(0, .ref (ev 0 + 0)), (1, .int (0 : Int32)), (2, .int (0 : Int32))]) ⟨rfl, rfl, rfl, trivial⟩ ?_
  exact L4 FU _ _ h
def fX9_firstToDrag_b30 (X : XW) (K4 : Int32 → Int32 → Option Int32) (l1 : Int32) (l2 : Int32) (t0 : Int32) : Option Int32 :=
  if t0 = 0 then K4 l1 (l2 + (1 : Int32))
  else if l1 = (-1 : Int32) then K4 l2 (l2 + (1 : Int32))
  else if inb l2 6 then bd (27 + 2 * (l2).toNatClampNeg) fun o6 =>
  if inb l1 6 then bd (27 + 2 * (l1).toNatClampNeg) fun o10 =>
  if (X.1 o10 3) ≤ (X.1 o6 3) then K4 l1 (l2 + (1 : Int32))
  else K4 l2 (l2 + (1 : Int32))
  else none
  else none
def fX9_firstToDrag_l4 (X : XW) (K4 : Int32 → Int32 → Option Int32) (l1 : Int32) (l2 : Int32) : Option Int32 :=
  if (X.1 0 12) ≤ l2 then some l1
  else if inb l2 6 then bd (27 + 2 * (l2).toNatClampNeg) fun o2 =>
  if (X.1 o2 3) = (-1 : Int32) then fX9_firstToDrag_b30 X K4 l1 l2 (0 : Int32)
  else fX9_firstToDrag_b30 X K4 l1 l2 (1 : Int32)
  else none
def fX9_firstToDrag (X : XW) : Option Int32 :=
  lo2 (fX9_firstToDrag_l4 X) FU (-1 : Int32) (0 : Int32)
set_option maxRecDepth 100000 in
set_option maxHeartbeats 4000000 in
theorem c_X9_firstToDrag {l : Launch} {s0 : State} {D : va_G} {ev : Nat → Nat} (G0 : Gl s0 D ev) {X : XW} {M : MW} {nb : Nat}  {r' : Int32}  (h : fX9_firstToDrag X = some r') : CT l s0 D ev yX9_firstToDrag cX9_firstToDrag 4 (some .int) 0 0 0 [.ref (ev 0 + 0)] (cells ev X M nb) (QI s0 D ev r' (cells ev X M nb)) := by
  refine ct_of G0 (by decide) (Nat.le_of_ble_eq_true rfl) ?_
  intro p9 e9 s9 m9 args9 below9 meth9 c9 F hr9 hl9 hin9 hargs9 hts9
  have L4 : ∀  (N4 : Nat) (l1 : Int32) (l2 : Int32), lo2 (fX9_firstToDrag_l4 X) N4 l1 l2 = some r' → GJ p9 l e9 (rg 0 0 0) s9 m9 args9 below9 meth9 c9 (MQ below9 (QI s0 D ev r' (cells ev X M nb)) args9 s9 0 0 (frA ev)) s0 D ev 4 0 0 4 [(0, .ref (ev 0 + 0)), (1, .int l1), (2, .int l2)] ([]) (cells ev X M nb) := by
    intro  N4
    induction N4 with
    | zero => intro l1 l2 h; cases h
    | succ N4 ih4 =>
      have U30 : ∀ (l1 : Int32) (l2 : Int32) (t0 : Int32), fX9_firstToDrag_b30 X (lo2 (fX9_firstToDrag_l4 X) N4) l1 l2 t0 = some r' → GJ p9 l e9 (rg 0 0 0) s9 m9 args9 below9 meth9 c9 (MQ below9 (QI s0 D ev r' (cells ev X M nb)) args9 s9 0 0 (frA ev)) s0 D ev 4 0 0 30 [(0, .ref (ev 0 + 0)), (1, .int l1), (2, .int l2)] (.int t0 :: []) (cells ev X M nb) := by
        intro l1 l2 t0 h
        rw [fX9_firstToDrag_b30] at h
        refine g_istore_n (i := 3) (lv' := [(3, .int t0), (0, .ref (ev 0 + 0)), (1, .int l1), (2, .int l2)]) F dX9_firstToDrag_30 rfl (by decide) rfl ?_
        refine g_iload_n (i := 3) F dX9_firstToDrag_31 rfl rfl ?_
        refine g_if_eq (tgt := 63) F dX9_firstToDrag_32 (by decide) h (fun a15 h => ?_) (fun a15 h => ?_)
        · refine g_iinc (i := 2) (v := (l2 + (1 : Int32))) (lv' := [(2, .int (l2 + (1 : Int32))), (3, .int t0), (0, .ref (ev 0 + 0)), (1, .int l1)]) F dX9_firstToDrag_63 rfl rfl (by decide) rfl ?_
          refine g_goto (tgt := 4) F dX9_firstToDrag_66 (by decide) ?_
          refine g_lv (lv' := [(0, .ref (ev 0 + 0)), (1, .int l1), (2, .int (l2 + (1 : Int32)))]) ⟨rfl, rfl, rfl, trivial⟩ ?_
          exact ih4 _ _ h
        · refine g_iload_n (i := 1) F dX9_firstToDrag_35 rfl rfl ?_
          refine g_iconst F dX9_firstToDrag_36 (v := -1) (by decide) ?_
          refine g_icmp_eq (tgt := 61) F dX9_firstToDrag_37 (by decide) h (fun a14 h => ?_) (fun a14 h => ?_)
          · refine g_iload_n (i := 2) F dX9_firstToDrag_61 rfl rfl ?_
            refine g_istore_n (i := 1) (lv' := [(1, .int l2), (3, .int t0), (0, .ref (ev 0 + 0)), (2, .int l2)]) F dX9_firstToDrag_62 rfl (by decide) rfl ?_
            refine g_iinc (i := 2) (v := (l2 + (1 : Int32))) (lv' := [(2, .int (l2 + (1 : Int32))), (1, .int l2), (3, .int t0), (0, .ref (ev 0 + 0))]) F dX9_firstToDrag_63 rfl rfl (by decide) rfl ?_
            refine g_goto (tgt := 4) F dX9_firstToDrag_66 (by decide) ?_
            refine g_lv (lv' := [(0, .ref (ev 0 + 0)), (1, .int l2), (2, .int (l2 + (1 : Int32)))]) ⟨rfl, rfl, rfl, trivial⟩ ?_
            exact ih4 _ _ h
          · refine g_aload_n (i := 0) F dX9_firstToDrag_40 rfl rfl ?_
            refine g_get_9_5 F rfl (kd_lit (by decide)) wd_2_5 dX9_firstToDrag_41 ?_
            refine g_iload_n (i := 2) F dX9_firstToDrag_44 rfl rfl ?_
            obtain ⟨h5, h⟩ := if_at h
            obtain ⟨o6, e7, h⟩ := bd_at h
            refine g_ald_13 F h5 dX9_firstToDrag_45 ?_
            rw [← e7]
            have h8 : kd o6 = 2 := by rw [e7]; exact kd_c (clamp_lt h5)
            refine g_get_2_3 F h8 (kd_hid h8 (by decide)) wd_27_3 dX9_firstToDrag_46 ?_
            refine g_aload_n (i := 0) F dX9_firstToDrag_49 rfl rfl ?_
            refine g_get_9_5 F rfl (kd_lit (by decide)) wd_2_5 dX9_firstToDrag_50 ?_
            refine g_iload_n (i := 1) F dX9_firstToDrag_53 rfl rfl ?_
            obtain ⟨h9, h⟩ := if_at h
            obtain ⟨o10, e11, h⟩ := bd_at h
            refine g_ald_13 F h9 dX9_firstToDrag_54 ?_
            rw [← e11]
            have h12 : kd o10 = 2 := by rw [e11]; exact kd_c (clamp_lt h9)
            refine g_get_2_3 F h12 (kd_hid h12 (by decide)) wd_27_3 dX9_firstToDrag_55 ?_
            refine g_icmp_ge (tgt := 63) F dX9_firstToDrag_58 (by decide) h (fun a13 h => ?_) (fun a13 h => ?_)
            · refine g_iinc (i := 2) (v := (l2 + (1 : Int32))) (lv' := [(2, .int (l2 + (1 : Int32))), (3, .int t0), (0, .ref (ev 0 + 0)), (1, .int l1)]) F dX9_firstToDrag_63 rfl rfl (by decide) rfl ?_
              refine g_goto (tgt := 4) F dX9_firstToDrag_66 (by decide) ?_
              refine g_lv (lv' := [(0, .ref (ev 0 + 0)), (1, .int l1), (2, .int (l2 + (1 : Int32)))]) ⟨rfl, rfl, rfl, trivial⟩ ?_
              exact ih4 _ _ h
            · refine g_iload_n (i := 2) F dX9_firstToDrag_61 rfl rfl ?_
              refine g_istore_n (i := 1) (lv' := [(1, .int l2), (3, .int t0), (0, .ref (ev 0 + 0)), (2, .int l2)]) F dX9_firstToDrag_62 rfl (by decide) rfl ?_
              refine g_iinc (i := 2) (v := (l2 + (1 : Int32))) (lv' := [(2, .int (l2 + (1 : Int32))), (1, .int l2), (3, .int t0), (0, .ref (ev 0 + 0))]) F dX9_firstToDrag_63 rfl rfl (by decide) rfl ?_
              refine g_goto (tgt := 4) F dX9_firstToDrag_66 (by decide) ?_
              refine g_lv (lv' := [(0, .ref (ev 0 + 0)), (1, .int l2), (2, .int (l2 + (1 : Int32)))]) ⟨rfl, rfl, rfl, trivial⟩ ?_
              exact ih4 _ _ h
      intro l1 l2 h
      change fX9_firstToDrag_l4 X (lo2 (fX9_firstToDrag_l4 X) N4) l1 l2 = some r' at h
      rw [fX9_firstToDrag_l4] at h
      refine g_iload_n (i := 2) F dX9_firstToDrag_4 rfl rfl ?_
      refine g_aload_n (i := 0) F dX9_firstToDrag_5 rfl rfl ?_
      refine g_get_9_12 F rfl (kd_lit (by decide)) wd_2_20 dX9_firstToDrag_6 ?_
      refine g_icmp_ge (tgt := 69) F dX9_firstToDrag_9 (by decide) h (fun a17 h => ?_) (fun a17 h => ?_)
      · refine g_iload_n (i := 1) F dX9_firstToDrag_69 rfl rfl ?_
        exact g_iret F hr9 rfl hl9 (Option.some.inj h) rfl (by decide) (by decide) dX9_firstToDrag_70
      · refine g_aload_n (i := 0) F dX9_firstToDrag_12 rfl rfl ?_
        refine g_get_9_5 F rfl (kd_lit (by decide)) wd_2_5 dX9_firstToDrag_13 ?_
        refine g_iload_n (i := 2) F dX9_firstToDrag_16 rfl rfl ?_
        obtain ⟨h1, h⟩ := if_at h
        obtain ⟨o2, e3, h⟩ := bd_at h
        refine g_ald_13 F h1 dX9_firstToDrag_17 ?_
        rw [← e3]
        have h4 : kd o2 = 2 := by rw [e3]; exact kd_c (clamp_lt h1)
        refine g_get_2_3 F h4 (kd_hid h4 (by decide)) wd_27_3 dX9_firstToDrag_18 ?_
        refine g_iconst F dX9_firstToDrag_21 (v := -1) (by decide) ?_
        refine g_icmp_eq (tgt := 29) F dX9_firstToDrag_22 (by decide) h (fun a16 h => ?_) (fun a16 h => ?_)
        · refine g_iconst F dX9_firstToDrag_29 (v := 0) (by decide) ?_
          refine g_lv (lv' := [(0, .ref (ev 0 + 0)), (1, .int l1), (2, .int l2)]) ⟨rfl, rfl, rfl, trivial⟩ ?_
          exact U30 _ _ _ h
        · refine g_iconst F dX9_firstToDrag_25 (v := 1) (by decide) ?_
          refine g_goto (tgt := 30) F dX9_firstToDrag_26 (by decide) ?_
          refine g_lv (lv' := [(0, .ref (ev 0 + 0)), (1, .int l1), (2, .int l2)]) ⟨rfl, rfl, rfl, trivial⟩ ?_
          exact U30 _ _ _ h
  rw [fX9_firstToDrag] at h
  refine g_lv (lv' := [(0, .ref (ev 0 + 0))]) ⟨rfl, trivial⟩ ?_
  refine g_iconst F dX9_firstToDrag_0 (v := -1) (by decide) ?_
  refine g_istore_n (i := 1) (lv' := [(1, .int (-1 : Int32)), (0, .ref (ev 0 + 0))]) F dX9_firstToDrag_1 rfl (by decide) rfl ?_
  refine g_iconst F dX9_firstToDrag_2 (v := 0) (by decide) ?_
  refine g_istore_n (i := 2) (lv' := [(2, .int (0 : Int32)), (1, .int (-1 : Int32)), (0, .ref (ev 0 + 0))]) F dX9_firstToDrag_3 rfl (by decide) rfl ?_
  refine g_lv (lv' := [(0, .ref (ev 0 + 0)), (1, .int (-1 : Int32)), (2, .int (0 : Int32))]) ⟨rfl, rfl, rfl, trivial⟩ ?_
  exact L4 FU _ _ h
def fX9_fleet (X : XW) (nb : Nat) (l1 : Int32) (l2 : Int32) : Option (Int32 × XW) :=
  if (fX9_isNight X l1) = 0 then some ((-2 : Int32), X)
  else if (fX9_within l2 (0 : Int32) (3 : Int32)) = 0 then some ((-2 : Int32), X)
  else (fX9_sailAll X nb l1).bind fun X5 =>
  if l2 = (2 : Int32) then bd2 (fX9_meetings X5 l1) fun v19 X18 =>
  some (v19, X18)
  else if l2 = (3 : Int32) then (fX9_lost X5 nb).bind fun v15 =>
  some (v15, X5)
  else (fX9_firstToDrag X5).bind fun v7 =>
  if l2 = 0 then some (v7, X5)
  else if v7 = (-1 : Int32) then some (v7, X5)
  else if inb v7 6 then bd (27 + 2 * (v7).toNatClampNeg) fun o10 =>
  some ((X5.1 o10 3), X5)
  else none
set_option maxRecDepth 100000 in
set_option maxHeartbeats 4000000 in
theorem c_X9_fleet {l : Launch} {s0 : State} {D : va_G} {ev : Nat → Nat} (G0 : Gl s0 D ev) {X : XW} {M : MW} {nb : Nat} {l1 : Int32} {l2 : Int32} {r' : Int32} {X' : XW}  (h : fX9_fleet X nb l1 l2 = some (r', X')) : CT l s0 D ev yX9_fleet cX9_fleet 4 (some .int) 7 0 0 [.ref (ev 0 + 0), .int l1, .int l2] (cells ev X M nb) (QI s0 D ev r' (cells ev X' M nb)) := by
  refine ct_of G0 (by decide) (Nat.le_of_ble_eq_true rfl) ?_
  intro p9 e9 s9 m9 args9 below9 meth9 c9 F hr9 hl9 hin9 hargs9 hts9
  rw [fX9_fleet] at h
  refine g_lv (lv' := [(0, .ref (ev 0 + 0)), (1, .int l1), (2, .int l2)]) ⟨rfl, rfl, rfl, trivial⟩ ?_
  refine g_aload_n (i := 0) F dX9_fleet_0 rfl rfl ?_
  refine g_iload_n (i := 1) F dX9_fleet_1 rfl rfl ?_
  refine g_callVI F (mcR := 0) (msR := 0) (id := 0) (cells_at (kd_lit (i := 0) (by decide)) (xc_9 rfl)) (ci := 9) rfl rfl rfl (c_X9_isNight G0 (X := X) (M := M) (nb := nb) rfl) wd_27_7 wd_27_4 wd_27_5 wd_27_6 wd_1_2 ⟨by decide, by decide⟩ (nn := 1) (by decide) (As := [.int l1]) rfl rfl (Nat.le_of_ble_eq_true rfl) (by decide) (by decide) ⟨by decide, by decide⟩ dX9_fleet_2 ?_
  refine g_if_eq (tgt := 17) F dX9_fleet_5 (by decide) h (fun a23 h => ?_) (fun a23 h => ?_)
  · refine g_bipush F dX9_fleet_17 (v := -2) (by decide) ?_
    have hp := Prod.mk.inj (Option.some.inj h)
    exact g_iret F hr9 rfl hl9 hp.1 (by rw [hp.2]) (by decide) (by decide) dX9_fleet_19
  · refine g_iload_n (i := 2) F dX9_fleet_8 rfl rfl ?_
    refine g_iconst F dX9_fleet_9 (v := 0) (by decide) ?_
    refine g_iconst F dX9_fleet_10 (v := 3) (by decide) ?_
    refine g_callSI F (mcR := 0) (msR := 0) (c_X9_within G0 (X := X) (M := M) (nb := nb) rfl) wd_9_7 wd_15_21 wd_9_6 wd_1_2 ⟨by decide, by decide⟩ (nn := 3) (by decide) (As := [.int l2, .int (0 : Int32), .int (3 : Int32)]) rfl rfl (Nat.le_of_ble_eq_true rfl) (by decide) (by decide) ⟨by decide, by decide⟩ dX9_fleet_11 ?_
    refine g_if_ne (tgt := 20) F dX9_fleet_14 (by decide) h (fun a22 h => ?_) (fun a22 h => ?_)
    · refine g_aload_n (i := 0) F dX9_fleet_20 rfl rfl ?_
      refine g_iload_n (i := 1) F dX9_fleet_21 rfl rfl ?_
      obtain ⟨X5, e6, h⟩ := bind_at h
      refine g_callVV F (mcR := 0) (msR := 0) (id := 0) (cells_at (kd_lit (i := 0) (by decide)) (xc_9 rfl)) (ci := 9) rfl rfl rfl (c_X9_sailAll G0 e6) wd_31_12 wd_31_9 wd_31_10 wd_31_11 wd_1_2 ⟨by decide, by decide⟩ (nn := 1) (by decide) (As := [.int l1]) rfl rfl (Nat.le_of_ble_eq_true rfl) (by decide) (by decide) ⟨by decide, by decide⟩ dX9_fleet_22 ?_
      refine g_iload_n (i := 2) F dX9_fleet_25 rfl rfl ?_
      refine g_iconst F dX9_fleet_26 (v := 2) (by decide) ?_
      refine g_icmp_ne (tgt := 36) F dX9_fleet_27 (by decide) h (fun a21 h => ?_) (fun a21 h => ?_)
      · refine g_iload_n (i := 2) F dX9_fleet_36 rfl rfl ?_
        refine g_iconst F dX9_fleet_37 (v := 3) (by decide) ?_
        refine g_icmp_ne (tgt := 46) F dX9_fleet_38 (by decide) h (fun a17 h => ?_) (fun a17 h => ?_)
        · refine g_aload_n (i := 0) F dX9_fleet_46 rfl rfl ?_
          obtain ⟨v7, e8, h⟩ := bind_at h
          refine g_callVI F (mcR := 0) (msR := 0) (id := 0) (cells_at (kd_lit (i := 0) (by decide)) (xc_9 rfl)) (ci := 9) rfl rfl rfl (c_X9_firstToDrag G0 e8) wd_32_5 wd_32_2 wd_32_3 wd_32_4 wd_1_2 ⟨by decide, by decide⟩ (nn := 0) (by decide) (As := []) rfl rfl (Nat.le_of_ble_eq_true rfl) (by decide) (by decide) ⟨by decide, by decide⟩ dX9_fleet_47 ?_
          refine g_istore_n (i := 3) (lv' := [(3, .int v7), (0, .ref (ev 0 + 0)), (1, .int l1), (2, .int l2)]) F dX9_fleet_50 rfl (by decide) rfl ?_
          refine g_iload_n (i := 2) F dX9_fleet_51 rfl rfl ?_
          refine g_if_eq (tgt := 60) F dX9_fleet_52 (by decide) h (fun a14 h => ?_) (fun a14 h => ?_)
          · refine g_iload_n (i := 3) F dX9_fleet_60 rfl rfl ?_
            refine g_goto (tgt := 73) F dX9_fleet_61 (by decide) ?_
            have hp := Prod.mk.inj (Option.some.inj h)
            exact g_iret F hr9 rfl hl9 hp.1 (by rw [hp.2]) (by decide) (by decide) dX9_fleet_73
          · refine g_iload_n (i := 3) F dX9_fleet_55 rfl rfl ?_
            refine g_iconst F dX9_fleet_56 (v := -1) (by decide) ?_
            refine g_icmp_ne (tgt := 64) F dX9_fleet_57 (by decide) h (fun a13 h => ?_) (fun a13 h => ?_)
            · refine g_aload_n (i := 0) F dX9_fleet_64 rfl rfl ?_
              refine g_get_9_5 F rfl (kd_lit (by decide)) wd_2_5 dX9_fleet_65 ?_
              refine g_iload_n (i := 3) F dX9_fleet_68 rfl rfl ?_
              obtain ⟨h9, h⟩ := if_at h
              obtain ⟨o10, e11, h⟩ := bd_at h
              refine g_ald_13 F h9 dX9_fleet_69 ?_
              rw [← e11]
              have h12 : kd o10 = 2 := by rw [e11]; exact kd_c (clamp_lt h9)
              refine g_get_2_3 F h12 (kd_hid h12 (by decide)) wd_27_3 dX9_fleet_70 ?_
              have hp := Prod.mk.inj (Option.some.inj h)
              exact g_iret F hr9 rfl hl9 hp.1 (by rw [hp.2]) (by decide) (by decide) dX9_fleet_73
            · refine g_iload_n (i := 3) F dX9_fleet_60 rfl rfl ?_
              refine g_goto (tgt := 73) F dX9_fleet_61 (by decide) ?_
              have hp := Prod.mk.inj (Option.some.inj h)
              exact g_iret F hr9 rfl hl9 hp.1 (by rw [hp.2]) (by decide) (by decide) dX9_fleet_73
        · refine g_aload_n (i := 0) F dX9_fleet_41 rfl rfl ?_
          obtain ⟨v15, e16, h⟩ := bind_at h
          refine g_callVI F (mcR := 0) (msR := 0) (id := 0) (cells_at (kd_lit (i := 0) (by decide)) (xc_9 rfl)) (ci := 9) rfl rfl rfl (c_X9_lost G0 e16) wd_32_1 wd_31_22 wd_31_23 wd_32_0 wd_1_2 ⟨by decide, by decide⟩ (nn := 0) (by decide) (As := []) rfl rfl (Nat.le_of_ble_eq_true rfl) (by decide) (by decide) ⟨by decide, by decide⟩ dX9_fleet_42 ?_
          have hp := Prod.mk.inj (Option.some.inj h)
          exact g_iret F hr9 rfl hl9 hp.1 (by rw [hp.2]) (by decide) (by decide) dX9_fleet_45
      · refine g_aload_n (i := 0) F dX9_fleet_30 rfl rfl ?_
        refine g_iload_n (i := 1) F dX9_fleet_31 rfl rfl ?_
        obtain ⟨v19, X18, e20, h⟩ := bd2_at h
        refine g_callVI F (mcR := 0) (msR := 0) (id := 0) (cells_at (kd_lit (i := 0) (by decide)) (xc_9 rfl)) (ci := 9) rfl rfl rfl (c_X9_meetings G0 e20) wd_31_16 wd_31_13 wd_31_14 wd_31_15 wd_1_2 ⟨by decide, by decide⟩ (nn := 1) (by decide) (As := [.int l1]) rfl rfl (Nat.le_of_ble_eq_true rfl) (by decide) (by decide) ⟨by decide, by decide⟩ dX9_fleet_32 ?_
        have hp := Prod.mk.inj (Option.some.inj h)
        exact g_iret F hr9 rfl hl9 hp.1 (by rw [hp.2]) (by decide) (by decide) dX9_fleet_35
    · refine g_bipush F dX9_fleet_17 (v := -2) (by decide) ?_
      have hp := Prod.mk.inj (Option.some.inj h)
      exact g_iret F hr9 rfl hl9 hp.1 (by rw [hp.2]) (by decide) (by decide) dX9_fleet_19
def fX9_hit (X : XW) (nb : Nat) (l1 : Int32) (l2 : Int32) (l3 : Int32) : Option (Int32 × XW) :=
  if (fX9_isNight X l1) = 0 then some ((-2 : Int32), X)
  else if (fX9_within l3 (0 : Int32) (2 : Int32)) = 0 then some ((-2 : Int32), X)
  else (fX9_sailAll X nb l1).bind fun X5 =>
  bd2 (fX9_meetings X5 l1) fun v8 X7 =>
  if (fX9_within l2 (0 : Int32) (v8 - (1 : Int32))) = 0 then some ((-1 : Int32), X7)
  else if l3 = (0 : Int32) then (rd (X7.2.1 15) 180 l2).bind fun v14 =>
  some ((v14 / (100 : Int32)), X7)
  else if l3 = (1 : Int32) then (rd (X7.2.1 15) 180 l2).bind fun v16 =>
  some ((jrem (v16 / (10 : Int32)) (10 : Int32)), X7)
  else (rd (X7.2.1 15) 180 l2).bind fun v18 =>
  some ((jrem v18 (10 : Int32)), X7)
set_option maxRecDepth 100000 in
set_option maxHeartbeats 4000000 in
theorem c_X9_hit {l : Launch} {s0 : State} {D : va_G} {ev : Nat → Nat} (G0 : Gl s0 D ev) {X : XW} {M : MW} {nb : Nat} {l1 : Int32} {l2 : Int32} {l3 : Int32} {r' : Int32} {X' : XW}  (h : fX9_hit X nb l1 l2 l3 = some (r', X')) : CT l s0 D ev yX9_hit cX9_hit 4 (some .int) 7 0 0 [.ref (ev 0 + 0), .int l1, .int l2, .int l3] (cells ev X M nb) (QI s0 D ev r' (cells ev X' M nb)) := by
  refine ct_of G0 (by decide) (Nat.le_of_ble_eq_true rfl) ?_
  intro p9 e9 s9 m9 args9 below9 meth9 c9 F hr9 hl9 hin9 hargs9 hts9
  rw [fX9_hit] at h
  refine g_lv (lv' := [(0, .ref (ev 0 + 0)), (1, .int l1), (2, .int l2), (3, .int l3)]) ⟨rfl, rfl, rfl, rfl, trivial⟩ ?_
  refine g_aload_n (i := 0) F dX9_hit_0 rfl rfl ?_
  refine g_iload_n (i := 1) F dX9_hit_1 rfl rfl ?_
  refine g_callVI F (mcR := 0) (msR := 0) (id := 0) (cells_at (kd_lit (i := 0) (by decide)) (xc_9 rfl)) (ci := 9) rfl rfl rfl (c_X9_isNight G0 (X := X) (M := M) (nb := nb) rfl) wd_27_7 wd_27_4 wd_27_5 wd_27_6 wd_1_2 ⟨by decide, by decide⟩ (nn := 1) (by decide) (As := [.int l1]) rfl rfl (Nat.le_of_ble_eq_true rfl) (by decide) (by decide) ⟨by decide, by decide⟩ dX9_hit_2 ?_
  refine g_if_eq (tgt := 17) F dX9_hit_5 (by decide) h (fun a22 h => ?_) (fun a22 h => ?_)
  · refine g_bipush F dX9_hit_17 (v := -2) (by decide) ?_
    have hp := Prod.mk.inj (Option.some.inj h)
    exact g_iret F hr9 rfl hl9 hp.1 (by rw [hp.2]) (by decide) (by decide) dX9_hit_19
  · refine g_iload_n (i := 3) F dX9_hit_8 rfl rfl ?_
    refine g_iconst F dX9_hit_9 (v := 0) (by decide) ?_
    refine g_iconst F dX9_hit_10 (v := 2) (by decide) ?_
    refine g_callSI F (mcR := 0) (msR := 0) (c_X9_within G0 (X := X) (M := M) (nb := nb) rfl) wd_9_7 wd_15_21 wd_9_6 wd_1_2 ⟨by decide, by decide⟩ (nn := 3) (by decide) (As := [.int l3, .int (0 : Int32), .int (2 : Int32)]) rfl rfl (Nat.le_of_ble_eq_true rfl) (by decide) (by decide) ⟨by decide, by decide⟩ dX9_hit_11 ?_
    refine g_if_ne (tgt := 20) F dX9_hit_14 (by decide) h (fun a21 h => ?_) (fun a21 h => ?_)
    · refine g_aload_n (i := 0) F dX9_hit_20 rfl rfl ?_
      refine g_iload_n (i := 1) F dX9_hit_21 rfl rfl ?_
      obtain ⟨X5, e6, h⟩ := bind_at h
      refine g_callVV F (mcR := 0) (msR := 0) (id := 0) (cells_at (kd_lit (i := 0) (by decide)) (xc_9 rfl)) (ci := 9) rfl rfl rfl (c_X9_sailAll G0 e6) wd_31_12 wd_31_9 wd_31_10 wd_31_11 wd_1_2 ⟨by decide, by decide⟩ (nn := 1) (by decide) (As := [.int l1]) rfl rfl (Nat.le_of_ble_eq_true rfl) (by decide) (by decide) ⟨by decide, by decide⟩ dX9_hit_22 ?_
      refine g_iload_n (i := 2) F dX9_hit_25 rfl rfl ?_
      refine g_iconst F dX9_hit_26 (v := 0) (by decide) ?_
      refine g_aload_n (i := 0) F dX9_hit_27 rfl rfl ?_
      refine g_iload_n (i := 1) F dX9_hit_28 rfl rfl ?_
      obtain ⟨v8, X7, e9, h⟩ := bd2_at h
      refine g_callVI F (mcR := 0) (msR := 0) (id := 0) (cells_at (kd_lit (i := 0) (by decide)) (xc_9 rfl)) (ci := 9) rfl rfl rfl (c_X9_meetings G0 e9) wd_31_16 wd_31_13 wd_31_14 wd_31_15 wd_1_2 ⟨by decide, by decide⟩ (nn := 1) (by decide) (As := [.int l1]) rfl rfl (Nat.le_of_ble_eq_true rfl) (by decide) (by decide) ⟨by decide, by decide⟩ dX9_hit_29 ?_
      refine g_iconst F dX9_hit_32 (v := 1) (by decide) ?_
      refine g_isub F dX9_hit_33 ?_
      refine g_callSI F (mcR := 0) (msR := 0) (c_X9_within G0 (X := X7) (M := M) (nb := nb) rfl) wd_9_7 wd_15_21 wd_9_6 wd_1_2 ⟨by decide, by decide⟩ (nn := 3) (by decide) (As := [.int l2, .int (0 : Int32), .int (v8 - (1 : Int32))]) rfl rfl (Nat.le_of_ble_eq_true rfl) (by decide) (by decide) ⟨by decide, by decide⟩ dX9_hit_34 ?_
      refine g_if_ne (tgt := 42) F dX9_hit_37 (by decide) h (fun a20 h => ?_) (fun a20 h => ?_)
      · refine g_iload_n (i := 3) F dX9_hit_42 rfl rfl ?_
        refine ite_at h (fun a12 h => ?_) (fun a12 h => ?_)
        · refine g_lsw (tgt := 68) F (off := 25) (by rw [a12]; decide) dX9_hit_43 (by decide) (by decide) ?_
          refine g_aload_n (i := 0) F dX9_hit_68 rfl rfl ?_
          refine g_get_9_6 F rfl (kd_lit (by decide)) wd_2_7 dX9_hit_69 ?_
          refine g_iload_n (i := 2) F dX9_hit_72 rfl rfl ?_
          obtain ⟨v14, e15, h⟩ := bind_at h
          refine g_ildX F rfl rfl e15 dX9_hit_73 ?_
          refine g_bipush F dX9_hit_74 (v := 100) (by decide) ?_
          refine g_idiv F dX9_hit_76 (by decide) ?_
          have hp := Prod.mk.inj (Option.some.inj h)
          exact g_iret F hr9 rfl hl9 hp.1 (by rw [hp.2]) (by decide) (by decide) dX9_hit_77
        · refine ite_at h (fun a13 h => ?_) (fun a13 h => ?_)
          · refine g_lsw (tgt := 78) F (off := 35) (by rw [a13]; decide) dX9_hit_43 (by decide) (by decide) ?_
            refine g_aload_n (i := 0) F dX9_hit_78 rfl rfl ?_
            refine g_get_9_6 F rfl (kd_lit (by decide)) wd_2_7 dX9_hit_79 ?_
            refine g_iload_n (i := 2) F dX9_hit_82 rfl rfl ?_
            obtain ⟨v16, e17, h⟩ := bind_at h
            refine g_ildX F rfl rfl e17 dX9_hit_83 ?_
            refine g_bipush F dX9_hit_84 (v := 10) (by decide) ?_
            refine g_idiv F dX9_hit_86 (by decide) ?_
            refine g_bipush F dX9_hit_87 (v := 10) (by decide) ?_
            refine g_irem F dX9_hit_89 (by decide) ?_
            have hp := Prod.mk.inj (Option.some.inj h)
            exact g_iret F hr9 rfl hl9 hp.1 (by rw [hp.2]) (by decide) (by decide) dX9_hit_90
          · refine g_lsw (tgt := 91) F (off := 48) ((lv_osw (k := 0) a12 (by decide)).trans ((lv_osw (k := 1) a13 (by decide)).trans (rfl))) dX9_hit_43 (by decide) (by decide) ?_
            refine g_aload_n (i := 0) F dX9_hit_91 rfl rfl ?_
            refine g_get_9_6 F rfl (kd_lit (by decide)) wd_2_7 dX9_hit_92 ?_
            refine g_iload_n (i := 2) F dX9_hit_95 rfl rfl ?_
            obtain ⟨v18, e19, h⟩ := bind_at h
            refine g_ildX F rfl rfl e19 dX9_hit_96 ?_
            refine g_bipush F dX9_hit_97 (v := 10) (by decide) ?_
            refine g_irem F dX9_hit_99 (by decide) ?_
            have hp := Prod.mk.inj (Option.some.inj h)
            exact g_iret F hr9 rfl hl9 hp.1 (by rw [hp.2]) (by decide) (by decide) dX9_hit_100
      · refine g_iconst F dX9_hit_40 (v := -1) (by decide) ?_
        have hp := Prod.mk.inj (Option.some.inj h)
        exact g_iret F hr9 rfl hl9 hp.1 (by rw [hp.2]) (by decide) (by decide) dX9_hit_41
    · refine g_bipush F dX9_hit_17 (v := -2) (by decide) ?_
      have hp := Prod.mk.inj (Option.some.inj h)
      exact g_iret F hr9 rfl hl9 hp.1 (by rw [hp.2]) (by decide) (by decide) dX9_hit_19
def fX9_wake (X : XW) (nb : Nat) (l1 : Int32) : Option (Int32 × XW) :=
  if (fX9_isNight X l1) = 0 then some ((-2 : Int32), X)
  else (fX9_sailAll X nb l1).bind fun X3 =>
  bd2 (fX9_meetings X3 l1) fun v6 X5 =>
  if v6 = 0 then some ((-1 : Int32), X5)
  else (rd (X5.2.1 15) 180 (0 : Int32)).bind fun v8 =>
  bd (jrem (v8 / (10 : Int32)) (10 : Int32)) fun v10 =>
  (rd (X5.2.1 15) 180 (0 : Int32)).bind fun v12 =>
  bd (jrem v12 (10 : Int32)) fun v14 =>
  if inb v14 6 then bd (27 + 2 * (v14).toNatClampNeg) fun o17 =>
  if inb v10 6 then bd (27 + 2 * (v10).toNatClampNeg) fun o21 =>
  if (X5.1 o17 2) ≤ (X5.1 o21 2) then some (v10, X5)
  else some (v14, X5)
  else none
  else none
set_option maxRecDepth 100000 in
set_option maxHeartbeats 4000000 in
theorem c_X9_wake {l : Launch} {s0 : State} {D : va_G} {ev : Nat → Nat} (G0 : Gl s0 D ev) {X : XW} {M : MW} {nb : Nat} {l1 : Int32} {r' : Int32} {X' : XW}  (h : fX9_wake X nb l1 = some (r', X')) : CT l s0 D ev yX9_wake cX9_wake 4 (some .int) 7 0 0 [.ref (ev 0 + 0), .int l1] (cells ev X M nb) (QI s0 D ev r' (cells ev X' M nb)) := by
  refine ct_of G0 (by decide) (Nat.le_of_ble_eq_true rfl) ?_
  intro p9 e9 s9 m9 args9 below9 meth9 c9 F hr9 hl9 hin9 hargs9 hts9
  rw [fX9_wake] at h
  refine g_lv (lv' := [(0, .ref (ev 0 + 0)), (1, .int l1)]) ⟨rfl, rfl, trivial⟩ ?_
  refine g_aload_n (i := 0) F dX9_wake_0 rfl rfl ?_
  refine g_iload_n (i := 1) F dX9_wake_1 rfl rfl ?_
  refine g_callVI F (mcR := 0) (msR := 0) (id := 0) (cells_at (kd_lit (i := 0) (by decide)) (xc_9 rfl)) (ci := 9) rfl rfl rfl (c_X9_isNight G0 (X := X) (M := M) (nb := nb) rfl) wd_27_7 wd_27_4 wd_27_5 wd_27_6 wd_1_2 ⟨by decide, by decide⟩ (nn := 1) (by decide) (As := [.int l1]) rfl rfl (Nat.le_of_ble_eq_true rfl) (by decide) (by decide) ⟨by decide, by decide⟩ dX9_wake_2 ?_
  refine g_if_ne (tgt := 11) F dX9_wake_5 (by decide) h (fun a26 h => ?_) (fun a26 h => ?_)
  · refine g_aload_n (i := 0) F dX9_wake_11 rfl rfl ?_
    refine g_iload_n (i := 1) F dX9_wake_12 rfl rfl ?_
    obtain ⟨X3, e4, h⟩ := bind_at h
    refine g_callVV F (mcR := 0) (msR := 0) (id := 0) (cells_at (kd_lit (i := 0) (by decide)) (xc_9 rfl)) (ci := 9) rfl rfl rfl (c_X9_sailAll G0 e4) wd_31_12 wd_31_9 wd_31_10 wd_31_11 wd_1_2 ⟨by decide, by decide⟩ (nn := 1) (by decide) (As := [.int l1]) rfl rfl (Nat.le_of_ble_eq_true rfl) (by decide) (by decide) ⟨by decide, by decide⟩ dX9_wake_13 ?_
    refine g_aload_n (i := 0) F dX9_wake_16 rfl rfl ?_
    refine g_iload_n (i := 1) F dX9_wake_17 rfl rfl ?_
    obtain ⟨v6, X5, e7, h⟩ := bd2_at h
    refine g_callVI F (mcR := 0) (msR := 0) (id := 0) (cells_at (kd_lit (i := 0) (by decide)) (xc_9 rfl)) (ci := 9) rfl rfl rfl (c_X9_meetings G0 e7) wd_31_16 wd_31_13 wd_31_14 wd_31_15 wd_1_2 ⟨by decide, by decide⟩ (nn := 1) (by decide) (As := [.int l1]) rfl rfl (Nat.le_of_ble_eq_true rfl) (by decide) (by decide) ⟨by decide, by decide⟩ dX9_wake_18 ?_
    refine g_if_ne (tgt := 26) F dX9_wake_21 (by decide) h (fun a25 h => ?_) (fun a25 h => ?_)
    · refine g_aload_n (i := 0) F dX9_wake_26 rfl rfl ?_
      refine g_get_9_6 F rfl (kd_lit (by decide)) wd_2_7 dX9_wake_27 ?_
      refine g_iconst F dX9_wake_30 (v := 0) (by decide) ?_
      obtain ⟨v8, e9, h⟩ := bind_at h
      refine g_ildX F rfl rfl e9 dX9_wake_31 ?_
      refine g_bipush F dX9_wake_32 (v := 10) (by decide) ?_
      refine g_idiv F dX9_wake_34 (by decide) ?_
      refine g_bipush F dX9_wake_35 (v := 10) (by decide) ?_
      refine g_irem F dX9_wake_37 (by decide) ?_
      refine g_topi F h (fun v10 e11 h => ?_)
      refine g_istore_n (i := 2) (lv' := [(2, .int v10), (0, .ref (ev 0 + 0)), (1, .int l1)]) F dX9_wake_38 rfl (by decide) rfl ?_
      refine g_aload_n (i := 0) F dX9_wake_39 rfl rfl ?_
      refine g_get_9_6 F rfl (kd_lit (by decide)) wd_2_7 dX9_wake_40 ?_
      refine g_iconst F dX9_wake_43 (v := 0) (by decide) ?_
      obtain ⟨v12, e13, h⟩ := bind_at h
      refine g_ildX F rfl rfl e13 dX9_wake_44 ?_
      refine g_bipush F dX9_wake_45 (v := 10) (by decide) ?_
      refine g_irem F dX9_wake_47 (by decide) ?_
      refine g_topi F h (fun v14 e15 h => ?_)
      refine g_istore_n (i := 3) (lv' := [(3, .int v14), (2, .int v10), (0, .ref (ev 0 + 0)), (1, .int l1)]) F dX9_wake_48 rfl (by decide) rfl ?_
      refine g_aload_n (i := 0) F dX9_wake_49 rfl rfl ?_
      refine g_get_9_5 F rfl (kd_lit (by decide)) wd_2_5 dX9_wake_50 ?_
      refine g_iload_n (i := 3) F dX9_wake_53 rfl rfl ?_
      obtain ⟨h16, h⟩ := if_at h
      obtain ⟨o17, e18, h⟩ := bd_at h
      refine g_ald_13 F h16 dX9_wake_54 ?_
      rw [← e18]
      have h19 : kd o17 = 2 := by rw [e18]; exact kd_c (clamp_lt h16)
      refine g_get_2_2 F h19 (kd_hid h19 (by decide)) wd_27_2 dX9_wake_55 ?_
      refine g_aload_n (i := 0) F dX9_wake_58 rfl rfl ?_
      refine g_get_9_5 F rfl (kd_lit (by decide)) wd_2_5 dX9_wake_59 ?_
      refine g_iload_n (i := 2) F dX9_wake_62 rfl rfl ?_
      obtain ⟨h20, h⟩ := if_at h
      obtain ⟨o21, e22, h⟩ := bd_at h
      refine g_ald_13 F h20 dX9_wake_63 ?_
      rw [← e22]
      have h23 : kd o21 = 2 := by rw [e22]; exact kd_c (clamp_lt h20)
      refine g_get_2_2 F h23 (kd_hid h23 (by decide)) wd_27_2 dX9_wake_64 ?_
      refine g_icmp_le (tgt := 74) F dX9_wake_67 (by decide) h (fun a24 h => ?_) (fun a24 h => ?_)
      · refine g_iload_n (i := 2) F dX9_wake_74 rfl rfl ?_
        have hp := Prod.mk.inj (Option.some.inj h)
        exact g_iret F hr9 rfl hl9 hp.1 (by rw [hp.2]) (by decide) (by decide) dX9_wake_75
      · refine g_iload_n (i := 3) F dX9_wake_70 rfl rfl ?_
        refine g_goto (tgt := 75) F dX9_wake_71 (by decide) ?_
        have hp := Prod.mk.inj (Option.some.inj h)
        exact g_iret F hr9 rfl hl9 hp.1 (by rw [hp.2]) (by decide) (by decide) dX9_wake_75
    · refine g_iconst F dX9_wake_24 (v := -1) (by decide) ?_
      have hp := Prod.mk.inj (Option.some.inj h)
      exact g_iret F hr9 rfl hl9 hp.1 (by rw [hp.2]) (by decide) (by decide) dX9_wake_25
  · refine g_bipush F dX9_wake_8 (v := -2) (by decide) ?_
    have hp := Prod.mk.inj (Option.some.inj h)
    exact g_iret F hr9 rfl hl9 hp.1 (by rw [hp.2]) (by decide) (by decide) dX9_wake_10
def fX9_goOn_b57 (nb : Nat) (X : XW) (l1 : Int32) : Option (Int32 × XW) :=
  bd (xI X 0 11 ((X.1 0 11) + l1)) fun X5 =>
  some ((X5.1 0 11), X5)
def fX9_goOn_l25 (nb : Nat) (l1f25 : Int32) (K25 : XW → Int32 → Option (Int32 × XW)) (X : XW) (l2 : Int32) : Option (Int32 × XW) :=
  if (X.1 0 12) ≤ l2 then fX9_goOn_b57 nb X l1f25
  else (rdR (X.2.2 13) 6 l2).bind fun r7 =>
  if inb l2 6 then bd (27 + 2 * (l2).toNatClampNeg) fun o10 =>
  (r7).bind fun b13 =>
  if NS ≤ b13 ∧ b13 < TT nb then bd (xI X b13 4 (X.1 o10 1)) fun X16 =>
  K25 X16 (l2 + (1 : Int32)) else none
  else none
def fX9_goOn (X : XW) (nb : Nat) (l1 : Int32) : Option (Int32 × XW) :=
  if (fX9_within l1 (0 : Int32) ((11 : Int32) - (X.1 0 11))) = 0 then some ((-2 : Int32), X)
  else (fX9_sailAll X nb l1).bind fun X3 =>
  lo2 (fX9_goOn_l25 nb l1) FU X3 (0 : Int32)
set_option maxRecDepth 100000 in
set_option maxHeartbeats 4000000 in
theorem c_X9_goOn {l : Launch} {s0 : State} {D : va_G} {ev : Nat → Nat} (G0 : Gl s0 D ev) {X : XW} {M : MW} {nb : Nat} {l1 : Int32} {r' : Int32} {X' : XW}  (h : fX9_goOn X nb l1 = some (r', X')) : CT l s0 D ev yX9_goOn cX9_goOn 3 (some .int) 7 0 0 [.ref (ev 0 + 0), .int l1] (cells ev X M nb) (QI s0 D ev r' (cells ev X' M nb)) := by
  refine ct_of G0 (by decide) (Nat.le_of_ble_eq_true rfl) ?_
  intro p9 e9 s9 m9 args9 below9 meth9 c9 F hr9 hl9 hin9 hargs9 hts9
  have U57 : ∀ (X : XW) (l1 : Int32), fX9_goOn_b57 nb X l1 = some (r', X') → GJ p9 l e9 (rg 7 0 0) s9 m9 args9 below9 meth9 c9 (MQ below9 (QI s0 D ev r' (cells ev X' M nb)) args9 s9 0 0 (frA ev)) s0 D ev 3 0 0 57 [(0, .ref (ev 0 + 0)), (1, .int l1)] ([]) (cells ev X M nb) := by
    intro X l1 h
    rw [fX9_goOn_b57] at h
    refine g_aload_n (i := 0) F dX9_goOn_57 rfl rfl ?_
    refine g_dup F dX9_goOn_58 rfl ?_
    refine g_get_9_11 F rfl (kd_lit (by decide)) wd_2_19 dX9_goOn_59 ?_
    refine g_iload_n (i := 1) F dX9_goOn_62 rfl rfl ?_
    refine g_iadd F dX9_goOn_63 ?_
    obtain ⟨X5, e6, h⟩ := bd_at h
    refine g_put_9_11 F rfl (kd_lit (by decide)) wd_2_19 dX9_goOn_64 ?_
    rw [← e6]
    refine g_aload_n (i := 0) F dX9_goOn_67 rfl rfl ?_
    refine g_get_9_11 F rfl (kd_lit (by decide)) wd_2_19 dX9_goOn_68 ?_
    have hp := Prod.mk.inj (Option.some.inj h)
    exact g_iret F hr9 rfl hl9 hp.1 (by rw [hp.2]) (by decide) (by decide) dX9_goOn_71
  have L25 : ∀ (l1f25 : Int32) (N25 : Nat) (X : XW) (l2 : Int32), lo2 (fX9_goOn_l25 nb l1f25) N25 X l2 = some (r', X') → GJ p9 l e9 (rg 7 0 0) s9 m9 args9 below9 meth9 c9 (MQ below9 (QI s0 D ev r' (cells ev X' M nb)) args9 s9 0 0 (frA ev)) s0 D ev 3 0 0 25 [(0, .ref (ev 0 + 0)), (1, .int l1f25), (2, .int l2)] ([]) (cells ev X M nb) := by
    intro l1f25 N25
    induction N25 with
    | zero => intro X l2 h; cases h
    | succ N25 ih25 =>
      intro X l2 h
      change fX9_goOn_l25 nb l1f25 (lo2 (fX9_goOn_l25 nb l1f25) N25) X l2 = some (r', X') at h
      rw [fX9_goOn_l25] at h
      refine g_iload_n (i := 2) F dX9_goOn_25 rfl rfl ?_
      refine g_aload_n (i := 0) F dX9_goOn_26 rfl rfl ?_
      refine g_get_9_12 F rfl (kd_lit (by decide)) wd_2_20 dX9_goOn_27 ?_
      refine g_icmp_ge (tgt := 57) F dX9_goOn_30 (by decide) h (fun a18 h => ?_) (fun a18 h => ?_)
      · refine g_lv (lv' := [(0, .ref (ev 0 + 0)), (1, .int l1f25)]) ⟨rfl, rfl, trivial⟩ ?_
        exact U57 _ _ h
      · refine g_aload_n (i := 0) F dX9_goOn_33 rfl rfl ?_
        refine g_get_9_4 F rfl (kd_lit (by decide)) wd_2_3 dX9_goOn_34 ?_
        refine g_iload_n (i := 2) F dX9_goOn_37 rfl rfl ?_
        obtain ⟨r7, e8, h⟩ := bind_at h
        refine g_aldB F e8 dX9_goOn_38 ?_
        refine g_aload_n (i := 0) F dX9_goOn_39 rfl rfl ?_
        refine g_get_9_5 F rfl (kd_lit (by decide)) wd_2_5 dX9_goOn_40 ?_
        refine g_iload_n (i := 2) F dX9_goOn_43 rfl rfl ?_
        obtain ⟨h9, h⟩ := if_at h
        obtain ⟨o10, e11, h⟩ := bd_at h
        refine g_ald_13 F h9 dX9_goOn_44 ?_
        rw [← e11]
        have h12 : kd o10 = 2 := by rw [e11]; exact kd_c (clamp_lt h9)
        refine g_get_2_1 F h12 (kd_hid h12 (by decide)) wd_27_1 dX9_goOn_45 ?_
        obtain ⟨b13, e14, h⟩ := bind_at h
        rw [e14]
        obtain ⟨h15, h⟩ := if_at h
        obtain ⟨X16, e17, h⟩ := bd_at h
        refine g_put_1_4 F (kd_b h15) h15.2 wd_22_18 dX9_goOn_48 ?_
        rw [← e17]
        refine g_iinc (i := 2) (v := (l2 + (1 : Int32))) (lv' := [(2, .int (l2 + (1 : Int32))), (0, .ref (ev 0 + 0)), (1, .int l1f25)]) F dX9_goOn_51 rfl rfl (by decide) rfl ?_
        refine g_goto (tgt := 25) F dX9_goOn_54 (by decide) ?_
        refine g_lv (lv' := [(0, .ref (ev 0 + 0)), (1, .int l1f25), (2, .int (l2 + (1 : Int32)))]) ⟨rfl, rfl, rfl, trivial⟩ ?_
        exact ih25 _ _ h
  rw [fX9_goOn] at h
  refine g_lv (lv' := [(0, .ref (ev 0 + 0)), (1, .int l1)]) ⟨rfl, rfl, trivial⟩ ?_
  refine g_iload_n (i := 1) F dX9_goOn_0 rfl rfl ?_
  refine g_iconst F dX9_goOn_1 (v := 0) (by decide) ?_
  refine g_bipush F dX9_goOn_2 (v := 11) (by decide) ?_
  refine g_aload_n (i := 0) F dX9_goOn_4 rfl rfl ?_
  refine g_get_9_11 F rfl (kd_lit (by decide)) wd_2_19 dX9_goOn_5 ?_
  refine g_isub F dX9_goOn_8 ?_
  refine g_callSI F (mcR := 0) (msR := 0) (c_X9_within G0 (X := X) (M := M) (nb := nb) rfl) wd_9_7 wd_15_21 wd_9_6 wd_1_2 ⟨by decide, by decide⟩ (nn := 3) (by decide) (As := [.int l1, .int (0 : Int32), .int ((11 : Int32) - (X.1 0 11))]) rfl rfl (Nat.le_of_ble_eq_true rfl) (by decide) (by decide) ⟨by decide, by decide⟩ dX9_goOn_9 ?_
  refine g_if_ne (tgt := 18) F dX9_goOn_12 (by decide) h (fun a19 h => ?_) (fun a19 h => ?_)
  · refine g_aload_n (i := 0) F dX9_goOn_18 rfl rfl ?_
    refine g_iload_n (i := 1) F dX9_goOn_19 rfl rfl ?_
    obtain ⟨X3, e4, h⟩ := bind_at h
    refine g_callVV F (mcR := 0) (msR := 0) (id := 0) (cells_at (kd_lit (i := 0) (by decide)) (xc_9 rfl)) (ci := 9) rfl rfl rfl (c_X9_sailAll G0 e4) wd_31_12 wd_31_9 wd_31_10 wd_31_11 wd_1_2 ⟨by decide, by decide⟩ (nn := 1) (by decide) (As := [.int l1]) rfl rfl (Nat.le_of_ble_eq_true rfl) (by decide) (by decide) ⟨by decide, by decide⟩ dX9_goOn_20 ?_
    refine g_iconst F dX9_goOn_23 (v := 0) (by decide) ?_
    refine g_istore_n (i := 2) (lv' := [(2, .int (0 : Int32)), (0, .ref (ev 0 + 0)), (1, .int l1)]) F dX9_goOn_24 rfl (by decide) rfl ?_
    refine g_lv (lv' := [(0, .ref (ev 0 + 0)), (1, .int l1), (2, .int (0 : Int32))]) ⟨rfl, rfl, rfl, trivial⟩ ?_
    exact L25 _ FU _ _ h
  · refine g_bipush F dX9_goOn_15 (v := -2) (by decide) ?_
    have hp := Prod.mk.inj (Option.some.inj h)
    exact g_iret F hr9 rfl hl9 hp.1 (by rw [hp.2]) (by decide) (by decide) dX9_goOn_17
def fX9_stays_l6 (nb : Nat) (l1f6 : Nat) (l2f6 : Int32) (l3f6 : Int32) (l4f6 : Int32) (K6 : XW → Int32 → Option (Int32 × XW)) (X : XW) (l5 : Int32) : Option (Int32 × XW) :=
  if ((X.1 0 11) + l4f6) ≤ l5 then some ((1 : Int32), X)
  else bd2 (fX7_goesOn X nb l1f6 l2f6 l3f6 l5 (0 : Int32) (0 : Int32)) fun v4 X3 =>
  if v4 = 0 then K6 X3 (l5 + (1 : Int32))
  else some ((0 : Int32), X3)
def fX9_stays (X : XW) (nb : Nat) (l1 : Nat) (l2 : Int32) (l3 : Int32) (l4 : Int32) : Option (Int32 × XW) :=
  bd (X.1 0 11) fun v1 =>
  lo2 (fX9_stays_l6 nb l1 l2 l3 l4) FU X v1
set_option maxRecDepth 100000 in
set_option maxHeartbeats 4000000 in
theorem c_X9_stays {l : Launch} {s0 : State} {D : va_G} {ev : Nat → Nat} (G0 : Gl s0 D ev) {X : XW} {M : MW} {nb : Nat} {l1 : Nat} {l2 : Int32} {l3 : Int32} {l4 : Int32} {r' : Int32} {X' : XW}  (h : fX9_stays X nb l1 l2 l3 l4 = some (r', X')) : CT l s0 D ev yX9_stays cX9_stays 6 (some .boolean) 5 0 0 [.ref (ev 0 + 0), .ref (ev 0 + l1), .int l2, .int l3, .int l4] (cells ev X M nb) (QI s0 D ev r' (cells ev X' M nb)) := by
  refine ct_of G0 (by decide) (Nat.le_of_ble_eq_true rfl) ?_
  intro p9 e9 s9 m9 args9 below9 meth9 c9 F hr9 hl9 hin9 hargs9 hts9
  have L6 : ∀ (l1f6 : Nat) (l2f6 : Int32) (l3f6 : Int32) (l4f6 : Int32) (N6 : Nat) (X : XW) (l5 : Int32), lo2 (fX9_stays_l6 nb l1f6 l2f6 l3f6 l4f6) N6 X l5 = some (r', X') → GJ p9 l e9 (rg 5 0 0) s9 m9 args9 below9 meth9 c9 (MQ below9 (QI s0 D ev r' (cells ev X' M nb)) args9 s9 0 0 (frA ev)) s0 D ev 6 0 0 6 [(0, .ref (ev 0 + 0)), (1, .ref (ev 0 + l1f6)), (2, .int l2f6), (3, .int l3f6), (4, .int l4f6), (5, .int l5)] ([]) (cells ev X M nb) := by
    intro l1f6 l2f6 l3f6 l4f6 N6
    induction N6 with
    | zero => intro X l5 h; cases h
    | succ N6 ih6 =>
      intro X l5 h
      change fX9_stays_l6 nb l1f6 l2f6 l3f6 l4f6 (lo2 (fX9_stays_l6 nb l1f6 l2f6 l3f6 l4f6) N6) X l5 = some (r', X') at h
      rw [fX9_stays_l6] at h
      refine g_iload (i := 5) F dX9_stays_6 rfl ?_
      refine g_aload_n (i := 0) F dX9_stays_8 rfl rfl ?_
      refine g_get_9_11 F rfl (kd_lit (by decide)) wd_2_19 dX9_stays_9 ?_
      refine g_iload (i := 4) F dX9_stays_12 rfl ?_
      refine g_iadd F dX9_stays_14 ?_
      refine g_icmp_ge (tgt := 43) F dX9_stays_15 (by decide) h (fun a7 h => ?_) (fun a7 h => ?_)
      · refine g_iconst F dX9_stays_43 (v := 1) (by decide) ?_
        have hp := Prod.mk.inj (Option.some.inj h)
        exact g_iret F hr9 (by decide) hl9 hp.1 (by rw [hp.2]) (by decide) (by decide) dX9_stays_44
      · refine g_aload_n (i := 0) F dX9_stays_18 rfl rfl ?_
        refine g_get_9_3 F rfl (kd_lit (by decide)) wd_2_1 dX9_stays_19 ?_
        refine g_aload_n (i := 1) F dX9_stays_22 rfl rfl ?_
        refine g_iload_n (i := 2) F dX9_stays_23 rfl rfl ?_
        refine g_iload_n (i := 3) F dX9_stays_24 rfl rfl ?_
        refine g_iload (i := 5) F dX9_stays_25 rfl ?_
        refine g_iconst F dX9_stays_27 (v := 0) (by decide) ?_
        refine g_iconst F dX9_stays_28 (v := 0) (by decide) ?_
        obtain ⟨v4, X3, e5, h⟩ := bd2_at h
        refine g_callVI F (mcR := 0) (msR := 0) (id := 10) (cells_at (kd_lit (i := 10) (by decide)) (xc_7 rfl)) (ci := 7) rfl rfl rfl (c_X7_goesOn G0 e5) wd_28_0 wd_33_18 wd_27_22 wd_27_23 wd_2_0 ⟨by decide, by decide⟩ (nn := 6) (by decide) (As := [.ref (ev 0 + l1f6), .int l2f6, .int l3f6, .int l5, .int (0 : Int32), .int (0 : Int32)]) rfl rfl (Nat.le_of_ble_eq_true rfl) (by decide) (by decide) ⟨by decide, by decide⟩ dX9_stays_29 ?_
        refine g_if_eq (tgt := 37) F dX9_stays_32 (by decide) h (fun a6 h => ?_) (fun a6 h => ?_)
        · refine g_iinc (i := 5) (v := (l5 + (1 : Int32))) (lv' := [(5, .int (l5 + (1 : Int32))), (0, .ref (ev 0 + 0)), (1, .ref (ev 0 + l1f6)), (2, .int l2f6), (3, .int l3f6), (4, .int l4f6)]) F dX9_stays_37 rfl rfl (by decide) rfl ?_
          refine g_goto (tgt := 6) F dX9_stays_40 (by decide) ?_
          refine g_lv (lv' := [(0, .ref (ev 0 + 0)), (1, .ref (ev 0 + l1f6)), (2, .int l2f6), (3, .int l3f6), (4, .int l4f6), (5, .int (l5 + (1 : Int32)))]) ⟨rfl, rfl, rfl, rfl, rfl, rfl, trivial⟩ ?_
          exact ih6 _ _ h
        · refine g_iconst F dX9_stays_35 (v := 0) (by decide) ?_
          have hp := Prod.mk.inj (Option.some.inj h)
          exact g_iret F hr9 (by decide) hl9 hp.1 (by rw [hp.2]) (by decide) (by decide) dX9_stays_36
  rw [fX9_stays] at h
  refine g_lv (lv' := [(0, .ref (ev 0 + 0)), (1, .ref (ev 0 + l1)), (2, .int l2), (3, .int l3), (4, .int l4)]) ⟨rfl, rfl, rfl, rfl, rfl, trivial⟩ ?_
  refine g_aload_n (i := 0) F dX9_stays_0 rfl rfl ?_
  refine g_get_9_11 F rfl (kd_lit (by decide)) wd_2_19 dX9_stays_1 ?_
  refine g_topi F h (fun v1 e2 h => ?_)
  refine g_istore (i := 5) (lv' := [(5, .int v1), (0, .ref (ev 0 + 0)), (1, .ref (ev 0 + l1)), (2, .int l2), (3, .int l3), (4, .int l4)]) F dX9_stays_4 (by decide) rfl ?_
  refine g_lv (lv' := [(0, .ref (ev 0 + 0)), (1, .ref (ev 0 + l1)), (2, .int l2), (3, .int l3), (4, .int l4), (5, .int v1)]) ⟨rfl, rfl, rfl, rfl, rfl, rfl, trivial⟩ ?_
  exact L6 _ _ _ _ FU _ _ h
def fX9_veer_l32 (nb : Nat) (l2f32 : Int32) (l3f32 : Option Nat) (K32 : XW → Int32 → Option (Int32 × XW)) (X : XW) (l5 : Int32) : Option (Int32 × XW) :=
  if (40 : Int32) < l5 then some ((-1 : Int32), X)
  else (l3f32).bind fun b9 =>
  if NS ≤ b9 ∧ b9 < TT nb then bd2 (fX9_stays X nb b9 (X.1 b9 4) l5 l2f32) fun v13 X12 =>
  if v13 = 0 then K32 X12 (l5 + (1 : Int32))
  else some (l5, X12) else none
def fX9_veer (X : XW) (nb : Nat) (l1 : Int32) (l2 : Int32) : Option (Int32 × XW) :=
  (fX9_boatOf X l1).bind fun r1 =>
  (fX9_refusal X nb r1 (fX9_isNight X l2)).bind fun v5 =>
  oc r1 (some (v5, X)) (fun b7 => if v5 = 0 then lo2 (fX9_veer_l32 nb l2 (some b7)) FU X (1 : Int32)
  else some (v5, X))
set_option maxRecDepth 100000 in
set_option maxHeartbeats 4000000 in
theorem c_X9_veer {l : Launch} {s0 : State} {D : va_G} {ev : Nat → Nat} (G0 : Gl s0 D ev) {X : XW} {M : MW} {nb : Nat} {l1 : Int32} {l2 : Int32} {r' : Int32} {X' : XW}  (h : fX9_veer X nb l1 l2 = some (r', X')) : CT l s0 D ev yX9_veer cX9_veer 6 (some .int) 6 0 0 [.ref (ev 0 + 0), .int l1, .int l2] (cells ev X M nb) (QI s0 D ev r' (cells ev X' M nb)) := by
  refine ct_of G0 (by decide) (Nat.le_of_ble_eq_true rfl) ?_
  intro p9 e9 s9 m9 args9 below9 meth9 c9 F hr9 hl9 hin9 hargs9 hts9
  have L32 : ∀ (l2f32 : Int32) (l3f32 : Option Nat) (N32 : Nat) (X : XW) (l5 : Int32), lo2 (fX9_veer_l32 nb l2f32 l3f32) N32 X l5 = some (r', X') → GJ p9 l e9 (rg 6 0 0) s9 m9 args9 below9 meth9 c9 (MQ below9 (QI s0 D ev r' (cells ev X' M nb)) args9 s9 0 0 (frA ev)) s0 D ev 6 0 0 32 [(0, .ref (ev 0 + 0)), (2, .int l2f32), (3, zr ev l3f32), (5, .int l5)] ([]) (cells ev X M nb) := by
    intro l2f32 l3f32 N32
    induction N32 with
    | zero => intro X l5 h; cases h
    | succ N32 ih32 =>
      intro X l5 h
      change fX9_veer_l32 nb l2f32 l3f32 (lo2 (fX9_veer_l32 nb l2f32 l3f32) N32) X l5 = some (r', X') at h
      rw [fX9_veer_l32] at h
      refine g_iload (i := 5) F dX9_veer_32 rfl ?_
      refine g_bipush F dX9_veer_34 (v := 40) (by decide) ?_
      refine g_icmp_gt (tgt := 63) F dX9_veer_36 (by decide) h (fun a16 h => ?_) (fun a16 h => ?_)
      · refine g_iconst F dX9_veer_63 (v := -1) (by decide) ?_
        have hp := Prod.mk.inj (Option.some.inj h)
        exact g_iret F hr9 rfl hl9 hp.1 (by rw [hp.2]) (by decide) (by decide) dX9_veer_64
      · refine g_aload_n (i := 0) F dX9_veer_39 rfl rfl ?_
        refine g_zaload_n (i := 3) F dX9_veer_40 rfl rfl ?_
        refine g_zaload_n (i := 3) F dX9_veer_41 rfl rfl ?_
        obtain ⟨b9, e10, h⟩ := bind_at h
        rw [e10]
        obtain ⟨h11, h⟩ := if_at h
        refine g_get_1_4 F (kd_b h11) h11.2 wd_22_18 dX9_veer_42 ?_
        refine g_iload (i := 5) F dX9_veer_45 rfl ?_
        refine g_iload_n (i := 2) F dX9_veer_47 rfl rfl ?_
        obtain ⟨v13, X12, e14, h⟩ := bd2_at h
        refine g_callVI F (mcR := 0) (msR := 0) (id := 0) (cells_at (kd_lit (i := 0) (by decide)) (xc_9 rfl)) (ci := 9) rfl rfl rfl (c_X9_stays G0 e14) wd_33_17 wd_33_14 wd_33_15 wd_33_16 wd_1_2 ⟨by decide, by decide⟩ (nn := 4) (by decide) (As := [.ref (ev 0 + b9), .int (X.1 b9 4), .int l5, .int l2f32]) rfl rfl (Nat.le_of_ble_eq_true rfl) (by decide) (by decide) ⟨by decide, by decide⟩ dX9_veer_48 ?_
        refine g_if_eq (tgt := 57) F dX9_veer_51 (by decide) h (fun a15 h => ?_) (fun a15 h => ?_)
        · refine g_iinc (i := 5) (v := (l5 + (1 : Int32))) (lv' := [(5, .int (l5 + (1 : Int32))), (0, .ref (ev 0 + 0)), (2, .int l2f32), (3, .ref (ev 0 + b9))]) F dX9_veer_57 rfl rfl (by decide) rfl ?_
          refine g_goto (tgt := 32) F dX9_veer_60 (by decide) ?_
          refine g_lv (lv' := [(0, .ref (ev 0 + 0)), (2, .int l2f32), (3, zr ev l3f32), (5, .int (l5 + (1 : Int32)))]) ⟨rfl, rfl, (by rw [e10]; rfl), rfl, trivial⟩ ?_
          exact ih32 _ _ h
        · refine g_iload (i := 5) F dX9_veer_54 rfl ?_
          have hp := Prod.mk.inj (Option.some.inj h)
          exact g_iret F hr9 rfl hl9 hp.1 (by rw [hp.2]) (by decide) (by decide) dX9_veer_56
  rw [fX9_veer] at h
  refine g_lv (lv' := [(0, .ref (ev 0 + 0)), (1, .int l1), (2, .int l2)]) ⟨rfl, rfl, rfl, trivial⟩ ?_
  refine g_aload_n (i := 0) F dX9_veer_0 rfl rfl ?_
  refine g_iload_n (i := 1) F dX9_veer_1 rfl rfl ?_
  obtain ⟨r1, e2, h⟩ := bind_at h
  refine g_callVR F (mcR := 0) (msR := 0) (id := 0) (cells_at (kd_lit (i := 0) (by decide)) (xc_9 rfl)) (ci := 9) rfl rfl rfl (c_X9_boatOf G0 e2) wd_22_23 wd_22_20 wd_22_21 wd_22_22 wd_1_2 ⟨by decide, by decide⟩ (nn := 1) (by decide) (As := [.int l1]) rfl rfl (Nat.le_of_ble_eq_true rfl) (by decide) (by decide) ⟨by decide, by decide⟩ dX9_veer_2 ?_
  refine g_zastore_n (i := 3) (lv' := [(3, zr ev r1), (0, .ref (ev 0 + 0)), (1, .int l1), (2, .int l2)]) F dX9_veer_5 rfl (by decide) rfl ?_
  refine g_zaload_n (i := 3) F dX9_veer_6 rfl rfl ?_
  refine g_aload_n (i := 0) F dX9_veer_7 rfl rfl ?_
  refine g_iload_n (i := 2) F dX9_veer_8 rfl rfl ?_
  refine g_callVI F (mcR := 0) (msR := 0) (id := 0) (cells_at (kd_lit (i := 0) (by decide)) (xc_9 rfl)) (ci := 9) rfl rfl rfl (c_X9_isNight G0 (X := X) (M := M) (nb := nb) rfl) wd_27_7 wd_27_4 wd_27_5 wd_27_6 wd_1_2 ⟨by decide, by decide⟩ (nn := 1) (by decide) (As := [.int l2]) rfl rfl (by cases r1 <;> exact (Nat.le_of_ble_eq_true rfl)) (by decide) (by decide) ⟨by decide, by decide⟩ dX9_veer_9 ?_
  obtain ⟨v5, e6, h⟩ := bind_at h
  refine g_callSI F (mcR := 0) (msR := 0) (c_X9_refusal G0 e6) wd_24_2 wd_24_0 wd_24_1 wd_1_2 ⟨by decide, by decide⟩ (nn := 2) (by decide) (As := [zr ev r1, .int (fX9_isNight X l2)]) rfl rfl (Nat.le_of_ble_eq_true rfl) (by decide) (by decide) ⟨by decide, by decide⟩ dX9_veer_12 ?_
  refine g_istore (i := 4) (lv' := [(4, .int v5), (3, zr ev r1), (0, .ref (ev 0 + 0)), (1, .int l1), (2, .int l2)]) F dX9_veer_15 (by decide) (by cases r1 <;> exact rfl) ?_
  refine g_zaload_n (i := 3) F dX9_veer_17 rfl rfl ?_
  rcases oc_at h with ⟨e8, h⟩ | ⟨b7, e8, h⟩
  · rw [e8]
    refine g_ifnN (tgt := 26) F dX9_veer_18 (by decide) ?_
    refine g_iload (i := 4) F dX9_veer_26 rfl ?_
    have hp := Prod.mk.inj (Option.some.inj h)
    exact g_iret F hr9 rfl hl9 hp.1 (by rw [hp.2]) (by decide) (by decide) dX9_veer_28
  · rw [e8]
    refine g_ifn F dX9_veer_18 ?_
    refine g_iload (i := 4) F dX9_veer_21 rfl ?_
    refine g_if_eq (tgt := 29) F dX9_veer_23 (by decide) h (fun a17 h => ?_) (fun a17 h => ?_)
    · refine g_iconst F dX9_veer_29 (v := 1) (by decide) ?_
      refine g_istore (i := 5) (lv' := [(5, .int (1 : Int32)), (4, .int v5), (3, .ref (ev 0 + b7)), (0, .ref (ev 0 + 0)), (1, .int l1), (2, .int l2)]) F dX9_veer_30 (by decide) rfl ?_
      refine g_lv (lv' := [(0, .ref (ev 0 + 0)), (2, .int l2), (3, zr ev (some b7)), (5, .int (1 : Int32))]) ⟨rfl, rfl, rfl, rfl, trivial⟩ ?_
      exact L32 _ _ FU _ _ h
    · refine g_iload (i := 4) F dX9_veer_26 rfl ?_
      have hp := Prod.mk.inj (Option.some.inj h)
      exact g_iret F hr9 rfl hl9 hp.1 (by rw [hp.2]) (by decide) (by decide) dX9_veer_28

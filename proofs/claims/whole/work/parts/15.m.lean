def fX10_turnIn_b26 (M : MW) (t0 : Int32) : Option Int32 :=
  if t0 ≤ (4 : Int32) then some t0
  else some ((8 : Int32) - t0)
def fX10_turnIn (M : MW) (l1 : Int32) : Option Int32 :=
  if l1 = 0 then fX10_turnIn_b26 M (0 : Int32)
  else (rd (M.2 68) 12 l1).bind fun v1 =>
  (rd (M.2 68) 12 (l1 - (1 : Int32))).bind fun v3 =>
  fX10_turnIn_b26 M (fX10_size (v1 - v3))
set_option maxRecDepth 100000 in
set_option maxHeartbeats 4000000 in
theorem c_X10_turnIn {l : Launch} {s0 : State} {D : va_G} {ev : Nat → Nat} (G0 : Gl s0 D ev) {X : XW} {M : MW} {nb : Nat} {l1 : Int32} {r' : Int32}  (h : fX10_turnIn M l1 = some r') : CT l s0 D ev yX10_turnIn cX10_turnIn 3 (some .int) 1 0 0 [.ref (ev 0 + 65), .int l1] (cells ev X M (nb + 1)) (QI s0 D ev r' (cells ev X M (nb + 1))) := by
  refine ct_of G0 (by decide) (Nat.le_of_ble_eq_true rfl) ?_
  intro p9 e9 s9 m9 args9 below9 meth9 c9 F hr9 hl9 hin9 hargs9 hts9
  have U26 : ∀ (t0 : Int32), fX10_turnIn_b26 M t0 = some r' → GJ p9 l e9 (rg 1 0 0) s9 m9 args9 below9 meth9 c9 (MQ below9 (QI s0 D ev r' (cells ev X M (nb + 1))) args9 s9 0 0 (frA ev)) s0 D ev 3 0 0 26 [] (.int t0 :: []) (cells ev X M (nb + 1)) := by
    intro t0 h
    rw [fX10_turnIn_b26] at h
    refine g_istore_n (i := 2) (lv' := [(2, .int t0)]) F dX10_turnIn_26 rfl (by decide) rfl ?_
    refine g_iload_n (i := 2) F dX10_turnIn_27 rfl rfl ?_
    refine g_iconst F dX10_turnIn_28 (v := 4) (by decide) ?_
    refine g_icmp_le (tgt := 39) F dX10_turnIn_29 (by decide) h (fun a7 h => ?_) (fun a7 h => ?_)
    · refine g_iload_n (i := 2) F dX10_turnIn_39 rfl rfl ?_
      exact g_iret F hr9 rfl hl9 (Option.some.inj h) rfl (by decide) (by decide) dX10_turnIn_40
    · refine g_bipush F dX10_turnIn_32 (v := 8) (by decide) ?_
      refine g_iload_n (i := 2) F dX10_turnIn_34 rfl rfl ?_
      refine g_isub F dX10_turnIn_35 ?_
      refine g_goto (tgt := 40) F dX10_turnIn_36 (by decide) ?_
      exact g_iret F hr9 rfl hl9 (Option.some.inj h) rfl (by decide) (by decide) dX10_turnIn_40
  rw [fX10_turnIn] at h
  refine g_lv (lv' := [(0, .ref (ev 0 + 65)), (1, .int l1)]) ⟨rfl, rfl, trivial⟩ ?_
  refine g_iload_n (i := 1) F dX10_turnIn_0 rfl rfl ?_
  refine g_if_ne (tgt := 8) F dX10_turnIn_1 (by decide) h (fun a8 h => ?_) (fun a8 h => ?_)
  · refine g_aload_n (i := 0) F dX10_turnIn_8 rfl rfl ?_
    refine g_get_10_2 F wd_11_16 dX10_turnIn_9 ?_
    refine g_iload_n (i := 1) F dX10_turnIn_12 rfl rfl ?_
    obtain ⟨v1, e2, h⟩ := bind_at h
    refine g_ildM F rfl rfl e2 dX10_turnIn_13 ?_
    refine g_aload_n (i := 0) F dX10_turnIn_14 rfl rfl ?_
    refine g_get_10_2 F wd_11_16 dX10_turnIn_15 ?_
    refine g_iload_n (i := 1) F dX10_turnIn_18 rfl rfl ?_
    refine g_iconst F dX10_turnIn_19 (v := 1) (by decide) ?_
    refine g_isub F dX10_turnIn_20 ?_
    obtain ⟨v3, e4, h⟩ := bind_at h
    refine g_ildM F rfl rfl e4 dX10_turnIn_21 ?_
    refine g_isub F dX10_turnIn_22 ?_
    refine g_callSI F (mcR := 0) (msR := 0) (c_X10_size G0 (X := X) (M := M) (nb := nb) rfl) wd_30_17 wd_30_15 wd_30_16 wd_1_5 ⟨by decide, by decide⟩ (nn := 1) (by decide) (As := [.int (v1 - v3)]) rfl rfl (Nat.le_of_ble_eq_true rfl) (by decide) (by decide) ⟨by decide, by decide⟩ dX10_turnIn_23 ?_
    refine g_lv (lv' := []) trivial ?_
    exact U26 _ h
  · refine g_iconst F dX10_turnIn_4 (v := 0) (by decide) ?_
    refine g_goto (tgt := 26) F dX10_turnIn_5 (by decide) ?_
    refine g_lv (lv' := []) trivial ?_
    exact U26 _ h
def fX10_hold (M : MW) (l1 : Int32) (l2 : Int32) (l3 : Int32) : Option (Int32 × MW) :=
  if (fX10_isBoat M l1) = 0 then some ((-5 : Int32), M)
  else if (fX10_isHour l2) = 0 then some ((-7 : Int32), M)
  else if (fX10_in l3 (0 : Int32) (3 : Int32)) = 0 then some ((-7 : Int32), M)
  else (rd (M.2 77) 6 l1).bind fun v7 =>
  if v7 = (-1 : Int32) then some ((-3 : Int32), M)
  else if (2 : Int32) ≤ l3 then if l3 = (2 : Int32) then (rd (M.2 78) 6 l1).bind fun v20 =>
  (fX10_farOff M v7 l2 v20).bind fun v22 =>
  some (v22, M)
  else (fX10_deepAt M v7 l2).bind fun v9 =>
  bd ((3 : Int32) * v9) fun v11 =>
  if v11 = 0 then some ((100 : Int32), M)
  else (rd (M.2 78) 6 l1).bind fun v13 =>
  if v13 < v11 then (rd (M.2 78) 6 l1).bind fun v15 =>
  if v11 = 0 then none else some ((((100 : Int32) * v15) / v11), M)
  else some ((100 : Int32), M)
  else if l3 = 0 then (rd (M.2 78) 6 l1).bind fun v30 =>
  bd2 (fX10_pullOf M l1 v7 l2 v30) fun v33 M32 =>
  some (v33, M32)
  else (rd (M.2 78) 6 l1).bind fun v25 =>
  bd2 (fX10_powerOf M l1 v7 l2 v25) fun v28 M27 =>
  some (v28, M27)
set_option maxRecDepth 100000 in
set_option maxHeartbeats 4000000 in
theorem c_X10_hold {l : Launch} {s0 : State} {D : va_G} {ev : Nat → Nat} (G0 : Gl s0 D ev) {X : XW} {M : MW} {nb : Nat} {l1 : Int32} {l2 : Int32} {l3 : Int32} {r' : Int32} {M' : MW}  (h : fX10_hold M l1 l2 l3 = some (r', M')) : CT l s0 D ev yX10_hold cX10_hold 6 (some .int) 4 0 0 [.ref (ev 0 + 65), .int l1, .int l2, .int l3] (cells ev X M (nb + 1)) (QI s0 D ev r' (cells ev X M' (nb + 1))) := by
  refine ct_of G0 (by decide) (Nat.le_of_ble_eq_true rfl) ?_
  intro p9 e9 s9 m9 args9 below9 meth9 c9 F hr9 hl9 hin9 hargs9 hts9
  rw [fX10_hold] at h
  refine g_lv (lv' := [(0, .ref (ev 0 + 65)), (1, .int l1), (2, .int l2), (3, .int l3)]) ⟨rfl, rfl, rfl, rfl, trivial⟩ ?_
  refine g_aload_n (i := 0) F dX10_hold_0 rfl rfl ?_
  refine g_iload_n (i := 1) F dX10_hold_1 rfl rfl ?_
  refine g_callVI F (mcR := 0) (msR := 0) (id := 65) (cells_at (kd_hidM (show kd 65 = 10 from rfl) (by decide)) (xc_10 rfl)) (ci := 10) rfl rfl rfl (c_X10_isBoat G0 (X := X) (M := M) (nb := nb) rfl) wd_23_7 wd_23_4 wd_23_5 wd_23_6 wd_1_5 ⟨by decide, by decide⟩ (nn := 1) (by decide) (As := [.int l1]) rfl rfl (Nat.le_of_ble_eq_true rfl) (by decide) (by decide) ⟨by decide, by decide⟩ dX10_hold_2 ?_
  refine g_if_ne (tgt := 11) F dX10_hold_5 (by decide) h (fun a40 h => ?_) (fun a40 h => ?_)
  · refine g_iload_n (i := 2) F dX10_hold_11 rfl rfl ?_
    refine g_callSI F (mcR := 0) (msR := 0) (c_X10_isHour G0 (X := X) (M := M) (nb := nb) rfl) wd_17_23 wd_17_21 wd_17_22 wd_1_5 ⟨by decide, by decide⟩ (nn := 1) (by decide) (As := [.int l2]) rfl rfl (Nat.le_of_ble_eq_true rfl) (by decide) (by decide) ⟨by decide, by decide⟩ dX10_hold_12 ?_
    refine g_if_eq (tgt := 27) F dX10_hold_15 (by decide) h (fun a39 h => ?_) (fun a39 h => ?_)
    · refine g_bipush F dX10_hold_27 (v := -7) (by decide) ?_
      have hp := Prod.mk.inj (Option.some.inj h)
      exact g_iret F hr9 rfl hl9 hp.1 (by rw [hp.2]) (by decide) (by decide) dX10_hold_29
    · refine g_iload_n (i := 3) F dX10_hold_18 rfl rfl ?_
      refine g_iconst F dX10_hold_19 (v := 0) (by decide) ?_
      refine g_iconst F dX10_hold_20 (v := 3) (by decide) ?_
      refine g_callSI F (mcR := 0) (msR := 0) (c_X10_in G0 (X := X) (M := M) (nb := nb) rfl) wd_13_21 wd_13_19 wd_13_20 wd_1_5 ⟨by decide, by decide⟩ (nn := 3) (by decide) (As := [.int l3, .int (0 : Int32), .int (3 : Int32)]) rfl rfl (Nat.le_of_ble_eq_true rfl) (by decide) (by decide) ⟨by decide, by decide⟩ dX10_hold_21 ?_
      refine g_if_ne (tgt := 30) F dX10_hold_24 (by decide) h (fun a38 h => ?_) (fun a38 h => ?_)
      · refine g_aload_n (i := 0) F dX10_hold_30 rfl rfl ?_
        refine g_get_10_13 F wd_12_1 dX10_hold_31 ?_
        refine g_iload_n (i := 1) F dX10_hold_34 rfl rfl ?_
        obtain ⟨v7, e8, h⟩ := bind_at h
        refine g_ildM F rfl rfl e8 dX10_hold_35 ?_
        refine g_istore (i := 4) (lv' := [(4, .int v7), (0, .ref (ev 0 + 65)), (1, .int l1), (2, .int l2), (3, .int l3)]) F dX10_hold_36 (by decide) rfl ?_
        refine g_iload (i := 4) F dX10_hold_38 rfl ?_
        refine g_iconst F dX10_hold_40 (v := -1) (by decide) ?_
        refine g_icmp_ne (tgt := 47) F dX10_hold_41 (by decide) h (fun a37 h => ?_) (fun a37 h => ?_)
        · refine g_iload_n (i := 3) F dX10_hold_47 rfl rfl ?_
          refine g_iconst F dX10_hold_48 (v := 2) (by decide) ?_
          refine g_icmp_ge (tgt := 88) F dX10_hold_49 (by decide) h (fun a36 h => ?_) (fun a36 h => ?_)
          · refine g_iload_n (i := 3) F dX10_hold_88 rfl rfl ?_
            refine g_iconst F dX10_hold_89 (v := 2) (by decide) ?_
            refine g_icmp_ne (tgt := 107) F dX10_hold_90 (by decide) h (fun a24 h => ?_) (fun a24 h => ?_)
            · refine g_iconst F dX10_hold_107 (v := 3) (by decide) ?_
              refine g_aload_n (i := 0) F dX10_hold_108 rfl rfl ?_
              refine g_iload (i := 4) F dX10_hold_109 rfl ?_
              refine g_iload_n (i := 2) F dX10_hold_111 rfl rfl ?_
              obtain ⟨v9, e10, h⟩ := bind_at h
              refine g_callVI F (mcR := 0) (msR := 0) (id := 65) (cells_at (kd_hidM (show kd 65 = 10 from rfl) (by decide)) (xc_10 rfl)) (ci := 10) rfl rfl rfl (c_X10_deepAt G0 e10) wd_26_12 wd_26_9 wd_26_10 wd_26_11 wd_1_5 ⟨by decide, by decide⟩ (nn := 2) (by decide) (As := [.int v7, .int l2]) rfl rfl (Nat.le_of_ble_eq_true rfl) (by decide) (by decide) ⟨by decide, by decide⟩ dX10_hold_112 ?_
              refine g_imul F dX10_hold_115 ?_
              refine g_topi F h (fun v11 e12 h => ?_)
              refine g_istore (i := 5) (lv' := [(5, .int v11), (4, .int v7), (0, .ref (ev 0 + 65)), (1, .int l1), (2, .int l2), (3, .int l3)]) F dX10_hold_116 (by decide) rfl ?_
              refine g_iload (i := 5) F dX10_hold_118 rfl ?_
              refine g_if_eq (tgt := 134) F dX10_hold_120 (by decide) h (fun a19 h => ?_) (fun a19 h => ?_)
              · refine g_bipush F dX10_hold_134 (v := 100) (by decide) ?_
                refine g_goto (tgt := 151) F dX10_hold_136 (by decide) ?_
                have hp := Prod.mk.inj (Option.some.inj h)
                exact g_iret F hr9 rfl hl9 hp.1 (by rw [hp.2]) (by decide) (by decide) dX10_hold_151
              · refine g_aload_n (i := 0) F dX10_hold_123 rfl rfl ?_
                refine g_get_10_14 F wd_12_2 dX10_hold_124 ?_
                refine g_iload_n (i := 1) F dX10_hold_127 rfl rfl ?_
                obtain ⟨v13, e14, h⟩ := bind_at h
                refine g_ildM F rfl rfl e14 dX10_hold_128 ?_
                refine g_iload (i := 5) F dX10_hold_129 rfl ?_
                refine g_icmp_lt (tgt := 139) F dX10_hold_131 (by decide) h (fun a18 h => ?_) (fun a18 h => ?_)
                · refine g_bipush F dX10_hold_139 (v := 100) (by decide) ?_
                  refine g_aload_n (i := 0) F dX10_hold_141 rfl rfl ?_
                  refine g_get_10_14 F wd_12_2 dX10_hold_142 ?_
                  refine g_iload_n (i := 1) F dX10_hold_145 rfl rfl ?_
                  obtain ⟨v15, e16, h⟩ := bind_at h
                  refine g_ildM F rfl rfl e16 dX10_hold_146 ?_
                  refine g_imul F dX10_hold_147 ?_
                  refine g_iload (i := 5) F dX10_hold_148 rfl ?_
                  refine ite_at h (fun _ h => by cases h) (fun h17 h => ?_)
                  refine g_idiv F dX10_hold_150 h17 ?_
                  have hp := Prod.mk.inj (Option.some.inj h)
                  exact g_iret F hr9 rfl hl9 hp.1 (by rw [hp.2]) (by decide) (by decide) dX10_hold_151
                · refine g_bipush F dX10_hold_134 (v := 100) (by decide) ?_
                  refine g_goto (tgt := 151) F dX10_hold_136 (by decide) ?_
                  have hp := Prod.mk.inj (Option.some.inj h)
                  exact g_iret F hr9 rfl hl9 hp.1 (by rw [hp.2]) (by decide) (by decide) dX10_hold_151
            · refine g_aload_n (i := 0) F dX10_hold_93 rfl rfl ?_
              refine g_iload (i := 4) F dX10_hold_94 rfl ?_
              refine g_iload_n (i := 2) F dX10_hold_96 rfl rfl ?_
              refine g_aload_n (i := 0) F dX10_hold_97 rfl rfl ?_
              refine g_get_10_14 F wd_12_2 dX10_hold_98 ?_
              refine g_iload_n (i := 1) F dX10_hold_101 rfl rfl ?_
              obtain ⟨v20, e21, h⟩ := bind_at h
              refine g_ildM F rfl rfl e21 dX10_hold_102 ?_
              obtain ⟨v22, e23, h⟩ := bind_at h
              refine g_callVI F (mcR := 0) (msR := 0) (id := 65) (cells_at (kd_hidM (show kd 65 = 10 from rfl) (by decide)) (xc_10 rfl)) (ci := 10) rfl rfl rfl (c_X10_farOff G0 e23) wd_26_20 wd_26_17 wd_26_18 wd_26_19 wd_1_5 ⟨by decide, by decide⟩ (nn := 3) (by decide) (As := [.int v7, .int l2, .int v20]) rfl rfl (Nat.le_of_ble_eq_true rfl) (by decide) (by decide) ⟨by decide, by decide⟩ dX10_hold_103 ?_
              have hp := Prod.mk.inj (Option.some.inj h)
              exact g_iret F hr9 rfl hl9 hp.1 (by rw [hp.2]) (by decide) (by decide) dX10_hold_106
          · refine g_iload_n (i := 3) F dX10_hold_52 rfl rfl ?_
            refine g_if_ne (tgt := 73) F dX10_hold_53 (by decide) h (fun a35 h => ?_) (fun a35 h => ?_)
            · refine g_aload_n (i := 0) F dX10_hold_73 rfl rfl ?_
              refine g_iload_n (i := 1) F dX10_hold_74 rfl rfl ?_
              refine g_iload (i := 4) F dX10_hold_75 rfl ?_
              refine g_iload_n (i := 2) F dX10_hold_77 rfl rfl ?_
              refine g_aload_n (i := 0) F dX10_hold_78 rfl rfl ?_
              refine g_get_10_14 F wd_12_2 dX10_hold_79 ?_
              refine g_iload_n (i := 1) F dX10_hold_82 rfl rfl ?_
              obtain ⟨v25, e26, h⟩ := bind_at h
              refine g_ildM F rfl rfl e26 dX10_hold_83 ?_
              obtain ⟨v28, M27, e29, h⟩ := bd2_at h
              refine g_callVI F (mcR := 0) (msR := 0) (id := 65) (cells_at (kd_hidM (show kd 65 = 10 from rfl) (by decide)) (xc_10 rfl)) (ci := 10) rfl rfl rfl (c_X10_powerOf G0 e29) wd_26_16 wd_26_13 wd_26_14 wd_26_15 wd_1_5 ⟨by decide, by decide⟩ (nn := 4) (by decide) (As := [.int l1, .int v7, .int l2, .int v25]) rfl rfl (Nat.le_of_ble_eq_true rfl) (by decide) (by decide) ⟨by decide, by decide⟩ dX10_hold_84 ?_
              have hp := Prod.mk.inj (Option.some.inj h)
              exact g_iret F hr9 rfl hl9 hp.1 (by rw [hp.2]) (by decide) (by decide) dX10_hold_87
            · refine g_aload_n (i := 0) F dX10_hold_56 rfl rfl ?_
              refine g_iload_n (i := 1) F dX10_hold_57 rfl rfl ?_
              refine g_iload (i := 4) F dX10_hold_58 rfl ?_
              refine g_iload_n (i := 2) F dX10_hold_60 rfl rfl ?_
              refine g_aload_n (i := 0) F dX10_hold_61 rfl rfl ?_
              refine g_get_10_14 F wd_12_2 dX10_hold_62 ?_
              refine g_iload_n (i := 1) F dX10_hold_65 rfl rfl ?_
              obtain ⟨v30, e31, h⟩ := bind_at h
              refine g_ildM F rfl rfl e31 dX10_hold_66 ?_
              obtain ⟨v33, M32, e34, h⟩ := bd2_at h
              refine g_callVI F (mcR := 0) (msR := 0) (id := 65) (cells_at (kd_hidM (show kd 65 = 10 from rfl) (by decide)) (xc_10 rfl)) (ci := 10) rfl rfl rfl (c_X10_pullOf G0 e34) wd_25_23 wd_25_20 wd_25_21 wd_25_22 wd_1_5 ⟨by decide, by decide⟩ (nn := 4) (by decide) (As := [.int l1, .int v7, .int l2, .int v30]) rfl rfl (Nat.le_of_ble_eq_true rfl) (by decide) (by decide) ⟨by decide, by decide⟩ dX10_hold_67 ?_
              refine g_goto (tgt := 87) F dX10_hold_70 (by decide) ?_
              have hp := Prod.mk.inj (Option.some.inj h)
              exact g_iret F hr9 rfl hl9 hp.1 (by rw [hp.2]) (by decide) (by decide) dX10_hold_87
        · refine g_bipush F dX10_hold_44 (v := -3) (by decide) ?_
          have hp := Prod.mk.inj (Option.some.inj h)
          exact g_iret F hr9 rfl hl9 hp.1 (by rw [hp.2]) (by decide) (by decide) dX10_hold_46
      · refine g_bipush F dX10_hold_27 (v := -7) (by decide) ?_
        have hp := Prod.mk.inj (Option.some.inj h)
        exact g_iret F hr9 rfl hl9 hp.1 (by rw [hp.2]) (by decide) (by decide) dX10_hold_29
  · refine g_bipush F dX10_hold_8 (v := -5) (by decide) ?_
    have hp := Prod.mk.inj (Option.some.inj h)
    exact g_iret F hr9 rfl hl9 hp.1 (by rw [hp.2]) (by decide) (by decide) dX10_hold_10
def fX10_drags_b43 (M : MW) (l1 : Int32) (l2 : Int32) (l3 : Int32) (l4 : Int32) (l5 : Int32) (l6 : Int32) : Option (Int32 × MW) :=
  bd2 (fX10_pullOf M l1 l2 l3 l4) fun v6 M5 =>
  bd2 (fX10_powerOf M5 l1 l2 l3 l4) fun v9 M8 =>
  if (v6 - l5) ≤ (v9 + l6) then some ((0 : Int32), M8)
  else some ((1 : Int32), M8)
def fX10_drags_b26 (M : MW) (l1 : Int32) (l2 : Int32) (l3 : Int32) (l4 : Int32) (l5 : Int32) (l6 : Int32) : Option (Int32 × MW) :=
  (rd (M.2 73) 6 l1).bind fun v3 =>
  if v3 = (2 : Int32) then if (jrem l3 (2 : Int32)) = (1 : Int32) then fX10_drags_b43 M l1 l2 l3 l4 l5 l6
  else some ((0 : Int32), M)
  else fX10_drags_b43 M l1 l2 l3 l4 l5 l6
def fX10_drags (M : MW) (l1 : Int32) (l2 : Int32) (l3 : Int32) (l4 : Int32) (l5 : Int32) (l6 : Int32) : Option (Int32 × MW) :=
  (rd (M.2 73) 6 l1).bind fun v1 =>
  if v1 = (4 : Int32) then (fX10_turnIn M l3).bind fun v14 =>
  (rd (M.2 76) 6 l1).bind fun v16 =>
  if v14 ≤ v16 then fX10_drags_b26 M l1 l2 l3 l4 l5 l6
  else some ((1 : Int32), M)
  else fX10_drags_b26 M l1 l2 l3 l4 l5 l6
set_option maxRecDepth 100000 in
set_option maxHeartbeats 4000000 in
theorem c_X10_drags {l : Launch} {s0 : State} {D : va_G} {ev : Nat → Nat} (G0 : Gl s0 D ev) {X : XW} {M : MW} {nb : Nat} {l1 : Int32} {l2 : Int32} {l3 : Int32} {l4 : Int32} {l5 : Int32} {l6 : Int32} {r' : Int32} {M' : MW}  (h : fX10_drags M l1 l2 l3 l4 l5 l6 = some (r', M')) : CT l s0 D ev yX10_drags cX10_drags 7 (some .boolean) 4 0 0 [.ref (ev 0 + 65), .int l1, .int l2, .int l3, .int l4, .int l5, .int l6] (cells ev X M (nb + 1)) (QI s0 D ev r' (cells ev X M' (nb + 1))) := by
  refine ct_of G0 (by decide) (Nat.le_of_ble_eq_true rfl) ?_
  intro p9 e9 s9 m9 args9 below9 meth9 c9 F hr9 hl9 hin9 hargs9 hts9
  have U43 : ∀ (M : MW) (l1 : Int32) (l2 : Int32) (l3 : Int32) (l4 : Int32) (l5 : Int32) (l6 : Int32), fX10_drags_b43 M l1 l2 l3 l4 l5 l6 = some (r', M') → GJ p9 l e9 (rg 4 0 0) s9 m9 args9 below9 meth9 c9 (MQ below9 (QI s0 D ev r' (cells ev X M' (nb + 1))) args9 s9 0 0 (frA ev)) s0 D ev 7 0 0 43 [(0, .ref (ev 0 + 65)), (1, .int l1), (2, .int l2), (3, .int l3), (4, .int l4), (5, .int l5), (6, .int l6)] ([]) (cells ev X M (nb + 1)) := by
    intro M l1 l2 l3 l4 l5 l6 h
    rw [fX10_drags_b43] at h
    refine g_aload_n (i := 0) F dX10_drags_43 rfl rfl ?_
    refine g_iload_n (i := 1) F dX10_drags_44 rfl rfl ?_
    refine g_iload_n (i := 2) F dX10_drags_45 rfl rfl ?_
    refine g_iload_n (i := 3) F dX10_drags_46 rfl rfl ?_
    refine g_iload (i := 4) F dX10_drags_47 rfl ?_
    obtain ⟨v6, M5, e7, h⟩ := bd2_at h
    refine g_callVI F (mcR := 0) (msR := 0) (id := 65) (cells_at (kd_hidM (show kd 65 = 10 from rfl) (by decide)) (xc_10 rfl)) (ci := 10) rfl rfl rfl (c_X10_pullOf G0 e7) wd_25_23 wd_25_20 wd_25_21 wd_25_22 wd_1_5 ⟨by decide, by decide⟩ (nn := 4) (by decide) (As := [.int l1, .int l2, .int l3, .int l4]) rfl rfl (Nat.le_of_ble_eq_true rfl) (by decide) (by decide) ⟨by decide, by decide⟩ dX10_drags_49 ?_
    refine g_iload (i := 5) F dX10_drags_52 rfl ?_
    refine g_isub F dX10_drags_54 ?_
    refine g_aload_n (i := 0) F dX10_drags_55 rfl rfl ?_
    refine g_iload_n (i := 1) F dX10_drags_56 rfl rfl ?_
    refine g_iload_n (i := 2) F dX10_drags_57 rfl rfl ?_
    refine g_iload_n (i := 3) F dX10_drags_58 rfl rfl ?_
    refine g_iload (i := 4) F dX10_drags_59 rfl ?_
    obtain ⟨v9, M8, e10, h⟩ := bd2_at h
    refine g_callVI F (mcR := 0) (msR := 0) (id := 65) (cells_at (kd_hidM (show kd 65 = 10 from rfl) (by decide)) (xc_10 rfl)) (ci := 10) rfl rfl rfl (c_X10_powerOf G0 e10) wd_26_16 wd_26_13 wd_26_14 wd_26_15 wd_1_5 ⟨by decide, by decide⟩ (nn := 4) (by decide) (As := [.int l1, .int l2, .int l3, .int l4]) rfl rfl (Nat.le_of_ble_eq_true rfl) (by decide) (by decide) ⟨by decide, by decide⟩ dX10_drags_61 ?_
    refine g_iload (i := 6) F dX10_drags_64 rfl ?_
    refine g_iadd F dX10_drags_66 ?_
    refine g_icmp_le (tgt := 74) F dX10_drags_67 (by decide) h (fun a11 h => ?_) (fun a11 h => ?_)
    · refine g_iconst F dX10_drags_74 (v := 0) (by decide) ?_
      have hp := Prod.mk.inj (Option.some.inj h)
      exact g_iret F hr9 (by decide) hl9 hp.1 (by rw [hp.2]) (by decide) (by decide) dX10_drags_75
    · refine g_iconst F dX10_drags_70 (v := 1) (by decide) ?_
      refine g_goto (tgt := 75) F dX10_drags_71 (by decide) ?_
      have hp := Prod.mk.inj (Option.some.inj h)
      exact g_iret F hr9 (by decide) hl9 hp.1 (by rw [hp.2]) (by decide) (by decide) dX10_drags_75
  have U26 : ∀ (M : MW) (l1 : Int32) (l2 : Int32) (l3 : Int32) (l4 : Int32) (l5 : Int32) (l6 : Int32), fX10_drags_b26 M l1 l2 l3 l4 l5 l6 = some (r', M') → GJ p9 l e9 (rg 4 0 0) s9 m9 args9 below9 meth9 c9 (MQ below9 (QI s0 D ev r' (cells ev X M' (nb + 1))) args9 s9 0 0 (frA ev)) s0 D ev 7 0 0 26 [(0, .ref (ev 0 + 65)), (1, .int l1), (2, .int l2), (3, .int l3), (4, .int l4), (5, .int l5), (6, .int l6)] ([]) (cells ev X M (nb + 1)) := by
    intro M l1 l2 l3 l4 l5 l6 h
    rw [fX10_drags_b26] at h
    refine g_aload_n (i := 0) F dX10_drags_26 rfl rfl ?_
    refine g_get_10_9 F wd_11_21 dX10_drags_27 ?_
    refine g_iload_n (i := 1) F dX10_drags_30 rfl rfl ?_
    obtain ⟨v3, e4, h⟩ := bind_at h
    refine g_ildM F rfl rfl e4 dX10_drags_31 ?_
    refine g_iconst F dX10_drags_32 (v := 2) (by decide) ?_
    refine g_icmp_ne (tgt := 43) F dX10_drags_33 (by decide) h (fun a13 h => ?_) (fun a13 h => ?_)
    · refine g_lv (lv' := [(0, .ref (ev 0 + 65)), (1, .int l1), (2, .int l2), (3, .int l3), (4, .int l4), (5, .int l5), (6, .int l6)]) ⟨rfl, rfl, rfl, rfl, rfl, rfl, rfl, trivial⟩ ?_
      exact U43 _ _ _ _ _ _ _ h
    · refine g_iload_n (i := 3) F dX10_drags_36 rfl rfl ?_
      refine g_iconst F dX10_drags_37 (v := 2) (by decide) ?_
      refine g_irem F dX10_drags_38 (by decide) ?_
      refine g_iconst F dX10_drags_39 (v := 1) (by decide) ?_
      refine g_icmp_ne (tgt := 74) F dX10_drags_40 (by decide) h (fun a12 h => ?_) (fun a12 h => ?_)
      · refine g_iconst F dX10_drags_74 (v := 0) (by decide) ?_
        have hp := Prod.mk.inj (Option.some.inj h)
        exact g_iret F hr9 (by decide) hl9 hp.1 (by rw [hp.2]) (by decide) (by decide) dX10_drags_75
      · refine g_lv (lv' := [(0, .ref (ev 0 + 65)), (1, .int l1), (2, .int l2), (3, .int l3), (4, .int l4), (5, .int l5), (6, .int l6)]) ⟨rfl, rfl, rfl, rfl, rfl, rfl, rfl, trivial⟩ ?_
        exact U43 _ _ _ _ _ _ _ h
  rw [fX10_drags] at h
  refine g_lv (lv' := [(0, .ref (ev 0 + 65)), (1, .int l1), (2, .int l2), (3, .int l3), (4, .int l4), (5, .int l5), (6, .int l6)]) ⟨rfl, rfl, rfl, rfl, rfl, rfl, rfl, trivial⟩ ?_
  refine g_aload_n (i := 0) F dX10_drags_0 rfl rfl ?_
  refine g_get_10_9 F wd_11_21 dX10_drags_1 ?_
  refine g_iload_n (i := 1) F dX10_drags_4 rfl rfl ?_
  obtain ⟨v1, e2, h⟩ := bind_at h
  refine g_ildM F rfl rfl e2 dX10_drags_5 ?_
  refine g_iconst F dX10_drags_6 (v := 4) (by decide) ?_
  refine g_icmp_ne (tgt := 26) F dX10_drags_7 (by decide) h (fun a19 h => ?_) (fun a19 h => ?_)
  · refine g_lv (lv' := [(0, .ref (ev 0 + 65)), (1, .int l1), (2, .int l2), (3, .int l3), (4, .int l4), (5, .int l5), (6, .int l6)]) ⟨rfl, rfl, rfl, rfl, rfl, rfl, rfl, trivial⟩ ?_
    exact U26 _ _ _ _ _ _ _ h
  · refine g_aload_n (i := 0) F dX10_drags_10 rfl rfl ?_
    refine g_iload_n (i := 3) F dX10_drags_11 rfl rfl ?_
    obtain ⟨v14, e15, h⟩ := bind_at h
    refine g_callVI F (mcR := 0) (msR := 0) (id := 65) (cells_at (kd_hidM (show kd 65 = 10 from rfl) (by decide)) (xc_10 rfl)) (ci := 10) rfl rfl rfl (c_X10_turnIn G0 e15) wd_30_14 wd_30_11 wd_30_12 wd_30_13 wd_1_5 ⟨by decide, by decide⟩ (nn := 1) (by decide) (As := [.int l3]) rfl rfl (Nat.le_of_ble_eq_true rfl) (by decide) (by decide) ⟨by decide, by decide⟩ dX10_drags_12 ?_
    refine g_aload_n (i := 0) F dX10_drags_15 rfl rfl ?_
    refine g_get_10_12 F wd_12_0 dX10_drags_16 ?_
    refine g_iload_n (i := 1) F dX10_drags_19 rfl rfl ?_
    obtain ⟨v16, e17, h⟩ := bind_at h
    refine g_ildM F rfl rfl e17 dX10_drags_20 ?_
    refine g_icmp_le (tgt := 26) F dX10_drags_21 (by decide) h (fun a18 h => ?_) (fun a18 h => ?_)
    · refine g_lv (lv' := [(0, .ref (ev 0 + 65)), (1, .int l1), (2, .int l2), (3, .int l3), (4, .int l4), (5, .int l5), (6, .int l6)]) ⟨rfl, rfl, rfl, rfl, rfl, rfl, rfl, trivial⟩ ?_
      exact U26 _ _ _ _ _ _ _ h
    · refine g_iconst F dX10_drags_24 (v := 1) (by decide) ?_
      have hp := Prod.mk.inj (Option.some.inj h)
      exact g_iret F hr9 (by decide) hl9 hp.1 (by rw [hp.2]) (by decide) (by decide) dX10_drags_25
def fX10_further (M : MW) (l1 : Int32) (l2 : Int32) : Option Int32 :=
  (rd (M.2 68) 12 l2).bind fun v1 =>
  (rd (M.2 71) 8 v1).bind fun v3 =>
  bd ((jrem l1 (10 : Int32)) + v3) fun v5 =>
  (rd (M.2 68) 12 l2).bind fun v7 =>
  (rd (M.2 72) 8 v7).bind fun v9 =>
  bd ((l1 / (10 : Int32)) + v9) fun v11 =>
  if (fX10_isWithin v5 v11) = 0 then some (-1 : Int32)
  else some (((10 : Int32) * v11) + v5)
set_option maxRecDepth 100000 in
set_option maxHeartbeats 4000000 in
theorem c_X10_further {l : Launch} {s0 : State} {D : va_G} {ev : Nat → Nat} (G0 : Gl s0 D ev) {X : XW} {M : MW} {nb : Nat} {l1 : Int32} {l2 : Int32} {r' : Int32}  (h : fX10_further M l1 l2 = some r') : CT l s0 D ev yX10_further cX10_further 5 (some .int) 2 0 0 [.ref (ev 0 + 65), .int l1, .int l2] (cells ev X M (nb + 1)) (QI s0 D ev r' (cells ev X M (nb + 1))) := by
  refine ct_of G0 (by decide) (Nat.le_of_ble_eq_true rfl) ?_
  intro p9 e9 s9 m9 args9 below9 meth9 c9 F hr9 hl9 hin9 hargs9 hts9
  rw [fX10_further] at h
  refine g_lv (lv' := [(0, .ref (ev 0 + 65)), (1, .int l1), (2, .int l2)]) ⟨rfl, rfl, rfl, trivial⟩ ?_
  refine g_iload_n (i := 1) F dX10_further_0 rfl rfl ?_
  refine g_bipush F dX10_further_1 (v := 10) (by decide) ?_
  refine g_irem F dX10_further_3 (by decide) ?_
  refine g_aload_n (i := 0) F dX10_further_4 rfl rfl ?_
  refine g_get_10_5 F wd_11_19 dX10_further_5 ?_
  refine g_aload_n (i := 0) F dX10_further_8 rfl rfl ?_
  refine g_get_10_2 F wd_11_16 dX10_further_9 ?_
  refine g_iload_n (i := 2) F dX10_further_12 rfl rfl ?_
  obtain ⟨v1, e2, h⟩ := bind_at h
  refine g_ildM F rfl rfl e2 dX10_further_13 ?_
  obtain ⟨v3, e4, h⟩ := bind_at h
  refine g_ildM F rfl rfl e4 dX10_further_14 ?_
  refine g_iadd F dX10_further_15 ?_
  refine g_topi F h (fun v5 e6 h => ?_)
  refine g_istore_n (i := 3) (lv' := [(3, .int v5), (0, .ref (ev 0 + 65)), (1, .int l1), (2, .int l2)]) F dX10_further_16 rfl (by decide) rfl ?_
  refine g_iload_n (i := 1) F dX10_further_17 rfl rfl ?_
  refine g_bipush F dX10_further_18 (v := 10) (by decide) ?_
  refine g_idiv F dX10_further_20 (by decide) ?_
  refine g_aload_n (i := 0) F dX10_further_21 rfl rfl ?_
  refine g_get_10_6 F wd_11_20 dX10_further_22 ?_
  refine g_aload_n (i := 0) F dX10_further_25 rfl rfl ?_
  refine g_get_10_2 F wd_11_16 dX10_further_26 ?_
  refine g_iload_n (i := 2) F dX10_further_29 rfl rfl ?_
  obtain ⟨v7, e8, h⟩ := bind_at h
  refine g_ildM F rfl rfl e8 dX10_further_30 ?_
  obtain ⟨v9, e10, h⟩ := bind_at h
  refine g_ildM F rfl rfl e10 dX10_further_31 ?_
  refine g_iadd F dX10_further_32 ?_
  refine g_topi F h (fun v11 e12 h => ?_)
  refine g_istore (i := 4) (lv' := [(4, .int v11), (3, .int v5), (0, .ref (ev 0 + 65)), (1, .int l1), (2, .int l2)]) F dX10_further_33 (by decide) rfl ?_
  refine g_iload_n (i := 3) F dX10_further_35 rfl rfl ?_
  refine g_iload (i := 4) F dX10_further_36 rfl ?_
  refine g_callSI F (mcR := 0) (msR := 0) (c_X10_isWithin G0 (X := X) (M := M) (nb := nb) rfl) wd_31_0 wd_30_22 wd_30_23 wd_1_5 ⟨by decide, by decide⟩ (nn := 2) (by decide) (As := [.int v5, .int v11]) rfl rfl (Nat.le_of_ble_eq_true rfl) (by decide) (by decide) ⟨by decide, by decide⟩ dX10_further_38 ?_
  refine g_if_eq (tgt := 54) F dX10_further_41 (by decide) h (fun a15 h => ?_) (fun a15 h => ?_)
  · refine g_iconst F dX10_further_54 (v := -1) (by decide) ?_
    exact g_iret F hr9 rfl hl9 (Option.some.inj h) rfl (by decide) (by decide) dX10_further_55
  · refine g_bipush F dX10_further_44 (v := 10) (by decide) ?_
    refine g_iload (i := 4) F dX10_further_46 rfl ?_
    refine g_imul F dX10_further_48 ?_
    refine g_iload_n (i := 3) F dX10_further_49 rfl rfl ?_
    refine g_iadd F dX10_further_50 ?_
    refine g_goto (tgt := 55) F dX10_further_51 (by decide) ?_
    exact g_iret F hr9 rfl hl9 (Option.some.inj h) rfl (by decide) (by decide) dX10_further_55
def fX10_begins_b52 (M : MW) : Option (MW) :=
  bd (mI M 55 (0 : Int32)) fun M1 =>
  some M1
def fX10_begins_b31 (K2 : MW → Int32 → Option (MW)) (M : MW) (l1 : Int32) (t1 : Int32) (t2 : Int32) : Option (MW) :=
  if inb t1 6 then bd (mA M 97 t1 t2) fun M4 =>
  if inb l1 6 then bd (mA M4 98 l1 (0 : Int32)) fun M7 =>
  if inb l1 6 then bd (mA M7 99 l1 (-1 : Int32)) fun M10 =>
  K2 M10 (l1 + (1 : Int32))
  else none
  else none
  else none
def fX10_begins_l2 (K2 : MW → Int32 → Option (MW)) (M : MW) (l1 : Int32) : Option (MW) :=
  if (6 : Int32) ≤ l1 then fX10_begins_b52 M
  else if (M.1 8) ≤ l1 then fX10_begins_b31 K2 M l1 l1 (-1 : Int32)
  else (rd (M.2 77) 6 l1).bind fun v12 =>
  fX10_begins_b31 K2 M l1 l1 v12
def fX10_begins (M : MW) : Option (MW) :=
  lo2 (fX10_begins_l2) FU M (0 : Int32)
set_option maxRecDepth 100000 in
set_option maxHeartbeats 4000000 in
theorem c_X10_begins {l : Launch} {s0 : State} {D : va_G} {ev : Nat → Nat} (G0 : Gl s0 D ev) {X : XW} {M : MW} {nb : Nat}  {M' : MW}  (h : fX10_begins M = some (M')) : CT l s0 D ev yX10_begins cX10_begins 2 none 0 0 0 [.ref (ev 0 + 65)] (cells ev X M (nb + 1)) (QV s0 D ev (cells ev X M' (nb + 1))) := by
  refine ct_of G0 (by decide) (Nat.le_of_ble_eq_true rfl) ?_
  intro p9 e9 s9 m9 args9 below9 meth9 c9 F hr9 hl9 hin9 hargs9 hts9
  have U52 : ∀ (M : MW), fX10_begins_b52 M = some (M') → GJ p9 l e9 (rg 0 0 0) s9 m9 args9 below9 meth9 c9 (MQ below9 (QV s0 D ev (cells ev X M' (nb + 1))) args9 s9 0 0 (frA ev)) s0 D ev 2 0 0 52 [(0, .ref (ev 0 + 65))] ([]) (cells ev X M (nb + 1)) := by
    intro M h
    rw [fX10_begins_b52] at h
    refine g_aload_n (i := 0) F dX10_begins_52 rfl rfl ?_
    refine g_iconst F dX10_begins_53 (v := 0) (by decide) ?_
    obtain ⟨M1, e2, h⟩ := bd_at h
    refine g_put_10_55 F wd_30_2 dX10_begins_54 ?_
    rw [← e2]
    exact g_vret F hr9 hl9 (by rw [Option.some.inj h]) (by decide) (by decide) dX10_begins_57
  have L2 : ∀  (N2 : Nat) (M : MW) (l1 : Int32), lo2 (fX10_begins_l2) N2 M l1 = some (M') → GJ p9 l e9 (rg 0 0 0) s9 m9 args9 below9 meth9 c9 (MQ below9 (QV s0 D ev (cells ev X M' (nb + 1))) args9 s9 0 0 (frA ev)) s0 D ev 2 0 0 2 [(0, .ref (ev 0 + 65)), (1, .int l1)] ([]) (cells ev X M (nb + 1)) := by
    intro  N2
    induction N2 with
    | zero => intro M l1 h; cases h
    | succ N2 ih2 =>
      have U31 : ∀ (M : MW) (l1 : Int32) (t1 : Int32) (t2 : Int32), fX10_begins_b31 (lo2 (fX10_begins_l2) N2) M l1 t1 t2 = some (M') → GJ p9 l e9 (rg 0 0 0) s9 m9 args9 below9 meth9 c9 (MQ below9 (QV s0 D ev (cells ev X M' (nb + 1))) args9 s9 0 0 (frA ev)) s0 D ev 2 0 0 31 [(0, .ref (ev 0 + 65)), (1, .int l1)] (.int t2 :: .int t1 :: .ref (ev 0 + 97) :: []) (cells ev X M (nb + 1)) := by
        intro M l1 t1 t2 h
        rw [fX10_begins_b31] at h
        obtain ⟨h3, h⟩ := if_at h
        obtain ⟨M4, e5, h⟩ := bd_at h
        refine g_istM F rfl rfl h3 dX10_begins_31 ?_
        rw [← e5]
        refine g_aload_n (i := 0) F dX10_begins_32 rfl rfl ?_
        refine g_get_10_49 F wd_12_22 dX10_begins_33 ?_
        refine g_iload_n (i := 1) F dX10_begins_36 rfl rfl ?_
        refine g_iconst F dX10_begins_37 (v := 0) (by decide) ?_
        obtain ⟨h6, h⟩ := if_at h
        obtain ⟨M7, e8, h⟩ := bd_at h
        refine g_istM F rfl rfl h6 dX10_begins_38 ?_
        rw [← e8]
        refine g_aload_n (i := 0) F dX10_begins_39 rfl rfl ?_
        refine g_get_10_50 F wd_12_23 dX10_begins_40 ?_
        refine g_iload_n (i := 1) F dX10_begins_43 rfl rfl ?_
        refine g_iconst F dX10_begins_44 (v := -1) (by decide) ?_
        obtain ⟨h9, h⟩ := if_at h
        obtain ⟨M10, e11, h⟩ := bd_at h
        refine g_istM F rfl rfl h9 dX10_begins_45 ?_
        rw [← e11]
        refine g_iinc (i := 1) (v := (l1 + (1 : Int32))) (lv' := [(1, .int (l1 + (1 : Int32))), (0, .ref (ev 0 + 65))]) F dX10_begins_46 rfl rfl (by decide) rfl ?_
        refine g_goto (tgt := 2) F dX10_begins_49 (by decide) ?_
        refine g_lv (lv' := [(0, .ref (ev 0 + 65)), (1, .int (l1 + (1 : Int32)))]) ⟨rfl, rfl, trivial⟩ ?_
        exact ih2 _ _ h
      intro M l1 h
      change fX10_begins_l2 (lo2 (fX10_begins_l2) N2) M l1 = some (M') at h
      rw [fX10_begins_l2] at h
      refine g_iload_n (i := 1) F dX10_begins_2 rfl rfl ?_
      refine g_bipush F dX10_begins_3 (v := 6) (by decide) ?_
      refine g_icmp_ge (tgt := 52) F dX10_begins_5 (by decide) h (fun a15 h => ?_) (fun a15 h => ?_)
      · refine g_lv (lv' := [(0, .ref (ev 0 + 65))]) ⟨rfl, trivial⟩ ?_
        exact U52 _ h
      · refine g_aload_n (i := 0) F dX10_begins_8 rfl rfl ?_
        refine g_get_10_48 F wd_12_21 dX10_begins_9 ?_
        refine g_iload_n (i := 1) F dX10_begins_12 rfl rfl ?_
        refine g_iload_n (i := 1) F dX10_begins_13 rfl rfl ?_
        refine g_aload_n (i := 0) F dX10_begins_14 rfl rfl ?_
        refine g_get_10_8 F wd_18_18 dX10_begins_15 ?_
        refine g_icmp_ge (tgt := 30) F dX10_begins_18 (by decide) h (fun a14 h => ?_) (fun a14 h => ?_)
        · refine g_iconst F dX10_begins_30 (v := -1) (by decide) ?_
          refine g_lv (lv' := [(0, .ref (ev 0 + 65)), (1, .int l1)]) ⟨rfl, rfl, trivial⟩ ?_
          exact U31 _ _ _ _ h
        · refine g_aload_n (i := 0) F dX10_begins_21 rfl rfl ?_
          refine g_get_10_13 F wd_12_1 dX10_begins_22 ?_
          refine g_iload_n (i := 1) F dX10_begins_25 rfl rfl ?_
          obtain ⟨v12, e13, h⟩ := bind_at h
          refine g_ildM F rfl rfl e13 dX10_begins_26 ?_
          refine g_goto (tgt := 31) F dX10_begins_27 (by decide) ?_
          refine g_lv (lv' := [(0, .ref (ev 0 + 65)), (1, .int l1)]) ⟨rfl, rfl, trivial⟩ ?_
          exact U31 _ _ _ _ h
  rw [fX10_begins] at h
  refine g_lv (lv' := [(0, .ref (ev 0 + 65))]) ⟨rfl, trivial⟩ ?_
  refine g_iconst F dX10_begins_0 (v := 0) (by decide) ?_
  refine g_istore_n (i := 1) (lv' := [(1, .int (0 : Int32)), (0, .ref (ev 0 + 65))]) F dX10_begins_1 rfl (by decide) rfl ?_
  refine g_lv (lv' := [(0, .ref (ev 0 + 65)), (1, .int (0 : Int32))]) ⟨rfl, rfl, trivial⟩ ?_
  exact L2 FU _ _ h
def fX10_passes_l190 (l1f178 : Int32) (l2f190 : Int32) (K178 : MW → Int32 → Option (MW)) (K190 : MW → Int32 → Option (MW)) (M : MW) (l3 : Int32) : Option (MW) :=
  if (M.1 8) ≤ l3 then K178 M (l2f190 + (1 : Int32))
  else (rd (M.2 100) 72 (((6 : Int32) * l1f178) + l2f190)).bind fun v3 =>
  if v3 = (-1 : Int32) then K190 M (l3 + (1 : Int32))
  else (rd (M.2 100) 72 (((6 : Int32) * l1f178) + l2f190)).bind fun v5 =>
  (rd (M.2 100) 72 (((6 : Int32) * l1f178) + l3)).bind fun v7 =>
  if v5 = v7 then if inb (M.1 55) 180 then bd (mA M 101 (M.1 55) l1f178) fun M10 =>
  if inb (M10.1 55) 180 then bd (mA M10 102 (M10.1 55) l2f190) fun M13 =>
  if inb (M13.1 55) 180 then bd (mA M13 103 (M13.1 55) l3) fun M16 =>
  bd (mI M16 55 ((M16.1 55) + (1 : Int32))) fun M18 =>
  K190 M18 (l3 + (1 : Int32))
  else none
  else none
  else none
  else K190 M (l3 + (1 : Int32))
def fX10_passes_l178 (l1f178 : Int32) (K178 : MW → Int32 → Option (MW)) (M : MW) (l2 : Int32) : Option (MW) :=
  if (M.1 8) ≤ l2 then some M
  else bd (l2 + (1 : Int32)) fun v1 =>
  lo2 (fX10_passes_l190 l1f178 l2 K178) FU M v1
def fX10_passes_b176 (M : MW) (l1 : Int32) : Option (MW) :=
  lo2 (fX10_passes_l178 l1) FU M (0 : Int32)
def fX10_passes_b169 (l1f104 : Int32) (K104 : MW → Int32 → Option (MW)) (M : MW) (l2 : Int32) (t1 : Int32) (t2 : Int32) : Option (MW) :=
  if inb t1 72 then bd (mA M 100 t1 t2) fun M39 =>
  K104 M39 (l2 + (1 : Int32))
  else none
def fX10_passes_l104 (l1f104 : Int32) (K104 : MW → Int32 → Option (MW)) (M : MW) (l2 : Int32) : Option (MW) :=
  if (M.1 8) ≤ l2 then fX10_passes_b176 M l1f104
  else (rd (M.2 97) 6 l2).bind fun v24 =>
  if v24 = (-1 : Int32) then fX10_passes_b169 l1f104 K104 M l2 (((6 : Int32) * l1f104) + l2) (-1 : Int32)
  else (rd (M.2 97) 6 l2).bind fun v26 =>
  (rd (M.2 68) 12 l1f104).bind fun v28 =>
  (rd (M.2 97) 6 l2).bind fun v30 =>
  (rd (M.2 78) 6 l2).bind fun v32 =>
  (fX10_farOff M v30 l1f104 v32).bind fun v34 =>
  (fX10_lies M v26 v28 v34).bind fun v36 =>
  fX10_passes_b169 l1f104 K104 M l2 (((6 : Int32) * l1f104) + l2) v36
def fX10_passes_b102 (M : MW) (l1 : Int32) : Option (MW) :=
  lo2 (fX10_passes_l104 l1) FU M (0 : Int32)
def fX10_passes_b95 (l1f2 : Int32) (K2 : MW → Int32 → Option (MW)) (M : MW) (l2 : Int32) (t1 : Int32) (t2 : Int32) : Option (MW) :=
  if inb t1 6 then bd (mA M 99 t1 t2) fun M69 =>
  K2 M69 (l2 + (1 : Int32))
  else none
def fX10_passes_l2 (l1f2 : Int32) (K2 : MW → Int32 → Option (MW)) (M : MW) (l2 : Int32) : Option (MW) :=
  if (M.1 8) ≤ l2 then fX10_passes_b102 M l1f2
  else (rd (M.2 97) 6 l2).bind fun v43 =>
  if v43 = (-1 : Int32) then K2 M (l2 + (1 : Int32))
  else (rd (M.2 97) 6 l2).bind fun v45 =>
  (rd (M.2 78) 6 l2).bind fun v47 =>
  bd2 (fX10_drags M l2 v45 l1f2 v47 (0 : Int32) (0 : Int32)) fun v50 M49 =>
  if v50 = 0 then K2 M49 (l2 + (1 : Int32))
  else (rd (M49.2 97) 6 l2).bind fun v52 =>
  (fX10_further M49 v52 l1f2).bind fun v54 =>
  if inb l2 6 then bd (mA M49 97 l2 v54) fun M57 =>
  (rd (M57.2 98) 6 l2).bind fun v59 =>
  if inb l2 6 then bd (mA M57 98 l2 (v59 + (1 : Int32))) fun M62 =>
  (rd (M62.2 99) 6 l2).bind fun v64 =>
  if v64 = (-1 : Int32) then fX10_passes_b95 l1f2 K2 M62 l2 l2 l1f2
  else (rd (M62.2 99) 6 l2).bind fun v66 =>
  fX10_passes_b95 l1f2 K2 M62 l2 l2 v66
  else none
  else none
def fX10_passes (M : MW) (l1 : Int32) : Option (MW) :=
  lo2 (fX10_passes_l2 l1) FU M (0 : Int32)
set_option maxRecDepth 100000 in
set_option maxHeartbeats 4000000 in
theorem c_X10_passes {l : Launch} {s0 : State} {D : va_G} {ev : Nat → Nat} (G0 : Gl s0 D ev) {X : XW} {M : MW} {nb : Nat} {l1 : Int32} {M' : MW}  (h : fX10_passes M l1 = some (M')) : CT l s0 D ev yX10_passes cX10_passes 4 none 5 0 0 [.ref (ev 0 + 65), .int l1] (cells ev X M (nb + 1)) (QV s0 D ev (cells ev X M' (nb + 1))) := by
  refine ct_of G0 (by decide) (Nat.le_of_ble_eq_true rfl) ?_
  intro p9 e9 s9 m9 args9 below9 meth9 c9 F hr9 hl9 hin9 hargs9 hts9
  have L178 : ∀ (l1f178 : Int32) (N178 : Nat) (M : MW) (l2 : Int32), lo2 (fX10_passes_l178 l1f178) N178 M l2 = some (M') → GJ p9 l e9 (rg 5 0 0) s9 m9 args9 below9 meth9 c9 (MQ below9 (QV s0 D ev (cells ev X M' (nb + 1))) args9 s9 0 0 (frA ev)) s0 D ev 4 0 0 178 [(0, .ref (ev 0 + 65)), (1, .int l1f178), (2, .int l2)] ([]) (cells ev X M (nb + 1)) := by
    intro l1f178 N178
    induction N178 with
    | zero => intro M l2 h; cases h
    | succ N178 ih178 =>
      have L190 : ∀ (l2f190 : Int32) (N190 : Nat) (M : MW) (l3 : Int32), lo2 (fX10_passes_l190 l1f178 l2f190 (lo2 (fX10_passes_l178 l1f178) N178)) N190 M l3 = some (M') → GJ p9 l e9 (rg 5 0 0) s9 m9 args9 below9 meth9 c9 (MQ below9 (QV s0 D ev (cells ev X M' (nb + 1))) args9 s9 0 0 (frA ev)) s0 D ev 4 0 0 190 [(0, .ref (ev 0 + 65)), (1, .int l1f178), (2, .int l2f190), (3, .int l3)] ([]) (cells ev X M (nb + 1)) := by
        intro l2f190 N190
        induction N190 with
        | zero => intro M l3 h; cases h
        | succ N190 ih190 =>
          intro M l3 h
          change fX10_passes_l190 l1f178 l2f190 (lo2 (fX10_passes_l178 l1f178) N178) (lo2 (fX10_passes_l190 l1f178 l2f190 (lo2 (fX10_passes_l178 l1f178) N178)) N190) M l3 = some (M') at h
          rw [fX10_passes_l190] at h
          refine g_iload_n (i := 3) F dX10_passes_190 rfl rfl ?_
          refine g_aload_n (i := 0) F dX10_passes_191 rfl rfl ?_
          refine g_get_10_8 F wd_18_18 dX10_passes_192 ?_
          refine g_icmp_ge (tgt := 284) F dX10_passes_195 (by decide) h (fun a22 h => ?_) (fun a22 h => ?_)
          · refine g_iinc (i := 2) (v := (l2f190 + (1 : Int32))) (lv' := [(2, .int (l2f190 + (1 : Int32))), (0, .ref (ev 0 + 65)), (1, .int l1f178), (3, .int l3)]) F dX10_passes_284 rfl rfl (by decide) rfl ?_
            refine g_goto (tgt := 178) F dX10_passes_287 (by decide) ?_
            refine g_lv (lv' := [(0, .ref (ev 0 + 65)), (1, .int l1f178), (2, .int (l2f190 + (1 : Int32)))]) ⟨rfl, rfl, rfl, trivial⟩ ?_
            exact ih178 _ _ h
          · refine g_aload_n (i := 0) F dX10_passes_198 rfl rfl ?_
            refine g_get_10_51 F wd_13_0 dX10_passes_199 ?_
            refine g_bipush F dX10_passes_202 (v := 6) (by decide) ?_
            refine g_iload_n (i := 1) F dX10_passes_204 rfl rfl ?_
            refine g_imul F dX10_passes_205 ?_
            refine g_iload_n (i := 2) F dX10_passes_206 rfl rfl ?_
            refine g_iadd F dX10_passes_207 ?_
            obtain ⟨v3, e4, h⟩ := bind_at h
            refine g_ildM F rfl rfl e4 dX10_passes_208 ?_
            refine g_iconst F dX10_passes_209 (v := -1) (by decide) ?_
            refine g_icmp_eq (tgt := 278) F dX10_passes_210 (by decide) h (fun a21 h => ?_) (fun a21 h => ?_)
            · refine g_iinc (i := 3) (v := (l3 + (1 : Int32))) (lv' := [(3, .int (l3 + (1 : Int32))), (0, .ref (ev 0 + 65)), (1, .int l1f178), (2, .int l2f190)]) F dX10_passes_278 rfl rfl (by decide) rfl ?_
              refine g_goto (tgt := 190) F dX10_passes_281 (by decide) ?_
              refine g_lv (lv' := [(0, .ref (ev 0 + 65)), (1, .int l1f178), (2, .int l2f190), (3, .int (l3 + (1 : Int32)))]) ⟨rfl, rfl, rfl, rfl, trivial⟩ ?_
              exact ih190 _ _ h
            · refine g_aload_n (i := 0) F dX10_passes_213 rfl rfl ?_
              refine g_get_10_51 F wd_13_0 dX10_passes_214 ?_
              refine g_bipush F dX10_passes_217 (v := 6) (by decide) ?_
              refine g_iload_n (i := 1) F dX10_passes_219 rfl rfl ?_
              refine g_imul F dX10_passes_220 ?_
              refine g_iload_n (i := 2) F dX10_passes_221 rfl rfl ?_
              refine g_iadd F dX10_passes_222 ?_
              obtain ⟨v5, e6, h⟩ := bind_at h
              refine g_ildM F rfl rfl e6 dX10_passes_223 ?_
              refine g_aload_n (i := 0) F dX10_passes_224 rfl rfl ?_
              refine g_get_10_51 F wd_13_0 dX10_passes_225 ?_
              refine g_bipush F dX10_passes_228 (v := 6) (by decide) ?_
              refine g_iload_n (i := 1) F dX10_passes_230 rfl rfl ?_
              refine g_imul F dX10_passes_231 ?_
              refine g_iload_n (i := 3) F dX10_passes_232 rfl rfl ?_
              refine g_iadd F dX10_passes_233 ?_
              obtain ⟨v7, e8, h⟩ := bind_at h
              refine g_ildM F rfl rfl e8 dX10_passes_234 ?_
              refine g_icmp_ne (tgt := 278) F dX10_passes_235 (by decide) h (fun a20 h => ?_) (fun a20 h => ?_)
              · refine g_iinc (i := 3) (v := (l3 + (1 : Int32))) (lv' := [(3, .int (l3 + (1 : Int32))), (0, .ref (ev 0 + 65)), (1, .int l1f178), (2, .int l2f190)]) F dX10_passes_278 rfl rfl (by decide) rfl ?_
                refine g_goto (tgt := 190) F dX10_passes_281 (by decide) ?_
                refine g_lv (lv' := [(0, .ref (ev 0 + 65)), (1, .int l1f178), (2, .int l2f190), (3, .int (l3 + (1 : Int32)))]) ⟨rfl, rfl, rfl, rfl, trivial⟩ ?_
                exact ih190 _ _ h
              · refine g_aload_n (i := 0) F dX10_passes_238 rfl rfl ?_
                refine g_get_10_52 F wd_13_1 dX10_passes_239 ?_
                refine g_aload_n (i := 0) F dX10_passes_242 rfl rfl ?_
                refine g_get_10_55 F wd_30_2 dX10_passes_243 ?_
                refine g_iload_n (i := 1) F dX10_passes_246 rfl rfl ?_
                obtain ⟨h9, h⟩ := if_at h
                obtain ⟨M10, e11, h⟩ := bd_at h
                refine g_istM F rfl rfl h9 dX10_passes_247 ?_
                rw [← e11]
                refine g_aload_n (i := 0) F dX10_passes_248 rfl rfl ?_
                refine g_get_10_53 F wd_13_2 dX10_passes_249 ?_
                refine g_aload_n (i := 0) F dX10_passes_252 rfl rfl ?_
                refine g_get_10_55 F wd_30_2 dX10_passes_253 ?_
                refine g_iload_n (i := 2) F dX10_passes_256 rfl rfl ?_
                obtain ⟨h12, h⟩ := if_at h
                obtain ⟨M13, e14, h⟩ := bd_at h
                refine g_istM F rfl rfl h12 dX10_passes_257 ?_
                rw [← e14]
                refine g_aload_n (i := 0) F dX10_passes_258 rfl rfl ?_
                refine g_get_10_54 F wd_13_3 dX10_passes_259 ?_
                refine g_aload_n (i := 0) F dX10_passes_262 rfl rfl ?_
                refine g_get_10_55 F wd_30_2 dX10_passes_263 ?_
                refine g_iload_n (i := 3) F dX10_passes_266 rfl rfl ?_
                obtain ⟨h15, h⟩ := if_at h
                obtain ⟨M16, e17, h⟩ := bd_at h
                refine g_istM F rfl rfl h15 dX10_passes_267 ?_
                rw [← e17]
                refine g_aload_n (i := 0) F dX10_passes_268 rfl rfl ?_
                refine g_dup F dX10_passes_269 rfl ?_
                refine g_get_10_55 F wd_30_2 dX10_passes_270 ?_
                refine g_iconst F dX10_passes_273 (v := 1) (by decide) ?_
                refine g_iadd F dX10_passes_274 ?_
                obtain ⟨M18, e19, h⟩ := bd_at h
                refine g_put_10_55 F wd_30_2 dX10_passes_275 ?_
                rw [← e19]
                refine g_iinc (i := 3) (v := (l3 + (1 : Int32))) (lv' := [(3, .int (l3 + (1 : Int32))), (0, .ref (ev 0 + 65)), (1, .int l1f178), (2, .int l2f190)]) F dX10_passes_278 rfl rfl (by decide) rfl ?_
                refine g_goto (tgt := 190) F dX10_passes_281 (by decide) ?_
                refine g_lv (lv' := [(0, .ref (ev 0 + 65)), (1, .int l1f178), (2, .int l2f190), (3, .int (l3 + (1 : Int32)))]) ⟨rfl, rfl, rfl, rfl, trivial⟩ ?_
                exact ih190 _ _ h
      intro M l2 h
      change fX10_passes_l178 l1f178 (lo2 (fX10_passes_l178 l1f178) N178) M l2 = some (M') at h
      rw [fX10_passes_l178] at h
      refine g_iload_n (i := 2) F dX10_passes_178 rfl rfl ?_
      refine g_aload_n (i := 0) F dX10_passes_179 rfl rfl ?_
      refine g_get_10_8 F wd_18_18 dX10_passes_180 ?_
      refine g_icmp_ge (tgt := 290) F dX10_passes_183 (by decide) h (fun a23 h => ?_) (fun a23 h => ?_)
      · exact g_vret F hr9 hl9 (by rw [Option.some.inj h]) (by decide) (by decide) dX10_passes_290
      · refine g_iload_n (i := 2) F dX10_passes_186 rfl rfl ?_
        refine g_iconst F dX10_passes_187 (v := 1) (by decide) ?_
        refine g_iadd F dX10_passes_188 ?_
        refine g_topi F h (fun v1 e2 h => ?_)
        refine g_istore_n (i := 3) (lv' := [(3, .int v1), (0, .ref (ev 0 + 65)), (1, .int l1f178), (2, .int l2)]) F dX10_passes_189 rfl (by decide) rfl ?_
        refine g_lv (lv' := [(0, .ref (ev 0 + 65)), (1, .int l1f178), (2, .int l2), (3, .int v1)]) ⟨rfl, rfl, rfl, rfl, trivial⟩ ?_
        exact L190 _ FU _ _ h
  have U176 : ∀ (M : MW) (l1 : Int32), fX10_passes_b176 M l1 = some (M') → GJ p9 l e9 (rg 5 0 0) s9 m9 args9 below9 meth9 c9 (MQ below9 (QV s0 D ev (cells ev X M' (nb + 1))) args9 s9 0 0 (frA ev)) s0 D ev 4 0 0 176 [(0, .ref (ev 0 + 65)), (1, .int l1)] ([]) (cells ev X M (nb + 1)) := by
    intro M l1 h
    rw [fX10_passes_b176] at h
    refine g_iconst F dX10_passes_176 (v := 0) (by decide) ?_
    refine g_istore_n (i := 2) (lv' := [(2, .int (0 : Int32)), (0, .ref (ev 0 + 65)), (1, .int l1)]) F dX10_passes_177 rfl (by decide) rfl ?_
    refine g_lv (lv' := [(0, .ref (ev 0 + 65)), (1, .int l1), (2, .int (0 : Int32))]) ⟨rfl, rfl, rfl, trivial⟩ ?_
    exact L178 _ FU _ _ h
  have L104 : ∀ (l1f104 : Int32) (N104 : Nat) (M : MW) (l2 : Int32), lo2 (fX10_passes_l104 l1f104) N104 M l2 = some (M') → GJ p9 l e9 (rg 5 0 0) s9 m9 args9 below9 meth9 c9 (MQ below9 (QV s0 D ev (cells ev X M' (nb + 1))) args9 s9 0 0 (frA ev)) s0 D ev 4 0 0 104 [(0, .ref (ev 0 + 65)), (1, .int l1f104), (2, .int l2)] ([]) (cells ev X M (nb + 1)) := by
    intro l1f104 N104
    induction N104 with
    | zero => intro M l2 h; cases h
    | succ N104 ih104 =>
      have U169 : ∀ (M : MW) (l2 : Int32) (t1 : Int32) (t2 : Int32), fX10_passes_b169 l1f104 (lo2 (fX10_passes_l104 l1f104) N104) M l2 t1 t2 = some (M') → GJ p9 l e9 (rg 5 0 0) s9 m9 args9 below9 meth9 c9 (MQ below9 (QV s0 D ev (cells ev X M' (nb + 1))) args9 s9 0 0 (frA ev)) s0 D ev 4 0 0 169 [(0, .ref (ev 0 + 65)), (1, .int l1f104), (2, .int l2)] (.int t2 :: .int t1 :: .ref (ev 0 + 100) :: []) (cells ev X M (nb + 1)) := by
        intro M l2 t1 t2 h
        rw [fX10_passes_b169] at h
        obtain ⟨h38, h⟩ := if_at h
        obtain ⟨M39, e40, h⟩ := bd_at h
        refine g_istM F rfl rfl h38 dX10_passes_169 ?_
        rw [← e40]
        refine g_iinc (i := 2) (v := (l2 + (1 : Int32))) (lv' := [(2, .int (l2 + (1 : Int32))), (0, .ref (ev 0 + 65)), (1, .int l1f104)]) F dX10_passes_170 rfl rfl (by decide) rfl ?_
        refine g_goto (tgt := 104) F dX10_passes_173 (by decide) ?_
        refine g_lv (lv' := [(0, .ref (ev 0 + 65)), (1, .int l1f104), (2, .int (l2 + (1 : Int32)))]) ⟨rfl, rfl, rfl, trivial⟩ ?_
        exact ih104 _ _ h
      intro M l2 h
      change fX10_passes_l104 l1f104 (lo2 (fX10_passes_l104 l1f104) N104) M l2 = some (M') at h
      rw [fX10_passes_l104] at h
      refine g_iload_n (i := 2) F dX10_passes_104 rfl rfl ?_
      refine g_aload_n (i := 0) F dX10_passes_105 rfl rfl ?_
      refine g_get_10_8 F wd_18_18 dX10_passes_106 ?_
      refine g_icmp_ge (tgt := 176) F dX10_passes_109 (by decide) h (fun a42 h => ?_) (fun a42 h => ?_)
      · refine g_lv (lv' := [(0, .ref (ev 0 + 65)), (1, .int l1f104)]) ⟨rfl, rfl, trivial⟩ ?_
        exact U176 _ _ h
      · refine g_aload_n (i := 0) F dX10_passes_112 rfl rfl ?_
        refine g_get_10_51 F wd_13_0 dX10_passes_113 ?_
        refine g_bipush F dX10_passes_116 (v := 6) (by decide) ?_
        refine g_iload_n (i := 1) F dX10_passes_118 rfl rfl ?_
        refine g_imul F dX10_passes_119 ?_
        refine g_iload_n (i := 2) F dX10_passes_120 rfl rfl ?_
        refine g_iadd F dX10_passes_121 ?_
        refine g_aload_n (i := 0) F dX10_passes_122 rfl rfl ?_
        refine g_get_10_48 F wd_12_21 dX10_passes_123 ?_
        refine g_iload_n (i := 2) F dX10_passes_126 rfl rfl ?_
        obtain ⟨v24, e25, h⟩ := bind_at h
        refine g_ildM F rfl rfl e25 dX10_passes_127 ?_
        refine g_iconst F dX10_passes_128 (v := -1) (by decide) ?_
        refine g_icmp_ne (tgt := 136) F dX10_passes_129 (by decide) h (fun a41 h => ?_) (fun a41 h => ?_)
        · refine g_aload_n (i := 0) F dX10_passes_136 rfl rfl ?_
          refine g_aload_n (i := 0) F dX10_passes_137 rfl rfl ?_
          refine g_get_10_48 F wd_12_21 dX10_passes_138 ?_
          refine g_iload_n (i := 2) F dX10_passes_141 rfl rfl ?_
          obtain ⟨v26, e27, h⟩ := bind_at h
          refine g_ildM F rfl rfl e27 dX10_passes_142 ?_
          refine g_aload_n (i := 0) F dX10_passes_143 rfl rfl ?_
          refine g_get_10_2 F wd_11_16 dX10_passes_144 ?_
          refine g_iload_n (i := 1) F dX10_passes_147 rfl rfl ?_
          obtain ⟨v28, e29, h⟩ := bind_at h
          refine g_ildM F rfl rfl e29 dX10_passes_148 ?_
          refine g_aload_n (i := 0) F dX10_passes_149 rfl rfl ?_
          refine g_aload_n (i := 0) F dX10_passes_150 rfl rfl ?_
          refine g_get_10_48 F wd_12_21 dX10_passes_151 ?_
          refine g_iload_n (i := 2) F dX10_passes_154 rfl rfl ?_
          obtain ⟨v30, e31, h⟩ := bind_at h
          refine g_ildM F rfl rfl e31 dX10_passes_155 ?_
          refine g_iload_n (i := 1) F dX10_passes_156 rfl rfl ?_
          refine g_aload_n (i := 0) F dX10_passes_157 rfl rfl ?_
          refine g_get_10_14 F wd_12_2 dX10_passes_158 ?_
          refine g_iload_n (i := 2) F dX10_passes_161 rfl rfl ?_
          obtain ⟨v32, e33, h⟩ := bind_at h
          refine g_ildM F rfl rfl e33 dX10_passes_162 ?_
          obtain ⟨v34, e35, h⟩ := bind_at h
          refine g_callVI F (mcR := 0) (msR := 0) (id := 65) (cells_at (kd_hidM (show kd 65 = 10 from rfl) (by decide)) (xc_10 rfl)) (ci := 10) rfl rfl rfl (c_X10_farOff G0 e35) wd_26_20 wd_26_17 wd_26_18 wd_26_19 wd_1_5 ⟨by decide, by decide⟩ (nn := 3) (by decide) (As := [.int v30, .int l1f104, .int v32]) rfl rfl (Nat.le_of_ble_eq_true rfl) (by decide) (by decide) ⟨by decide, by decide⟩ dX10_passes_163 ?_
          obtain ⟨v36, e37, h⟩ := bind_at h
          refine g_callVI F (mcR := 0) (msR := 0) (id := 65) (cells_at (kd_hidM (show kd 65 = 10 from rfl) (by decide)) (xc_10 rfl)) (ci := 10) rfl rfl rfl (c_X10_lies G0 e37) wd_31_4 wd_31_1 wd_31_2 wd_31_3 wd_1_5 ⟨by decide, by decide⟩ (nn := 3) (by decide) (As := [.int v26, .int v28, .int v34]) rfl rfl (Nat.le_of_ble_eq_true rfl) (by decide) (by decide) ⟨by decide, by decide⟩ dX10_passes_166 ?_
          refine g_lv (lv' := [(0, .ref (ev 0 + 65)), (1, .int l1f104), (2, .int l2)]) ⟨rfl, rfl, rfl, trivial⟩ ?_
          exact U169 _ _ _ _ h
        · refine g_iconst F dX10_passes_132 (v := -1) (by decide) ?_
          refine g_goto (tgt := 169) F dX10_passes_133 (by decide) ?_
          refine g_lv (lv' := [(0, .ref (ev 0 + 65)), (1, .int l1f104), (2, .int l2)]) ⟨rfl, rfl, rfl, trivial⟩ ?_
          exact U169 _ _ _ _ h
  have U102 : ∀ (M : MW) (l1 : Int32), fX10_passes_b102 M l1 = some (M') → GJ p9 l e9 (rg 5 0 0) s9 m9 args9 below9 meth9 c9 (MQ below9 (QV s0 D ev (cells ev X M' (nb + 1))) args9 s9 0 0 (frA ev)) s0 D ev 4 0 0 102 [(0, .ref (ev 0 + 65)), (1, .int l1)] ([]) (cells ev X M (nb + 1)) := by
    intro M l1 h
    rw [fX10_passes_b102] at h
    refine g_iconst F dX10_passes_102 (v := 0) (by decide) ?_
    refine g_istore_n (i := 2) (lv' := [(2, .int (0 : Int32)), (0, .ref (ev 0 + 65)), (1, .int l1)]) F dX10_passes_103 rfl (by decide) rfl ?_
    refine g_lv (lv' := [(0, .ref (ev 0 + 65)), (1, .int l1), (2, .int (0 : Int32))]) ⟨rfl, rfl, rfl, trivial⟩ ?_
    exact L104 _ FU _ _ h
  have L2 : ∀ (l1f2 : Int32) (N2 : Nat) (M : MW) (l2 : Int32), lo2 (fX10_passes_l2 l1f2) N2 M l2 = some (M') → GJ p9 l e9 (rg 5 0 0) s9 m9 args9 below9 meth9 c9 (MQ below9 (QV s0 D ev (cells ev X M' (nb + 1))) args9 s9 0 0 (frA ev)) s0 D ev 4 0 0 2 [(0, .ref (ev 0 + 65)), (1, .int l1f2), (2, .int l2)] ([]) (cells ev X M (nb + 1)) := by
    intro l1f2 N2
    induction N2 with
    | zero => intro M l2 h; cases h
    | succ N2 ih2 =>
      have U95 : ∀ (M : MW) (l2 : Int32) (t1 : Int32) (t2 : Int32), fX10_passes_b95 l1f2 (lo2 (fX10_passes_l2 l1f2) N2) M l2 t1 t2 = some (M') → GJ p9 l e9 (rg 5 0 0) s9 m9 args9 below9 meth9 c9 (MQ below9 (QV s0 D ev (cells ev X M' (nb + 1))) args9 s9 0 0 (frA ev)) s0 D ev 4 0 0 95 [(0, .ref (ev 0 + 65)), (1, .int l1f2), (2, .int l2)] (.int t2 :: .int t1 :: .ref (ev 0 + 99) :: []) (cells ev X M (nb + 1)) := by
        intro M l2 t1 t2 h
        rw [fX10_passes_b95] at h
        obtain ⟨h68, h⟩ := if_at h
        obtain ⟨M69, e70, h⟩ := bd_at h
        refine g_istM F rfl rfl h68 dX10_passes_95 ?_
        rw [← e70]
        refine g_iinc (i := 2) (v := (l2 + (1 : Int32))) (lv' := [(2, .int (l2 + (1 : Int32))), (0, .ref (ev 0 + 65)), (1, .int l1f2)]) F dX10_passes_96 rfl rfl (by decide) rfl ?_
        refine g_goto (tgt := 2) F dX10_passes_99 (by decide) ?_
        refine g_lv (lv' := [(0, .ref (ev 0 + 65)), (1, .int l1f2), (2, .int (l2 + (1 : Int32)))]) ⟨rfl, rfl, rfl, trivial⟩ ?_
        exact ih2 _ _ h
      intro M l2 h
      change fX10_passes_l2 l1f2 (lo2 (fX10_passes_l2 l1f2) N2) M l2 = some (M') at h
      rw [fX10_passes_l2] at h
      refine g_iload_n (i := 2) F dX10_passes_2 rfl rfl ?_
      refine g_aload_n (i := 0) F dX10_passes_3 rfl rfl ?_
      refine g_get_10_8 F wd_18_18 dX10_passes_4 ?_
      refine g_icmp_ge (tgt := 102) F dX10_passes_7 (by decide) h (fun a74 h => ?_) (fun a74 h => ?_)
      · refine g_lv (lv' := [(0, .ref (ev 0 + 65)), (1, .int l1f2)]) ⟨rfl, rfl, trivial⟩ ?_
        exact U102 _ _ h
      · refine g_aload_n (i := 0) F dX10_passes_10 rfl rfl ?_
        refine g_get_10_48 F wd_12_21 dX10_passes_11 ?_
        refine g_iload_n (i := 2) F dX10_passes_14 rfl rfl ?_
        obtain ⟨v43, e44, h⟩ := bind_at h
        refine g_ildM F rfl rfl e44 dX10_passes_15 ?_
        refine g_iconst F dX10_passes_16 (v := -1) (by decide) ?_
        refine g_icmp_eq (tgt := 96) F dX10_passes_17 (by decide) h (fun a73 h => ?_) (fun a73 h => ?_)
        · refine g_iinc (i := 2) (v := (l2 + (1 : Int32))) (lv' := [(2, .int (l2 + (1 : Int32))), (0, .ref (ev 0 + 65)), (1, .int l1f2)]) F dX10_passes_96 rfl rfl (by decide) rfl ?_
          refine g_goto (tgt := 2) F dX10_passes_99 (by decide) ?_
          refine g_lv (lv' := [(0, .ref (ev 0 + 65)), (1, .int l1f2), (2, .int (l2 + (1 : Int32)))]) ⟨rfl, rfl, rfl, trivial⟩ ?_
          exact ih2 _ _ h
        · refine g_aload_n (i := 0) F dX10_passes_20 rfl rfl ?_
          refine g_iload_n (i := 2) F dX10_passes_21 rfl rfl ?_
          refine g_aload_n (i := 0) F dX10_passes_22 rfl rfl ?_
          refine g_get_10_48 F wd_12_21 dX10_passes_23 ?_
          refine g_iload_n (i := 2) F dX10_passes_26 rfl rfl ?_
          obtain ⟨v45, e46, h⟩ := bind_at h
          refine g_ildM F rfl rfl e46 dX10_passes_27 ?_
          refine g_iload_n (i := 1) F dX10_passes_28 rfl rfl ?_
          refine g_aload_n (i := 0) F dX10_passes_29 rfl rfl ?_
          refine g_get_10_14 F wd_12_2 dX10_passes_30 ?_
          refine g_iload_n (i := 2) F dX10_passes_33 rfl rfl ?_
          obtain ⟨v47, e48, h⟩ := bind_at h
          refine g_ildM F rfl rfl e48 dX10_passes_34 ?_
          refine g_iconst F dX10_passes_35 (v := 0) (by decide) ?_
          refine g_iconst F dX10_passes_36 (v := 0) (by decide) ?_
          obtain ⟨v50, M49, e51, h⟩ := bd2_at h
          refine g_callVI F (mcR := 0) (msR := 0) (id := 65) (cells_at (kd_hidM (show kd 65 = 10 from rfl) (by decide)) (xc_10 rfl)) (ci := 10) rfl rfl rfl (c_X10_drags G0 e51) wd_30_10 wd_30_7 wd_30_8 wd_30_9 wd_1_5 ⟨by decide, by decide⟩ (nn := 6) (by decide) (As := [.int l2, .int v45, .int l1f2, .int v47, .int (0 : Int32), .int (0 : Int32)]) rfl rfl (Nat.le_of_ble_eq_true rfl) (by decide) (by decide) ⟨by decide, by decide⟩ dX10_passes_37 ?_
          refine g_if_eq (tgt := 96) F dX10_passes_40 (by decide) h (fun a72 h => ?_) (fun a72 h => ?_)
          · refine g_iinc (i := 2) (v := (l2 + (1 : Int32))) (lv' := [(2, .int (l2 + (1 : Int32))), (0, .ref (ev 0 + 65)), (1, .int l1f2)]) F dX10_passes_96 rfl rfl (by decide) rfl ?_
            refine g_goto (tgt := 2) F dX10_passes_99 (by decide) ?_
            refine g_lv (lv' := [(0, .ref (ev 0 + 65)), (1, .int l1f2), (2, .int (l2 + (1 : Int32)))]) ⟨rfl, rfl, rfl, trivial⟩ ?_
            exact ih2 _ _ h
          · refine g_aload_n (i := 0) F dX10_passes_43 rfl rfl ?_
            refine g_get_10_48 F wd_12_21 dX10_passes_44 ?_
            refine g_iload_n (i := 2) F dX10_passes_47 rfl rfl ?_
            refine g_aload_n (i := 0) F dX10_passes_48 rfl rfl ?_
            refine g_aload_n (i := 0) F dX10_passes_49 rfl rfl ?_
            refine g_get_10_48 F wd_12_21 dX10_passes_50 ?_
            refine g_iload_n (i := 2) F dX10_passes_53 rfl rfl ?_
            obtain ⟨v52, e53, h⟩ := bind_at h
            refine g_ildM F rfl rfl e53 dX10_passes_54 ?_
            refine g_iload_n (i := 1) F dX10_passes_55 rfl rfl ?_
            obtain ⟨v54, e55, h⟩ := bind_at h
            refine g_callVI F (mcR := 0) (msR := 0) (id := 65) (cells_at (kd_hidM (show kd 65 = 10 from rfl) (by decide)) (xc_10 rfl)) (ci := 10) rfl rfl rfl (c_X10_further G0 e55) wd_30_21 wd_30_18 wd_30_19 wd_30_20 wd_1_5 ⟨by decide, by decide⟩ (nn := 2) (by decide) (As := [.int v52, .int l1f2]) rfl rfl (Nat.le_of_ble_eq_true rfl) (by decide) (by decide) ⟨by decide, by decide⟩ dX10_passes_56 ?_
            obtain ⟨h56, h⟩ := if_at h
            obtain ⟨M57, e58, h⟩ := bd_at h
            refine g_istM F rfl rfl h56 dX10_passes_59 ?_
            rw [← e58]
            refine g_aload_n (i := 0) F dX10_passes_60 rfl rfl ?_
            refine g_get_10_49 F wd_12_22 dX10_passes_61 ?_
            refine g_iload_n (i := 2) F dX10_passes_64 rfl rfl ?_
            refine g_dup2 F dX10_passes_65 rfl rfl ?_
            obtain ⟨v59, e60, h⟩ := bind_at h
            refine g_ildM F rfl rfl e60 dX10_passes_66 ?_
            refine g_iconst F dX10_passes_67 (v := 1) (by decide) ?_
            refine g_iadd F dX10_passes_68 ?_
            obtain ⟨h61, h⟩ := if_at h
            obtain ⟨M62, e63, h⟩ := bd_at h
            refine g_istM F rfl rfl h61 dX10_passes_69 ?_
            rw [← e63]
            refine g_aload_n (i := 0) F dX10_passes_70 rfl rfl ?_
            refine g_get_10_50 F wd_12_23 dX10_passes_71 ?_
            refine g_iload_n (i := 2) F dX10_passes_74 rfl rfl ?_
            refine g_aload_n (i := 0) F dX10_passes_75 rfl rfl ?_
            refine g_get_10_50 F wd_12_23 dX10_passes_76 ?_
            refine g_iload_n (i := 2) F dX10_passes_79 rfl rfl ?_
            obtain ⟨v64, e65, h⟩ := bind_at h
            refine g_ildM F rfl rfl e65 dX10_passes_80 ?_
            refine g_iconst F dX10_passes_81 (v := -1) (by decide) ?_
            refine g_icmp_ne (tgt := 89) F dX10_passes_82 (by decide) h (fun a71 h => ?_) (fun a71 h => ?_)
            · refine g_aload_n (i := 0) F dX10_passes_89 rfl rfl ?_
              refine g_get_10_50 F wd_12_23 dX10_passes_90 ?_
              refine g_iload_n (i := 2) F dX10_passes_93 rfl rfl ?_
              obtain ⟨v66, e67, h⟩ := bind_at h
              refine g_ildM F rfl rfl e67 dX10_passes_94 ?_
              refine g_lv (lv' := [(0, .ref (ev 0 + 65)), (1, .int l1f2), (2, .int l2)]) ⟨rfl, rfl, rfl, trivial⟩ ?_
              exact U95 _ _ _ _ h
            · refine g_iload_n (i := 1) F dX10_passes_85 rfl rfl ?_
              refine g_goto (tgt := 95) F dX10_passes_86 (by decide) ?_
              refine g_lv (lv' := [(0, .ref (ev 0 + 65)), (1, .int l1f2), (2, .int l2)]) ⟨rfl, rfl, rfl, trivial⟩ ?_
              exact U95 _ _ _ _ h
  rw [fX10_passes] at h
  refine g_lv (lv' := [(0, .ref (ev 0 + 65)), (1, .int l1)]) ⟨rfl, rfl, trivial⟩ ?_
  refine g_iconst F dX10_passes_0 (v := 0) (by decide) ?_
  refine g_istore_n (i := 2) (lv' := [(2, .int (0 : Int32)), (0, .ref (ev 0 + 65)), (1, .int l1)]) F dX10_passes_1 rfl (by decide) rfl ?_
  refine g_lv (lv' := [(0, .ref (ev 0 + 65)), (1, .int l1), (2, .int (0 : Int32))]) ⟨rfl, rfl, rfl, trivial⟩ ?_
  exact L2 _ FU _ _ h
def fX10_goes_l9 (l1f9 : Int32) (K9 : MW → Int32 → Option (MW)) (M : MW) (l2 : Int32) : Option (MW) :=
  if ((M.1 7) + l1f9) ≤ l2 then some M
  else (fX10_passes M l2).bind fun M5 =>
  K9 M5 (l2 + (1 : Int32))
def fX10_goes (M : MW) (l1 : Int32) : Option (MW) :=
  (fX10_begins M).bind fun M1 =>
  bd (M1.1 7) fun v3 =>
  lo2 (fX10_goes_l9 l1) FU M1 v3
set_option maxRecDepth 100000 in
set_option maxHeartbeats 4000000 in
theorem c_X10_goes {l : Launch} {s0 : State} {D : va_G} {ev : Nat → Nat} (G0 : Gl s0 D ev) {X : XW} {M : MW} {nb : Nat} {l1 : Int32} {M' : MW}  (h : fX10_goes M l1 = some (M')) : CT l s0 D ev yX10_goes cX10_goes 3 none 6 0 0 [.ref (ev 0 + 65), .int l1] (cells ev X M (nb + 1)) (QV s0 D ev (cells ev X M' (nb + 1))) := by
  refine ct_of G0 (by decide) (Nat.le_of_ble_eq_true rfl) ?_
  intro p9 e9 s9 m9 args9 below9 meth9 c9 F hr9 hl9 hin9 hargs9 hts9
  have L9 : ∀ (l1f9 : Int32) (N9 : Nat) (M : MW) (l2 : Int32), lo2 (fX10_goes_l9 l1f9) N9 M l2 = some (M') → GJ p9 l e9 (rg 6 0 0) s9 m9 args9 below9 meth9 c9 (MQ below9 (QV s0 D ev (cells ev X M' (nb + 1))) args9 s9 0 0 (frA ev)) s0 D ev 3 0 0 9 [(0, .ref (ev 0 + 65)), (1, .int l1f9), (2, .int l2)] ([]) (cells ev X M (nb + 1)) := by
    intro l1f9 N9
    induction N9 with
    | zero => intro M l2 h; cases h
    | succ N9 ih9 =>
      intro M l2 h
      change fX10_goes_l9 l1f9 (lo2 (fX10_goes_l9 l1f9) N9) M l2 = some (M') at h
      rw [fX10_goes_l9] at h
      refine g_iload_n (i := 2) F dX10_goes_9 rfl rfl ?_
      refine g_aload_n (i := 0) F dX10_goes_10 rfl rfl ?_
      refine g_get_10_7 F wd_18_17 dX10_goes_11 ?_
      refine g_iload_n (i := 1) F dX10_goes_14 rfl rfl ?_
      refine g_iadd F dX10_goes_15 ?_
      refine g_icmp_ge (tgt := 30) F dX10_goes_16 (by decide) h (fun a7 h => ?_) (fun a7 h => ?_)
      · exact g_vret F hr9 hl9 (by rw [Option.some.inj h]) (by decide) (by decide) dX10_goes_30
      · refine g_aload_n (i := 0) F dX10_goes_19 rfl rfl ?_
        refine g_iload_n (i := 2) F dX10_goes_20 rfl rfl ?_
        obtain ⟨M5, e6, h⟩ := bind_at h
        refine g_callVV F (mcR := 0) (msR := 0) (id := 65) (cells_at (kd_hidM (show kd 65 = 10 from rfl) (by decide)) (xc_10 rfl)) (ci := 10) rfl rfl rfl (c_X10_passes G0 e6) wd_30_6 wd_30_3 wd_30_4 wd_30_5 wd_1_5 ⟨by decide, by decide⟩ (nn := 1) (by decide) (As := [.int l2]) rfl rfl (Nat.le_of_ble_eq_true rfl) (by decide) (by decide) ⟨by decide, by decide⟩ dX10_goes_21 ?_
        refine g_iinc (i := 2) (v := (l2 + (1 : Int32))) (lv' := [(2, .int (l2 + (1 : Int32))), (0, .ref (ev 0 + 65)), (1, .int l1f9)]) F dX10_goes_24 rfl rfl (by decide) rfl ?_
        refine g_goto (tgt := 9) F dX10_goes_27 (by decide) ?_
        refine g_lv (lv' := [(0, .ref (ev 0 + 65)), (1, .int l1f9), (2, .int (l2 + (1 : Int32)))]) ⟨rfl, rfl, rfl, trivial⟩ ?_
        exact ih9 _ _ h
  rw [fX10_goes] at h
  refine g_lv (lv' := [(0, .ref (ev 0 + 65)), (1, .int l1)]) ⟨rfl, rfl, trivial⟩ ?_
  refine g_aload_n (i := 0) F dX10_goes_0 rfl rfl ?_
  obtain ⟨M1, e2, h⟩ := bind_at h
  refine g_callVV F (mcR := 0) (msR := 0) (id := 65) (cells_at (kd_hidM (show kd 65 = 10 from rfl) (by decide)) (xc_10 rfl)) (ci := 10) rfl rfl rfl (c_X10_begins G0 e2) wd_30_1 wd_29_22 wd_29_23 wd_30_0 wd_1_5 ⟨by decide, by decide⟩ (nn := 0) (by decide) (As := []) rfl rfl (Nat.le_of_ble_eq_true rfl) (by decide) (by decide) ⟨by decide, by decide⟩ dX10_goes_1 ?_
  refine g_aload_n (i := 0) F dX10_goes_4 rfl rfl ?_
  refine g_get_10_7 F wd_18_17 dX10_goes_5 ?_
  refine g_topi F h (fun v3 e4 h => ?_)
  refine g_istore_n (i := 2) (lv' := [(2, .int v3), (0, .ref (ev 0 + 65)), (1, .int l1)]) F dX10_goes_8 rfl (by decide) rfl ?_
  refine g_lv (lv' := [(0, .ref (ev 0 + 65)), (1, .int l1), (2, .int v3)]) ⟨rfl, rfl, rfl, trivial⟩ ?_
  exact L9 _ FU _ _ h
def fX10_night (M : MW) (l1 : Int32) (l2 : Int32) (l3 : Int32) : Option (Int32 × MW) :=
  if (fX10_isBoat M l2) = 0 then some ((-5 : Int32), M)
  else if (fX10_isNight M l1) = 0 then some ((-7 : Int32), M)
  else if (fX10_in l3 (0 : Int32) (3 : Int32)) = 0 then some ((-7 : Int32), M)
  else (fX10_goes M l1).bind fun M7 =>
  if l3 = 0 then (rd (M7.2 97) 6 l2).bind fun v18 =>
  some (v18, M7)
  else if l3 = (1 : Int32) then (rd (M7.2 98) 6 l2).bind fun v15 =>
  some (v15, M7)
  else if l3 = (2 : Int32) then (rd (M7.2 99) 6 l2).bind fun v12 =>
  some (v12, M7)
  else if l1 = 0 then some ((-1 : Int32), M7)
  else (rd (M7.2 100) 72 (((6 : Int32) * (((M7.1 7) + l1) - (1 : Int32))) + l2)).bind fun v9 =>
  some (v9, M7)
set_option maxRecDepth 100000 in
set_option maxHeartbeats 4000000 in
theorem c_X10_night {l : Launch} {s0 : State} {D : va_G} {ev : Nat → Nat} (G0 : Gl s0 D ev) {X : XW} {M : MW} {nb : Nat} {l1 : Int32} {l2 : Int32} {l3 : Int32} {r' : Int32} {M' : MW}  (h : fX10_night M l1 l2 l3 = some (r', M')) : CT l s0 D ev yX10_night cX10_night 4 (some .int) 7 0 0 [.ref (ev 0 + 65), .int l1, .int l2, .int l3] (cells ev X M (nb + 1)) (QI s0 D ev r' (cells ev X M' (nb + 1))) := by
  refine ct_of G0 (by decide) (Nat.le_of_ble_eq_true rfl) ?_
  intro p9 e9 s9 m9 args9 below9 meth9 c9 F hr9 hl9 hin9 hargs9 hts9
  rw [fX10_night] at h
  refine g_lv (lv' := [(0, .ref (ev 0 + 65)), (1, .int l1), (2, .int l2), (3, .int l3)]) ⟨rfl, rfl, rfl, rfl, trivial⟩ ?_
  refine g_aload_n (i := 0) F dX10_night_0 rfl rfl ?_
  refine g_iload_n (i := 2) F dX10_night_1 rfl rfl ?_
  refine g_callVI F (mcR := 0) (msR := 0) (id := 65) (cells_at (kd_hidM (show kd 65 = 10 from rfl) (by decide)) (xc_10 rfl)) (ci := 10) rfl rfl rfl (c_X10_isBoat G0 (X := X) (M := M) (nb := nb) rfl) wd_23_7 wd_23_4 wd_23_5 wd_23_6 wd_1_5 ⟨by decide, by decide⟩ (nn := 1) (by decide) (As := [.int l2]) rfl rfl (Nat.le_of_ble_eq_true rfl) (by decide) (by decide) ⟨by decide, by decide⟩ dX10_night_2 ?_
  refine g_if_ne (tgt := 11) F dX10_night_5 (by decide) h (fun a23 h => ?_) (fun a23 h => ?_)
  · refine g_aload_n (i := 0) F dX10_night_11 rfl rfl ?_
    refine g_iload_n (i := 1) F dX10_night_12 rfl rfl ?_
    refine g_callVI F (mcR := 0) (msR := 0) (id := 65) (cells_at (kd_hidM (show kd 65 = 10 from rfl) (by decide)) (xc_10 rfl)) (ci := 10) rfl rfl rfl (c_X10_isNight G0 (X := X) (M := M) (nb := nb) rfl) wd_29_17 wd_29_14 wd_29_15 wd_29_16 wd_1_5 ⟨by decide, by decide⟩ (nn := 1) (by decide) (As := [.int l1]) rfl rfl (Nat.le_of_ble_eq_true rfl) (by decide) (by decide) ⟨by decide, by decide⟩ dX10_night_13 ?_
    refine g_if_eq (tgt := 28) F dX10_night_16 (by decide) h (fun a22 h => ?_) (fun a22 h => ?_)
    · refine g_bipush F dX10_night_28 (v := -7) (by decide) ?_
      have hp := Prod.mk.inj (Option.some.inj h)
      exact g_iret F hr9 rfl hl9 hp.1 (by rw [hp.2]) (by decide) (by decide) dX10_night_30
    · refine g_iload_n (i := 3) F dX10_night_19 rfl rfl ?_
      refine g_iconst F dX10_night_20 (v := 0) (by decide) ?_
      refine g_iconst F dX10_night_21 (v := 3) (by decide) ?_
      refine g_callSI F (mcR := 0) (msR := 0) (c_X10_in G0 (X := X) (M := M) (nb := nb) rfl) wd_13_21 wd_13_19 wd_13_20 wd_1_5 ⟨by decide, by decide⟩ (nn := 3) (by decide) (As := [.int l3, .int (0 : Int32), .int (3 : Int32)]) rfl rfl (Nat.le_of_ble_eq_true rfl) (by decide) (by decide) ⟨by decide, by decide⟩ dX10_night_22 ?_
      refine g_if_ne (tgt := 31) F dX10_night_25 (by decide) h (fun a21 h => ?_) (fun a21 h => ?_)
      · refine g_aload_n (i := 0) F dX10_night_31 rfl rfl ?_
        refine g_iload_n (i := 1) F dX10_night_32 rfl rfl ?_
        obtain ⟨M7, e8, h⟩ := bind_at h
        refine g_callVV F (mcR := 0) (msR := 0) (id := 65) (cells_at (kd_hidM (show kd 65 = 10 from rfl) (by decide)) (xc_10 rfl)) (ci := 10) rfl rfl rfl (c_X10_goes G0 e8) wd_29_21 wd_29_18 wd_29_19 wd_29_20 wd_1_5 ⟨by decide, by decide⟩ (nn := 1) (by decide) (As := [.int l1]) rfl rfl (Nat.le_of_ble_eq_true rfl) (by decide) (by decide) ⟨by decide, by decide⟩ dX10_night_33 ?_
        refine g_iload_n (i := 3) F dX10_night_36 rfl rfl ?_
        refine g_if_ne (tgt := 49) F dX10_night_37 (by decide) h (fun a20 h => ?_) (fun a20 h => ?_)
        · refine g_iload_n (i := 3) F dX10_night_49 rfl rfl ?_
          refine g_iconst F dX10_night_50 (v := 1) (by decide) ?_
          refine g_icmp_ne (tgt := 63) F dX10_night_51 (by decide) h (fun a17 h => ?_) (fun a17 h => ?_)
          · refine g_iload_n (i := 3) F dX10_night_63 rfl rfl ?_
            refine g_iconst F dX10_night_64 (v := 2) (by decide) ?_
            refine g_icmp_ne (tgt := 77) F dX10_night_65 (by decide) h (fun a14 h => ?_) (fun a14 h => ?_)
            · refine g_iload_n (i := 1) F dX10_night_77 rfl rfl ?_
              refine g_if_ne (tgt := 85) F dX10_night_78 (by decide) h (fun a11 h => ?_) (fun a11 h => ?_)
              · refine g_aload_n (i := 0) F dX10_night_85 rfl rfl ?_
                refine g_get_10_51 F wd_13_0 dX10_night_86 ?_
                refine g_bipush F dX10_night_89 (v := 6) (by decide) ?_
                refine g_aload_n (i := 0) F dX10_night_91 rfl rfl ?_
                refine g_get_10_7 F wd_18_17 dX10_night_92 ?_
                refine g_iload_n (i := 1) F dX10_night_95 rfl rfl ?_
                refine g_iadd F dX10_night_96 ?_
                refine g_iconst F dX10_night_97 (v := 1) (by decide) ?_
                refine g_isub F dX10_night_98 ?_
                refine g_imul F dX10_night_99 ?_
                refine g_iload_n (i := 2) F dX10_night_100 rfl rfl ?_
                refine g_iadd F dX10_night_101 ?_
                obtain ⟨v9, e10, h⟩ := bind_at h
                refine g_ildM F rfl rfl e10 dX10_night_102 ?_
                have hp := Prod.mk.inj (Option.some.inj h)
                exact g_iret F hr9 rfl hl9 hp.1 (by rw [hp.2]) (by decide) (by decide) dX10_night_103
              · refine g_iconst F dX10_night_81 (v := -1) (by decide) ?_
                refine g_goto (tgt := 103) F dX10_night_82 (by decide) ?_
                have hp := Prod.mk.inj (Option.some.inj h)
                exact g_iret F hr9 rfl hl9 hp.1 (by rw [hp.2]) (by decide) (by decide) dX10_night_103
            · refine g_aload_n (i := 0) F dX10_night_68 rfl rfl ?_
              refine g_get_10_50 F wd_12_23 dX10_night_69 ?_
              refine g_iload_n (i := 2) F dX10_night_72 rfl rfl ?_
              obtain ⟨v12, e13, h⟩ := bind_at h
              refine g_ildM F rfl rfl e13 dX10_night_73 ?_
              refine g_goto (tgt := 103) F dX10_night_74 (by decide) ?_
              have hp := Prod.mk.inj (Option.some.inj h)
              exact g_iret F hr9 rfl hl9 hp.1 (by rw [hp.2]) (by decide) (by decide) dX10_night_103
          · refine g_aload_n (i := 0) F dX10_night_54 rfl rfl ?_
            refine g_get_10_49 F wd_12_22 dX10_night_55 ?_
            refine g_iload_n (i := 2) F dX10_night_58 rfl rfl ?_
            obtain ⟨v15, e16, h⟩ := bind_at h
            refine g_ildM F rfl rfl e16 dX10_night_59 ?_
            refine g_goto (tgt := 103) F dX10_night_60 (by decide) ?_
            have hp := Prod.mk.inj (Option.some.inj h)
            exact g_iret F hr9 rfl hl9 hp.1 (by rw [hp.2]) (by decide) (by decide) dX10_night_103
        · refine g_aload_n (i := 0) F dX10_night_40 rfl rfl ?_
          refine g_get_10_48 F wd_12_21 dX10_night_41 ?_
          refine g_iload_n (i := 2) F dX10_night_44 rfl rfl ?_
          obtain ⟨v18, e19, h⟩ := bind_at h
          refine g_ildM F rfl rfl e19 dX10_night_45 ?_
          refine g_goto (tgt := 103) F dX10_night_46 (by decide) ?_
          have hp := Prod.mk.inj (Option.some.inj h)
          exact g_iret F hr9 rfl hl9 hp.1 (by rw [hp.2]) (by decide) (by decide) dX10_night_103
      · refine g_bipush F dX10_night_28 (v := -7) (by decide) ?_
        have hp := Prod.mk.inj (Option.some.inj h)
        exact g_iret F hr9 rfl hl9 hp.1 (by rw [hp.2]) (by decide) (by decide) dX10_night_30
  · refine g_bipush F dX10_night_8 (v := -5) (by decide) ?_
    have hp := Prod.mk.inj (Option.some.inj h)
    exact g_iret F hr9 rfl hl9 hp.1 (by rw [hp.2]) (by decide) (by decide) dX10_night_10
def fX10_fleet_b119 (M : MW) (l2 : Int32) (l3 : Int32) (l4 : Int32) : Option (Int32 × MW) :=
  if l2 = 0 then some (l3, M)
  else if l2 = (1 : Int32) then if l3 = (-1 : Int32) then some ((-1 : Int32), M)
  else (rd (M.2 99) 6 l3).bind fun v8 =>
  some (v8, M)
  else if l2 = (2 : Int32) then some ((M.1 55), M)
  else some (l4, M)
def fX10_fleet_b80 (l2f33 : Int32) (K33 : MW → Int32 → Int32 → Int32 → Option (Int32 × MW)) (M : MW) (l4 : Int32) (l5 : Int32) (t0 : Int32) : Option (Int32 × MW) :=
  (rd (M.2 97) 6 l5).bind fun v15 =>
  if v15 = (-1 : Int32) then (rd (M.2 77) 6 l5).bind fun v19 =>
  if v19 = (-1 : Int32) then bd (l4 + (0 : Int32)) fun v21 =>
  K33 M t0 v21 (l5 + (1 : Int32))
  else bd (l4 + (1 : Int32)) fun v23 =>
  K33 M t0 v23 (l5 + (1 : Int32))
  else bd (l4 + (0 : Int32)) fun v17 =>
  K33 M t0 v17 (l5 + (1 : Int32))
def fX10_fleet_b79 (l2f33 : Int32) (K33 : MW → Int32 → Int32 → Int32 → Option (Int32 × MW)) (M : MW) (l3 : Int32) (l4 : Int32) (l5 : Int32) : Option (Int32 × MW) :=
  fX10_fleet_b80 l2f33 K33 M l4 l5 l3
def fX10_fleet_b74 (l2f33 : Int32) (K33 : MW → Int32 → Int32 → Int32 → Option (Int32 × MW)) (M : MW) (l4 : Int32) (l5 : Int32) : Option (Int32 × MW) :=
  fX10_fleet_b80 l2f33 K33 M l4 l5 l5
def fX10_fleet_l33 (l2f33 : Int32) (K33 : MW → Int32 → Int32 → Int32 → Option (Int32 × MW)) (M : MW) (l3 : Int32) (l4 : Int32) (l5 : Int32) : Option (Int32 × MW) :=
  if (M.1 8) ≤ l5 then fX10_fleet_b119 M l2f33 l3 l4
  else (rd (M.2 99) 6 l5).bind fun v13 =>
  if v13 = (-1 : Int32) then fX10_fleet_b79 l2f33 K33 M l3 l4 l5
  else if l3 = (-1 : Int32) then fX10_fleet_b74 l2f33 K33 M l4 l5
  else (rd (M.2 99) 6 l5).bind fun v27 =>
  (rd (M.2 99) 6 l3).bind fun v29 =>
  if v29 ≤ v27 then fX10_fleet_b79 l2f33 K33 M l3 l4 l5
  else fX10_fleet_b74 l2f33 K33 M l4 l5
def fX10_fleet (M : MW) (l1 : Int32) (l2 : Int32) : Option (Int32 × MW) :=
  if (fX10_isNight M l1) = 0 then some ((-2 : Int32), M)
  else if (fX10_in l2 (0 : Int32) (3 : Int32)) = 0 then some ((-2 : Int32), M)
  else (fX10_goes M l1).bind fun M5 =>
  lo4 (fX10_fleet_l33 l2) FU M5 (-1 : Int32) (0 : Int32) (0 : Int32)
set_option maxRecDepth 100000 in
set_option maxHeartbeats 4000000 in
theorem c_X10_fleet {l : Launch} {s0 : State} {D : va_G} {ev : Nat → Nat} (G0 : Gl s0 D ev) {X : XW} {M : MW} {nb : Nat} {l1 : Int32} {l2 : Int32} {r' : Int32} {M' : MW}  (h : fX10_fleet M l1 l2 = some (r', M')) : CT l s0 D ev yX10_fleet cX10_fleet 6 (some .int) 7 0 0 [.ref (ev 0 + 65), .int l1, .int l2] (cells ev X M (nb + 1)) (QI s0 D ev r' (cells ev X M' (nb + 1))) := by
  refine ct_of G0 (by decide) (Nat.le_of_ble_eq_true rfl) ?_
  intro p9 e9 s9 m9 args9 below9 meth9 c9 F hr9 hl9 hin9 hargs9 hts9
  have U119 : ∀ (M : MW) (l2 : Int32) (l3 : Int32) (l4 : Int32), fX10_fleet_b119 M l2 l3 l4 = some (r', M') → GJ p9 l e9 (rg 7 0 0) s9 m9 args9 below9 meth9 c9 (MQ below9 (QI s0 D ev r' (cells ev X M' (nb + 1))) args9 s9 0 0 (frA ev)) s0 D ev 6 0 0 119 [(0, .ref (ev 0 + 65)), (2, .int l2), (3, .int l3), (4, .int l4)] ([]) (cells ev X M (nb + 1)) := by
    intro M l2 l3 l4 h
    rw [fX10_fleet_b119] at h
    refine g_iload_n (i := 2) F dX10_fleet_119 rfl rfl ?_
    refine g_if_ne (tgt := 127) F dX10_fleet_120 (by decide) h (fun a12 h => ?_) (fun a12 h => ?_)
    · refine g_iload_n (i := 2) F dX10_fleet_127 rfl rfl ?_
      refine g_iconst F dX10_fleet_128 (v := 1) (by decide) ?_
      refine g_icmp_ne (tgt := 150) F dX10_fleet_129 (by decide) h (fun a11 h => ?_) (fun a11 h => ?_)
      · refine g_iload_n (i := 2) F dX10_fleet_150 rfl rfl ?_
        refine g_iconst F dX10_fleet_151 (v := 2) (by decide) ?_
        refine g_icmp_ne (tgt := 162) F dX10_fleet_152 (by decide) h (fun a7 h => ?_) (fun a7 h => ?_)
        · refine g_iload (i := 4) F dX10_fleet_162 rfl ?_
          have hp := Prod.mk.inj (Option.some.inj h)
          exact g_iret F hr9 rfl hl9 hp.1 (by rw [hp.2]) (by decide) (by decide) dX10_fleet_164
        · refine g_aload_n (i := 0) F dX10_fleet_155 rfl rfl ?_
          refine g_get_10_55 F wd_30_2 dX10_fleet_156 ?_
          refine g_goto (tgt := 164) F dX10_fleet_159 (by decide) ?_
          have hp := Prod.mk.inj (Option.some.inj h)
          exact g_iret F hr9 rfl hl9 hp.1 (by rw [hp.2]) (by decide) (by decide) dX10_fleet_164
      · refine g_iload_n (i := 3) F dX10_fleet_132 rfl rfl ?_
        refine g_iconst F dX10_fleet_133 (v := -1) (by decide) ?_
        refine g_icmp_ne (tgt := 141) F dX10_fleet_134 (by decide) h (fun a10 h => ?_) (fun a10 h => ?_)
        · refine g_aload_n (i := 0) F dX10_fleet_141 rfl rfl ?_
          refine g_get_10_50 F wd_12_23 dX10_fleet_142 ?_
          refine g_iload_n (i := 3) F dX10_fleet_145 rfl rfl ?_
          obtain ⟨v8, e9, h⟩ := bind_at h
          refine g_ildM F rfl rfl e9 dX10_fleet_146 ?_
          refine g_goto (tgt := 164) F dX10_fleet_147 (by decide) ?_
          have hp := Prod.mk.inj (Option.some.inj h)
          exact g_iret F hr9 rfl hl9 hp.1 (by rw [hp.2]) (by decide) (by decide) dX10_fleet_164
        · refine g_iconst F dX10_fleet_137 (v := -1) (by decide) ?_
          refine g_goto (tgt := 164) F dX10_fleet_138 (by decide) ?_
          have hp := Prod.mk.inj (Option.some.inj h)
          exact g_iret F hr9 rfl hl9 hp.1 (by rw [hp.2]) (by decide) (by decide) dX10_fleet_164
    · refine g_iload_n (i := 3) F dX10_fleet_123 rfl rfl ?_
      refine g_goto (tgt := 164) F dX10_fleet_124 (by decide) ?_
      have hp := Prod.mk.inj (Option.some.inj h)
      exact g_iret F hr9 rfl hl9 hp.1 (by rw [hp.2]) (by decide) (by decide) dX10_fleet_164
  have L33 : ∀ (l2f33 : Int32) (N33 : Nat) (M : MW) (l3 : Int32) (l4 : Int32) (l5 : Int32), lo4 (fX10_fleet_l33 l2f33) N33 M l3 l4 l5 = some (r', M') → GJ p9 l e9 (rg 7 0 0) s9 m9 args9 below9 meth9 c9 (MQ below9 (QI s0 D ev r' (cells ev X M' (nb + 1))) args9 s9 0 0 (frA ev)) s0 D ev 6 0 0 33 [(0, .ref (ev 0 + 65)), (2, .int l2f33), (3, .int l3), (4, .int l4), (5, .int l5)] ([]) (cells ev X M (nb + 1)) := by
    intro l2f33 N33
    induction N33 with
    | zero => intro M l3 l4 l5 h; cases h
    | succ N33 ih33 =>
      have U80 : ∀ (M : MW) (l4 : Int32) (l5 : Int32) (t0 : Int32), fX10_fleet_b80 l2f33 (lo4 (fX10_fleet_l33 l2f33) N33) M l4 l5 t0 = some (r', M') → GJ p9 l e9 (rg 7 0 0) s9 m9 args9 below9 meth9 c9 (MQ below9 (QI s0 D ev r' (cells ev X M' (nb + 1))) args9 s9 0 0 (frA ev)) s0 D ev 6 0 0 80 [(0, .ref (ev 0 + 65)), (2, .int l2f33), (4, .int l4), (5, .int l5)] (.int t0 :: []) (cells ev X M (nb + 1)) := by
        intro M l4 l5 t0 h
        rw [fX10_fleet_b80] at h
        refine g_istore_n (i := 3) (lv' := [(3, .int t0), (0, .ref (ev 0 + 65)), (2, .int l2f33), (4, .int l4), (5, .int l5)]) F dX10_fleet_80 rfl (by decide) rfl ?_
        refine g_iload (i := 4) F dX10_fleet_81 rfl ?_
        refine g_aload_n (i := 0) F dX10_fleet_83 rfl rfl ?_
        refine g_get_10_48 F wd_12_21 dX10_fleet_84 ?_
        refine g_iload (i := 5) F dX10_fleet_87 rfl ?_
        obtain ⟨v15, e16, h⟩ := bind_at h
        refine g_ildM F rfl rfl e16 dX10_fleet_89 ?_
        refine g_iconst F dX10_fleet_90 (v := -1) (by decide) ?_
        refine g_icmp_ne (tgt := 109) F dX10_fleet_91 (by decide) h (fun a26 h => ?_) (fun a26 h => ?_)
        · refine g_iconst F dX10_fleet_109 (v := 0) (by decide) ?_
          refine g_iadd F dX10_fleet_110 ?_
          refine g_topi F h (fun v17 e18 h => ?_)
          refine g_istore (i := 4) (lv' := [(4, .int v17), (3, .int t0), (0, .ref (ev 0 + 65)), (2, .int l2f33), (5, .int l5)]) F dX10_fleet_111 (by decide) rfl ?_
          refine g_iinc (i := 5) (v := (l5 + (1 : Int32))) (lv' := [(5, .int (l5 + (1 : Int32))), (4, .int v17), (3, .int t0), (0, .ref (ev 0 + 65)), (2, .int l2f33)]) F dX10_fleet_113 rfl rfl (by decide) rfl ?_
          refine g_goto (tgt := 33) F dX10_fleet_116 (by decide) ?_
          refine g_lv (lv' := [(0, .ref (ev 0 + 65)), (2, .int l2f33), (3, .int t0), (4, .int v17), (5, .int (l5 + (1 : Int32)))]) ⟨rfl, rfl, rfl, rfl, rfl, trivial⟩ ?_
          exact ih33 _ _ _ _ h
        · refine g_aload_n (i := 0) F dX10_fleet_94 rfl rfl ?_
          refine g_get_10_13 F wd_12_1 dX10_fleet_95 ?_
          refine g_iload (i := 5) F dX10_fleet_98 rfl ?_
          obtain ⟨v19, e20, h⟩ := bind_at h
          refine g_ildM F rfl rfl e20 dX10_fleet_100 ?_
          refine g_iconst F dX10_fleet_101 (v := -1) (by decide) ?_
          refine g_icmp_eq (tgt := 109) F dX10_fleet_102 (by decide) h (fun a25 h => ?_) (fun a25 h => ?_)
          · refine g_iconst F dX10_fleet_109 (v := 0) (by decide) ?_
            refine g_iadd F dX10_fleet_110 ?_
            refine g_topi F h (fun v21 e22 h => ?_)
            refine g_istore (i := 4) (lv' := [(4, .int v21), (3, .int t0), (0, .ref (ev 0 + 65)), (2, .int l2f33), (5, .int l5)]) F dX10_fleet_111 (by decide) rfl ?_
            refine g_iinc (i := 5) (v := (l5 + (1 : Int32))) (lv' := [(5, .int (l5 + (1 : Int32))), (4, .int v21), (3, .int t0), (0, .ref (ev 0 + 65)), (2, .int l2f33)]) F dX10_fleet_113 rfl rfl (by decide) rfl ?_
            refine g_goto (tgt := 33) F dX10_fleet_116 (by decide) ?_
            refine g_lv (lv' := [(0, .ref (ev 0 + 65)), (2, .int l2f33), (3, .int t0), (4, .int v21), (5, .int (l5 + (1 : Int32)))]) ⟨rfl, rfl, rfl, rfl, rfl, trivial⟩ ?_
            exact ih33 _ _ _ _ h
          · refine g_iconst F dX10_fleet_105 (v := 1) (by decide) ?_
            refine g_goto (tgt := 110) F dX10_fleet_106 (by decide) ?_
            refine g_iadd F dX10_fleet_110 ?_
            refine g_topi F h (fun v23 e24 h => ?_)
            refine g_istore (i := 4) (lv' := [(4, .int v23), (3, .int t0), (0, .ref (ev 0 + 65)), (2, .int l2f33), (5, .int l5)]) F dX10_fleet_111 (by decide) rfl ?_
            refine g_iinc (i := 5) (v := (l5 + (1 : Int32))) (lv' := [(5, .int (l5 + (1 : Int32))), (4, .int v23), (3, .int t0), (0, .ref (ev 0 + 65)), (2, .int l2f33)]) F dX10_fleet_113 rfl rfl (by decide) rfl ?_
            refine g_goto (tgt := 33) F dX10_fleet_116 (by decide) ?_
            refine g_lv (lv' := [(0, .ref (ev 0 + 65)), (2, .int l2f33), (3, .int t0), (4, .int v23), (5, .int (l5 + (1 : Int32)))]) ⟨rfl, rfl, rfl, rfl, rfl, trivial⟩ ?_
            exact ih33 _ _ _ _ h
      have U79 : ∀ (M : MW) (l3 : Int32) (l4 : Int32) (l5 : Int32), fX10_fleet_b79 l2f33 (lo4 (fX10_fleet_l33 l2f33) N33) M l3 l4 l5 = some (r', M') → GJ p9 l e9 (rg 7 0 0) s9 m9 args9 below9 meth9 c9 (MQ below9 (QI s0 D ev r' (cells ev X M' (nb + 1))) args9 s9 0 0 (frA ev)) s0 D ev 6 0 0 79 [(0, .ref (ev 0 + 65)), (2, .int l2f33), (3, .int l3), (4, .int l4), (5, .int l5)] ([]) (cells ev X M (nb + 1)) := by
        intro M l3 l4 l5 h
        rw [fX10_fleet_b79] at h
        refine g_iload_n (i := 3) F dX10_fleet_79 rfl rfl ?_
        refine g_lv (lv' := [(0, .ref (ev 0 + 65)), (2, .int l2f33), (4, .int l4), (5, .int l5)]) ⟨rfl, rfl, rfl, rfl, trivial⟩ ?_
        exact U80 _ _ _ _ h
      have U74 : ∀ (M : MW) (l4 : Int32) (l5 : Int32), fX10_fleet_b74 l2f33 (lo4 (fX10_fleet_l33 l2f33) N33) M l4 l5 = some (r', M') → GJ p9 l e9 (rg 7 0 0) s9 m9 args9 below9 meth9 c9 (MQ below9 (QI s0 D ev r' (cells ev X M' (nb + 1))) args9 s9 0 0 (frA ev)) s0 D ev 6 0 0 74 [(0, .ref (ev 0 + 65)), (2, .int l2f33), (4, .int l4), (5, .int l5)] ([]) (cells ev X M (nb + 1)) := by
        intro M l4 l5 h
        rw [fX10_fleet_b74] at h
        refine g_iload (i := 5) F dX10_fleet_74 rfl ?_
        refine g_goto (tgt := 80) F dX10_fleet_76 (by decide) ?_
        refine g_lv (lv' := [(0, .ref (ev 0 + 65)), (2, .int l2f33), (4, .int l4), (5, .int l5)]) ⟨rfl, rfl, rfl, rfl, trivial⟩ ?_
        exact U80 _ _ _ _ h
      intro M l3 l4 l5 h
      change fX10_fleet_l33 l2f33 (lo4 (fX10_fleet_l33 l2f33) N33) M l3 l4 l5 = some (r', M') at h
      rw [fX10_fleet_l33] at h
      refine g_iload (i := 5) F dX10_fleet_33 rfl ?_
      refine g_aload_n (i := 0) F dX10_fleet_35 rfl rfl ?_
      refine g_get_10_8 F wd_18_18 dX10_fleet_36 ?_
      refine g_icmp_ge (tgt := 119) F dX10_fleet_39 (by decide) h (fun a34 h => ?_) (fun a34 h => ?_)
      · refine g_lv (lv' := [(0, .ref (ev 0 + 65)), (2, .int l2f33), (3, .int l3), (4, .int l4)]) ⟨rfl, rfl, rfl, rfl, trivial⟩ ?_
        exact U119 _ _ _ _ h
      · refine g_aload_n (i := 0) F dX10_fleet_42 rfl rfl ?_
        refine g_get_10_50 F wd_12_23 dX10_fleet_43 ?_
        refine g_iload (i := 5) F dX10_fleet_46 rfl ?_
        obtain ⟨v13, e14, h⟩ := bind_at h
        refine g_ildM F rfl rfl e14 dX10_fleet_48 ?_
        refine g_iconst F dX10_fleet_49 (v := -1) (by decide) ?_
        refine g_icmp_eq (tgt := 79) F dX10_fleet_50 (by decide) h (fun a33 h => ?_) (fun a33 h => ?_)
        · refine g_lv (lv' := [(0, .ref (ev 0 + 65)), (2, .int l2f33), (3, .int l3), (4, .int l4), (5, .int l5)]) ⟨rfl, rfl, rfl, rfl, rfl, trivial⟩ ?_
          exact U79 _ _ _ _ h
        · refine g_iload_n (i := 3) F dX10_fleet_53 rfl rfl ?_
          refine g_iconst F dX10_fleet_54 (v := -1) (by decide) ?_
          refine g_icmp_eq (tgt := 74) F dX10_fleet_55 (by decide) h (fun a32 h => ?_) (fun a32 h => ?_)
          · refine g_lv (lv' := [(0, .ref (ev 0 + 65)), (2, .int l2f33), (4, .int l4), (5, .int l5)]) ⟨rfl, rfl, rfl, rfl, trivial⟩ ?_
            exact U74 _ _ _ h
          · refine g_aload_n (i := 0) F dX10_fleet_58 rfl rfl ?_
            refine g_get_10_50 F wd_12_23 dX10_fleet_59 ?_
            refine g_iload (i := 5) F dX10_fleet_62 rfl ?_
            obtain ⟨v27, e28, h⟩ := bind_at h
            refine g_ildM F rfl rfl e28 dX10_fleet_64 ?_
            refine g_aload_n (i := 0) F dX10_fleet_65 rfl rfl ?_
            refine g_get_10_50 F wd_12_23 dX10_fleet_66 ?_
            refine g_iload_n (i := 3) F dX10_fleet_69 rfl rfl ?_
            obtain ⟨v29, e30, h⟩ := bind_at h
            refine g_ildM F rfl rfl e30 dX10_fleet_70 ?_
            refine g_icmp_ge (tgt := 79) F dX10_fleet_71 (by decide) h (fun a31 h => ?_) (fun a31 h => ?_)
            · refine g_lv (lv' := [(0, .ref (ev 0 + 65)), (2, .int l2f33), (3, .int l3), (4, .int l4), (5, .int l5)]) ⟨rfl, rfl, rfl, rfl, rfl, trivial⟩ ?_
              exact U79 _ _ _ _ h
            · refine g_lv (lv' := [(0, .ref (ev 0 + 65)), (2, .int l2f33), (4, .int l4), (5, .int l5)]) ⟨rfl, rfl, rfl, rfl, trivial⟩ ?_
              exact U74 _ _ _ h
  rw [fX10_fleet] at h
  refine g_lv (lv' := [(0, .ref (ev 0 + 65)), (1, .int l1), (2, .int l2)]) ⟨rfl, rfl, rfl, trivial⟩ ?_
  refine g_aload_n (i := 0) F dX10_fleet_0 rfl rfl ?_
  refine g_iload_n (i := 1) F dX10_fleet_1 rfl rfl ?_
  refine g_callVI F (mcR := 0) (msR := 0) (id := 65) (cells_at (kd_hidM (show kd 65 = 10 from rfl) (by decide)) (xc_10 rfl)) (ci := 10) rfl rfl rfl (c_X10_isNight G0 (X := X) (M := M) (nb := nb) rfl) wd_29_17 wd_29_14 wd_29_15 wd_29_16 wd_1_5 ⟨by decide, by decide⟩ (nn := 1) (by decide) (As := [.int l1]) rfl rfl (Nat.le_of_ble_eq_true rfl) (by decide) (by decide) ⟨by decide, by decide⟩ dX10_fleet_2 ?_
  refine g_if_eq (tgt := 17) F dX10_fleet_5 (by decide) h (fun a36 h => ?_) (fun a36 h => ?_)
  · refine g_bipush F dX10_fleet_17 (v := -2) (by decide) ?_
    have hp := Prod.mk.inj (Option.some.inj h)
    exact g_iret F hr9 rfl hl9 hp.1 (by rw [hp.2]) (by decide) (by decide) dX10_fleet_19
  · refine g_iload_n (i := 2) F dX10_fleet_8 rfl rfl ?_
    refine g_iconst F dX10_fleet_9 (v := 0) (by decide) ?_
    refine g_iconst F dX10_fleet_10 (v := 3) (by decide) ?_
    refine g_callSI F (mcR := 0) (msR := 0) (c_X10_in G0 (X := X) (M := M) (nb := nb) rfl) wd_13_21 wd_13_19 wd_13_20 wd_1_5 ⟨by decide, by decide⟩ (nn := 3) (by decide) (As := [.int l2, .int (0 : Int32), .int (3 : Int32)]) rfl rfl (Nat.le_of_ble_eq_true rfl) (by decide) (by decide) ⟨by decide, by decide⟩ dX10_fleet_11 ?_
    refine g_if_ne (tgt := 20) F dX10_fleet_14 (by decide) h (fun a35 h => ?_) (fun a35 h => ?_)
    · refine g_aload_n (i := 0) F dX10_fleet_20 rfl rfl ?_
      refine g_iload_n (i := 1) F dX10_fleet_21 rfl rfl ?_
      obtain ⟨M5, e6, h⟩ := bind_at h
      refine g_callVV F (mcR := 0) (msR := 0) (id := 65) (cells_at (kd_hidM (show kd 65 = 10 from rfl) (by decide)) (xc_10 rfl)) (ci := 10) rfl rfl rfl (c_X10_goes G0 e6) wd_29_21 wd_29_18 wd_29_19 wd_29_20 wd_1_5 ⟨by decide, by decide⟩ (nn := 1) (by decide) (As := [.int l1]) rfl rfl (Nat.le_of_ble_eq_true rfl) (by decide) (by decide) ⟨by decide, by decide⟩ dX10_fleet_22 ?_
      refine g_iconst F dX10_fleet_25 (v := -1) (by decide) ?_
      refine g_istore_n (i := 3) (lv' := [(3, .int (-1 : Int32)), (0, .ref (ev 0 + 65)), (1, .int l1), (2, .int l2)]) F dX10_fleet_26 rfl (by decide) rfl ?_
      refine g_iconst F dX10_fleet_27 (v := 0) (by decide) ?_
      refine g_istore (i := 4) (lv' := [(4, .int (0 : Int32)), (3, .int (-1 : Int32)), (0, .ref (ev 0 + 65)), (1, .int l1), (2, .int l2)]) F dX10_fleet_28 (by decide) rfl ?_
      refine g_iconst F dX10_fleet_30 (v := 0) (by decide) ?_
      refine g_istore (i := 5) (lv' := [(5, .int (0 : Int32)), (4, .int (0 : Int32)), (3, .int (-1 : Int32)), (0, .ref (ev 0 + 65)), (1, .int l1), (2, .int l2)]) F dX10_fleet_31 (by decide) rfl ?_
      refine g_lv (lv' := [(0, .ref (ev 0 + 65)), (2, .int l2), (3, .int (-1 : Int32)), (4, .int (0 : Int32)), (5, .int (0 : Int32))]) ⟨rfl, rfl, rfl, rfl, rfl, trivial⟩ ?_
      exact L33 _ FU _ _ _ _ h
    · refine g_bipush F dX10_fleet_17 (v := -2) (by decide) ?_
      have hp := Prod.mk.inj (Option.some.inj h)
      exact g_iret F hr9 rfl hl9 hp.1 (by rw [hp.2]) (by decide) (by decide) dX10_fleet_19
def fX10_hit (M : MW) (l1 : Int32) (l2 : Int32) (l3 : Int32) : Option (Int32 × MW) :=
  if (fX10_isNight M l1) = 0 then some ((-2 : Int32), M)
  else if (fX10_in l3 (0 : Int32) (2 : Int32)) = 0 then some ((-2 : Int32), M)
  else (fX10_goes M l1).bind fun M5 =>
  if (fX10_in l2 (0 : Int32) ((M5.1 55) - (1 : Int32))) = 0 then some ((-1 : Int32), M5)
  else if l3 = 0 then (rd (M5.2 101) 180 l2).bind fun v14 =>
  some (v14, M5)
  else if l3 = (1 : Int32) then (rd (M5.2 102) 180 l2).bind fun v11 =>
  some (v11, M5)
  else (rd (M5.2 103) 180 l2).bind fun v9 =>
  some (v9, M5)
set_option maxRecDepth 100000 in
set_option maxHeartbeats 4000000 in
theorem c_X10_hit {l : Launch} {s0 : State} {D : va_G} {ev : Nat → Nat} (G0 : Gl s0 D ev) {X : XW} {M : MW} {nb : Nat} {l1 : Int32} {l2 : Int32} {l3 : Int32} {r' : Int32} {M' : MW}  (h : fX10_hit M l1 l2 l3 = some (r', M')) : CT l s0 D ev yX10_hit cX10_hit 4 (some .int) 7 0 0 [.ref (ev 0 + 65), .int l1, .int l2, .int l3] (cells ev X M (nb + 1)) (QI s0 D ev r' (cells ev X M' (nb + 1))) := by
  refine ct_of G0 (by decide) (Nat.le_of_ble_eq_true rfl) ?_
  intro p9 e9 s9 m9 args9 below9 meth9 c9 F hr9 hl9 hin9 hargs9 hts9
  rw [fX10_hit] at h
  refine g_lv (lv' := [(0, .ref (ev 0 + 65)), (1, .int l1), (2, .int l2), (3, .int l3)]) ⟨rfl, rfl, rfl, rfl, trivial⟩ ?_
  refine g_aload_n (i := 0) F dX10_hit_0 rfl rfl ?_
  refine g_iload_n (i := 1) F dX10_hit_1 rfl rfl ?_
  refine g_callVI F (mcR := 0) (msR := 0) (id := 65) (cells_at (kd_hidM (show kd 65 = 10 from rfl) (by decide)) (xc_10 rfl)) (ci := 10) rfl rfl rfl (c_X10_isNight G0 (X := X) (M := M) (nb := nb) rfl) wd_29_17 wd_29_14 wd_29_15 wd_29_16 wd_1_5 ⟨by decide, by decide⟩ (nn := 1) (by decide) (As := [.int l1]) rfl rfl (Nat.le_of_ble_eq_true rfl) (by decide) (by decide) ⟨by decide, by decide⟩ dX10_hit_2 ?_
  refine g_if_eq (tgt := 17) F dX10_hit_5 (by decide) h (fun a19 h => ?_) (fun a19 h => ?_)
  · refine g_bipush F dX10_hit_17 (v := -2) (by decide) ?_
    have hp := Prod.mk.inj (Option.some.inj h)
    exact g_iret F hr9 rfl hl9 hp.1 (by rw [hp.2]) (by decide) (by decide) dX10_hit_19
  · refine g_iload_n (i := 3) F dX10_hit_8 rfl rfl ?_
    refine g_iconst F dX10_hit_9 (v := 0) (by decide) ?_
    refine g_iconst F dX10_hit_10 (v := 2) (by decide) ?_
    refine g_callSI F (mcR := 0) (msR := 0) (c_X10_in G0 (X := X) (M := M) (nb := nb) rfl) wd_13_21 wd_13_19 wd_13_20 wd_1_5 ⟨by decide, by decide⟩ (nn := 3) (by decide) (As := [.int l3, .int (0 : Int32), .int (2 : Int32)]) rfl rfl (Nat.le_of_ble_eq_true rfl) (by decide) (by decide) ⟨by decide, by decide⟩ dX10_hit_11 ?_
    refine g_if_ne (tgt := 20) F dX10_hit_14 (by decide) h (fun a18 h => ?_) (fun a18 h => ?_)
    · refine g_aload_n (i := 0) F dX10_hit_20 rfl rfl ?_
      refine g_iload_n (i := 1) F dX10_hit_21 rfl rfl ?_
      obtain ⟨M5, e6, h⟩ := bind_at h
      refine g_callVV F (mcR := 0) (msR := 0) (id := 65) (cells_at (kd_hidM (show kd 65 = 10 from rfl) (by decide)) (xc_10 rfl)) (ci := 10) rfl rfl rfl (c_X10_goes G0 e6) wd_29_21 wd_29_18 wd_29_19 wd_29_20 wd_1_5 ⟨by decide, by decide⟩ (nn := 1) (by decide) (As := [.int l1]) rfl rfl (Nat.le_of_ble_eq_true rfl) (by decide) (by decide) ⟨by decide, by decide⟩ dX10_hit_22 ?_
      refine g_iload_n (i := 2) F dX10_hit_25 rfl rfl ?_
      refine g_iconst F dX10_hit_26 (v := 0) (by decide) ?_
      refine g_aload_n (i := 0) F dX10_hit_27 rfl rfl ?_
      refine g_get_10_55 F wd_30_2 dX10_hit_28 ?_
      refine g_iconst F dX10_hit_31 (v := 1) (by decide) ?_
      refine g_isub F dX10_hit_32 ?_
      refine g_callSI F (mcR := 0) (msR := 0) (c_X10_in G0 (X := X) (M := M5) (nb := nb) rfl) wd_13_21 wd_13_19 wd_13_20 wd_1_5 ⟨by decide, by decide⟩ (nn := 3) (by decide) (As := [.int l2, .int (0 : Int32), .int ((M5.1 55) - (1 : Int32))]) rfl rfl (Nat.le_of_ble_eq_true rfl) (by decide) (by decide) ⟨by decide, by decide⟩ dX10_hit_33 ?_
      refine g_if_ne (tgt := 43) F dX10_hit_36 (by decide) h (fun a17 h => ?_) (fun a17 h => ?_)
      · refine g_iload_n (i := 3) F dX10_hit_43 rfl rfl ?_
        refine g_if_ne (tgt := 56) F dX10_hit_44 (by decide) h (fun a16 h => ?_) (fun a16 h => ?_)
        · refine g_iload_n (i := 3) F dX10_hit_56 rfl rfl ?_
          refine g_iconst F dX10_hit_57 (v := 1) (by decide) ?_
          refine g_icmp_ne (tgt := 70) F dX10_hit_58 (by decide) h (fun a13 h => ?_) (fun a13 h => ?_)
          · refine g_aload_n (i := 0) F dX10_hit_70 rfl rfl ?_
            refine g_get_10_54 F wd_13_3 dX10_hit_71 ?_
            refine g_iload_n (i := 2) F dX10_hit_74 rfl rfl ?_
            obtain ⟨v9, e10, h⟩ := bind_at h
            refine g_ildM F rfl rfl e10 dX10_hit_75 ?_
            have hp := Prod.mk.inj (Option.some.inj h)
            exact g_iret F hr9 rfl hl9 hp.1 (by rw [hp.2]) (by decide) (by decide) dX10_hit_76
          · refine g_aload_n (i := 0) F dX10_hit_61 rfl rfl ?_
            refine g_get_10_53 F wd_13_2 dX10_hit_62 ?_
            refine g_iload_n (i := 2) F dX10_hit_65 rfl rfl ?_
            obtain ⟨v11, e12, h⟩ := bind_at h
            refine g_ildM F rfl rfl e12 dX10_hit_66 ?_
            refine g_goto (tgt := 76) F dX10_hit_67 (by decide) ?_
            have hp := Prod.mk.inj (Option.some.inj h)
            exact g_iret F hr9 rfl hl9 hp.1 (by rw [hp.2]) (by decide) (by decide) dX10_hit_76
        · refine g_aload_n (i := 0) F dX10_hit_47 rfl rfl ?_
          refine g_get_10_52 F wd_13_1 dX10_hit_48 ?_
          refine g_iload_n (i := 2) F dX10_hit_51 rfl rfl ?_
          obtain ⟨v14, e15, h⟩ := bind_at h
          refine g_ildM F rfl rfl e15 dX10_hit_52 ?_
          refine g_goto (tgt := 76) F dX10_hit_53 (by decide) ?_
          have hp := Prod.mk.inj (Option.some.inj h)
          exact g_iret F hr9 rfl hl9 hp.1 (by rw [hp.2]) (by decide) (by decide) dX10_hit_76
      · refine g_iconst F dX10_hit_39 (v := -1) (by decide) ?_
        refine g_goto (tgt := 76) F dX10_hit_40 (by decide) ?_
        have hp := Prod.mk.inj (Option.some.inj h)
        exact g_iret F hr9 rfl hl9 hp.1 (by rw [hp.2]) (by decide) (by decide) dX10_hit_76
    · refine g_bipush F dX10_hit_17 (v := -2) (by decide) ?_
      have hp := Prod.mk.inj (Option.some.inj h)
      exact g_iret F hr9 rfl hl9 hp.1 (by rw [hp.2]) (by decide) (by decide) dX10_hit_19
def fX10_wake (M : MW) (l1 : Int32) : Option (Int32 × MW) :=
  if (fX10_isNight M l1) = 0 then some ((-2 : Int32), M)
  else (fX10_goes M l1).bind fun M3 =>
  if (M3.1 55) = 0 then some ((-1 : Int32), M3)
  else (rd (M3.2 103) 180 (0 : Int32)).bind fun v5 =>
  (rd (M3.2 98) 6 v5).bind fun v7 =>
  (rd (M3.2 102) 180 (0 : Int32)).bind fun v9 =>
  (rd (M3.2 98) 6 v9).bind fun v11 =>
  if v7 ≤ v11 then (rd (M3.2 102) 180 (0 : Int32)).bind fun v13 =>
  some (v13, M3)
  else (rd (M3.2 103) 180 (0 : Int32)).bind fun v15 =>
  some (v15, M3)
set_option maxRecDepth 100000 in
set_option maxHeartbeats 4000000 in
theorem c_X10_wake {l : Launch} {s0 : State} {D : va_G} {ev : Nat → Nat} (G0 : Gl s0 D ev) {X : XW} {M : MW} {nb : Nat} {l1 : Int32} {r' : Int32} {M' : MW}  (h : fX10_wake M l1 = some (r', M')) : CT l s0 D ev yX10_wake cX10_wake 2 (some .int) 7 0 0 [.ref (ev 0 + 65), .int l1] (cells ev X M (nb + 1)) (QI s0 D ev r' (cells ev X M' (nb + 1))) := by
  refine ct_of G0 (by decide) (Nat.le_of_ble_eq_true rfl) ?_
  intro p9 e9 s9 m9 args9 below9 meth9 c9 F hr9 hl9 hin9 hargs9 hts9
  rw [fX10_wake] at h
  refine g_lv (lv' := [(0, .ref (ev 0 + 65)), (1, .int l1)]) ⟨rfl, rfl, trivial⟩ ?_
  refine g_aload_n (i := 0) F dX10_wake_0 rfl rfl ?_
  refine g_iload_n (i := 1) F dX10_wake_1 rfl rfl ?_
  refine g_callVI F (mcR := 0) (msR := 0) (id := 65) (cells_at (kd_hidM (show kd 65 = 10 from rfl) (by decide)) (xc_10 rfl)) (ci := 10) rfl rfl rfl (c_X10_isNight G0 (X := X) (M := M) (nb := nb) rfl) wd_29_17 wd_29_14 wd_29_15 wd_29_16 wd_1_5 ⟨by decide, by decide⟩ (nn := 1) (by decide) (As := [.int l1]) rfl rfl (Nat.le_of_ble_eq_true rfl) (by decide) (by decide) ⟨by decide, by decide⟩ dX10_wake_2 ?_
  refine g_if_ne (tgt := 11) F dX10_wake_5 (by decide) h (fun a19 h => ?_) (fun a19 h => ?_)
  · refine g_aload_n (i := 0) F dX10_wake_11 rfl rfl ?_
    refine g_iload_n (i := 1) F dX10_wake_12 rfl rfl ?_
    obtain ⟨M3, e4, h⟩ := bind_at h
    refine g_callVV F (mcR := 0) (msR := 0) (id := 65) (cells_at (kd_hidM (show kd 65 = 10 from rfl) (by decide)) (xc_10 rfl)) (ci := 10) rfl rfl rfl (c_X10_goes G0 e4) wd_29_21 wd_29_18 wd_29_19 wd_29_20 wd_1_5 ⟨by decide, by decide⟩ (nn := 1) (by decide) (As := [.int l1]) rfl rfl (Nat.le_of_ble_eq_true rfl) (by decide) (by decide) ⟨by decide, by decide⟩ dX10_wake_13 ?_
    refine g_aload_n (i := 0) F dX10_wake_16 rfl rfl ?_
    refine g_get_10_55 F wd_30_2 dX10_wake_17 ?_
    refine g_if_ne (tgt := 27) F dX10_wake_20 (by decide) h (fun a18 h => ?_) (fun a18 h => ?_)
    · refine g_aload_n (i := 0) F dX10_wake_27 rfl rfl ?_
      refine g_get_10_49 F wd_12_22 dX10_wake_28 ?_
      refine g_aload_n (i := 0) F dX10_wake_31 rfl rfl ?_
      refine g_get_10_54 F wd_13_3 dX10_wake_32 ?_
      refine g_iconst F dX10_wake_35 (v := 0) (by decide) ?_
      obtain ⟨v5, e6, h⟩ := bind_at h
      refine g_ildM F rfl rfl e6 dX10_wake_36 ?_
      obtain ⟨v7, e8, h⟩ := bind_at h
      refine g_ildM F rfl rfl e8 dX10_wake_37 ?_
      refine g_aload_n (i := 0) F dX10_wake_38 rfl rfl ?_
      refine g_get_10_49 F wd_12_22 dX10_wake_39 ?_
      refine g_aload_n (i := 0) F dX10_wake_42 rfl rfl ?_
      refine g_get_10_53 F wd_13_2 dX10_wake_43 ?_
      refine g_iconst F dX10_wake_46 (v := 0) (by decide) ?_
      obtain ⟨v9, e10, h⟩ := bind_at h
      refine g_ildM F rfl rfl e10 dX10_wake_47 ?_
      obtain ⟨v11, e12, h⟩ := bind_at h
      refine g_ildM F rfl rfl e12 dX10_wake_48 ?_
      refine g_icmp_le (tgt := 61) F dX10_wake_49 (by decide) h (fun a17 h => ?_) (fun a17 h => ?_)
      · refine g_aload_n (i := 0) F dX10_wake_61 rfl rfl ?_
        refine g_get_10_53 F wd_13_2 dX10_wake_62 ?_
        refine g_iconst F dX10_wake_65 (v := 0) (by decide) ?_
        obtain ⟨v13, e14, h⟩ := bind_at h
        refine g_ildM F rfl rfl e14 dX10_wake_66 ?_
        have hp := Prod.mk.inj (Option.some.inj h)
        exact g_iret F hr9 rfl hl9 hp.1 (by rw [hp.2]) (by decide) (by decide) dX10_wake_67
      · refine g_aload_n (i := 0) F dX10_wake_52 rfl rfl ?_
        refine g_get_10_54 F wd_13_3 dX10_wake_53 ?_
        refine g_iconst F dX10_wake_56 (v := 0) (by decide) ?_
        obtain ⟨v15, e16, h⟩ := bind_at h
        refine g_ildM F rfl rfl e16 dX10_wake_57 ?_
        refine g_goto (tgt := 67) F dX10_wake_58 (by decide) ?_
        have hp := Prod.mk.inj (Option.some.inj h)
        exact g_iret F hr9 rfl hl9 hp.1 (by rw [hp.2]) (by decide) (by decide) dX10_wake_67
    · refine g_iconst F dX10_wake_23 (v := -1) (by decide) ?_
      refine g_goto (tgt := 67) F dX10_wake_24 (by decide) ?_
      have hp := Prod.mk.inj (Option.some.inj h)
      exact g_iret F hr9 rfl hl9 hp.1 (by rw [hp.2]) (by decide) (by decide) dX10_wake_67
  · refine g_bipush F dX10_wake_8 (v := -2) (by decide) ?_
    have hp := Prod.mk.inj (Option.some.inj h)
    exact g_iret F hr9 rfl hl9 hp.1 (by rw [hp.2]) (by decide) (by decide) dX10_wake_10
def fX10_goOn_b55 (M : MW) (l1 : Int32) : Option (Int32 × MW) :=
  bd (mI M 7 ((M.1 7) + l1)) fun M5 =>
  some ((M5.1 7), M5)
def fX10_goOn_l29 (l1f29 : Int32) (K29 : MW → Int32 → Option (Int32 × MW)) (M : MW) (l2 : Int32) : Option (Int32 × MW) :=
  if (M.1 8) ≤ l2 then fX10_goOn_b55 M l1f29
  else (rd (M.2 97) 6 l2).bind fun v7 =>
  if inb l2 6 then bd (mA M 77 l2 v7) fun M10 =>
  K29 M10 (l2 + (1 : Int32))
  else none
def fX10_goOn (M : MW) (l1 : Int32) : Option (Int32 × MW) :=
  if (fX10_isNight M l1) = 0 then some ((-2 : Int32), M)
  else if ((M.1 7) + l1) ≤ (11 : Int32) then (fX10_goes M l1).bind fun M3 =>
  lo2 (fX10_goOn_l29 l1) FU M3 (0 : Int32)
  else some ((-2 : Int32), M)
set_option maxRecDepth 100000 in
set_option maxHeartbeats 4000000 in
theorem c_X10_goOn {l : Launch} {s0 : State} {D : va_G} {ev : Nat → Nat} (G0 : Gl s0 D ev) {X : XW} {M : MW} {nb : Nat} {l1 : Int32} {r' : Int32} {M' : MW}  (h : fX10_goOn M l1 = some (r', M')) : CT l s0 D ev yX10_goOn cX10_goOn 3 (some .int) 7 0 0 [.ref (ev 0 + 65), .int l1] (cells ev X M (nb + 1)) (QI s0 D ev r' (cells ev X M' (nb + 1))) := by
  refine ct_of G0 (by decide) (Nat.le_of_ble_eq_true rfl) ?_
  intro p9 e9 s9 m9 args9 below9 meth9 c9 F hr9 hl9 hin9 hargs9 hts9
  have U55 : ∀ (M : MW) (l1 : Int32), fX10_goOn_b55 M l1 = some (r', M') → GJ p9 l e9 (rg 7 0 0) s9 m9 args9 below9 meth9 c9 (MQ below9 (QI s0 D ev r' (cells ev X M' (nb + 1))) args9 s9 0 0 (frA ev)) s0 D ev 3 0 0 55 [(0, .ref (ev 0 + 65)), (1, .int l1)] ([]) (cells ev X M (nb + 1)) := by
    intro M l1 h
    rw [fX10_goOn_b55] at h
    refine g_aload_n (i := 0) F dX10_goOn_55 rfl rfl ?_
    refine g_dup F dX10_goOn_56 rfl ?_
    refine g_get_10_7 F wd_18_17 dX10_goOn_57 ?_
    refine g_iload_n (i := 1) F dX10_goOn_60 rfl rfl ?_
    refine g_iadd F dX10_goOn_61 ?_
    obtain ⟨M5, e6, h⟩ := bd_at h
    refine g_put_10_7 F wd_18_17 dX10_goOn_62 ?_
    rw [← e6]
    refine g_aload_n (i := 0) F dX10_goOn_65 rfl rfl ?_
    refine g_get_10_7 F wd_18_17 dX10_goOn_66 ?_
    have hp := Prod.mk.inj (Option.some.inj h)
    exact g_iret F hr9 rfl hl9 hp.1 (by rw [hp.2]) (by decide) (by decide) dX10_goOn_69
  have L29 : ∀ (l1f29 : Int32) (N29 : Nat) (M : MW) (l2 : Int32), lo2 (fX10_goOn_l29 l1f29) N29 M l2 = some (r', M') → GJ p9 l e9 (rg 7 0 0) s9 m9 args9 below9 meth9 c9 (MQ below9 (QI s0 D ev r' (cells ev X M' (nb + 1))) args9 s9 0 0 (frA ev)) s0 D ev 3 0 0 29 [(0, .ref (ev 0 + 65)), (1, .int l1f29), (2, .int l2)] ([]) (cells ev X M (nb + 1)) := by
    intro l1f29 N29
    induction N29 with
    | zero => intro M l2 h; cases h
    | succ N29 ih29 =>
      intro M l2 h
      change fX10_goOn_l29 l1f29 (lo2 (fX10_goOn_l29 l1f29) N29) M l2 = some (r', M') at h
      rw [fX10_goOn_l29] at h
      refine g_iload_n (i := 2) F dX10_goOn_29 rfl rfl ?_
      refine g_aload_n (i := 0) F dX10_goOn_30 rfl rfl ?_
      refine g_get_10_8 F wd_18_18 dX10_goOn_31 ?_
      refine g_icmp_ge (tgt := 55) F dX10_goOn_34 (by decide) h (fun a12 h => ?_) (fun a12 h => ?_)
      · refine g_lv (lv' := [(0, .ref (ev 0 + 65)), (1, .int l1f29)]) ⟨rfl, rfl, trivial⟩ ?_
        exact U55 _ _ h
      · refine g_aload_n (i := 0) F dX10_goOn_37 rfl rfl ?_
        refine g_get_10_13 F wd_12_1 dX10_goOn_38 ?_
        refine g_iload_n (i := 2) F dX10_goOn_41 rfl rfl ?_
        refine g_aload_n (i := 0) F dX10_goOn_42 rfl rfl ?_
        refine g_get_10_48 F wd_12_21 dX10_goOn_43 ?_
        refine g_iload_n (i := 2) F dX10_goOn_46 rfl rfl ?_
        obtain ⟨v7, e8, h⟩ := bind_at h
        refine g_ildM F rfl rfl e8 dX10_goOn_47 ?_
        obtain ⟨h9, h⟩ := if_at h
        obtain ⟨M10, e11, h⟩ := bd_at h
        refine g_istM F rfl rfl h9 dX10_goOn_48 ?_
        rw [← e11]
        refine g_iinc (i := 2) (v := (l2 + (1 : Int32))) (lv' := [(2, .int (l2 + (1 : Int32))), (0, .ref (ev 0 + 65)), (1, .int l1f29)]) F dX10_goOn_49 rfl rfl (by decide) rfl ?_
        refine g_goto (tgt := 29) F dX10_goOn_52 (by decide) ?_
        refine g_lv (lv' := [(0, .ref (ev 0 + 65)), (1, .int l1f29), (2, .int (l2 + (1 : Int32)))]) ⟨rfl, rfl, rfl, trivial⟩ ?_
        exact ih29 _ _ h
  rw [fX10_goOn] at h
  refine g_lv (lv' := [(0, .ref (ev 0 + 65)), (1, .int l1)]) ⟨rfl, rfl, trivial⟩ ?_
  refine g_aload_n (i := 0) F dX10_goOn_0 rfl rfl ?_
  refine g_iload_n (i := 1) F dX10_goOn_1 rfl rfl ?_
  refine g_callVI F (mcR := 0) (msR := 0) (id := 65) (cells_at (kd_hidM (show kd 65 = 10 from rfl) (by decide)) (xc_10 rfl)) (ci := 10) rfl rfl rfl (c_X10_isNight G0 (X := X) (M := M) (nb := nb) rfl) wd_29_17 wd_29_14 wd_29_15 wd_29_16 wd_1_5 ⟨by decide, by decide⟩ (nn := 1) (by decide) (As := [.int l1]) rfl rfl (Nat.le_of_ble_eq_true rfl) (by decide) (by decide) ⟨by decide, by decide⟩ dX10_goOn_2 ?_
  refine g_if_eq (tgt := 19) F dX10_goOn_5 (by decide) h (fun a14 h => ?_) (fun a14 h => ?_)
  · refine g_bipush F dX10_goOn_19 (v := -2) (by decide) ?_
    have hp := Prod.mk.inj (Option.some.inj h)
    exact g_iret F hr9 rfl hl9 hp.1 (by rw [hp.2]) (by decide) (by decide) dX10_goOn_21
  · refine g_aload_n (i := 0) F dX10_goOn_8 rfl rfl ?_
    refine g_get_10_7 F wd_18_17 dX10_goOn_9 ?_
    refine g_iload_n (i := 1) F dX10_goOn_12 rfl rfl ?_
    refine g_iadd F dX10_goOn_13 ?_
    refine g_bipush F dX10_goOn_14 (v := 11) (by decide) ?_
    refine g_icmp_le (tgt := 22) F dX10_goOn_16 (by decide) h (fun a13 h => ?_) (fun a13 h => ?_)
    · refine g_aload_n (i := 0) F dX10_goOn_22 rfl rfl ?_
      refine g_iload_n (i := 1) F dX10_goOn_23 rfl rfl ?_
      obtain ⟨M3, e4, h⟩ := bind_at h
      refine g_callVV F (mcR := 0) (msR := 0) (id := 65) (cells_at (kd_hidM (show kd 65 = 10 from rfl) (by decide)) (xc_10 rfl)) (ci := 10) rfl rfl rfl (c_X10_goes G0 e4) wd_29_21 wd_29_18 wd_29_19 wd_29_20 wd_1_5 ⟨by decide, by decide⟩ (nn := 1) (by decide) (As := [.int l1]) rfl rfl (Nat.le_of_ble_eq_true rfl) (by decide) (by decide) ⟨by decide, by decide⟩ dX10_goOn_24 ?_
      refine g_iconst F dX10_goOn_27 (v := 0) (by decide) ?_
      refine g_istore_n (i := 2) (lv' := [(2, .int (0 : Int32)), (0, .ref (ev 0 + 65)), (1, .int l1)]) F dX10_goOn_28 rfl (by decide) rfl ?_
      refine g_lv (lv' := [(0, .ref (ev 0 + 65)), (1, .int l1), (2, .int (0 : Int32))]) ⟨rfl, rfl, rfl, trivial⟩ ?_
      exact L29 _ FU _ _ h
    · refine g_bipush F dX10_goOn_19 (v := -2) (by decide) ?_
      have hp := Prod.mk.inj (Option.some.inj h)
      exact g_iret F hr9 rfl hl9 hp.1 (by rw [hp.2]) (by decide) (by decide) dX10_goOn_21
def fX10_veer_b97 (M : MW) (l1 : Int32) (l3 : Int32) (l4 : Int32) : Option (Int32 × MW) :=
  if inb l1 6 then bd (mA M 78 l1 l3) fun M10 =>
  some (l4, M10)
  else none
def fX10_veer_l48 (l1f48 : Int32) (l2f48 : Int32) (l3f48 : Int32) (K48 : MW → Int32 → Int32 → Option (Int32 × MW)) (M : MW) (l4 : Int32) (l5 : Int32) : Option (Int32 × MW) :=
  if (40 : Int32) < l5 then fX10_veer_b97 M l1f48 l3f48 l4
  else if l4 = (-1 : Int32) then if inb l1f48 6 then bd (mA M 78 l1f48 l5) fun M13 =>
  (fX10_goes M13 l2f48).bind fun M15 =>
  (rd (M15.2 98) 6 l1f48).bind fun v17 =>
  if v17 = 0 then K48 M15 l5 (l5 + (1 : Int32))
  else K48 M15 (-1 : Int32) (l5 + (1 : Int32))
  else none
  else fX10_veer_b97 M l1f48 l3f48 l4
def fX10_veer (M : MW) (l1 : Int32) (l2 : Int32) : Option (Int32 × MW) :=
  if (fX10_isBoat M l1) = 0 then some ((-5 : Int32), M)
  else if (fX10_isNight M l2) = 0 then some ((-7 : Int32), M)
  else (rd (M.2 77) 6 l1).bind fun v5 =>
  if v5 = (-1 : Int32) then some ((-3 : Int32), M)
  else (rd (M.2 78) 6 l1).bind fun v7 =>
  lo3 (fX10_veer_l48 l1 l2 v7) FU M (-1 : Int32) (1 : Int32)
set_option maxRecDepth 100000 in
set_option maxHeartbeats 4000000 in
theorem c_X10_veer {l : Launch} {s0 : State} {D : va_G} {ev : Nat → Nat} (G0 : Gl s0 D ev) {X : XW} {M : MW} {nb : Nat} {l1 : Int32} {l2 : Int32} {r' : Int32} {M' : MW}  (h : fX10_veer M l1 l2 = some (r', M')) : CT l s0 D ev yX10_veer cX10_veer 6 (some .int) 7 0 0 [.ref (ev 0 + 65), .int l1, .int l2] (cells ev X M (nb + 1)) (QI s0 D ev r' (cells ev X M' (nb + 1))) := by
  refine ct_of G0 (by decide) (Nat.le_of_ble_eq_true rfl) ?_
  intro p9 e9 s9 m9 args9 below9 meth9 c9 F hr9 hl9 hin9 hargs9 hts9
  have U97 : ∀ (M : MW) (l1 : Int32) (l3 : Int32) (l4 : Int32), fX10_veer_b97 M l1 l3 l4 = some (r', M') → GJ p9 l e9 (rg 7 0 0) s9 m9 args9 below9 meth9 c9 (MQ below9 (QI s0 D ev r' (cells ev X M' (nb + 1))) args9 s9 0 0 (frA ev)) s0 D ev 6 0 0 97 [(0, .ref (ev 0 + 65)), (1, .int l1), (3, .int l3), (4, .int l4)] ([]) (cells ev X M (nb + 1)) := by
    intro M l1 l3 l4 h
    rw [fX10_veer_b97] at h
    refine g_aload_n (i := 0) F dX10_veer_97 rfl rfl ?_
    refine g_get_10_14 F wd_12_2 dX10_veer_98 ?_
    refine g_iload_n (i := 1) F dX10_veer_101 rfl rfl ?_
    refine g_iload_n (i := 3) F dX10_veer_102 rfl rfl ?_
    obtain ⟨h9, h⟩ := if_at h
    obtain ⟨M10, e11, h⟩ := bd_at h
    refine g_istM F rfl rfl h9 dX10_veer_103 ?_
    rw [← e11]
    refine g_iload (i := 4) F dX10_veer_104 rfl ?_
    have hp := Prod.mk.inj (Option.some.inj h)
    exact g_iret F hr9 rfl hl9 hp.1 (by rw [hp.2]) (by decide) (by decide) dX10_veer_106
  have L48 : ∀ (l1f48 : Int32) (l2f48 : Int32) (l3f48 : Int32) (N48 : Nat) (M : MW) (l4 : Int32) (l5 : Int32), lo3 (fX10_veer_l48 l1f48 l2f48 l3f48) N48 M l4 l5 = some (r', M') → GJ p9 l e9 (rg 7 0 0) s9 m9 args9 below9 meth9 c9 (MQ below9 (QI s0 D ev r' (cells ev X M' (nb + 1))) args9 s9 0 0 (frA ev)) s0 D ev 6 0 0 48 [(0, .ref (ev 0 + 65)), (1, .int l1f48), (2, .int l2f48), (3, .int l3f48), (4, .int l4), (5, .int l5)] ([]) (cells ev X M (nb + 1)) := by
    intro l1f48 l2f48 l3f48 N48
    induction N48 with
    | zero => intro M l4 l5 h; cases h
    | succ N48 ih48 =>
      intro M l4 l5 h
      change fX10_veer_l48 l1f48 l2f48 l3f48 (lo3 (fX10_veer_l48 l1f48 l2f48 l3f48) N48) M l4 l5 = some (r', M') at h
      rw [fX10_veer_l48] at h
      refine g_iload (i := 5) F dX10_veer_48 rfl ?_
      refine g_bipush F dX10_veer_50 (v := 40) (by decide) ?_
      refine g_icmp_gt (tgt := 97) F dX10_veer_52 (by decide) h (fun a21 h => ?_) (fun a21 h => ?_)
      · refine g_lv (lv' := [(0, .ref (ev 0 + 65)), (1, .int l1f48), (3, .int l3f48), (4, .int l4)]) ⟨rfl, rfl, rfl, rfl, trivial⟩ ?_
        exact U97 _ _ _ _ h
      · refine g_iload (i := 4) F dX10_veer_55 rfl ?_
        refine g_iconst F dX10_veer_57 (v := -1) (by decide) ?_
        refine g_icmp_ne (tgt := 97) F dX10_veer_58 (by decide) h (fun a20 h => ?_) (fun a20 h => ?_)
        · refine g_lv (lv' := [(0, .ref (ev 0 + 65)), (1, .int l1f48), (3, .int l3f48), (4, .int l4)]) ⟨rfl, rfl, rfl, rfl, trivial⟩ ?_
          exact U97 _ _ _ _ h
        · refine g_aload_n (i := 0) F dX10_veer_61 rfl rfl ?_
          refine g_get_10_14 F wd_12_2 dX10_veer_62 ?_
          refine g_iload_n (i := 1) F dX10_veer_65 rfl rfl ?_
          refine g_iload (i := 5) F dX10_veer_66 rfl ?_
          obtain ⟨h12, h⟩ := if_at h
          obtain ⟨M13, e14, h⟩ := bd_at h
          refine g_istM F rfl rfl h12 dX10_veer_68 ?_
          rw [← e14]
          refine g_aload_n (i := 0) F dX10_veer_69 rfl rfl ?_
          refine g_iload_n (i := 2) F dX10_veer_70 rfl rfl ?_
          obtain ⟨M15, e16, h⟩ := bind_at h
          refine g_callVV F (mcR := 0) (msR := 0) (id := 65) (cells_at (kd_hidM (show kd 65 = 10 from rfl) (by decide)) (xc_10 rfl)) (ci := 10) rfl rfl rfl (c_X10_goes G0 e16) wd_29_21 wd_29_18 wd_29_19 wd_29_20 wd_1_5 ⟨by decide, by decide⟩ (nn := 1) (by decide) (As := [.int l2f48]) rfl rfl (Nat.le_of_ble_eq_true rfl) (by decide) (by decide) ⟨by decide, by decide⟩ dX10_veer_71 ?_
          refine g_aload_n (i := 0) F dX10_veer_74 rfl rfl ?_
          refine g_get_10_49 F wd_12_22 dX10_veer_75 ?_
          refine g_iload_n (i := 1) F dX10_veer_78 rfl rfl ?_
          obtain ⟨v17, e18, h⟩ := bind_at h
          refine g_ildM F rfl rfl e18 dX10_veer_79 ?_
          refine g_if_ne (tgt := 88) F dX10_veer_80 (by decide) h (fun a19 h => ?_) (fun a19 h => ?_)
          · refine g_iconst F dX10_veer_88 (v := -1) (by decide) ?_
            refine g_istore (i := 4) (lv' := [(4, .int (-1 : Int32)), (0, .ref (ev 0 + 65)), (1, .int l1f48), (2, .int l2f48), (3, .int l3f48), (5, .int l5)]) F dX10_veer_89 (by decide) rfl ?_
            refine g_iinc (i := 5) (v := (l5 + (1 : Int32))) (lv' := [(5, .int (l5 + (1 : Int32))), (4, .int (-1 : Int32)), (0, .ref (ev 0 + 65)), (1, .int l1f48), (2, .int l2f48), (3, .int l3f48)]) F dX10_veer_91 rfl rfl (by decide) rfl ?_
            refine g_goto (tgt := 48) F dX10_veer_94 (by decide) ?_
            refine g_lv (lv' := [(0, .ref (ev 0 + 65)), (1, .int l1f48), (2, .int l2f48), (3, .int l3f48), (4, .int (-1 : Int32)), (5, .int (l5 + (1 : Int32)))]) ⟨rfl, rfl, rfl, rfl, rfl, rfl, trivial⟩ ?_
            exact ih48 _ _ _ h
          · refine g_iload (i := 5) F dX10_veer_83 rfl ?_
            refine g_goto (tgt := 89) F dX10_veer_85 (by decide) ?_
            refine g_istore (i := 4) (lv' := [(4, .int l5), (0, .ref (ev 0 + 65)), (1, .int l1f48), (2, .int l2f48), (3, .int l3f48), (5, .int l5)]) F dX10_veer_89 (by decide) rfl ?_
            refine g_iinc (i := 5) (v := (l5 + (1 : Int32))) (lv' := [(5, .int (l5 + (1 : Int32))), (4, .int l5), (0, .ref (ev 0 + 65)), (1, .int l1f48), (2, .int l2f48), (3, .int l3f48)]) F dX10_veer_91 rfl rfl (by decide) rfl ?_
            refine g_goto (tgt := 48) F dX10_veer_94 (by decide) ?_
            refine g_lv (lv' := [(0, .ref (ev 0 + 65)), (1, .int l1f48), (2, .int l2f48), (3, .int l3f48), (4, .int l5), (5, .int (l5 + (1 : Int32)))]) ⟨rfl, rfl, rfl, rfl, rfl, rfl, trivial⟩ ?_
            exact ih48 _ _ _ h
  rw [fX10_veer] at h
  refine g_lv (lv' := [(0, .ref (ev 0 + 65)), (1, .int l1), (2, .int l2)]) ⟨rfl, rfl, rfl, trivial⟩ ?_
  refine g_aload_n (i := 0) F dX10_veer_0 rfl rfl ?_
  refine g_iload_n (i := 1) F dX10_veer_1 rfl rfl ?_
  refine g_callVI F (mcR := 0) (msR := 0) (id := 65) (cells_at (kd_hidM (show kd 65 = 10 from rfl) (by decide)) (xc_10 rfl)) (ci := 10) rfl rfl rfl (c_X10_isBoat G0 (X := X) (M := M) (nb := nb) rfl) wd_23_7 wd_23_4 wd_23_5 wd_23_6 wd_1_5 ⟨by decide, by decide⟩ (nn := 1) (by decide) (As := [.int l1]) rfl rfl (Nat.le_of_ble_eq_true rfl) (by decide) (by decide) ⟨by decide, by decide⟩ dX10_veer_2 ?_
  refine g_if_ne (tgt := 11) F dX10_veer_5 (by decide) h (fun a24 h => ?_) (fun a24 h => ?_)
  · refine g_aload_n (i := 0) F dX10_veer_11 rfl rfl ?_
    refine g_iload_n (i := 2) F dX10_veer_12 rfl rfl ?_
    refine g_callVI F (mcR := 0) (msR := 0) (id := 65) (cells_at (kd_hidM (show kd 65 = 10 from rfl) (by decide)) (xc_10 rfl)) (ci := 10) rfl rfl rfl (c_X10_isNight G0 (X := X) (M := M) (nb := nb) rfl) wd_29_17 wd_29_14 wd_29_15 wd_29_16 wd_1_5 ⟨by decide, by decide⟩ (nn := 1) (by decide) (As := [.int l2]) rfl rfl (Nat.le_of_ble_eq_true rfl) (by decide) (by decide) ⟨by decide, by decide⟩ dX10_veer_13 ?_
    refine g_if_ne (tgt := 22) F dX10_veer_16 (by decide) h (fun a23 h => ?_) (fun a23 h => ?_)
    · refine g_aload_n (i := 0) F dX10_veer_22 rfl rfl ?_
      refine g_get_10_13 F wd_12_1 dX10_veer_23 ?_
      refine g_iload_n (i := 1) F dX10_veer_26 rfl rfl ?_
      obtain ⟨v5, e6, h⟩ := bind_at h
      refine g_ildM F rfl rfl e6 dX10_veer_27 ?_
      refine g_iconst F dX10_veer_28 (v := -1) (by decide) ?_
      refine g_icmp_ne (tgt := 35) F dX10_veer_29 (by decide) h (fun a22 h => ?_) (fun a22 h => ?_)
      · refine g_aload_n (i := 0) F dX10_veer_35 rfl rfl ?_
        refine g_get_10_14 F wd_12_2 dX10_veer_36 ?_
        refine g_iload_n (i := 1) F dX10_veer_39 rfl rfl ?_
        obtain ⟨v7, e8, h⟩ := bind_at h
        refine g_ildM F rfl rfl e8 dX10_veer_40 ?_
        refine g_istore_n (i := 3) (lv' := [(3, .int v7), (0, .ref (ev 0 + 65)), (1, .int l1), (2, .int l2)]) F dX10_veer_41 rfl (by decide) rfl ?_
        refine g_iconst F dX10_veer_42 (v := -1) (by decide) ?_
        refine g_istore (i := 4) (lv' := [(4, .int (-1 : Int32)), (3, .int v7), (0, .ref (ev 0 + 65)), (1, .int l1), (2, .int l2)]) F dX10_veer_43 (by decide) rfl ?_
        refine g_iconst F dX10_veer_45 (v := 1) (by decide) ?_
        refine g_istore (i := 5) (lv' := [(5, .int (1 : Int32)), (4, .int (-1 : Int32)), (3, .int v7), (0, .ref (ev 0 + 65)), (1, .int l1), (2, .int l2)]) F dX10_veer_46 (by decide) rfl ?_
        refine g_lv (lv' := [(0, .ref (ev 0 + 65)), (1, .int l1), (2, .int l2), (3, .int v7), (4, .int (-1 : Int32)), (5, .int (1 : Int32))]) ⟨rfl, rfl, rfl, rfl, rfl, rfl, trivial⟩ ?_
        exact L48 _ _ _ FU _ _ _ h
      · refine g_bipush F dX10_veer_32 (v := -3) (by decide) ?_
        have hp := Prod.mk.inj (Option.some.inj h)
        exact g_iret F hr9 rfl hl9 hp.1 (by rw [hp.2]) (by decide) (by decide) dX10_veer_34
    · refine g_bipush F dX10_veer_19 (v := -7) (by decide) ?_
      have hp := Prod.mk.inj (Option.some.inj h)
      exact g_iret F hr9 rfl hl9 hp.1 (by rw [hp.2]) (by decide) (by decide) dX10_veer_21
  · refine g_bipush F dX10_veer_8 (v := -5) (by decide) ?_
    have hp := Prod.mk.inj (Option.some.inj h)
    exact g_iret F hr9 rfl hl9 hp.1 (by rw [hp.2]) (by decide) (by decide) dX10_veer_10
def fX10_meets_l2 (M : MW) (l1f2 : Int32) (K2 : Int32 → Option Int32) (l2 : Int32) : Option Int32 :=
  if (M.1 55) ≤ l2 then some (0 : Int32)
  else (rd (M.2 102) 180 l2).bind fun v1 =>
  if v1 = l1f2 then some (1 : Int32)
  else (rd (M.2 103) 180 l2).bind fun v3 =>
  if v3 = l1f2 then some (1 : Int32)
  else K2 (l2 + (1 : Int32))
def fX10_meets (M : MW) (l1 : Int32) : Option Int32 :=
  lo1 (fX10_meets_l2 M l1) FU (0 : Int32)
set_option maxRecDepth 100000 in
set_option maxHeartbeats 4000000 in
theorem c_X10_meets {l : Launch} {s0 : State} {D : va_G} {ev : Nat → Nat} (G0 : Gl s0 D ev) {X : XW} {M : MW} {nb : Nat} {l1 : Int32} {r' : Int32}  (h : fX10_meets M l1 = some r') : CT l s0 D ev yX10_meets cX10_meets 3 (some .boolean) 0 0 0 [.ref (ev 0 + 65), .int l1] (cells ev X M (nb + 1)) (QI s0 D ev r' (cells ev X M (nb + 1))) := by
  refine ct_of G0 (by decide) (Nat.le_of_ble_eq_true rfl) ?_
  intro p9 e9 s9 m9 args9 below9 meth9 c9 F hr9 hl9 hin9 hargs9 hts9
  have L2 : ∀ (l1f2 : Int32) (N2 : Nat) (l2 : Int32), lo1 (fX10_meets_l2 M l1f2) N2 l2 = some r' → GJ p9 l e9 (rg 0 0 0) s9 m9 args9 below9 meth9 c9 (MQ below9 (QI s0 D ev r' (cells ev X M (nb + 1))) args9 s9 0 0 (frA ev)) s0 D ev 3 0 0 2 [(0, .ref (ev 0 + 65)), (1, .int l1f2), (2, .int l2)] ([]) (cells ev X M (nb + 1)) := by
    intro l1f2 N2
    induction N2 with
    | zero => intro l2 h; cases h
    | succ N2 ih2 =>
      intro l2 h
      change fX10_meets_l2 M l1f2 (lo1 (fX10_meets_l2 M l1f2) N2) l2 = some r' at h
      rw [fX10_meets_l2] at h
      refine g_iload_n (i := 2) F dX10_meets_2 rfl rfl ?_
      refine g_aload_n (i := 0) F dX10_meets_3 rfl rfl ?_
      refine g_get_10_55 F wd_30_2 dX10_meets_4 ?_
      refine g_icmp_ge (tgt := 38) F dX10_meets_7 (by decide) h (fun a7 h => ?_) (fun a7 h => ?_)
      · refine g_iconst F dX10_meets_38 (v := 0) (by decide) ?_
        exact g_iret F hr9 (by decide) hl9 (Option.some.inj h) rfl (by decide) (by decide) dX10_meets_39
      · refine g_aload_n (i := 0) F dX10_meets_10 rfl rfl ?_
        refine g_get_10_53 F wd_13_2 dX10_meets_11 ?_
        refine g_iload_n (i := 2) F dX10_meets_14 rfl rfl ?_
        obtain ⟨v1, e2, h⟩ := bind_at h
        refine g_ildM F rfl rfl e2 dX10_meets_15 ?_
        refine g_iload_n (i := 1) F dX10_meets_16 rfl rfl ?_
        refine g_icmp_eq (tgt := 30) F dX10_meets_17 (by decide) h (fun a6 h => ?_) (fun a6 h => ?_)
        · refine g_iconst F dX10_meets_30 (v := 1) (by decide) ?_
          exact g_iret F hr9 (by decide) hl9 (Option.some.inj h) rfl (by decide) (by decide) dX10_meets_31
        · refine g_aload_n (i := 0) F dX10_meets_20 rfl rfl ?_
          refine g_get_10_54 F wd_13_3 dX10_meets_21 ?_
          refine g_iload_n (i := 2) F dX10_meets_24 rfl rfl ?_
          obtain ⟨v3, e4, h⟩ := bind_at h
          refine g_ildM F rfl rfl e4 dX10_meets_25 ?_
          refine g_iload_n (i := 1) F dX10_meets_26 rfl rfl ?_
          refine g_icmp_ne (tgt := 32) F dX10_meets_27 (by decide) h (fun a5 h => ?_) (fun a5 h => ?_)
          · refine g_iinc (i := 2) (v := (l2 + (1 : Int32))) (lv' := [(2, .int (l2 + (1 : Int32))), (0, .ref (ev 0 + 65)), (1, .int l1f2)]) F dX10_meets_32 rfl rfl (by decide) rfl ?_
            refine g_goto (tgt := 2) F dX10_meets_35 (by decide) ?_
            refine g_lv (lv' := [(0, .ref (ev 0 + 65)), (1, .int l1f2), (2, .int (l2 + (1 : Int32)))]) ⟨rfl, rfl, rfl, trivial⟩ ?_
            exact ih2 _ h
          · refine g_iconst F dX10_meets_30 (v := 1) (by decide) ?_
            exact g_iret F hr9 (by decide) hl9 (Option.some.inj h) rfl (by decide) (by decide) dX10_meets_31
  rw [fX10_meets] at h
  refine g_lv (lv' := [(0, .ref (ev 0 + 65)), (1, .int l1)]) ⟨rfl, rfl, trivial⟩ ?_
  refine g_iconst F dX10_meets_0 (v := 0) (by decide) ?_
  refine g_istore_n (i := 2) (lv' := [(2, .int (0 : Int32)), (0, .ref (ev 0 + 65)), (1, .int l1)]) F dX10_meets_1 rfl (by decide) rfl ?_
  refine g_lv (lv' := [(0, .ref (ev 0 + 65)), (1, .int l1), (2, .int (0 : Int32))]) ⟨rfl, rfl, rfl, trivial⟩ ?_
  exact L2 _ FU _ h
def fX10_drop_b120 (M : MW) (l1 : Int32) (l3 : Int32) (l4 : Int32) (l5 : Int32) (l6 : Int32) : Option (Int32 × MW) :=
  if inb l1 6 then bd (mA M 77 l1 l4) fun M10 =>
  if l3 = 0 then some (l5, M10)
  else some (l6, M10)
  else none
def fX10_drop_l48 (l1f48 : Int32) (l2f48 : Int32) (l3f48 : Int32) (l4f48 : Int32) (K48 : MW → Int32 → Int32 → Int32 → Option (Int32 × MW)) (M : MW) (l5 : Int32) (l6 : Int32) (l7 : Int32) : Option (Int32 × MW) :=
  if (100 : Int32) ≤ l7 then fX10_drop_b120 M l1f48 l3f48 l4f48 l5 l6
  else if inb l1f48 6 then bd (mA M 77 l1f48 l7) fun M14 =>
  (fX10_goes M14 l2f48).bind fun M16 =>
  (rd (M16.2 67) 100 l7).bind fun v18 =>
  if v18 = (3 : Int32) then K48 M16 l5 l6 (l7 + (1 : Int32))
  else (rd (M16.2 98) 6 l1f48).bind fun v20 =>
  if v20 = 0 then (fX10_meets M16 l1f48).bind fun v22 =>
  if v22 = 0 then if l5 = (-1 : Int32) then K48 M16 l7 (l6 + (1 : Int32)) (l7 + (1 : Int32))
  else K48 M16 l5 (l6 + (1 : Int32)) (l7 + (1 : Int32))
  else K48 M16 l5 l6 (l7 + (1 : Int32))
  else K48 M16 l5 l6 (l7 + (1 : Int32))
  else none
def fX10_drop (M : MW) (l1 : Int32) (l2 : Int32) (l3 : Int32) : Option (Int32 × MW) :=
  if (fX10_isBoat M l1) = 0 then some ((-5 : Int32), M)
  else if (fX10_isNight M l2) = 0 then some ((-7 : Int32), M)
  else if (fX10_in l3 (0 : Int32) (1 : Int32)) = 0 then some ((-7 : Int32), M)
  else (rd (M.2 77) 6 l1).bind fun v7 =>
  lo4 (fX10_drop_l48 l1 l2 l3 v7) FU M (-1 : Int32) (0 : Int32) (0 : Int32)
set_option maxRecDepth 100000 in
set_option maxHeartbeats 4000000 in
theorem c_X10_drop {l : Launch} {s0 : State} {D : va_G} {ev : Nat → Nat} (G0 : Gl s0 D ev) {X : XW} {M : MW} {nb : Nat} {l1 : Int32} {l2 : Int32} {l3 : Int32} {r' : Int32} {M' : MW}  (h : fX10_drop M l1 l2 l3 = some (r', M')) : CT l s0 D ev yX10_drop cX10_drop 8 (some .int) 7 0 0 [.ref (ev 0 + 65), .int l1, .int l2, .int l3] (cells ev X M (nb + 1)) (QI s0 D ev r' (cells ev X M' (nb + 1))) := by
  refine ct_of G0 (by decide) (Nat.le_of_ble_eq_true rfl) ?_
  intro p9 e9 s9 m9 args9 below9 meth9 c9 F hr9 hl9 hin9 hargs9 hts9
  have U120 : ∀ (M : MW) (l1 : Int32) (l3 : Int32) (l4 : Int32) (l5 : Int32) (l6 : Int32), fX10_drop_b120 M l1 l3 l4 l5 l6 = some (r', M') → GJ p9 l e9 (rg 7 0 0) s9 m9 args9 below9 meth9 c9 (MQ below9 (QI s0 D ev r' (cells ev X M' (nb + 1))) args9 s9 0 0 (frA ev)) s0 D ev 8 0 0 120 [(0, .ref (ev 0 + 65)), (1, .int l1), (3, .int l3), (4, .int l4), (5, .int l5), (6, .int l6)] ([]) (cells ev X M (nb + 1)) := by
    intro M l1 l3 l4 l5 l6 h
    rw [fX10_drop_b120] at h
    refine g_aload_n (i := 0) F dX10_drop_120 rfl rfl ?_
    refine g_get_10_13 F wd_12_1 dX10_drop_121 ?_
    refine g_iload_n (i := 1) F dX10_drop_124 rfl rfl ?_
    refine g_iload (i := 4) F dX10_drop_125 rfl ?_
    obtain ⟨h9, h⟩ := if_at h
    obtain ⟨M10, e11, h⟩ := bd_at h
    refine g_istM F rfl rfl h9 dX10_drop_127 ?_
    rw [← e11]
    refine g_iload_n (i := 3) F dX10_drop_128 rfl rfl ?_
    refine g_if_ne (tgt := 137) F dX10_drop_129 (by decide) h (fun a12 h => ?_) (fun a12 h => ?_)
    · refine g_iload (i := 6) F dX10_drop_137 rfl ?_
      have hp := Prod.mk.inj (Option.some.inj h)
      exact g_iret F hr9 rfl hl9 hp.1 (by rw [hp.2]) (by decide) (by decide) dX10_drop_139
    · refine g_iload (i := 5) F dX10_drop_132 rfl ?_
      refine g_goto (tgt := 139) F dX10_drop_134 (by decide) ?_
      have hp := Prod.mk.inj (Option.some.inj h)
      exact g_iret F hr9 rfl hl9 hp.1 (by rw [hp.2]) (by decide) (by decide) dX10_drop_139
  have L48 : ∀ (l1f48 : Int32) (l2f48 : Int32) (l3f48 : Int32) (l4f48 : Int32) (N48 : Nat) (M : MW) (l5 : Int32) (l6 : Int32) (l7 : Int32), lo4 (fX10_drop_l48 l1f48 l2f48 l3f48 l4f48) N48 M l5 l6 l7 = some (r', M') → GJ p9 l e9 (rg 7 0 0) s9 m9 args9 below9 meth9 c9 (MQ below9 (QI s0 D ev r' (cells ev X M' (nb + 1))) args9 s9 0 0 (frA ev)) s0 D ev 8 0 0 48 [(0, .ref (ev 0 + 65)), (1, .int l1f48), (2, .int l2f48), (3, .int l3f48), (4, .int l4f48), (5, .int l5), (6, .int l6), (7, .int l7)] ([]) (cells ev X M (nb + 1)) := by
    intro l1f48 l2f48 l3f48 l4f48 N48
    induction N48 with
    | zero => intro M l5 l6 l7 h; cases h
    | succ N48 ih48 =>
      intro M l5 l6 l7 h
      change fX10_drop_l48 l1f48 l2f48 l3f48 l4f48 (lo4 (fX10_drop_l48 l1f48 l2f48 l3f48 l4f48) N48) M l5 l6 l7 = some (r', M') at h
      rw [fX10_drop_l48] at h
      refine g_iload (i := 7) F dX10_drop_48 rfl ?_
      refine g_bipush F dX10_drop_50 (v := 100) (by decide) ?_
      refine g_icmp_ge (tgt := 120) F dX10_drop_52 (by decide) h (fun a28 h => ?_) (fun a28 h => ?_)
      · refine g_lv (lv' := [(0, .ref (ev 0 + 65)), (1, .int l1f48), (3, .int l3f48), (4, .int l4f48), (5, .int l5), (6, .int l6)]) ⟨rfl, rfl, rfl, rfl, rfl, rfl, trivial⟩ ?_
        exact U120 _ _ _ _ _ _ h
      · refine g_aload_n (i := 0) F dX10_drop_55 rfl rfl ?_
        refine g_get_10_13 F wd_12_1 dX10_drop_56 ?_
        refine g_iload_n (i := 1) F dX10_drop_59 rfl rfl ?_
        refine g_iload (i := 7) F dX10_drop_60 rfl ?_
        obtain ⟨h13, h⟩ := if_at h
        obtain ⟨M14, e15, h⟩ := bd_at h
        refine g_istM F rfl rfl h13 dX10_drop_62 ?_
        rw [← e15]
        refine g_aload_n (i := 0) F dX10_drop_63 rfl rfl ?_
        refine g_iload_n (i := 2) F dX10_drop_64 rfl rfl ?_
        obtain ⟨M16, e17, h⟩ := bind_at h
        refine g_callVV F (mcR := 0) (msR := 0) (id := 65) (cells_at (kd_hidM (show kd 65 = 10 from rfl) (by decide)) (xc_10 rfl)) (ci := 10) rfl rfl rfl (c_X10_goes G0 e17) wd_29_21 wd_29_18 wd_29_19 wd_29_20 wd_1_5 ⟨by decide, by decide⟩ (nn := 1) (by decide) (As := [.int l2f48]) rfl rfl (Nat.le_of_ble_eq_true rfl) (by decide) (by decide) ⟨by decide, by decide⟩ dX10_drop_65 ?_
        refine g_aload_n (i := 0) F dX10_drop_68 rfl rfl ?_
        refine g_get_10_1 F wd_11_15 dX10_drop_69 ?_
        refine g_iload (i := 7) F dX10_drop_72 rfl ?_
        obtain ⟨v18, e19, h⟩ := bind_at h
        refine g_ildM F rfl rfl e19 dX10_drop_74 ?_
        refine g_iconst F dX10_drop_75 (v := 3) (by decide) ?_
        refine g_icmp_eq (tgt := 114) F dX10_drop_76 (by decide) h (fun a27 h => ?_) (fun a27 h => ?_)
        · refine g_iinc (i := 7) (v := (l7 + (1 : Int32))) (lv' := [(7, .int (l7 + (1 : Int32))), (0, .ref (ev 0 + 65)), (1, .int l1f48), (2, .int l2f48), (3, .int l3f48), (4, .int l4f48), (5, .int l5), (6, .int l6)]) F dX10_drop_114 rfl rfl (by decide) rfl ?_
          refine g_goto (tgt := 48) F dX10_drop_117 (by decide) ?_
          refine g_lv (lv' := [(0, .ref (ev 0 + 65)), (1, .int l1f48), (2, .int l2f48), (3, .int l3f48), (4, .int l4f48), (5, .int l5), (6, .int l6), (7, .int (l7 + (1 : Int32)))]) ⟨rfl, rfl, rfl, rfl, rfl, rfl, rfl, rfl, trivial⟩ ?_
          exact ih48 _ _ _ _ h
        · refine g_aload_n (i := 0) F dX10_drop_79 rfl rfl ?_
          refine g_get_10_49 F wd_12_22 dX10_drop_80 ?_
          refine g_iload_n (i := 1) F dX10_drop_83 rfl rfl ?_
          obtain ⟨v20, e21, h⟩ := bind_at h
          refine g_ildM F rfl rfl e21 dX10_drop_84 ?_
          refine g_if_ne (tgt := 114) F dX10_drop_85 (by decide) h (fun a26 h => ?_) (fun a26 h => ?_)
          · refine g_iinc (i := 7) (v := (l7 + (1 : Int32))) (lv' := [(7, .int (l7 + (1 : Int32))), (0, .ref (ev 0 + 65)), (1, .int l1f48), (2, .int l2f48), (3, .int l3f48), (4, .int l4f48), (5, .int l5), (6, .int l6)]) F dX10_drop_114 rfl rfl (by decide) rfl ?_
            refine g_goto (tgt := 48) F dX10_drop_117 (by decide) ?_
            refine g_lv (lv' := [(0, .ref (ev 0 + 65)), (1, .int l1f48), (2, .int l2f48), (3, .int l3f48), (4, .int l4f48), (5, .int l5), (6, .int l6), (7, .int (l7 + (1 : Int32)))]) ⟨rfl, rfl, rfl, rfl, rfl, rfl, rfl, rfl, trivial⟩ ?_
            exact ih48 _ _ _ _ h
          · refine g_aload_n (i := 0) F dX10_drop_88 rfl rfl ?_
            refine g_iload_n (i := 1) F dX10_drop_89 rfl rfl ?_
            obtain ⟨v22, e23, h⟩ := bind_at h
            refine g_callVI F (mcR := 0) (msR := 0) (id := 65) (cells_at (kd_hidM (show kd 65 = 10 from rfl) (by decide)) (xc_10 rfl)) (ci := 10) rfl rfl rfl (c_X10_meets G0 e23) wd_34_16 wd_34_13 wd_34_14 wd_34_15 wd_1_5 ⟨by decide, by decide⟩ (nn := 1) (by decide) (As := [.int l1f48]) rfl rfl (Nat.le_of_ble_eq_true rfl) (by decide) (by decide) ⟨by decide, by decide⟩ dX10_drop_90 ?_
            refine g_if_ne (tgt := 114) F dX10_drop_93 (by decide) h (fun a25 h => ?_) (fun a25 h => ?_)
            · refine g_iinc (i := 7) (v := (l7 + (1 : Int32))) (lv' := [(7, .int (l7 + (1 : Int32))), (0, .ref (ev 0 + 65)), (1, .int l1f48), (2, .int l2f48), (3, .int l3f48), (4, .int l4f48), (5, .int l5), (6, .int l6)]) F dX10_drop_114 rfl rfl (by decide) rfl ?_
              refine g_goto (tgt := 48) F dX10_drop_117 (by decide) ?_
              refine g_lv (lv' := [(0, .ref (ev 0 + 65)), (1, .int l1f48), (2, .int l2f48), (3, .int l3f48), (4, .int l4f48), (5, .int l5), (6, .int l6), (7, .int (l7 + (1 : Int32)))]) ⟨rfl, rfl, rfl, rfl, rfl, rfl, rfl, rfl, trivial⟩ ?_
              exact ih48 _ _ _ _ h
            · refine g_iload (i := 5) F dX10_drop_96 rfl ?_
              refine g_iconst F dX10_drop_98 (v := -1) (by decide) ?_
              refine g_icmp_ne (tgt := 107) F dX10_drop_99 (by decide) h (fun a24 h => ?_) (fun a24 h => ?_)
              · refine g_iload (i := 5) F dX10_drop_107 rfl ?_
                refine g_istore (i := 5) (lv' := [(5, .int l5), (0, .ref (ev 0 + 65)), (1, .int l1f48), (2, .int l2f48), (3, .int l3f48), (4, .int l4f48), (6, .int l6), (7, .int l7)]) F dX10_drop_109 (by decide) rfl ?_
                refine g_iinc (i := 6) (v := (l6 + (1 : Int32))) (lv' := [(6, .int (l6 + (1 : Int32))), (5, .int l5), (0, .ref (ev 0 + 65)), (1, .int l1f48), (2, .int l2f48), (3, .int l3f48), (4, .int l4f48), (7, .int l7)]) F dX10_drop_111 rfl rfl (by decide) rfl ?_
                refine g_iinc (i := 7) (v := (l7 + (1 : Int32))) (lv' := [(7, .int (l7 + (1 : Int32))), (6, .int (l6 + (1 : Int32))), (5, .int l5), (0, .ref (ev 0 + 65)), (1, .int l1f48), (2, .int l2f48), (3, .int l3f48), (4, .int l4f48)]) F dX10_drop_114 rfl rfl (by decide) rfl ?_
                refine g_goto (tgt := 48) F dX10_drop_117 (by decide) ?_
                refine g_lv (lv' := [(0, .ref (ev 0 + 65)), (1, .int l1f48), (2, .int l2f48), (3, .int l3f48), (4, .int l4f48), (5, .int l5), (6, .int (l6 + (1 : Int32))), (7, .int (l7 + (1 : Int32)))]) ⟨rfl, rfl, rfl, rfl, rfl, rfl, rfl, rfl, trivial⟩ ?_
                exact ih48 _ _ _ _ h
              · refine g_iload (i := 7) F dX10_drop_102 rfl ?_
                refine g_goto (tgt := 109) F dX10_drop_104 (by decide) ?_
                refine g_istore (i := 5) (lv' := [(5, .int l7), (0, .ref (ev 0 + 65)), (1, .int l1f48), (2, .int l2f48), (3, .int l3f48), (4, .int l4f48), (6, .int l6), (7, .int l7)]) F dX10_drop_109 (by decide) rfl ?_
                refine g_iinc (i := 6) (v := (l6 + (1 : Int32))) (lv' := [(6, .int (l6 + (1 : Int32))), (5, .int l7), (0, .ref (ev 0 + 65)), (1, .int l1f48), (2, .int l2f48), (3, .int l3f48), (4, .int l4f48), (7, .int l7)]) F dX10_drop_111 rfl rfl (by decide) rfl ?_
                refine g_iinc (i := 7) (v := (l7 + (1 : Int32))) (lv' := [(7, .int (l7 + (1 : Int32))), (6, .int (l6 + (1 : Int32))), (5, .int l7), (0, .ref (ev 0 + 65)), (1, .int l1f48), (2, .int l2f48), (3, .int l3f48), (4, .int l4f48)]) F dX10_drop_114 rfl rfl (by decide) rfl ?_
                refine g_goto (tgt := 48) F dX10_drop_117 (by decide) ?_
                refine g_lv (lv' := [(0, .ref (ev 0 + 65)), (1, .int l1f48), (2, .int l2f48), (3, .int l3f48), (4, .int l4f48), (5, .int l7), (6, .int (l6 + (1 : Int32))), (7, .int (l7 + (1 : Int32)))]) ⟨rfl, rfl, rfl, rfl, rfl, rfl, rfl, rfl, trivial⟩ ?_
                exact ih48 _ _ _ _ h
  rw [fX10_drop] at h
  refine g_lv (lv' := [(0, .ref (ev 0 + 65)), (1, .int l1), (2, .int l2), (3, .int l3)]) ⟨rfl, rfl, rfl, rfl, trivial⟩ ?_
  refine g_aload_n (i := 0) F dX10_drop_0 rfl rfl ?_
  refine g_iload_n (i := 1) F dX10_drop_1 rfl rfl ?_
  refine g_callVI F (mcR := 0) (msR := 0) (id := 65) (cells_at (kd_hidM (show kd 65 = 10 from rfl) (by decide)) (xc_10 rfl)) (ci := 10) rfl rfl rfl (c_X10_isBoat G0 (X := X) (M := M) (nb := nb) rfl) wd_23_7 wd_23_4 wd_23_5 wd_23_6 wd_1_5 ⟨by decide, by decide⟩ (nn := 1) (by decide) (As := [.int l1]) rfl rfl (Nat.le_of_ble_eq_true rfl) (by decide) (by decide) ⟨by decide, by decide⟩ dX10_drop_2 ?_
  refine g_if_ne (tgt := 11) F dX10_drop_5 (by decide) h (fun a31 h => ?_) (fun a31 h => ?_)
  · refine g_aload_n (i := 0) F dX10_drop_11 rfl rfl ?_
    refine g_iload_n (i := 2) F dX10_drop_12 rfl rfl ?_
    refine g_callVI F (mcR := 0) (msR := 0) (id := 65) (cells_at (kd_hidM (show kd 65 = 10 from rfl) (by decide)) (xc_10 rfl)) (ci := 10) rfl rfl rfl (c_X10_isNight G0 (X := X) (M := M) (nb := nb) rfl) wd_29_17 wd_29_14 wd_29_15 wd_29_16 wd_1_5 ⟨by decide, by decide⟩ (nn := 1) (by decide) (As := [.int l2]) rfl rfl (Nat.le_of_ble_eq_true rfl) (by decide) (by decide) ⟨by decide, by decide⟩ dX10_drop_13 ?_
    refine g_if_eq (tgt := 28) F dX10_drop_16 (by decide) h (fun a30 h => ?_) (fun a30 h => ?_)
    · refine g_bipush F dX10_drop_28 (v := -7) (by decide) ?_
      have hp := Prod.mk.inj (Option.some.inj h)
      exact g_iret F hr9 rfl hl9 hp.1 (by rw [hp.2]) (by decide) (by decide) dX10_drop_30
    · refine g_iload_n (i := 3) F dX10_drop_19 rfl rfl ?_
      refine g_iconst F dX10_drop_20 (v := 0) (by decide) ?_
      refine g_iconst F dX10_drop_21 (v := 1) (by decide) ?_
      refine g_callSI F (mcR := 0) (msR := 0) (c_X10_in G0 (X := X) (M := M) (nb := nb) rfl) wd_13_21 wd_13_19 wd_13_20 wd_1_5 ⟨by decide, by decide⟩ (nn := 3) (by decide) (As := [.int l3, .int (0 : Int32), .int (1 : Int32)]) rfl rfl (Nat.le_of_ble_eq_true rfl) (by decide) (by decide) ⟨by decide, by decide⟩ dX10_drop_22 ?_
      refine g_if_ne (tgt := 31) F dX10_drop_25 (by decide) h (fun a29 h => ?_) (fun a29 h => ?_)
      · refine g_aload_n (i := 0) F dX10_drop_31 rfl rfl ?_
        refine g_get_10_13 F wd_12_1 dX10_drop_32 ?_
        refine g_iload_n (i := 1) F dX10_drop_35 rfl rfl ?_
        obtain ⟨v7, e8, h⟩ := bind_at h
        refine g_ildM F rfl rfl e8 dX10_drop_36 ?_
        refine g_istore (i := 4) (lv' := [(4, .int v7), (0, .ref (ev 0 + 65)), (1, .int l1), (2, .int l2), (3, .int l3)]) F dX10_drop_37 (by decide) rfl ?_
        refine g_iconst F dX10_drop_39 (v := -1) (by decide) ?_
        refine g_istore (i := 5) (lv' := [(5, .int (-1 : Int32)), (4, .int v7), (0, .ref (ev 0 + 65)), (1, .int l1), (2, .int l2), (3, .int l3)]) F dX10_drop_40 (by decide) rfl ?_
        refine g_iconst F dX10_drop_42 (v := 0) (by decide) ?_
        refine g_istore (i := 6) (lv' := [(6, .int (0 : Int32)), (5, .int (-1 : Int32)), (4, .int v7), (0, .ref (ev 0 + 65)), (1, .int l1), (2, .int l2), (3, .int l3)]) F dX10_drop_43 (by decide) rfl ?_
        refine g_iconst F dX10_drop_45 (v := 0) (by decide) ?_
        refine g_istore (i := 7) (lv' := [(7, .int (0 : Int32)), (6, .int (0 : Int32)), (5, .int (-1 : Int32)), (4, .int v7), (0, .ref (ev 0 + 65)), (1, .int l1), (2, .int l2), (3, .int l3)]) F dX10_drop_46 (by decide) rfl ?_
        refine g_lv (lv' := [(0, .ref (ev 0 + 65)), (1, .int l1), (2, .int l2), (3, .int l3), (4, .int v7), (5, .int (-1 : Int32)), (6, .int (0 : Int32)), (7, .int (0 : Int32))]) ⟨rfl, rfl, rfl, rfl, rfl, rfl, rfl, rfl, trivial⟩ ?_
        exact L48 _ _ _ _ FU _ _ _ _ h
      · refine g_bipush F dX10_drop_28 (v := -7) (by decide) ?_
        have hp := Prod.mk.inj (Option.some.inj h)
        exact g_iret F hr9 rfl hl9 hp.1 (by rw [hp.2]) (by decide) (by decide) dX10_drop_30
  · refine g_bipush F dX10_drop_8 (v := -5) (by decide) ?_
    have hp := Prod.mk.inj (Option.some.inj h)
    exact g_iret F hr9 rfl hl9 hp.1 (by rw [hp.2]) (by decide) (by decide) dX10_drop_10
def fX10_ringsOf_l5 (M : MW) (l1f5 : Int32) (l2f5 : Int32) (K5 : Int32 → Int32 → Option Int32) (l3 : Int32) (l4 : Int32) : Option Int32 :=
  if (8 : Int32) ≤ l4 then some l3
  else (rd (M.2 77) 6 l1f5).bind fun v1 =>
  (rd (M.2 77) 6 l1f5).bind fun v3 =>
  (rd (M.2 78) 6 l1f5).bind fun v5 =>
  (fX10_farOff M v3 (M.1 7) v5).bind fun v7 =>
  (fX10_lies M v1 l4 v7).bind fun v9 =>
  (rd (M.2 77) 6 l2f5).bind fun v11 =>
  (rd (M.2 77) 6 l2f5).bind fun v13 =>
  (rd (M.2 78) 6 l2f5).bind fun v15 =>
  (fX10_farOff M v13 (M.1 7) v15).bind fun v17 =>
  (fX10_lies M v11 l4 v17).bind fun v19 =>
  if v9 = v19 then bd (l3 ||| ((1 : Int32) <<< (l4 &&& (31 : Int32)))) fun v23 =>
  K5 v23 (l4 + (1 : Int32))
  else bd (l3 ||| (0 : Int32)) fun v21 =>
  K5 v21 (l4 + (1 : Int32))
def fX10_ringsOf (M : MW) (l1 : Int32) (l2 : Int32) : Option Int32 :=
  lo2 (fX10_ringsOf_l5 M l1 l2) FU (0 : Int32) (0 : Int32)
set_option maxRecDepth 100000 in
set_option maxHeartbeats 4000000 in
theorem c_X10_ringsOf {l : Launch} {s0 : State} {D : va_G} {ev : Nat → Nat} (G0 : Gl s0 D ev) {X : XW} {M : MW} {nb : Nat} {l1 : Int32} {l2 : Int32} {r' : Int32}  (h : fX10_ringsOf M l1 l2 = some r') : CT l s0 D ev yX10_ringsOf cX10_ringsOf 7 (some .int) 3 0 0 [.ref (ev 0 + 65), .int l1, .int l2] (cells ev X M (nb + 1)) (QI s0 D ev r' (cells ev X M (nb + 1))) := by
  refine ct_of G0 (by decide) (Nat.le_of_ble_eq_true rfl) ?_
  intro p9 e9 s9 m9 args9 below9 meth9 c9 F hr9 hl9 hin9 hargs9 hts9
  have L5 : ∀ (l1f5 : Int32) (l2f5 : Int32) (N5 : Nat) (l3 : Int32) (l4 : Int32), lo2 (fX10_ringsOf_l5 M l1f5 l2f5) N5 l3 l4 = some r' → GJ p9 l e9 (rg 3 0 0) s9 m9 args9 below9 meth9 c9 (MQ below9 (QI s0 D ev r' (cells ev X M (nb + 1))) args9 s9 0 0 (frA ev)) s0 D ev 7 0 0 5 [(0, .ref (ev 0 + 65)), (1, .int l1f5), (2, .int l2f5), (3, .int l3), (4, .int l4)] ([]) (cells ev X M (nb + 1)) := by
    intro l1f5 l2f5 N5
    induction N5 with
    | zero => intro l3 l4 h; cases h
    | succ N5 ih5 =>
      intro l3 l4 h
      change fX10_ringsOf_l5 M l1f5 l2f5 (lo2 (fX10_ringsOf_l5 M l1f5 l2f5) N5) l3 l4 = some r' at h
      rw [fX10_ringsOf_l5] at h
      refine g_iload (i := 4) F dX10_ringsOf_5 rfl ?_
      refine g_bipush F dX10_ringsOf_7 (v := 8) (by decide) ?_
      refine g_icmp_ge (tgt := 104) F dX10_ringsOf_9 (by decide) h (fun a26 h => ?_) (fun a26 h => ?_)
      · refine g_iload_n (i := 3) F dX10_ringsOf_104 rfl rfl ?_
        exact g_iret F hr9 rfl hl9 (Option.some.inj h) rfl (by decide) (by decide) dX10_ringsOf_105
      · refine g_aload_n (i := 0) F dX10_ringsOf_12 rfl rfl ?_
        refine g_aload_n (i := 0) F dX10_ringsOf_13 rfl rfl ?_
        refine g_get_10_13 F wd_12_1 dX10_ringsOf_14 ?_
        refine g_iload_n (i := 1) F dX10_ringsOf_17 rfl rfl ?_
        obtain ⟨v1, e2, h⟩ := bind_at h
        refine g_ildM F rfl rfl e2 dX10_ringsOf_18 ?_
        refine g_iload (i := 4) F dX10_ringsOf_19 rfl ?_
        refine g_aload_n (i := 0) F dX10_ringsOf_21 rfl rfl ?_
        refine g_aload_n (i := 0) F dX10_ringsOf_22 rfl rfl ?_
        refine g_get_10_13 F wd_12_1 dX10_ringsOf_23 ?_
        refine g_iload_n (i := 1) F dX10_ringsOf_26 rfl rfl ?_
        obtain ⟨v3, e4, h⟩ := bind_at h
        refine g_ildM F rfl rfl e4 dX10_ringsOf_27 ?_
        refine g_aload_n (i := 0) F dX10_ringsOf_28 rfl rfl ?_
        refine g_get_10_7 F wd_18_17 dX10_ringsOf_29 ?_
        refine g_aload_n (i := 0) F dX10_ringsOf_32 rfl rfl ?_
        refine g_get_10_14 F wd_12_2 dX10_ringsOf_33 ?_
        refine g_iload_n (i := 1) F dX10_ringsOf_36 rfl rfl ?_
        obtain ⟨v5, e6, h⟩ := bind_at h
        refine g_ildM F rfl rfl e6 dX10_ringsOf_37 ?_
        obtain ⟨v7, e8, h⟩ := bind_at h
        refine g_callVI F (mcR := 0) (msR := 0) (id := 65) (cells_at (kd_hidM (show kd 65 = 10 from rfl) (by decide)) (xc_10 rfl)) (ci := 10) rfl rfl rfl (c_X10_farOff G0 e8) wd_26_20 wd_26_17 wd_26_18 wd_26_19 wd_1_5 ⟨by decide, by decide⟩ (nn := 3) (by decide) (As := [.int v3, .int (M.1 7), .int v5]) rfl rfl (Nat.le_of_ble_eq_true rfl) (by decide) (by decide) ⟨by decide, by decide⟩ dX10_ringsOf_38 ?_
        obtain ⟨v9, e10, h⟩ := bind_at h
        refine g_callVI F (mcR := 0) (msR := 0) (id := 65) (cells_at (kd_hidM (show kd 65 = 10 from rfl) (by decide)) (xc_10 rfl)) (ci := 10) rfl rfl rfl (c_X10_lies G0 e10) wd_31_4 wd_31_1 wd_31_2 wd_31_3 wd_1_5 ⟨by decide, by decide⟩ (nn := 3) (by decide) (As := [.int v1, .int l4, .int v7]) rfl rfl (Nat.le_of_ble_eq_true rfl) (by decide) (by decide) ⟨by decide, by decide⟩ dX10_ringsOf_41 ?_
        refine g_istore (i := 5) (lv' := [(5, .int v9), (0, .ref (ev 0 + 65)), (1, .int l1f5), (2, .int l2f5), (3, .int l3), (4, .int l4)]) F dX10_ringsOf_44 (by decide) rfl ?_
        refine g_aload_n (i := 0) F dX10_ringsOf_46 rfl rfl ?_
        refine g_aload_n (i := 0) F dX10_ringsOf_47 rfl rfl ?_
        refine g_get_10_13 F wd_12_1 dX10_ringsOf_48 ?_
        refine g_iload_n (i := 2) F dX10_ringsOf_51 rfl rfl ?_
        obtain ⟨v11, e12, h⟩ := bind_at h
        refine g_ildM F rfl rfl e12 dX10_ringsOf_52 ?_
        refine g_iload (i := 4) F dX10_ringsOf_53 rfl ?_
        refine g_aload_n (i := 0) F dX10_ringsOf_55 rfl rfl ?_
        refine g_aload_n (i := 0) F dX10_ringsOf_56 rfl rfl ?_
        refine g_get_10_13 F wd_12_1 dX10_ringsOf_57 ?_
        refine g_iload_n (i := 2) F dX10_ringsOf_60 rfl rfl ?_
        obtain ⟨v13, e14, h⟩ := bind_at h
        refine g_ildM F rfl rfl e14 dX10_ringsOf_61 ?_
        refine g_aload_n (i := 0) F dX10_ringsOf_62 rfl rfl ?_
        refine g_get_10_7 F wd_18_17 dX10_ringsOf_63 ?_
        refine g_aload_n (i := 0) F dX10_ringsOf_66 rfl rfl ?_
        refine g_get_10_14 F wd_12_2 dX10_ringsOf_67 ?_
        refine g_iload_n (i := 2) F dX10_ringsOf_70 rfl rfl ?_
        obtain ⟨v15, e16, h⟩ := bind_at h
        refine g_ildM F rfl rfl e16 dX10_ringsOf_71 ?_
        obtain ⟨v17, e18, h⟩ := bind_at h
        refine g_callVI F (mcR := 0) (msR := 0) (id := 65) (cells_at (kd_hidM (show kd 65 = 10 from rfl) (by decide)) (xc_10 rfl)) (ci := 10) rfl rfl rfl (c_X10_farOff G0 e18) wd_26_20 wd_26_17 wd_26_18 wd_26_19 wd_1_5 ⟨by decide, by decide⟩ (nn := 3) (by decide) (As := [.int v13, .int (M.1 7), .int v15]) rfl rfl (Nat.le_of_ble_eq_true rfl) (by decide) (by decide) ⟨by decide, by decide⟩ dX10_ringsOf_72 ?_
        obtain ⟨v19, e20, h⟩ := bind_at h
        refine g_callVI F (mcR := 0) (msR := 0) (id := 65) (cells_at (kd_hidM (show kd 65 = 10 from rfl) (by decide)) (xc_10 rfl)) (ci := 10) rfl rfl rfl (c_X10_lies G0 e20) wd_31_4 wd_31_1 wd_31_2 wd_31_3 wd_1_5 ⟨by decide, by decide⟩ (nn := 3) (by decide) (As := [.int v11, .int l4, .int v17]) rfl rfl (Nat.le_of_ble_eq_true rfl) (by decide) (by decide) ⟨by decide, by decide⟩ dX10_ringsOf_75 ?_
        refine g_istore (i := 6) (lv' := [(6, .int v19), (5, .int v9), (0, .ref (ev 0 + 65)), (1, .int l1f5), (2, .int l2f5), (3, .int l3), (4, .int l4)]) F dX10_ringsOf_78 (by decide) rfl ?_
        refine g_iload_n (i := 3) F dX10_ringsOf_80 rfl rfl ?_
        refine g_iload (i := 5) F dX10_ringsOf_81 rfl ?_
        refine g_iload (i := 6) F dX10_ringsOf_83 rfl ?_
        refine g_icmp_ne (tgt := 95) F dX10_ringsOf_85 (by decide) h (fun a25 h => ?_) (fun a25 h => ?_)
        · refine g_iconst F dX10_ringsOf_95 (v := 0) (by decide) ?_
          refine g_ior F dX10_ringsOf_96 ?_
          refine g_topi F h (fun v21 e22 h => ?_)
          refine g_istore_n (i := 3) (lv' := [(3, .int v21), (6, .int v19), (5, .int v9), (0, .ref (ev 0 + 65)), (1, .int l1f5), (2, .int l2f5), (4, .int l4)]) F dX10_ringsOf_97 rfl (by decide) rfl ?_
          refine g_iinc (i := 4) (v := (l4 + (1 : Int32))) (lv' := [(4, .int (l4 + (1 : Int32))), (3, .int v21), (6, .int v19), (5, .int v9), (0, .ref (ev 0 + 65)), (1, .int l1f5), (2, .int l2f5)]) F dX10_ringsOf_98 rfl rfl (by decide) rfl ?_
          refine g_goto (tgt := 5) F dX10_ringsOf_101 (by decide) ?_
          refine g_lv (lv' := [(0, .ref (ev 0 + 65)), (1, .int l1f5), (2, .int l2f5), (3, .int v21), (4, .int (l4 + (1 : Int32)))]) ⟨rfl, rfl, rfl, rfl, rfl, trivial⟩ ?_
          exact ih5 _ _ h
        · refine g_iconst F dX10_ringsOf_88 (v := 1) (by decide) ?_
          refine g_iload (i := 4) F dX10_ringsOf_89 rfl ?_
          refine g_ishl F dX10_ringsOf_91 ?_
          refine g_goto (tgt := 96) F dX10_ringsOf_92 (by decide) ?_
          refine g_ior F dX10_ringsOf_96 ?_
          refine g_topi F h (fun v23 e24 h => ?_)
          refine g_istore_n (i := 3) (lv' := [(3, .int v23), (6, .int v19), (5, .int v9), (0, .ref (ev 0 + 65)), (1, .int l1f5), (2, .int l2f5), (4, .int l4)]) F dX10_ringsOf_97 rfl (by decide) rfl ?_
          refine g_iinc (i := 4) (v := (l4 + (1 : Int32))) (lv' := [(4, .int (l4 + (1 : Int32))), (3, .int v23), (6, .int v19), (5, .int v9), (0, .ref (ev 0 + 65)), (1, .int l1f5), (2, .int l2f5)]) F dX10_ringsOf_98 rfl rfl (by decide) rfl ?_
          refine g_goto (tgt := 5) F dX10_ringsOf_101 (by decide) ?_
          refine g_lv (lv' := [(0, .ref (ev 0 + 65)), (1, .int l1f5), (2, .int l2f5), (3, .int v23), (4, .int (l4 + (1 : Int32)))]) ⟨rfl, rfl, rfl, rfl, rfl, trivial⟩ ?_
          exact ih5 _ _ h
  rw [fX10_ringsOf] at h
  refine g_lv (lv' := [(0, .ref (ev 0 + 65)), (1, .int l1), (2, .int l2)]) ⟨rfl, rfl, rfl, trivial⟩ ?_
  refine g_iconst F dX10_ringsOf_0 (v := 0) (by decide) ?_
  refine g_istore_n (i := 3) (lv' := [(3, .int (0 : Int32)), (0, .ref (ev 0 + 65)), (1, .int l1), (2, .int l2)]) F dX10_ringsOf_1 rfl (by decide) rfl ?_
  refine g_iconst F dX10_ringsOf_2 (v := 0) (by decide) ?_
  refine g_istore (i := 4) (lv' := [(4, .int (0 : Int32)), (3, .int (0 : Int32)), (0, .ref (ev 0 + 65)), (1, .int l1), (2, .int l2)]) F dX10_ringsOf_3 (by decide) rfl ?_
  refine g_lv (lv' := [(0, .ref (ev 0 + 65)), (1, .int l1), (2, .int l2), (3, .int (0 : Int32)), (4, .int (0 : Int32))]) ⟨rfl, rfl, rfl, rfl, rfl, trivial⟩ ?_
  exact L5 _ _ FU _ _ h
def fX10_rings (M : MW) (l1 : Int32) (l2 : Int32) : Option Int32 :=
  if (fX10_isBoat M l1) = 0 then some (-5 : Int32)
  else if (fX10_isBoat M l2) = 0 then some (-5 : Int32)
  else if l1 = l2 then some (-5 : Int32)
  else (rd (M.2 77) 6 l1).bind fun v5 =>
  if v5 = (-1 : Int32) then some (-3 : Int32)
  else (rd (M.2 77) 6 l2).bind fun v7 =>
  if v7 = (-1 : Int32) then some (-3 : Int32)
  else (fX10_ringsOf M l1 l2).bind fun v9 =>
  some v9
set_option maxRecDepth 100000 in
set_option maxHeartbeats 4000000 in
theorem c_X10_rings {l : Launch} {s0 : State} {D : va_G} {ev : Nat → Nat} (G0 : Gl s0 D ev) {X : XW} {M : MW} {nb : Nat} {l1 : Int32} {l2 : Int32} {r' : Int32}  (h : fX10_rings M l1 l2 = some r') : CT l s0 D ev yX10_rings cX10_rings 3 (some .int) 4 0 0 [.ref (ev 0 + 65), .int l1, .int l2] (cells ev X M (nb + 1)) (QI s0 D ev r' (cells ev X M (nb + 1))) := by
  refine ct_of G0 (by decide) (Nat.le_of_ble_eq_true rfl) ?_
  intro p9 e9 s9 m9 args9 below9 meth9 c9 F hr9 hl9 hin9 hargs9 hts9
  rw [fX10_rings] at h
  refine g_lv (lv' := [(0, .ref (ev 0 + 65)), (1, .int l1), (2, .int l2)]) ⟨rfl, rfl, rfl, trivial⟩ ?_
  refine g_aload_n (i := 0) F dX10_rings_0 rfl rfl ?_
  refine g_iload_n (i := 1) F dX10_rings_1 rfl rfl ?_
  refine g_callVI F (mcR := 0) (msR := 0) (id := 65) (cells_at (kd_hidM (show kd 65 = 10 from rfl) (by decide)) (xc_10 rfl)) (ci := 10) rfl rfl rfl (c_X10_isBoat G0 (X := X) (M := M) (nb := nb) rfl) wd_23_7 wd_23_4 wd_23_5 wd_23_6 wd_1_5 ⟨by decide, by decide⟩ (nn := 1) (by decide) (As := [.int l1]) rfl rfl (Nat.le_of_ble_eq_true rfl) (by decide) (by decide) ⟨by decide, by decide⟩ dX10_rings_2 ?_
  refine g_if_eq (tgt := 21) F dX10_rings_5 (by decide) h (fun a15 h => ?_) (fun a15 h => ?_)
  · refine g_bipush F dX10_rings_21 (v := -5) (by decide) ?_
    exact g_iret F hr9 rfl hl9 (Option.some.inj h) rfl (by decide) (by decide) dX10_rings_23
  · refine g_aload_n (i := 0) F dX10_rings_8 rfl rfl ?_
    refine g_iload_n (i := 2) F dX10_rings_9 rfl rfl ?_
    refine g_callVI F (mcR := 0) (msR := 0) (id := 65) (cells_at (kd_hidM (show kd 65 = 10 from rfl) (by decide)) (xc_10 rfl)) (ci := 10) rfl rfl rfl (c_X10_isBoat G0 (X := X) (M := M) (nb := nb) rfl) wd_23_7 wd_23_4 wd_23_5 wd_23_6 wd_1_5 ⟨by decide, by decide⟩ (nn := 1) (by decide) (As := [.int l2]) rfl rfl (Nat.le_of_ble_eq_true rfl) (by decide) (by decide) ⟨by decide, by decide⟩ dX10_rings_10 ?_
    refine g_if_eq (tgt := 21) F dX10_rings_13 (by decide) h (fun a14 h => ?_) (fun a14 h => ?_)
    · refine g_bipush F dX10_rings_21 (v := -5) (by decide) ?_
      exact g_iret F hr9 rfl hl9 (Option.some.inj h) rfl (by decide) (by decide) dX10_rings_23
    · refine g_iload_n (i := 1) F dX10_rings_16 rfl rfl ?_
      refine g_iload_n (i := 2) F dX10_rings_17 rfl rfl ?_
      refine g_icmp_ne (tgt := 24) F dX10_rings_18 (by decide) h (fun a13 h => ?_) (fun a13 h => ?_)
      · refine g_aload_n (i := 0) F dX10_rings_24 rfl rfl ?_
        refine g_get_10_13 F wd_12_1 dX10_rings_25 ?_
        refine g_iload_n (i := 1) F dX10_rings_28 rfl rfl ?_
        obtain ⟨v5, e6, h⟩ := bind_at h
        refine g_ildM F rfl rfl e6 dX10_rings_29 ?_
        refine g_iconst F dX10_rings_30 (v := -1) (by decide) ?_
        refine g_icmp_eq (tgt := 44) F dX10_rings_31 (by decide) h (fun a12 h => ?_) (fun a12 h => ?_)
        · refine g_bipush F dX10_rings_44 (v := -3) (by decide) ?_
          refine g_goto (tgt := 55) F dX10_rings_46 (by decide) ?_
          exact g_iret F hr9 rfl hl9 (Option.some.inj h) rfl (by decide) (by decide) dX10_rings_55
        · refine g_aload_n (i := 0) F dX10_rings_34 rfl rfl ?_
          refine g_get_10_13 F wd_12_1 dX10_rings_35 ?_
          refine g_iload_n (i := 2) F dX10_rings_38 rfl rfl ?_
          obtain ⟨v7, e8, h⟩ := bind_at h
          refine g_ildM F rfl rfl e8 dX10_rings_39 ?_
          refine g_iconst F dX10_rings_40 (v := -1) (by decide) ?_
          refine g_icmp_ne (tgt := 49) F dX10_rings_41 (by decide) h (fun a11 h => ?_) (fun a11 h => ?_)
          · refine g_aload_n (i := 0) F dX10_rings_49 rfl rfl ?_
            refine g_iload_n (i := 1) F dX10_rings_50 rfl rfl ?_
            refine g_iload_n (i := 2) F dX10_rings_51 rfl rfl ?_
            obtain ⟨v9, e10, h⟩ := bind_at h
            refine g_callVI F (mcR := 0) (msR := 0) (id := 65) (cells_at (kd_hidM (show kd 65 = 10 from rfl) (by decide)) (xc_10 rfl)) (ci := 10) rfl rfl rfl (c_X10_ringsOf G0 e10) wd_35_8 wd_35_5 wd_35_6 wd_35_7 wd_1_5 ⟨by decide, by decide⟩ (nn := 2) (by decide) (As := [.int l1, .int l2]) rfl rfl (Nat.le_of_ble_eq_true rfl) (by decide) (by decide) ⟨by decide, by decide⟩ dX10_rings_52 ?_
            exact g_iret F hr9 rfl hl9 (Option.some.inj h) rfl (by decide) (by decide) dX10_rings_55
          · refine g_bipush F dX10_rings_44 (v := -3) (by decide) ?_
            refine g_goto (tgt := 55) F dX10_rings_46 (by decide) ?_
            exact g_iret F hr9 rfl hl9 (Option.some.inj h) rfl (by decide) (by decide) dX10_rings_55
      · refine g_bipush F dX10_rings_21 (v := -5) (by decide) ?_
        exact g_iret F hr9 rfl hl9 (Option.some.inj h) rfl (by decide) (by decide) dX10_rings_23
def fX10_late_l12 (M : MW) (l1f12 : Int32) (K2 : Int32 → Option Int32) (K12 : Int32 → Option Int32) (l2 : Int32) : Option Int32 :=
  if l1f12 ≤ l2 then K2 (l1f12 + (1 : Int32))
  else (rd (M.2 77) 6 l1f12).bind fun v1 =>
  if v1 = (-1 : Int32) then K12 (l2 + (1 : Int32))
  else (rd (M.2 77) 6 l2).bind fun v3 =>
  if v3 = (-1 : Int32) then K12 (l2 + (1 : Int32))
  else (fX10_ringsOf M l1f12 l2).bind fun v5 =>
  if v5 = 0 then K12 (l2 + (1 : Int32))
  else some l1f12
def fX10_late_l2 (M : MW) (K2 : Int32 → Option Int32) (l1 : Int32) : Option Int32 :=
  if (M.1 8) ≤ l1 then some (-1 : Int32)
  else lo1 (fX10_late_l12 M l1 K2) FU (0 : Int32)
def fX10_late (M : MW) : Option Int32 :=
  lo1 (fX10_late_l2 M) FU (1 : Int32)
set_option maxRecDepth 100000 in
set_option maxHeartbeats 4000000 in
theorem c_X10_late {l : Launch} {s0 : State} {D : va_G} {ev : Nat → Nat} (G0 : Gl s0 D ev) {X : XW} {M : MW} {nb : Nat}  {r' : Int32}  (h : fX10_late M = some r') : CT l s0 D ev yX10_late cX10_late 3 (some .int) 4 0 0 [.ref (ev 0 + 65)] (cells ev X M (nb + 1)) (QI s0 D ev r' (cells ev X M (nb + 1))) := by
  refine ct_of G0 (by decide) (Nat.le_of_ble_eq_true rfl) ?_
  intro p9 e9 s9 m9 args9 below9 meth9 c9 F hr9 hl9 hin9 hargs9 hts9
  have L2 : ∀  (N2 : Nat) (l1 : Int32), lo1 (fX10_late_l2 M) N2 l1 = some r' → GJ p9 l e9 (rg 4 0 0) s9 m9 args9 below9 meth9 c9 (MQ below9 (QI s0 D ev r' (cells ev X M (nb + 1))) args9 s9 0 0 (frA ev)) s0 D ev 3 0 0 2 [(0, .ref (ev 0 + 65)), (1, .int l1)] ([]) (cells ev X M (nb + 1)) := by
    intro  N2
    induction N2 with
    | zero => intro l1 h; cases h
    | succ N2 ih2 =>
      have L12 : ∀ (l1f12 : Int32) (N12 : Nat) (l2 : Int32), lo1 (fX10_late_l12 M l1f12 (lo1 (fX10_late_l2 M) N2)) N12 l2 = some r' → GJ p9 l e9 (rg 4 0 0) s9 m9 args9 below9 meth9 c9 (MQ below9 (QI s0 D ev r' (cells ev X M (nb + 1))) args9 s9 0 0 (frA ev)) s0 D ev 3 0 0 12 [(0, .ref (ev 0 + 65)), (1, .int l1f12), (2, .int l2)] ([]) (cells ev X M (nb + 1)) := by
        intro l1f12 N12
        induction N12 with
        | zero => intro l2 h; cases h
        | succ N12 ih12 =>
          intro l2 h
          change fX10_late_l12 M l1f12 (lo1 (fX10_late_l2 M) N2) (lo1 (fX10_late_l12 M l1f12 (lo1 (fX10_late_l2 M) N2)) N12) l2 = some r' at h
          rw [fX10_late_l12] at h
          refine g_iload_n (i := 2) F dX10_late_12 rfl rfl ?_
          refine g_iload_n (i := 1) F dX10_late_13 rfl rfl ?_
          refine g_icmp_ge (tgt := 54) F dX10_late_14 (by decide) h (fun a10 h => ?_) (fun a10 h => ?_)
          · refine g_iinc (i := 1) (v := (l1f12 + (1 : Int32))) (lv' := [(1, .int (l1f12 + (1 : Int32))), (0, .ref (ev 0 + 65)), (2, .int l2)]) F dX10_late_54 rfl rfl (by decide) rfl ?_
            refine g_goto (tgt := 2) F dX10_late_57 (by decide) ?_
            refine g_lv (lv' := [(0, .ref (ev 0 + 65)), (1, .int (l1f12 + (1 : Int32)))]) ⟨rfl, rfl, trivial⟩ ?_
            exact ih2 _ h
          · refine g_aload_n (i := 0) F dX10_late_17 rfl rfl ?_
            refine g_get_10_13 F wd_12_1 dX10_late_18 ?_
            refine g_iload_n (i := 1) F dX10_late_21 rfl rfl ?_
            obtain ⟨v1, e2, h⟩ := bind_at h
            refine g_ildM F rfl rfl e2 dX10_late_22 ?_
            refine g_iconst F dX10_late_23 (v := -1) (by decide) ?_
            refine g_icmp_eq (tgt := 48) F dX10_late_24 (by decide) h (fun a9 h => ?_) (fun a9 h => ?_)
            · refine g_iinc (i := 2) (v := (l2 + (1 : Int32))) (lv' := [(2, .int (l2 + (1 : Int32))), (0, .ref (ev 0 + 65)), (1, .int l1f12)]) F dX10_late_48 rfl rfl (by decide) rfl ?_
              refine g_goto (tgt := 12) F dX10_late_51 (by decide) ?_
              refine g_lv (lv' := [(0, .ref (ev 0 + 65)), (1, .int l1f12), (2, .int (l2 + (1 : Int32)))]) ⟨rfl, rfl, rfl, trivial⟩ ?_
              exact ih12 _ h
            · refine g_aload_n (i := 0) F dX10_late_27 rfl rfl ?_
              refine g_get_10_13 F wd_12_1 dX10_late_28 ?_
              refine g_iload_n (i := 2) F dX10_late_31 rfl rfl ?_
              obtain ⟨v3, e4, h⟩ := bind_at h
              refine g_ildM F rfl rfl e4 dX10_late_32 ?_
              refine g_iconst F dX10_late_33 (v := -1) (by decide) ?_
              refine g_icmp_eq (tgt := 48) F dX10_late_34 (by decide) h (fun a8 h => ?_) (fun a8 h => ?_)
              · refine g_iinc (i := 2) (v := (l2 + (1 : Int32))) (lv' := [(2, .int (l2 + (1 : Int32))), (0, .ref (ev 0 + 65)), (1, .int l1f12)]) F dX10_late_48 rfl rfl (by decide) rfl ?_
                refine g_goto (tgt := 12) F dX10_late_51 (by decide) ?_
                refine g_lv (lv' := [(0, .ref (ev 0 + 65)), (1, .int l1f12), (2, .int (l2 + (1 : Int32)))]) ⟨rfl, rfl, rfl, trivial⟩ ?_
                exact ih12 _ h
              · refine g_aload_n (i := 0) F dX10_late_37 rfl rfl ?_
                refine g_iload_n (i := 1) F dX10_late_38 rfl rfl ?_
                refine g_iload_n (i := 2) F dX10_late_39 rfl rfl ?_
                obtain ⟨v5, e6, h⟩ := bind_at h
                refine g_callVI F (mcR := 0) (msR := 0) (id := 65) (cells_at (kd_hidM (show kd 65 = 10 from rfl) (by decide)) (xc_10 rfl)) (ci := 10) rfl rfl rfl (c_X10_ringsOf G0 e6) wd_35_8 wd_35_5 wd_35_6 wd_35_7 wd_1_5 ⟨by decide, by decide⟩ (nn := 2) (by decide) (As := [.int l1f12, .int l2]) rfl rfl (Nat.le_of_ble_eq_true rfl) (by decide) (by decide) ⟨by decide, by decide⟩ dX10_late_40 ?_
                refine g_if_eq (tgt := 48) F dX10_late_43 (by decide) h (fun a7 h => ?_) (fun a7 h => ?_)
                · refine g_iinc (i := 2) (v := (l2 + (1 : Int32))) (lv' := [(2, .int (l2 + (1 : Int32))), (0, .ref (ev 0 + 65)), (1, .int l1f12)]) F dX10_late_48 rfl rfl (by decide) rfl ?_
                  refine g_goto (tgt := 12) F dX10_late_51 (by decide) ?_
                  refine g_lv (lv' := [(0, .ref (ev 0 + 65)), (1, .int l1f12), (2, .int (l2 + (1 : Int32)))]) ⟨rfl, rfl, rfl, trivial⟩ ?_
                  exact ih12 _ h
                · refine g_iload_n (i := 1) F dX10_late_46 rfl rfl ?_
                  exact g_iret F hr9 rfl hl9 (Option.some.inj h) rfl (by decide) (by decide) dX10_late_47
      intro l1 h
      change fX10_late_l2 M (lo1 (fX10_late_l2 M) N2) l1 = some r' at h
      rw [fX10_late_l2] at h
      refine g_iload_n (i := 1) F dX10_late_2 rfl rfl ?_
      refine g_aload_n (i := 0) F dX10_late_3 rfl rfl ?_
      refine g_get_10_8 F wd_18_18 dX10_late_4 ?_
      refine g_icmp_ge (tgt := 60) F dX10_late_7 (by decide) h (fun a11 h => ?_) (fun a11 h => ?_)
      · refine g_iconst F dX10_late_60 (v := -1) (by decide) ?_
        exact g_iret F hr9 rfl hl9 (Option.some.inj h) rfl (by decide) (by decide) dX10_late_61
      · refine g_iconst F dX10_late_10 (v := 0) (by decide) ?_
        refine g_istore_n (i := 2) (lv' := [(2, .int (0 : Int32)), (0, .ref (ev 0 + 65)), (1, .int l1)]) F dX10_late_11 rfl (by decide) rfl ?_
        refine g_lv (lv' := [(0, .ref (ev 0 + 65)), (1, .int l1), (2, .int (0 : Int32))]) ⟨rfl, rfl, rfl, trivial⟩ ?_
        exact L12 _ FU _ h
  rw [fX10_late] at h
  refine g_lv (lv' := [(0, .ref (ev 0 + 65))]) ⟨rfl, trivial⟩ ?_
  refine g_iconst F dX10_late_0 (v := 1) (by decide) ?_
  refine g_istore_n (i := 1) (lv' := [(1, .int (1 : Int32)), (0, .ref (ev 0 + 65))]) F dX10_late_1 rfl (by decide) rfl ?_
  refine g_lv (lv' := [(0, .ref (ev 0 + 65)), (1, .int (1 : Int32))]) ⟨rfl, rfl, trivial⟩ ?_
  exact L2 FU _ h
def fX10_apart (l0 : Int32) (l1 : Int32) : Int32 :=
  bd (fX10_size ((jrem l0 (10 : Int32)) - (jrem l1 (10 : Int32)))) fun v3 =>
  bd (fX10_size ((l0 / (10 : Int32)) - (l1 / (10 : Int32)))) fun v7 =>
  if v3 ≤ v7 then v7
  else v3
set_option maxRecDepth 100000 in
set_option maxHeartbeats 4000000 in
theorem c_X10_apart {l : Launch} {s0 : State} {D : va_G} {ev : Nat → Nat} (G0 : Gl s0 D ev) {X : XW} {M : MW} {nb : Nat} {l0 : Int32} {l1 : Int32} {r' : Int32}  (h : fX10_apart l0 l1 = r') : CT l s0 D ev yX10_apart cX10_apart 4 (some .int) 1 0 0 [.int l0, .int l1] (cells ev X M (nb + 1)) (QI s0 D ev r' (cells ev X M (nb + 1))) := by
  refine ct_of G0 (by decide) (Nat.le_of_ble_eq_true rfl) ?_
  intro p9 e9 s9 m9 args9 below9 meth9 c9 F hr9 hl9 hin9 hargs9 hts9
  rw [fX10_apart] at h
  refine g_lv (lv' := [(0, .int l0), (1, .int l1)]) ⟨rfl, rfl, trivial⟩ ?_
  refine g_iload_n (i := 0) F dX10_apart_0 rfl rfl ?_
  refine g_bipush F dX10_apart_1 (v := 10) (by decide) ?_
  refine g_irem F dX10_apart_3 (by decide) ?_
  refine g_iload_n (i := 1) F dX10_apart_4 rfl rfl ?_
  refine g_bipush F dX10_apart_5 (v := 10) (by decide) ?_
  refine g_irem F dX10_apart_7 (by decide) ?_
  refine g_isub F dX10_apart_8 ?_
  refine g_callSI F (mcR := 0) (msR := 0) (c_X10_size G0 (X := X) (M := M) (nb := nb) rfl) wd_30_17 wd_30_15 wd_30_16 wd_1_5 ⟨by decide, by decide⟩ (nn := 1) (by decide) (As := [.int ((jrem l0 (10 : Int32)) - (jrem l1 (10 : Int32)))]) rfl rfl (Nat.le_of_ble_eq_true rfl) (by decide) (by decide) ⟨by decide, by decide⟩ dX10_apart_9 ?_
  refine g_topi F h (fun v3 e4 h => ?_)
  refine g_istore_n (i := 2) (lv' := [(2, .int v3), (0, .int l0), (1, .int l1)]) F dX10_apart_12 rfl (by decide) rfl ?_
  refine g_iload_n (i := 0) F dX10_apart_13 rfl rfl ?_
  refine g_bipush F dX10_apart_14 (v := 10) (by decide) ?_
  refine g_idiv F dX10_apart_16 (by decide) ?_
  refine g_iload_n (i := 1) F dX10_apart_17 rfl rfl ?_
  refine g_bipush F dX10_apart_18 (v := 10) (by decide) ?_
  refine g_idiv F dX10_apart_20 (by decide) ?_
  refine g_isub F dX10_apart_21 ?_
  refine g_callSI F (mcR := 0) (msR := 0) (c_X10_size G0 (X := X) (M := M) (nb := nb) rfl) wd_30_17 wd_30_15 wd_30_16 wd_1_5 ⟨by decide, by decide⟩ (nn := 1) (by decide) (As := [.int ((l0 / (10 : Int32)) - (l1 / (10 : Int32)))]) rfl rfl (Nat.le_of_ble_eq_true rfl) (by decide) (by decide) ⟨by decide, by decide⟩ dX10_apart_22 ?_
  refine g_topi F h (fun v7 e8 h => ?_)
  refine g_istore_n (i := 3) (lv' := [(3, .int v7), (2, .int v3), (0, .int l0), (1, .int l1)]) F dX10_apart_25 rfl (by decide) rfl ?_
  refine g_iload_n (i := 2) F dX10_apart_26 rfl rfl ?_
  refine g_iload_n (i := 3) F dX10_apart_27 rfl rfl ?_
  refine g_icmp_le (tgt := 35) F dX10_apart_28 (by decide) h (fun a9 h => ?_) (fun a9 h => ?_)
  · refine g_iload_n (i := 3) F dX10_apart_35 rfl rfl ?_
    exact g_iret F hr9 rfl hl9 h rfl (by decide) (by decide) dX10_apart_36
  · refine g_iload_n (i := 2) F dX10_apart_31 rfl rfl ?_
    refine g_goto (tgt := 36) F dX10_apart_32 (by decide) ?_
    exact g_iret F hr9 rfl hl9 h rfl (by decide) (by decide) dX10_apart_36
def fX10_alarms_l6 (M : MW) (l1f6 : Int32) (l2f6 : Int32) (l3f6 : Int32) (K6 : Int32 → Option Int32) (l4 : Int32) : Option Int32 :=
  if ((M.1 7) + l2f6) ≤ l4 then some (-1 : Int32)
  else (rd (M.2 100) 72 (((6 : Int32) * l4) + l1f6)).bind fun v3 =>
  if v3 = (-1 : Int32) then some l4
  else (rd (M.2 77) 6 l1f6).bind fun v5 =>
  if (fX10_apart v3 v5) ≤ l3f6 then K6 (l4 + (1 : Int32))
  else some l4
def fX10_alarms (M : MW) (l1 : Int32) (l2 : Int32) (l3 : Int32) : Option Int32 :=
  bd (M.1 7) fun v1 =>
  lo1 (fX10_alarms_l6 M l1 l2 l3) FU v1
set_option maxRecDepth 100000 in
set_option maxHeartbeats 4000000 in
theorem c_X10_alarms {l : Launch} {s0 : State} {D : va_G} {ev : Nat → Nat} (G0 : Gl s0 D ev) {X : XW} {M : MW} {nb : Nat} {l1 : Int32} {l2 : Int32} {l3 : Int32} {r' : Int32}  (h : fX10_alarms M l1 l2 l3 = some r') : CT l s0 D ev yX10_alarms cX10_alarms 6 (some .int) 2 0 0 [.ref (ev 0 + 65), .int l1, .int l2, .int l3] (cells ev X M (nb + 1)) (QI s0 D ev r' (cells ev X M (nb + 1))) := by
  refine ct_of G0 (by decide) (Nat.le_of_ble_eq_true rfl) ?_
  intro p9 e9 s9 m9 args9 below9 meth9 c9 F hr9 hl9 hin9 hargs9 hts9
  have L6 : ∀ (l1f6 : Int32) (l2f6 : Int32) (l3f6 : Int32) (N6 : Nat) (l4 : Int32), lo1 (fX10_alarms_l6 M l1f6 l2f6 l3f6) N6 l4 = some r' → GJ p9 l e9 (rg 2 0 0) s9 m9 args9 below9 meth9 c9 (MQ below9 (QI s0 D ev r' (cells ev X M (nb + 1))) args9 s9 0 0 (frA ev)) s0 D ev 6 0 0 6 [(0, .ref (ev 0 + 65)), (1, .int l1f6), (2, .int l2f6), (3, .int l3f6), (4, .int l4)] ([]) (cells ev X M (nb + 1)) := by
    intro l1f6 l2f6 l3f6 N6
    induction N6 with
    | zero => intro l4 h; cases h
    | succ N6 ih6 =>
      intro l4 h
      change fX10_alarms_l6 M l1f6 l2f6 l3f6 (lo1 (fX10_alarms_l6 M l1f6 l2f6 l3f6) N6) l4 = some r' at h
      rw [fX10_alarms_l6] at h
      refine g_iload (i := 4) F dX10_alarms_6 rfl ?_
      refine g_aload_n (i := 0) F dX10_alarms_8 rfl rfl ?_
      refine g_get_10_7 F wd_18_17 dX10_alarms_9 ?_
      refine g_iload_n (i := 2) F dX10_alarms_12 rfl rfl ?_
      refine g_iadd F dX10_alarms_13 ?_
      refine g_icmp_ge (tgt := 61) F dX10_alarms_14 (by decide) h (fun a11 h => ?_) (fun a11 h => ?_)
      · refine g_iconst F dX10_alarms_61 (v := -1) (by decide) ?_
        exact g_iret F hr9 rfl hl9 (Option.some.inj h) rfl (by decide) (by decide) dX10_alarms_62
      · refine g_aload_n (i := 0) F dX10_alarms_17 rfl rfl ?_
        refine g_get_10_51 F wd_13_0 dX10_alarms_18 ?_
        refine g_bipush F dX10_alarms_21 (v := 6) (by decide) ?_
        refine g_iload (i := 4) F dX10_alarms_23 rfl ?_
        refine g_imul F dX10_alarms_25 ?_
        refine g_iload_n (i := 1) F dX10_alarms_26 rfl rfl ?_
        refine g_iadd F dX10_alarms_27 ?_
        obtain ⟨v3, e4, h⟩ := bind_at h
        refine g_ildM F rfl rfl e4 dX10_alarms_28 ?_
        refine g_istore (i := 5) (lv' := [(5, .int v3), (0, .ref (ev 0 + 65)), (1, .int l1f6), (2, .int l2f6), (3, .int l3f6), (4, .int l4)]) F dX10_alarms_29 (by decide) rfl ?_
        refine g_iload (i := 5) F dX10_alarms_31 rfl ?_
        refine g_iconst F dX10_alarms_33 (v := -1) (by decide) ?_
        refine g_icmp_eq (tgt := 52) F dX10_alarms_34 (by decide) h (fun a10 h => ?_) (fun a10 h => ?_)
        · refine g_iload (i := 4) F dX10_alarms_52 rfl ?_
          exact g_iret F hr9 rfl hl9 (Option.some.inj h) rfl (by decide) (by decide) dX10_alarms_54
        · refine g_iload (i := 5) F dX10_alarms_37 rfl ?_
          refine g_aload_n (i := 0) F dX10_alarms_39 rfl rfl ?_
          refine g_get_10_13 F wd_12_1 dX10_alarms_40 ?_
          refine g_iload_n (i := 1) F dX10_alarms_43 rfl rfl ?_
          obtain ⟨v5, e6, h⟩ := bind_at h
          refine g_ildM F rfl rfl e6 dX10_alarms_44 ?_
          refine g_callSI F (mcR := 0) (msR := 0) (c_X10_apart G0 (X := X) (M := M) (nb := nb) rfl) wd_36_15 wd_36_13 wd_36_14 wd_1_5 ⟨by decide, by decide⟩ (nn := 2) (by decide) (As := [.int v3, .int v5]) rfl rfl (Nat.le_of_ble_eq_true rfl) (by decide) (by decide) ⟨by decide, by decide⟩ dX10_alarms_45 ?_
          refine g_iload_n (i := 3) F dX10_alarms_48 rfl rfl ?_
          refine g_icmp_le (tgt := 55) F dX10_alarms_49 (by decide) h (fun a9 h => ?_) (fun a9 h => ?_)
          · refine g_iinc (i := 4) (v := (l4 + (1 : Int32))) (lv' := [(4, .int (l4 + (1 : Int32))), (5, .int v3), (0, .ref (ev 0 + 65)), (1, .int l1f6), (2, .int l2f6), (3, .int l3f6)]) F dX10_alarms_55 rfl rfl (by decide) rfl ?_
            refine g_goto (tgt := 6) F dX10_alarms_58 (by decide) ?_
            refine g_lv (lv' := [(0, .ref (ev 0 + 65)), (1, .int l1f6), (2, .int l2f6), (3, .int l3f6), (4, .int (l4 + (1 : Int32)))]) ⟨rfl, rfl, rfl, rfl, rfl, trivial⟩ ?_
            exact ih6 _ h
          · refine g_iload (i := 4) F dX10_alarms_52 rfl ?_
            exact g_iret F hr9 rfl hl9 (Option.some.inj h) rfl (by decide) (by decide) dX10_alarms_54
  rw [fX10_alarms] at h
  refine g_lv (lv' := [(0, .ref (ev 0 + 65)), (1, .int l1), (2, .int l2), (3, .int l3)]) ⟨rfl, rfl, rfl, rfl, trivial⟩ ?_
  refine g_aload_n (i := 0) F dX10_alarms_0 rfl rfl ?_
  refine g_get_10_7 F wd_18_17 dX10_alarms_1 ?_
  refine g_topi F h (fun v1 e2 h => ?_)
  refine g_istore (i := 4) (lv' := [(4, .int v1), (0, .ref (ev 0 + 65)), (1, .int l1), (2, .int l2), (3, .int l3)]) F dX10_alarms_4 (by decide) rfl ?_
  refine g_lv (lv' := [(0, .ref (ev 0 + 65)), (1, .int l1), (2, .int l2), (3, .int l3), (4, .int v1)]) ⟨rfl, rfl, rfl, rfl, rfl, trivial⟩ ?_
  exact L6 _ _ _ FU _ h
def fX10_alarm (M : MW) (l1 : Int32) (l2 : Int32) (l3 : Int32) : Option (Int32 × MW) :=
  if (fX10_isBoat M l1) = 0 then some ((-5 : Int32), M)
  else if (fX10_isNight M l2) = 0 then some ((-7 : Int32), M)
  else if (fX10_in l3 (0 : Int32) (10 : Int32)) = 0 then some ((-7 : Int32), M)
  else (rd (M.2 77) 6 l1).bind fun v7 =>
  if v7 = (-1 : Int32) then some ((-3 : Int32), M)
  else (fX10_goes M l2).bind fun M9 =>
  (fX10_alarms M9 l1 l2 l3).bind fun v11 =>
  some (v11, M9)
set_option maxRecDepth 100000 in
set_option maxHeartbeats 4000000 in
theorem c_X10_alarm {l : Launch} {s0 : State} {D : va_G} {ev : Nat → Nat} (G0 : Gl s0 D ev) {X : XW} {M : MW} {nb : Nat} {l1 : Int32} {l2 : Int32} {l3 : Int32} {r' : Int32} {M' : MW}  (h : fX10_alarm M l1 l2 l3 = some (r', M')) : CT l s0 D ev yX10_alarm cX10_alarm 4 (some .int) 7 0 0 [.ref (ev 0 + 65), .int l1, .int l2, .int l3] (cells ev X M (nb + 1)) (QI s0 D ev r' (cells ev X M' (nb + 1))) := by
  refine ct_of G0 (by decide) (Nat.le_of_ble_eq_true rfl) ?_
  intro p9 e9 s9 m9 args9 below9 meth9 c9 F hr9 hl9 hin9 hargs9 hts9
  rw [fX10_alarm] at h
  refine g_lv (lv' := [(0, .ref (ev 0 + 65)), (1, .int l1), (2, .int l2), (3, .int l3)]) ⟨rfl, rfl, rfl, rfl, trivial⟩ ?_
  refine g_aload_n (i := 0) F dX10_alarm_0 rfl rfl ?_
  refine g_iload_n (i := 1) F dX10_alarm_1 rfl rfl ?_
  refine g_callVI F (mcR := 0) (msR := 0) (id := 65) (cells_at (kd_hidM (show kd 65 = 10 from rfl) (by decide)) (xc_10 rfl)) (ci := 10) rfl rfl rfl (c_X10_isBoat G0 (X := X) (M := M) (nb := nb) rfl) wd_23_7 wd_23_4 wd_23_5 wd_23_6 wd_1_5 ⟨by decide, by decide⟩ (nn := 1) (by decide) (As := [.int l1]) rfl rfl (Nat.le_of_ble_eq_true rfl) (by decide) (by decide) ⟨by decide, by decide⟩ dX10_alarm_2 ?_
  refine g_if_ne (tgt := 11) F dX10_alarm_5 (by decide) h (fun a16 h => ?_) (fun a16 h => ?_)
  · refine g_aload_n (i := 0) F dX10_alarm_11 rfl rfl ?_
    refine g_iload_n (i := 2) F dX10_alarm_12 rfl rfl ?_
    refine g_callVI F (mcR := 0) (msR := 0) (id := 65) (cells_at (kd_hidM (show kd 65 = 10 from rfl) (by decide)) (xc_10 rfl)) (ci := 10) rfl rfl rfl (c_X10_isNight G0 (X := X) (M := M) (nb := nb) rfl) wd_29_17 wd_29_14 wd_29_15 wd_29_16 wd_1_5 ⟨by decide, by decide⟩ (nn := 1) (by decide) (As := [.int l2]) rfl rfl (Nat.le_of_ble_eq_true rfl) (by decide) (by decide) ⟨by decide, by decide⟩ dX10_alarm_13 ?_
    refine g_if_eq (tgt := 29) F dX10_alarm_16 (by decide) h (fun a15 h => ?_) (fun a15 h => ?_)
    · refine g_bipush F dX10_alarm_29 (v := -7) (by decide) ?_
      have hp := Prod.mk.inj (Option.some.inj h)
      exact g_iret F hr9 rfl hl9 hp.1 (by rw [hp.2]) (by decide) (by decide) dX10_alarm_31
    · refine g_iload_n (i := 3) F dX10_alarm_19 rfl rfl ?_
      refine g_iconst F dX10_alarm_20 (v := 0) (by decide) ?_
      refine g_bipush F dX10_alarm_21 (v := 10) (by decide) ?_
      refine g_callSI F (mcR := 0) (msR := 0) (c_X10_in G0 (X := X) (M := M) (nb := nb) rfl) wd_13_21 wd_13_19 wd_13_20 wd_1_5 ⟨by decide, by decide⟩ (nn := 3) (by decide) (As := [.int l3, .int (0 : Int32), .int (10 : Int32)]) rfl rfl (Nat.le_of_ble_eq_true rfl) (by decide) (by decide) ⟨by decide, by decide⟩ dX10_alarm_23 ?_
      refine g_if_ne (tgt := 32) F dX10_alarm_26 (by decide) h (fun a14 h => ?_) (fun a14 h => ?_)
      · refine g_aload_n (i := 0) F dX10_alarm_32 rfl rfl ?_
        refine g_get_10_13 F wd_12_1 dX10_alarm_33 ?_
        refine g_iload_n (i := 1) F dX10_alarm_36 rfl rfl ?_
        obtain ⟨v7, e8, h⟩ := bind_at h
        refine g_ildM F rfl rfl e8 dX10_alarm_37 ?_
        refine g_iconst F dX10_alarm_38 (v := -1) (by decide) ?_
        refine g_icmp_ne (tgt := 45) F dX10_alarm_39 (by decide) h (fun a13 h => ?_) (fun a13 h => ?_)
        · refine g_aload_n (i := 0) F dX10_alarm_45 rfl rfl ?_
          refine g_iload_n (i := 2) F dX10_alarm_46 rfl rfl ?_
          obtain ⟨M9, e10, h⟩ := bind_at h
          refine g_callVV F (mcR := 0) (msR := 0) (id := 65) (cells_at (kd_hidM (show kd 65 = 10 from rfl) (by decide)) (xc_10 rfl)) (ci := 10) rfl rfl rfl (c_X10_goes G0 e10) wd_29_21 wd_29_18 wd_29_19 wd_29_20 wd_1_5 ⟨by decide, by decide⟩ (nn := 1) (by decide) (As := [.int l2]) rfl rfl (Nat.le_of_ble_eq_true rfl) (by decide) (by decide) ⟨by decide, by decide⟩ dX10_alarm_47 ?_
          refine g_aload_n (i := 0) F dX10_alarm_50 rfl rfl ?_
          refine g_iload_n (i := 1) F dX10_alarm_51 rfl rfl ?_
          refine g_iload_n (i := 2) F dX10_alarm_52 rfl rfl ?_
          refine g_iload_n (i := 3) F dX10_alarm_53 rfl rfl ?_
          obtain ⟨v11, e12, h⟩ := bind_at h
          refine g_callVI F (mcR := 0) (msR := 0) (id := 65) (cells_at (kd_hidM (show kd 65 = 10 from rfl) (by decide)) (xc_10 rfl)) (ci := 10) rfl rfl rfl (c_X10_alarms G0 e12) wd_36_12 wd_36_9 wd_36_10 wd_36_11 wd_1_5 ⟨by decide, by decide⟩ (nn := 3) (by decide) (As := [.int l1, .int l2, .int l3]) rfl rfl (Nat.le_of_ble_eq_true rfl) (by decide) (by decide) ⟨by decide, by decide⟩ dX10_alarm_54 ?_
          have hp := Prod.mk.inj (Option.some.inj h)
          exact g_iret F hr9 rfl hl9 hp.1 (by rw [hp.2]) (by decide) (by decide) dX10_alarm_57
        · refine g_bipush F dX10_alarm_42 (v := -3) (by decide) ?_
          have hp := Prod.mk.inj (Option.some.inj h)
          exact g_iret F hr9 rfl hl9 hp.1 (by rw [hp.2]) (by decide) (by decide) dX10_alarm_44
      · refine g_bipush F dX10_alarm_29 (v := -7) (by decide) ?_
        have hp := Prod.mk.inj (Option.some.inj h)
        exact g_iret F hr9 rfl hl9 hp.1 (by rw [hp.2]) (by decide) (by decide) dX10_alarm_31
  · refine g_bipush F dX10_alarm_8 (v := -5) (by decide) ?_
    have hp := Prod.mk.inj (Option.some.inj h)
    exact g_iret F hr9 rfl hl9 hp.1 (by rw [hp.2]) (by decide) (by decide) dX10_alarm_10
def fX10_size__b104 (M : MW) (l1 : Int32) (l2 : Int32) (l3 : Int32) (l4 : Int32) : Option (Int32 × MW) :=
  (fX10_alarms M l1 l2 l4).bind fun v11 =>
  if l3 = 0 then some (l4, M)
  else if v11 = (-1 : Int32) then some ((-1 : Int32), M)
  else (rd (M.2 99) 6 l1).bind fun v13 =>
  if v13 = (-1 : Int32) then some ((-1 : Int32), M)
  else (rd (M.2 99) 6 l1).bind fun v15 =>
  some ((v11 - v15), M)
def fX10_size__l52 (l1f52 : Int32) (l2f52 : Int32) (l3f52 : Int32) (K52 : MW → Int32 → Option (Int32 × MW)) (M : MW) (l4 : Int32) : Option (Int32 × MW) :=
  if (10 : Int32) ≤ l4 then fX10_size__b104 M l1f52 l2f52 l3f52 l4
  else (fX10_alarms M l1f52 l2f52 l4).bind fun v20 =>
  if v20 = (-1 : Int32) then fX10_size__b104 M l1f52 l2f52 l3f52 l4
  else (rd (M.2 99) 6 l1f52).bind fun v22 =>
  if v22 = (-1 : Int32) then K52 M (l4 + (1 : Int32))
  else (fX10_alarms M l1f52 l2f52 l4).bind fun v24 =>
  (rd (M.2 99) 6 l1f52).bind fun v26 =>
  if v26 ≤ v24 then fX10_size__b104 M l1f52 l2f52 l3f52 l4
  else K52 M (l4 + (1 : Int32))
def fX10_size_ (M : MW) (l1 : Int32) (l2 : Int32) (l3 : Int32) : Option (Int32 × MW) :=
  if (fX10_isBoat M l1) = 0 then some ((-5 : Int32), M)
  else if (fX10_isNight M l2) = 0 then some ((-7 : Int32), M)
  else if (fX10_in l3 (0 : Int32) (1 : Int32)) = 0 then some ((-7 : Int32), M)
  else (rd (M.2 77) 6 l1).bind fun v7 =>
  if v7 = (-1 : Int32) then some ((-3 : Int32), M)
  else (fX10_goes M l2).bind fun M9 =>
  lo2 (fX10_size__l52 l1 l2 l3) FU M9 (0 : Int32)
set_option maxRecDepth 100000 in
set_option maxHeartbeats 4000000 in
theorem c_X10_size_ {l : Launch} {s0 : State} {D : va_G} {ev : Nat → Nat} (G0 : Gl s0 D ev) {X : XW} {M : MW} {nb : Nat} {l1 : Int32} {l2 : Int32} {l3 : Int32} {r' : Int32} {M' : MW}  (h : fX10_size_ M l1 l2 l3 = some (r', M')) : CT l s0 D ev yX10_size_ cX10_size_ 6 (some .int) 7 0 0 [.ref (ev 0 + 65), .int l1, .int l2, .int l3] (cells ev X M (nb + 1)) (QI s0 D ev r' (cells ev X M' (nb + 1))) := by
  refine ct_of G0 (by decide) (Nat.le_of_ble_eq_true rfl) ?_
  intro p9 e9 s9 m9 args9 below9 meth9 c9 F hr9 hl9 hin9 hargs9 hts9
  have U104 : ∀ (M : MW) (l1 : Int32) (l2 : Int32) (l3 : Int32) (l4 : Int32), fX10_size__b104 M l1 l2 l3 l4 = some (r', M') → GJ p9 l e9 (rg 7 0 0) s9 m9 args9 below9 meth9 c9 (MQ below9 (QI s0 D ev r' (cells ev X M' (nb + 1))) args9 s9 0 0 (frA ev)) s0 D ev 6 0 0 104 [(0, .ref (ev 0 + 65)), (1, .int l1), (2, .int l2), (3, .int l3), (4, .int l4)] ([]) (cells ev X M (nb + 1)) := by
    intro M l1 l2 l3 l4 h
    rw [fX10_size__b104] at h
    refine g_aload_n (i := 0) F dX10_size__104 rfl rfl ?_
    refine g_iload_n (i := 1) F dX10_size__105 rfl rfl ?_
    refine g_iload_n (i := 2) F dX10_size__106 rfl rfl ?_
    refine g_iload (i := 4) F dX10_size__107 rfl ?_
    obtain ⟨v11, e12, h⟩ := bind_at h
    refine g_callVI F (mcR := 0) (msR := 0) (id := 65) (cells_at (kd_hidM (show kd 65 = 10 from rfl) (by decide)) (xc_10 rfl)) (ci := 10) rfl rfl rfl (c_X10_alarms G0 e12) wd_36_12 wd_36_9 wd_36_10 wd_36_11 wd_1_5 ⟨by decide, by decide⟩ (nn := 3) (by decide) (As := [.int l1, .int l2, .int l4]) rfl rfl (Nat.le_of_ble_eq_true rfl) (by decide) (by decide) ⟨by decide, by decide⟩ dX10_size__109 ?_
    refine g_istore (i := 5) (lv' := [(5, .int v11), (0, .ref (ev 0 + 65)), (1, .int l1), (2, .int l2), (3, .int l3), (4, .int l4)]) F dX10_size__112 (by decide) rfl ?_
    refine g_iload_n (i := 3) F dX10_size__114 rfl rfl ?_
    refine g_if_ne (tgt := 123) F dX10_size__115 (by decide) h (fun a19 h => ?_) (fun a19 h => ?_)
    · refine g_iload (i := 5) F dX10_size__123 rfl ?_
      refine g_iconst F dX10_size__125 (v := -1) (by decide) ?_
      refine g_icmp_eq (tgt := 139) F dX10_size__126 (by decide) h (fun a18 h => ?_) (fun a18 h => ?_)
      · refine g_iconst F dX10_size__139 (v := -1) (by decide) ?_
        refine g_goto (tgt := 152) F dX10_size__140 (by decide) ?_
        have hp := Prod.mk.inj (Option.some.inj h)
        exact g_iret F hr9 rfl hl9 hp.1 (by rw [hp.2]) (by decide) (by decide) dX10_size__152
      · refine g_aload_n (i := 0) F dX10_size__129 rfl rfl ?_
        refine g_get_10_50 F wd_12_23 dX10_size__130 ?_
        refine g_iload_n (i := 1) F dX10_size__133 rfl rfl ?_
        obtain ⟨v13, e14, h⟩ := bind_at h
        refine g_ildM F rfl rfl e14 dX10_size__134 ?_
        refine g_iconst F dX10_size__135 (v := -1) (by decide) ?_
        refine g_icmp_ne (tgt := 143) F dX10_size__136 (by decide) h (fun a17 h => ?_) (fun a17 h => ?_)
        · refine g_iload (i := 5) F dX10_size__143 rfl ?_
          refine g_aload_n (i := 0) F dX10_size__145 rfl rfl ?_
          refine g_get_10_50 F wd_12_23 dX10_size__146 ?_
          refine g_iload_n (i := 1) F dX10_size__149 rfl rfl ?_
          obtain ⟨v15, e16, h⟩ := bind_at h
          refine g_ildM F rfl rfl e16 dX10_size__150 ?_
          refine g_isub F dX10_size__151 ?_
          have hp := Prod.mk.inj (Option.some.inj h)
          exact g_iret F hr9 rfl hl9 hp.1 (by rw [hp.2]) (by decide) (by decide) dX10_size__152
        · refine g_iconst F dX10_size__139 (v := -1) (by decide) ?_
          refine g_goto (tgt := 152) F dX10_size__140 (by decide) ?_
          have hp := Prod.mk.inj (Option.some.inj h)
          exact g_iret F hr9 rfl hl9 hp.1 (by rw [hp.2]) (by decide) (by decide) dX10_size__152
    · refine g_iload (i := 4) F dX10_size__118 rfl ?_
      refine g_goto (tgt := 152) F dX10_size__120 (by decide) ?_
      have hp := Prod.mk.inj (Option.some.inj h)
      exact g_iret F hr9 rfl hl9 hp.1 (by rw [hp.2]) (by decide) (by decide) dX10_size__152
  have L52 : ∀ (l1f52 : Int32) (l2f52 : Int32) (l3f52 : Int32) (N52 : Nat) (M : MW) (l4 : Int32), lo2 (fX10_size__l52 l1f52 l2f52 l3f52) N52 M l4 = some (r', M') → GJ p9 l e9 (rg 7 0 0) s9 m9 args9 below9 meth9 c9 (MQ below9 (QI s0 D ev r' (cells ev X M' (nb + 1))) args9 s9 0 0 (frA ev)) s0 D ev 6 0 0 52 [(0, .ref (ev 0 + 65)), (1, .int l1f52), (2, .int l2f52), (3, .int l3f52), (4, .int l4)] ([]) (cells ev X M (nb + 1)) := by
    intro l1f52 l2f52 l3f52 N52
    induction N52 with
    | zero => intro M l4 h; cases h
    | succ N52 ih52 =>
      intro M l4 h
      change fX10_size__l52 l1f52 l2f52 l3f52 (lo2 (fX10_size__l52 l1f52 l2f52 l3f52) N52) M l4 = some (r', M') at h
      rw [fX10_size__l52] at h
      refine g_iload (i := 4) F dX10_size__52 rfl ?_
      refine g_bipush F dX10_size__54 (v := 10) (by decide) ?_
      refine g_icmp_ge (tgt := 104) F dX10_size__56 (by decide) h (fun a31 h => ?_) (fun a31 h => ?_)
      · refine g_lv (lv' := [(0, .ref (ev 0 + 65)), (1, .int l1f52), (2, .int l2f52), (3, .int l3f52), (4, .int l4)]) ⟨rfl, rfl, rfl, rfl, rfl, trivial⟩ ?_
        exact U104 _ _ _ _ _ h
      · refine g_aload_n (i := 0) F dX10_size__59 rfl rfl ?_
        refine g_iload_n (i := 1) F dX10_size__60 rfl rfl ?_
        refine g_iload_n (i := 2) F dX10_size__61 rfl rfl ?_
        refine g_iload (i := 4) F dX10_size__62 rfl ?_
        obtain ⟨v20, e21, h⟩ := bind_at h
        refine g_callVI F (mcR := 0) (msR := 0) (id := 65) (cells_at (kd_hidM (show kd 65 = 10 from rfl) (by decide)) (xc_10 rfl)) (ci := 10) rfl rfl rfl (c_X10_alarms G0 e21) wd_36_12 wd_36_9 wd_36_10 wd_36_11 wd_1_5 ⟨by decide, by decide⟩ (nn := 3) (by decide) (As := [.int l1f52, .int l2f52, .int l4]) rfl rfl (Nat.le_of_ble_eq_true rfl) (by decide) (by decide) ⟨by decide, by decide⟩ dX10_size__64 ?_
        refine g_iconst F dX10_size__67 (v := -1) (by decide) ?_
        refine g_icmp_eq (tgt := 104) F dX10_size__68 (by decide) h (fun a30 h => ?_) (fun a30 h => ?_)
        · refine g_lv (lv' := [(0, .ref (ev 0 + 65)), (1, .int l1f52), (2, .int l2f52), (3, .int l3f52), (4, .int l4)]) ⟨rfl, rfl, rfl, rfl, rfl, trivial⟩ ?_
          exact U104 _ _ _ _ _ h
        · refine g_aload_n (i := 0) F dX10_size__71 rfl rfl ?_
          refine g_get_10_50 F wd_12_23 dX10_size__72 ?_
          refine g_iload_n (i := 1) F dX10_size__75 rfl rfl ?_
          obtain ⟨v22, e23, h⟩ := bind_at h
          refine g_ildM F rfl rfl e23 dX10_size__76 ?_
          refine g_iconst F dX10_size__77 (v := -1) (by decide) ?_
          refine g_icmp_eq (tgt := 98) F dX10_size__78 (by decide) h (fun a29 h => ?_) (fun a29 h => ?_)
          · refine g_iinc (i := 4) (v := (l4 + (1 : Int32))) (lv' := [(4, .int (l4 + (1 : Int32))), (0, .ref (ev 0 + 65)), (1, .int l1f52), (2, .int l2f52), (3, .int l3f52)]) F dX10_size__98 rfl rfl (by decide) rfl ?_
            refine g_goto (tgt := 52) F dX10_size__101 (by decide) ?_
            refine g_lv (lv' := [(0, .ref (ev 0 + 65)), (1, .int l1f52), (2, .int l2f52), (3, .int l3f52), (4, .int (l4 + (1 : Int32)))]) ⟨rfl, rfl, rfl, rfl, rfl, trivial⟩ ?_
            exact ih52 _ _ h
          · refine g_aload_n (i := 0) F dX10_size__81 rfl rfl ?_
            refine g_iload_n (i := 1) F dX10_size__82 rfl rfl ?_
            refine g_iload_n (i := 2) F dX10_size__83 rfl rfl ?_
            refine g_iload (i := 4) F dX10_size__84 rfl ?_
            obtain ⟨v24, e25, h⟩ := bind_at h
            refine g_callVI F (mcR := 0) (msR := 0) (id := 65) (cells_at (kd_hidM (show kd 65 = 10 from rfl) (by decide)) (xc_10 rfl)) (ci := 10) rfl rfl rfl (c_X10_alarms G0 e25) wd_36_12 wd_36_9 wd_36_10 wd_36_11 wd_1_5 ⟨by decide, by decide⟩ (nn := 3) (by decide) (As := [.int l1f52, .int l2f52, .int l4]) rfl rfl (Nat.le_of_ble_eq_true rfl) (by decide) (by decide) ⟨by decide, by decide⟩ dX10_size__86 ?_
            refine g_aload_n (i := 0) F dX10_size__89 rfl rfl ?_
            refine g_get_10_50 F wd_12_23 dX10_size__90 ?_
            refine g_iload_n (i := 1) F dX10_size__93 rfl rfl ?_
            obtain ⟨v26, e27, h⟩ := bind_at h
            refine g_ildM F rfl rfl e27 dX10_size__94 ?_
            refine g_icmp_ge (tgt := 104) F dX10_size__95 (by decide) h (fun a28 h => ?_) (fun a28 h => ?_)
            · refine g_lv (lv' := [(0, .ref (ev 0 + 65)), (1, .int l1f52), (2, .int l2f52), (3, .int l3f52), (4, .int l4)]) ⟨rfl, rfl, rfl, rfl, rfl, trivial⟩ ?_
              exact U104 _ _ _ _ _ h
            · refine g_iinc (i := 4) (v := (l4 + (1 : Int32))) (lv' := [(4, .int (l4 + (1 : Int32))), (0, .ref (ev 0 + 65)), (1, .int l1f52), (2, .int l2f52), (3, .int l3f52)]) F dX10_size__98 rfl rfl (by decide) rfl ?_
              refine g_goto (tgt := 52) F dX10_size__101 (by decide) ?_
              refine g_lv (lv' := [(0, .ref (ev 0 + 65)), (1, .int l1f52), (2, .int l2f52), (3, .int l3f52), (4, .int (l4 + (1 : Int32)))]) ⟨rfl, rfl, rfl, rfl, rfl, trivial⟩ ?_
              exact ih52 _ _ h
  rw [fX10_size_] at h
  refine g_lv (lv' := [(0, .ref (ev 0 + 65)), (1, .int l1), (2, .int l2), (3, .int l3)]) ⟨rfl, rfl, rfl, rfl, trivial⟩ ?_
  refine g_aload_n (i := 0) F dX10_size__0 rfl rfl ?_
  refine g_iload_n (i := 1) F dX10_size__1 rfl rfl ?_
  refine g_callVI F (mcR := 0) (msR := 0) (id := 65) (cells_at (kd_hidM (show kd 65 = 10 from rfl) (by decide)) (xc_10 rfl)) (ci := 10) rfl rfl rfl (c_X10_isBoat G0 (X := X) (M := M) (nb := nb) rfl) wd_23_7 wd_23_4 wd_23_5 wd_23_6 wd_1_5 ⟨by decide, by decide⟩ (nn := 1) (by decide) (As := [.int l1]) rfl rfl (Nat.le_of_ble_eq_true rfl) (by decide) (by decide) ⟨by decide, by decide⟩ dX10_size__2 ?_
  refine g_if_ne (tgt := 11) F dX10_size__5 (by decide) h (fun a35 h => ?_) (fun a35 h => ?_)
  · refine g_aload_n (i := 0) F dX10_size__11 rfl rfl ?_
    refine g_iload_n (i := 2) F dX10_size__12 rfl rfl ?_
    refine g_callVI F (mcR := 0) (msR := 0) (id := 65) (cells_at (kd_hidM (show kd 65 = 10 from rfl) (by decide)) (xc_10 rfl)) (ci := 10) rfl rfl rfl (c_X10_isNight G0 (X := X) (M := M) (nb := nb) rfl) wd_29_17 wd_29_14 wd_29_15 wd_29_16 wd_1_5 ⟨by decide, by decide⟩ (nn := 1) (by decide) (As := [.int l2]) rfl rfl (Nat.le_of_ble_eq_true rfl) (by decide) (by decide) ⟨by decide, by decide⟩ dX10_size__13 ?_
    refine g_if_eq (tgt := 28) F dX10_size__16 (by decide) h (fun a34 h => ?_) (fun a34 h => ?_)
    · refine g_bipush F dX10_size__28 (v := -7) (by decide) ?_
      have hp := Prod.mk.inj (Option.some.inj h)
      exact g_iret F hr9 rfl hl9 hp.1 (by rw [hp.2]) (by decide) (by decide) dX10_size__30
    · refine g_iload_n (i := 3) F dX10_size__19 rfl rfl ?_
      refine g_iconst F dX10_size__20 (v := 0) (by decide) ?_
      refine g_iconst F dX10_size__21 (v := 1) (by decide) ?_
      refine g_callSI F (mcR := 0) (msR := 0) (c_X10_in G0 (X := X) (M := M) (nb := nb) rfl) wd_13_21 wd_13_19 wd_13_20 wd_1_5 ⟨by decide, by decide⟩ (nn := 3) (by decide) (As := [.int l3, .int (0 : Int32), .int (1 : Int32)]) rfl rfl (Nat.le_of_ble_eq_true rfl) (by decide) (by decide) ⟨by decide, by decide⟩ dX10_size__22 ?_
      refine g_if_ne (tgt := 31) F dX10_size__25 (by decide) h (fun a33 h => ?_) (fun a33 h => ?_)
      · refine g_aload_n (i := 0) F dX10_size__31 rfl rfl ?_
        refine g_get_10_13 F wd_12_1 dX10_size__32 ?_
        refine g_iload_n (i := 1) F dX10_size__35 rfl rfl ?_
        obtain ⟨v7, e8, h⟩ := bind_at h
        refine g_ildM F rfl rfl e8 dX10_size__36 ?_
        refine g_iconst F dX10_size__37 (v := -1) (by decide) ?_
        refine g_icmp_ne (tgt := 44) F dX10_size__38 (by decide) h (fun a32 h => ?_) (fun a32 h => ?_)
        · refine g_aload_n (i := 0) F dX10_size__44 rfl rfl ?_
          refine g_iload_n (i := 2) F dX10_size__45 rfl rfl ?_
          obtain ⟨M9, e10, h⟩ := bind_at h
          refine g_callVV F (mcR := 0) (msR := 0) (id := 65) (cells_at (kd_hidM (show kd 65 = 10 from rfl) (by decide)) (xc_10 rfl)) (ci := 10) rfl rfl rfl (c_X10_goes G0 e10) wd_29_21 wd_29_18 wd_29_19 wd_29_20 wd_1_5 ⟨by decide, by decide⟩ (nn := 1) (by decide) (As := [.int l2]) rfl rfl (Nat.le_of_ble_eq_true rfl) (by decide) (by decide) ⟨by decide, by decide⟩ dX10_size__46 ?_
          refine g_iconst F dX10_size__49 (v := 0) (by decide) ?_
          refine g_istore (i := 4) (lv' := [(4, .int (0 : Int32)), (0, .ref (ev 0 + 65)), (1, .int l1), (2, .int l2), (3, .int l3)]) F dX10_size__50 (by decide) rfl ?_
          refine g_lv (lv' := [(0, .ref (ev 0 + 65)), (1, .int l1), (2, .int l2), (3, .int l3), (4, .int (0 : Int32))]) ⟨rfl, rfl, rfl, rfl, rfl, trivial⟩ ?_
          exact L52 _ _ _ FU _ _ h
        · refine g_bipush F dX10_size__41 (v := -3) (by decide) ?_
          have hp := Prod.mk.inj (Option.some.inj h)
          exact g_iret F hr9 rfl hl9 hp.1 (by rw [hp.2]) (by decide) (by decide) dX10_size__43
      · refine g_bipush F dX10_size__28 (v := -7) (by decide) ?_
        have hp := Prod.mk.inj (Option.some.inj h)
        exact g_iret F hr9 rfl hl9 hp.1 (by rw [hp.2]) (by decide) (by decide) dX10_size__30
  · refine g_bipush F dX10_size__8 (v := -5) (by decide) ?_
    have hp := Prod.mk.inj (Option.some.inj h)
    exact g_iret F hr9 rfl hl9 hp.1 (by rw [hp.2]) (by decide) (by decide) dX10_size__10

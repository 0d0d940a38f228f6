def fX10_crossOf (l0 : Int32) (l1 : Int32) (l2 : Int32) : Int32 :=
  ((((jrem l1 (10 : Int32)) - (jrem l0 (10 : Int32))) * ((l2 / (10 : Int32)) - (l0 / (10 : Int32)))) - (((l1 / (10 : Int32)) - (l0 / (10 : Int32))) * ((jrem l2 (10 : Int32)) - (jrem l0 (10 : Int32)))))
set_option maxRecDepth 100000 in
set_option maxHeartbeats 4000000 in
theorem c_X10_crossOf {l : Launch} {s0 : State} {D : va_G} {ev : Nat → Nat} (G0 : Gl s0 D ev) {X : XW} {M : MW} {nb : Nat} {l0 : Int32} {l1 : Int32} {l2 : Int32} {r' : Int32}  (h : fX10_crossOf l0 l1 l2 = r') : CT l s0 D ev yX10_crossOf cX10_crossOf 3 (some .int) 0 0 0 [.int l0, .int l1, .int l2] (cells ev X M (nb + 1)) (QI s0 D ev r' (cells ev X M (nb + 1))) := by
  refine ct_of G0 (by decide) (Nat.le_of_ble_eq_true rfl) ?_
  intro p9 e9 s9 m9 args9 below9 meth9 c9 F hr9 hl9 hin9 hargs9 hts9
  rw [fX10_crossOf] at h
  refine g_lv (lv' := [(0, .int l0), (1, .int l1), (2, .int l2)]) ⟨rfl, rfl, rfl, trivial⟩ ?_
  refine g_iload_n (i := 1) F dX10_crossOf_0 rfl rfl ?_
  refine g_bipush F dX10_crossOf_1 (v := 10) (by decide) ?_
  refine g_irem F dX10_crossOf_3 (by decide) ?_
  refine g_iload_n (i := 0) F dX10_crossOf_4 rfl rfl ?_
  refine g_bipush F dX10_crossOf_5 (v := 10) (by decide) ?_
  refine g_irem F dX10_crossOf_7 (by decide) ?_
  refine g_isub F dX10_crossOf_8 ?_
  refine g_iload_n (i := 2) F dX10_crossOf_9 rfl rfl ?_
  refine g_bipush F dX10_crossOf_10 (v := 10) (by decide) ?_
  refine g_idiv F dX10_crossOf_12 (by decide) ?_
  refine g_iload_n (i := 0) F dX10_crossOf_13 rfl rfl ?_
  refine g_bipush F dX10_crossOf_14 (v := 10) (by decide) ?_
  refine g_idiv F dX10_crossOf_16 (by decide) ?_
  refine g_isub F dX10_crossOf_17 ?_
  refine g_imul F dX10_crossOf_18 ?_
  refine g_iload_n (i := 1) F dX10_crossOf_19 rfl rfl ?_
  refine g_bipush F dX10_crossOf_20 (v := 10) (by decide) ?_
  refine g_idiv F dX10_crossOf_22 (by decide) ?_
  refine g_iload_n (i := 0) F dX10_crossOf_23 rfl rfl ?_
  refine g_bipush F dX10_crossOf_24 (v := 10) (by decide) ?_
  refine g_idiv F dX10_crossOf_26 (by decide) ?_
  refine g_isub F dX10_crossOf_27 ?_
  refine g_iload_n (i := 2) F dX10_crossOf_28 rfl rfl ?_
  refine g_bipush F dX10_crossOf_29 (v := 10) (by decide) ?_
  refine g_irem F dX10_crossOf_31 (by decide) ?_
  refine g_iload_n (i := 0) F dX10_crossOf_32 rfl rfl ?_
  refine g_bipush F dX10_crossOf_33 (v := 10) (by decide) ?_
  refine g_irem F dX10_crossOf_35 (by decide) ?_
  refine g_isub F dX10_crossOf_36 ?_
  refine g_imul F dX10_crossOf_37 ?_
  refine g_isub F dX10_crossOf_38 ?_
  exact g_iret F hr9 rfl hl9 h rfl (by decide) (by decide) dX10_crossOf_39
def fX10_line (l1 : Int32) (l2 : Int32) (l3 : Int32) : Int32 :=
  if (fX10_isCell l1) = 0 then (-1000000 : Int32)
  else if (fX10_isCell l2) = 0 then (-1000000 : Int32)
  else if (fX10_isCell l3) = 0 then (-1000000 : Int32)
  else if l1 = l2 then (-1000000 : Int32)
  else (fX10_crossOf l1 l2 l3)
set_option maxRecDepth 100000 in
set_option maxHeartbeats 4000000 in
theorem c_X10_line {l : Launch} {s0 : State} {D : va_G} {ev : Nat → Nat} (G0 : Gl s0 D ev) {X : XW} {M : MW} {nb : Nat} {l1 : Int32} {l2 : Int32} {l3 : Int32} {r' : Int32}  (h : fX10_line l1 l2 l3 = r') : CT l s0 D ev yX10_line cX10_line 4 (some .int) 2 0 0 [.ref (ev 0 + 65), .int l1, .int l2, .int l3] (cells ev X M (nb + 1)) (QI s0 D ev r' (cells ev X M (nb + 1))) := by
  refine ct_of G0 (by decide) (Nat.le_of_ble_eq_true rfl) ?_
  intro p9 e9 s9 m9 args9 below9 meth9 c9 F hr9 hl9 hin9 hargs9 hts9
  rw [fX10_line] at h
  refine g_lv (lv' := [(0, .ref (ev 0 + 65)), (1, .int l1), (2, .int l2), (3, .int l3)]) ⟨rfl, rfl, rfl, rfl, trivial⟩ ?_
  refine g_iload_n (i := 1) F dX10_line_0 rfl rfl ?_
  refine g_callSI F (mcR := 0) (msR := 0) (c_X10_isCell G0 (X := X) (M := M) (nb := nb) rfl) wd_16_7 wd_16_5 wd_16_6 wd_1_5 ⟨by decide, by decide⟩ (nn := 1) (by decide) (As := [.int l1]) rfl rfl (Nat.le_of_ble_eq_true rfl) (by decide) (by decide) ⟨by decide, by decide⟩ dX10_line_1 ?_
  refine g_if_eq (tgt := 35) F dX10_line_4 (by decide) h (fun a12 h => ?_) (fun a12 h => ?_)
  · refine g_ldcw F dX10_line_35 wd_37_16 ?_
    exact g_iret F hr9 rfl hl9 h rfl (by decide) (by decide) dX10_line_38
  · refine g_iload_n (i := 2) F dX10_line_7 rfl rfl ?_
    refine g_callSI F (mcR := 0) (msR := 0) (c_X10_isCell G0 (X := X) (M := M) (nb := nb) rfl) wd_16_7 wd_16_5 wd_16_6 wd_1_5 ⟨by decide, by decide⟩ (nn := 1) (by decide) (As := [.int l2]) rfl rfl (Nat.le_of_ble_eq_true rfl) (by decide) (by decide) ⟨by decide, by decide⟩ dX10_line_8 ?_
    refine g_if_eq (tgt := 35) F dX10_line_11 (by decide) h (fun a11 h => ?_) (fun a11 h => ?_)
    · refine g_ldcw F dX10_line_35 wd_37_16 ?_
      exact g_iret F hr9 rfl hl9 h rfl (by decide) (by decide) dX10_line_38
    · refine g_iload_n (i := 3) F dX10_line_14 rfl rfl ?_
      refine g_callSI F (mcR := 0) (msR := 0) (c_X10_isCell G0 (X := X) (M := M) (nb := nb) rfl) wd_16_7 wd_16_5 wd_16_6 wd_1_5 ⟨by decide, by decide⟩ (nn := 1) (by decide) (As := [.int l3]) rfl rfl (Nat.le_of_ble_eq_true rfl) (by decide) (by decide) ⟨by decide, by decide⟩ dX10_line_15 ?_
      refine g_if_eq (tgt := 35) F dX10_line_18 (by decide) h (fun a10 h => ?_) (fun a10 h => ?_)
      · refine g_ldcw F dX10_line_35 wd_37_16 ?_
        exact g_iret F hr9 rfl hl9 h rfl (by decide) (by decide) dX10_line_38
      · refine g_iload_n (i := 1) F dX10_line_21 rfl rfl ?_
        refine g_iload_n (i := 2) F dX10_line_22 rfl rfl ?_
        refine g_icmp_eq (tgt := 35) F dX10_line_23 (by decide) h (fun a9 h => ?_) (fun a9 h => ?_)
        · refine g_ldcw F dX10_line_35 wd_37_16 ?_
          exact g_iret F hr9 rfl hl9 h rfl (by decide) (by decide) dX10_line_38
        · refine g_iload_n (i := 1) F dX10_line_26 rfl rfl ?_
          refine g_iload_n (i := 2) F dX10_line_27 rfl rfl ?_
          refine g_iload_n (i := 3) F dX10_line_28 rfl rfl ?_
          refine g_callSI F (mcR := 0) (msR := 0) (c_X10_crossOf G0 (X := X) (M := M) (nb := nb) rfl) wd_37_19 wd_37_17 wd_37_18 wd_1_5 ⟨by decide, by decide⟩ (nn := 3) (by decide) (As := [.int l1, .int l2, .int l3]) rfl rfl (Nat.le_of_ble_eq_true rfl) (by decide) (by decide) ⟨by decide, by decide⟩ dX10_line_29 ?_
          refine g_goto (tgt := 38) F dX10_line_32 (by decide) ?_
          exact g_iret F hr9 rfl hl9 h rfl (by decide) (by decide) dX10_line_38
def fX10_marks_b134 (l1f69 : Int32) (l2f69 : Int32) (l3f69 : Int32) (l4f69 : Int32) (K69 : MW → Int32 → Int32 → Option (Int32 × MW)) (M : MW) (l6 : Int32) (l8 : Int32) (t0 : Int32) : Option (Int32 × MW) :=
  if (fX10_size (l8 - t0)) ≤ l4f69 then K69 M t0 (l6 + (1 : Int32))
  else some (l6, M)
def fX10_marks_l69 (l1f69 : Int32) (l2f69 : Int32) (l3f69 : Int32) (l4f69 : Int32) (K69 : MW → Int32 → Int32 → Option (Int32 × MW)) (M : MW) (l5 : Int32) (l6 : Int32) : Option (Int32 × MW) :=
  if ((M.1 7) + l2f69) ≤ l6 then some ((-1 : Int32), M)
  else (rd (M.2 100) 72 (((6 : Int32) * l6) + l1f69)).bind fun v13 =>
  if v13 = (-1 : Int32) then some (l6, M)
  else bd (fX10_crossOf (l3f69 / (100 : Int32)) (jrem l3f69 (100 : Int32)) v13) fun v17 =>
  if l6 = (M.1 7) then fX10_marks_b134 l1f69 l2f69 l3f69 l4f69 K69 M l6 v17 v17
  else fX10_marks_b134 l1f69 l2f69 l3f69 l4f69 K69 M l6 v17 l5
def fX10_marks (M : MW) (l1 : Int32) (l2 : Int32) (l3 : Int32) (l4 : Int32) : Option (Int32 × MW) :=
  if (fX10_isBoat M l1) = 0 then some ((-5 : Int32), M)
  else if (fX10_isNight M l2) = 0 then some ((-7 : Int32), M)
  else if (fX10_in l3 (0 : Int32) (9999 : Int32)) = 0 then some ((-7 : Int32), M)
  else if (l3 / (100 : Int32)) = (jrem l3 (100 : Int32)) then some ((-7 : Int32), M)
  else if (fX10_in l4 (0 : Int32) (99 : Int32)) = 0 then some ((-7 : Int32), M)
  else (fX10_goes M l2).bind fun M9 =>
  bd (M9.1 7) fun v11 =>
  lo3 (fX10_marks_l69 l1 l2 l3 l4) FU M9 (0 : Int32) v11
set_option maxRecDepth 100000 in
set_option maxHeartbeats 4000000 in
theorem c_X10_marks {l : Launch} {s0 : State} {D : va_G} {ev : Nat → Nat} (G0 : Gl s0 D ev) {X : XW} {M : MW} {nb : Nat} {l1 : Int32} {l2 : Int32} {l3 : Int32} {l4 : Int32} {r' : Int32} {M' : MW}  (h : fX10_marks M l1 l2 l3 l4 = some (r', M')) : CT l s0 D ev yX10_marks cX10_marks 9 (some .int) 7 0 0 [.ref (ev 0 + 65), .int l1, .int l2, .int l3, .int l4] (cells ev X M (nb + 1)) (QI s0 D ev r' (cells ev X M' (nb + 1))) := by
  refine ct_of G0 (by decide) (Nat.le_of_ble_eq_true rfl) ?_
  intro p9 e9 s9 m9 args9 below9 meth9 c9 F hr9 hl9 hin9 hargs9 hts9
  have L69 : ∀ (l1f69 : Int32) (l2f69 : Int32) (l3f69 : Int32) (l4f69 : Int32) (N69 : Nat) (M : MW) (l5 : Int32) (l6 : Int32), lo3 (fX10_marks_l69 l1f69 l2f69 l3f69 l4f69) N69 M l5 l6 = some (r', M') → GJ p9 l e9 (rg 7 0 0) s9 m9 args9 below9 meth9 c9 (MQ below9 (QI s0 D ev r' (cells ev X M' (nb + 1))) args9 s9 0 0 (frA ev)) s0 D ev 9 0 0 69 [(0, .ref (ev 0 + 65)), (1, .int l1f69), (2, .int l2f69), (3, .int l3f69), (4, .int l4f69), (5, .int l5), (6, .int l6)] ([]) (cells ev X M (nb + 1)) := by
    intro l1f69 l2f69 l3f69 l4f69 N69
    induction N69 with
    | zero => intro M l5 l6 h; cases h
    | succ N69 ih69 =>
      have U134 : ∀ (M : MW) (l6 : Int32) (l8 : Int32) (t0 : Int32), fX10_marks_b134 l1f69 l2f69 l3f69 l4f69 (lo3 (fX10_marks_l69 l1f69 l2f69 l3f69 l4f69) N69) M l6 l8 t0 = some (r', M') → GJ p9 l e9 (rg 7 0 0) s9 m9 args9 below9 meth9 c9 (MQ below9 (QI s0 D ev r' (cells ev X M' (nb + 1))) args9 s9 0 0 (frA ev)) s0 D ev 9 0 0 134 [(0, .ref (ev 0 + 65)), (1, .int l1f69), (2, .int l2f69), (3, .int l3f69), (4, .int l4f69), (6, .int l6), (8, .int l8)] (.int t0 :: []) (cells ev X M (nb + 1)) := by
        intro M l6 l8 t0 h
        rw [fX10_marks_b134] at h
        refine g_istore (i := 5) (lv' := [(5, .int t0), (0, .ref (ev 0 + 65)), (1, .int l1f69), (2, .int l2f69), (3, .int l3f69), (4, .int l4f69), (6, .int l6), (8, .int l8)]) F dX10_marks_134 (by decide) rfl ?_
        refine g_iload (i := 8) F dX10_marks_136 rfl ?_
        refine g_iload (i := 5) F dX10_marks_138 rfl ?_
        refine g_isub F dX10_marks_140 ?_
        refine g_callSI F (mcR := 0) (msR := 0) (c_X10_size G0 (X := X) (M := M) (nb := nb) rfl) wd_30_17 wd_30_15 wd_30_16 wd_1_5 ⟨by decide, by decide⟩ (nn := 1) (by decide) (As := [.int (l8 - t0)]) rfl rfl (Nat.le_of_ble_eq_true rfl) (by decide) (by decide) ⟨by decide, by decide⟩ dX10_marks_141 ?_
        refine g_iload (i := 4) F dX10_marks_144 rfl ?_
        refine g_icmp_le (tgt := 152) F dX10_marks_146 (by decide) h (fun a21 h => ?_) (fun a21 h => ?_)
        · refine g_iinc (i := 6) (v := (l6 + (1 : Int32))) (lv' := [(6, .int (l6 + (1 : Int32))), (5, .int t0), (0, .ref (ev 0 + 65)), (1, .int l1f69), (2, .int l2f69), (3, .int l3f69), (4, .int l4f69), (8, .int l8)]) F dX10_marks_152 rfl rfl (by decide) rfl ?_
          refine g_goto (tgt := 69) F dX10_marks_155 (by decide) ?_
          refine g_lv (lv' := [(0, .ref (ev 0 + 65)), (1, .int l1f69), (2, .int l2f69), (3, .int l3f69), (4, .int l4f69), (5, .int t0), (6, .int (l6 + (1 : Int32)))]) ⟨rfl, rfl, rfl, rfl, rfl, rfl, rfl, trivial⟩ ?_
          exact ih69 _ _ _ h
        · refine g_iload (i := 6) F dX10_marks_149 rfl ?_
          have hp := Prod.mk.inj (Option.some.inj h)
          exact g_iret F hr9 rfl hl9 hp.1 (by rw [hp.2]) (by decide) (by decide) dX10_marks_151
      intro M l5 l6 h
      change fX10_marks_l69 l1f69 l2f69 l3f69 l4f69 (lo3 (fX10_marks_l69 l1f69 l2f69 l3f69 l4f69) N69) M l5 l6 = some (r', M') at h
      rw [fX10_marks_l69] at h
      refine g_iload (i := 6) F dX10_marks_69 rfl ?_
      refine g_aload_n (i := 0) F dX10_marks_71 rfl rfl ?_
      refine g_get_10_7 F wd_18_17 dX10_marks_72 ?_
      refine g_iload_n (i := 2) F dX10_marks_75 rfl rfl ?_
      refine g_iadd F dX10_marks_76 ?_
      refine g_icmp_ge (tgt := 158) F dX10_marks_77 (by decide) h (fun a24 h => ?_) (fun a24 h => ?_)
      · refine g_iconst F dX10_marks_158 (v := -1) (by decide) ?_
        have hp := Prod.mk.inj (Option.some.inj h)
        exact g_iret F hr9 rfl hl9 hp.1 (by rw [hp.2]) (by decide) (by decide) dX10_marks_159
      · refine g_aload_n (i := 0) F dX10_marks_80 rfl rfl ?_
        refine g_get_10_51 F wd_13_0 dX10_marks_81 ?_
        refine g_bipush F dX10_marks_84 (v := 6) (by decide) ?_
        refine g_iload (i := 6) F dX10_marks_86 rfl ?_
        refine g_imul F dX10_marks_88 ?_
        refine g_iload_n (i := 1) F dX10_marks_89 rfl rfl ?_
        refine g_iadd F dX10_marks_90 ?_
        obtain ⟨v13, e14, h⟩ := bind_at h
        refine g_ildM F rfl rfl e14 dX10_marks_91 ?_
        refine g_istore (i := 7) (lv' := [(7, .int v13), (0, .ref (ev 0 + 65)), (1, .int l1f69), (2, .int l2f69), (3, .int l3f69), (4, .int l4f69), (5, .int l5), (6, .int l6)]) F dX10_marks_92 (by decide) rfl ?_
        refine g_iload (i := 7) F dX10_marks_94 rfl ?_
        refine g_iconst F dX10_marks_96 (v := -1) (by decide) ?_
        refine g_icmp_ne (tgt := 103) F dX10_marks_97 (by decide) h (fun a23 h => ?_) (fun a23 h => ?_)
        · refine g_iload_n (i := 3) F dX10_marks_103 rfl rfl ?_
          refine g_bipush F dX10_marks_104 (v := 100) (by decide) ?_
          refine g_idiv F dX10_marks_106 (by decide) ?_
          refine g_iload_n (i := 3) F dX10_marks_107 rfl rfl ?_
          refine g_bipush F dX10_marks_108 (v := 100) (by decide) ?_
          refine g_irem F dX10_marks_110 (by decide) ?_
          refine g_iload (i := 7) F dX10_marks_111 rfl ?_
          refine g_callSI F (mcR := 0) (msR := 0) (c_X10_crossOf G0 (X := X) (M := M) (nb := nb) rfl) wd_37_19 wd_37_17 wd_37_18 wd_1_5 ⟨by decide, by decide⟩ (nn := 3) (by decide) (As := [.int (l3f69 / (100 : Int32)), .int (jrem l3f69 (100 : Int32)), .int v13]) rfl rfl (Nat.le_of_ble_eq_true rfl) (by decide) (by decide) ⟨by decide, by decide⟩ dX10_marks_113 ?_
          refine g_topi F h (fun v17 e18 h => ?_)
          refine g_istore (i := 8) (lv' := [(8, .int v17), (7, .int v13), (0, .ref (ev 0 + 65)), (1, .int l1f69), (2, .int l2f69), (3, .int l3f69), (4, .int l4f69), (5, .int l5), (6, .int l6)]) F dX10_marks_116 (by decide) rfl ?_
          refine g_iload (i := 6) F dX10_marks_118 rfl ?_
          refine g_aload_n (i := 0) F dX10_marks_120 rfl rfl ?_
          refine g_get_10_7 F wd_18_17 dX10_marks_121 ?_
          refine g_icmp_ne (tgt := 132) F dX10_marks_124 (by decide) h (fun a22 h => ?_) (fun a22 h => ?_)
          · refine g_iload (i := 5) F dX10_marks_132 rfl ?_
            refine g_lv (lv' := [(0, .ref (ev 0 + 65)), (1, .int l1f69), (2, .int l2f69), (3, .int l3f69), (4, .int l4f69), (6, .int l6), (8, .int v17)]) ⟨rfl, rfl, rfl, rfl, rfl, rfl, rfl, trivial⟩ ?_
            exact U134 _ _ _ _ h
          · refine g_iload (i := 8) F dX10_marks_127 rfl ?_
            refine g_goto (tgt := 134) F dX10_marks_129 (by decide) ?_
            refine g_lv (lv' := [(0, .ref (ev 0 + 65)), (1, .int l1f69), (2, .int l2f69), (3, .int l3f69), (4, .int l4f69), (6, .int l6), (8, .int v17)]) ⟨rfl, rfl, rfl, rfl, rfl, rfl, rfl, trivial⟩ ?_
            exact U134 _ _ _ _ h
        · refine g_iload (i := 6) F dX10_marks_100 rfl ?_
          have hp := Prod.mk.inj (Option.some.inj h)
          exact g_iret F hr9 rfl hl9 hp.1 (by rw [hp.2]) (by decide) (by decide) dX10_marks_102
  rw [fX10_marks] at h
  refine g_lv (lv' := [(0, .ref (ev 0 + 65)), (1, .int l1), (2, .int l2), (3, .int l3), (4, .int l4)]) ⟨rfl, rfl, rfl, rfl, rfl, trivial⟩ ?_
  refine g_aload_n (i := 0) F dX10_marks_0 rfl rfl ?_
  refine g_iload_n (i := 1) F dX10_marks_1 rfl rfl ?_
  refine g_callVI F (mcR := 0) (msR := 0) (id := 65) (cells_at (kd_hidM (show kd 65 = 10 from rfl) (by decide)) (xc_10 rfl)) (ci := 10) rfl rfl rfl (c_X10_isBoat G0 (X := X) (M := M) (nb := nb) rfl) wd_23_7 wd_23_4 wd_23_5 wd_23_6 wd_1_5 ⟨by decide, by decide⟩ (nn := 1) (by decide) (As := [.int l1]) rfl rfl (Nat.le_of_ble_eq_true rfl) (by decide) (by decide) ⟨by decide, by decide⟩ dX10_marks_2 ?_
  refine g_if_ne (tgt := 11) F dX10_marks_5 (by decide) h (fun a29 h => ?_) (fun a29 h => ?_)
  · refine g_aload_n (i := 0) F dX10_marks_11 rfl rfl ?_
    refine g_iload_n (i := 2) F dX10_marks_12 rfl rfl ?_
    refine g_callVI F (mcR := 0) (msR := 0) (id := 65) (cells_at (kd_hidM (show kd 65 = 10 from rfl) (by decide)) (xc_10 rfl)) (ci := 10) rfl rfl rfl (c_X10_isNight G0 (X := X) (M := M) (nb := nb) rfl) wd_29_17 wd_29_14 wd_29_15 wd_29_16 wd_1_5 ⟨by decide, by decide⟩ (nn := 1) (by decide) (As := [.int l2]) rfl rfl (Nat.le_of_ble_eq_true rfl) (by decide) (by decide) ⟨by decide, by decide⟩ dX10_marks_13 ?_
    refine g_if_eq (tgt := 52) F dX10_marks_16 (by decide) h (fun a28 h => ?_) (fun a28 h => ?_)
    · refine g_bipush F dX10_marks_52 (v := -7) (by decide) ?_
      have hp := Prod.mk.inj (Option.some.inj h)
      exact g_iret F hr9 rfl hl9 hp.1 (by rw [hp.2]) (by decide) (by decide) dX10_marks_54
    · refine g_iload_n (i := 3) F dX10_marks_19 rfl rfl ?_
      refine g_iconst F dX10_marks_20 (v := 0) (by decide) ?_
      refine g_sipush F dX10_marks_21 (v := 9999) (by decide) ?_
      refine g_callSI F (mcR := 0) (msR := 0) (c_X10_in G0 (X := X) (M := M) (nb := nb) rfl) wd_13_21 wd_13_19 wd_13_20 wd_1_5 ⟨by decide, by decide⟩ (nn := 3) (by decide) (As := [.int l3, .int (0 : Int32), .int (9999 : Int32)]) rfl rfl (Nat.le_of_ble_eq_true rfl) (by decide) (by decide) ⟨by decide, by decide⟩ dX10_marks_24 ?_
      refine g_if_eq (tgt := 52) F dX10_marks_27 (by decide) h (fun a27 h => ?_) (fun a27 h => ?_)
      · refine g_bipush F dX10_marks_52 (v := -7) (by decide) ?_
        have hp := Prod.mk.inj (Option.some.inj h)
        exact g_iret F hr9 rfl hl9 hp.1 (by rw [hp.2]) (by decide) (by decide) dX10_marks_54
      · refine g_iload_n (i := 3) F dX10_marks_30 rfl rfl ?_
        refine g_bipush F dX10_marks_31 (v := 100) (by decide) ?_
        refine g_idiv F dX10_marks_33 (by decide) ?_
        refine g_iload_n (i := 3) F dX10_marks_34 rfl rfl ?_
        refine g_bipush F dX10_marks_35 (v := 100) (by decide) ?_
        refine g_irem F dX10_marks_37 (by decide) ?_
        refine g_icmp_eq (tgt := 52) F dX10_marks_38 (by decide) h (fun a26 h => ?_) (fun a26 h => ?_)
        · refine g_bipush F dX10_marks_52 (v := -7) (by decide) ?_
          have hp := Prod.mk.inj (Option.some.inj h)
          exact g_iret F hr9 rfl hl9 hp.1 (by rw [hp.2]) (by decide) (by decide) dX10_marks_54
        · refine g_iload (i := 4) F dX10_marks_41 rfl ?_
          refine g_iconst F dX10_marks_43 (v := 0) (by decide) ?_
          refine g_bipush F dX10_marks_44 (v := 99) (by decide) ?_
          refine g_callSI F (mcR := 0) (msR := 0) (c_X10_in G0 (X := X) (M := M) (nb := nb) rfl) wd_13_21 wd_13_19 wd_13_20 wd_1_5 ⟨by decide, by decide⟩ (nn := 3) (by decide) (As := [.int l4, .int (0 : Int32), .int (99 : Int32)]) rfl rfl (Nat.le_of_ble_eq_true rfl) (by decide) (by decide) ⟨by decide, by decide⟩ dX10_marks_46 ?_
          refine g_if_ne (tgt := 55) F dX10_marks_49 (by decide) h (fun a25 h => ?_) (fun a25 h => ?_)
          · refine g_aload_n (i := 0) F dX10_marks_55 rfl rfl ?_
            refine g_iload_n (i := 2) F dX10_marks_56 rfl rfl ?_
            obtain ⟨M9, e10, h⟩ := bind_at h
            refine g_callVV F (mcR := 0) (msR := 0) (id := 65) (cells_at (kd_hidM (show kd 65 = 10 from rfl) (by decide)) (xc_10 rfl)) (ci := 10) rfl rfl rfl (c_X10_goes G0 e10) wd_29_21 wd_29_18 wd_29_19 wd_29_20 wd_1_5 ⟨by decide, by decide⟩ (nn := 1) (by decide) (As := [.int l2]) rfl rfl (Nat.le_of_ble_eq_true rfl) (by decide) (by decide) ⟨by decide, by decide⟩ dX10_marks_57 ?_
            refine g_iconst F dX10_marks_60 (v := 0) (by decide) ?_
            refine g_istore (i := 5) (lv' := [(5, .int (0 : Int32)), (0, .ref (ev 0 + 65)), (1, .int l1), (2, .int l2), (3, .int l3), (4, .int l4)]) F dX10_marks_61 (by decide) rfl ?_
            refine g_aload_n (i := 0) F dX10_marks_63 rfl rfl ?_
            refine g_get_10_7 F wd_18_17 dX10_marks_64 ?_
            refine g_topi F h (fun v11 e12 h => ?_)
            refine g_istore (i := 6) (lv' := [(6, .int v11), (5, .int (0 : Int32)), (0, .ref (ev 0 + 65)), (1, .int l1), (2, .int l2), (3, .int l3), (4, .int l4)]) F dX10_marks_67 (by decide) rfl ?_
            refine g_lv (lv' := [(0, .ref (ev 0 + 65)), (1, .int l1), (2, .int l2), (3, .int l3), (4, .int l4), (5, .int (0 : Int32)), (6, .int v11)]) ⟨rfl, rfl, rfl, rfl, rfl, rfl, rfl, trivial⟩ ?_
            exact L69 _ _ _ _ FU _ _ _ h
          · refine g_bipush F dX10_marks_52 (v := -7) (by decide) ?_
            have hp := Prod.mk.inj (Option.some.inj h)
            exact g_iret F hr9 rfl hl9 hp.1 (by rw [hp.2]) (by decide) (by decide) dX10_marks_54
  · refine g_bipush F dX10_marks_8 (v := -5) (by decide) ?_
    have hp := Prod.mk.inj (Option.some.inj h)
    exact g_iret F hr9 rfl hl9 hp.1 (by rw [hp.2]) (by decide) (by decide) dX10_marks_10
def fX10_bearsOf_b32 (M : MW) (l1 : Int32) (l2 : Int32) (t0 : Int32) : Option (Int32 × MW) :=
  (rd (M.2 77) 6 l1).bind fun v1 =>
  (rd (M.2 78) 6 l1).bind fun v3 =>
  bd2 (fX10_pullOf M l1 v1 l2 v3) fun v6 M5 =>
  some (((v6 * t0) / (100 : Int32)), M5)
def fX10_bearsOf (M : MW) (l1 : Int32) (l2 : Int32) (l3 : Int32) : Option (Int32 × MW) :=
  if l3 = 0 then fX10_bearsOf_b32 M l1 l2 (50 : Int32)
  else if l3 = (1 : Int32) then fX10_bearsOf_b32 M l1 l2 (54 : Int32)
  else if l3 = (2 : Int32) then fX10_bearsOf_b32 M l1 l2 (71 : Int32)
  else fX10_bearsOf_b32 M l1 l2 (131 : Int32)
set_option maxRecDepth 100000 in
set_option maxHeartbeats 4000000 in
theorem c_X10_bearsOf {l : Launch} {s0 : State} {D : va_G} {ev : Nat → Nat} (G0 : Gl s0 D ev) {X : XW} {M : MW} {nb : Nat} {l1 : Int32} {l2 : Int32} {l3 : Int32} {r' : Int32} {M' : MW}  (h : fX10_bearsOf M l1 l2 l3 = some (r', M')) : CT l s0 D ev yX10_bearsOf cX10_bearsOf 5 (some .int) 4 0 0 [.ref (ev 0 + 65), .int l1, .int l2, .int l3] (cells ev X M (nb + 1)) (QI s0 D ev r' (cells ev X M' (nb + 1))) := by
  refine ct_of G0 (by decide) (Nat.le_of_ble_eq_true rfl) ?_
  intro p9 e9 s9 m9 args9 below9 meth9 c9 F hr9 hl9 hin9 hargs9 hts9
  have U32 : ∀ (M : MW) (l1 : Int32) (l2 : Int32) (t0 : Int32), fX10_bearsOf_b32 M l1 l2 t0 = some (r', M') → GJ p9 l e9 (rg 4 0 0) s9 m9 args9 below9 meth9 c9 (MQ below9 (QI s0 D ev r' (cells ev X M' (nb + 1))) args9 s9 0 0 (frA ev)) s0 D ev 5 0 0 32 [(0, .ref (ev 0 + 65)), (1, .int l1), (2, .int l2)] (.int t0 :: []) (cells ev X M (nb + 1)) := by
    intro M l1 l2 t0 h
    rw [fX10_bearsOf_b32] at h
    refine g_istore (i := 4) (lv' := [(4, .int t0), (0, .ref (ev 0 + 65)), (1, .int l1), (2, .int l2)]) F dX10_bearsOf_32 (by decide) rfl ?_
    refine g_aload_n (i := 0) F dX10_bearsOf_34 rfl rfl ?_
    refine g_iload_n (i := 1) F dX10_bearsOf_35 rfl rfl ?_
    refine g_aload_n (i := 0) F dX10_bearsOf_36 rfl rfl ?_
    refine g_get_10_13 F wd_12_1 dX10_bearsOf_37 ?_
    refine g_iload_n (i := 1) F dX10_bearsOf_40 rfl rfl ?_
    obtain ⟨v1, e2, h⟩ := bind_at h
    refine g_ildM F rfl rfl e2 dX10_bearsOf_41 ?_
    refine g_iload_n (i := 2) F dX10_bearsOf_42 rfl rfl ?_
    refine g_aload_n (i := 0) F dX10_bearsOf_43 rfl rfl ?_
    refine g_get_10_14 F wd_12_2 dX10_bearsOf_44 ?_
    refine g_iload_n (i := 1) F dX10_bearsOf_47 rfl rfl ?_
    obtain ⟨v3, e4, h⟩ := bind_at h
    refine g_ildM F rfl rfl e4 dX10_bearsOf_48 ?_
    obtain ⟨v6, M5, e7, h⟩ := bd2_at h
    refine g_callVI F (mcR := 0) (msR := 0) (id := 65) (cells_at (kd_hidM (show kd 65 = 10 from rfl) (by decide)) (xc_10 rfl)) (ci := 10) rfl rfl rfl (c_X10_pullOf G0 e7) wd_25_23 wd_25_20 wd_25_21 wd_25_22 wd_1_5 ⟨by decide, by decide⟩ (nn := 4) (by decide) (As := [.int l1, .int v1, .int l2, .int v3]) rfl rfl (Nat.le_of_ble_eq_true rfl) (by decide) (by decide) ⟨by decide, by decide⟩ dX10_bearsOf_49 ?_
    refine g_iload (i := 4) F dX10_bearsOf_52 rfl ?_
    refine g_imul F dX10_bearsOf_54 ?_
    refine g_bipush F dX10_bearsOf_55 (v := 100) (by decide) ?_
    refine g_idiv F dX10_bearsOf_57 (by decide) ?_
    have hp := Prod.mk.inj (Option.some.inj h)
    exact g_iret F hr9 rfl hl9 hp.1 (by rw [hp.2]) (by decide) (by decide) dX10_bearsOf_58
  rw [fX10_bearsOf] at h
  refine g_lv (lv' := [(0, .ref (ev 0 + 65)), (1, .int l1), (2, .int l2), (3, .int l3)]) ⟨rfl, rfl, rfl, rfl, trivial⟩ ?_
  refine g_iload_n (i := 3) F dX10_bearsOf_0 rfl rfl ?_
  refine g_if_ne (tgt := 9) F dX10_bearsOf_1 (by decide) h (fun a10 h => ?_) (fun a10 h => ?_)
  · refine g_iload_n (i := 3) F dX10_bearsOf_9 rfl rfl ?_
    refine g_iconst F dX10_bearsOf_10 (v := 1) (by decide) ?_
    refine g_icmp_ne (tgt := 19) F dX10_bearsOf_11 (by decide) h (fun a9 h => ?_) (fun a9 h => ?_)
    · refine g_iload_n (i := 3) F dX10_bearsOf_19 rfl rfl ?_
      refine g_iconst F dX10_bearsOf_20 (v := 2) (by decide) ?_
      refine g_icmp_ne (tgt := 29) F dX10_bearsOf_21 (by decide) h (fun a8 h => ?_) (fun a8 h => ?_)
      · refine g_sipush F dX10_bearsOf_29 (v := 131) (by decide) ?_
        refine g_lv (lv' := [(0, .ref (ev 0 + 65)), (1, .int l1), (2, .int l2)]) ⟨rfl, rfl, rfl, trivial⟩ ?_
        exact U32 _ _ _ _ h
      · refine g_bipush F dX10_bearsOf_24 (v := 71) (by decide) ?_
        refine g_goto (tgt := 32) F dX10_bearsOf_26 (by decide) ?_
        refine g_lv (lv' := [(0, .ref (ev 0 + 65)), (1, .int l1), (2, .int l2)]) ⟨rfl, rfl, rfl, trivial⟩ ?_
        exact U32 _ _ _ _ h
    · refine g_bipush F dX10_bearsOf_14 (v := 54) (by decide) ?_
      refine g_goto (tgt := 32) F dX10_bearsOf_16 (by decide) ?_
      refine g_lv (lv' := [(0, .ref (ev 0 + 65)), (1, .int l1), (2, .int l2)]) ⟨rfl, rfl, rfl, trivial⟩ ?_
      exact U32 _ _ _ _ h
  · refine g_bipush F dX10_bearsOf_4 (v := 50) (by decide) ?_
    refine g_goto (tgt := 32) F dX10_bearsOf_6 (by decide) ?_
    refine g_lv (lv' := [(0, .ref (ev 0 + 65)), (1, .int l1), (2, .int l2)]) ⟨rfl, rfl, rfl, trivial⟩ ?_
    exact U32 _ _ _ _ h
def fX10_bears (M : MW) (l1 : Int32) (l2 : Int32) (l3 : Int32) : Option (Int32 × MW) :=
  bd2 (fX10_bearsOf M l1 l2 l3) fun v2 M1 =>
  (rd (M1.2 77) 6 l1).bind fun v4 =>
  (rd (M1.2 78) 6 l1).bind fun v6 =>
  bd2 (fX10_powerOf M1 l1 v4 l2 v6) fun v9 M8 =>
  if v9 < v2 then some ((0 : Int32), M8)
  else some ((1 : Int32), M8)
set_option maxRecDepth 100000 in
set_option maxHeartbeats 4000000 in
theorem c_X10_bears {l : Launch} {s0 : State} {D : va_G} {ev : Nat → Nat} (G0 : Gl s0 D ev) {X : XW} {M : MW} {nb : Nat} {l1 : Int32} {l2 : Int32} {l3 : Int32} {r' : Int32} {M' : MW}  (h : fX10_bears M l1 l2 l3 = some (r', M')) : CT l s0 D ev yX10_bears cX10_bears 4 (some .boolean) 5 0 0 [.ref (ev 0 + 65), .int l1, .int l2, .int l3] (cells ev X M (nb + 1)) (QI s0 D ev r' (cells ev X M' (nb + 1))) := by
  refine ct_of G0 (by decide) (Nat.le_of_ble_eq_true rfl) ?_
  intro p9 e9 s9 m9 args9 below9 meth9 c9 F hr9 hl9 hin9 hargs9 hts9
  rw [fX10_bears] at h
  refine g_lv (lv' := [(0, .ref (ev 0 + 65)), (1, .int l1), (2, .int l2), (3, .int l3)]) ⟨rfl, rfl, rfl, rfl, trivial⟩ ?_
  refine g_aload_n (i := 0) F dX10_bears_0 rfl rfl ?_
  refine g_iload_n (i := 1) F dX10_bears_1 rfl rfl ?_
  refine g_iload_n (i := 2) F dX10_bears_2 rfl rfl ?_
  refine g_iload_n (i := 3) F dX10_bears_3 rfl rfl ?_
  obtain ⟨v2, M1, e3, h⟩ := bd2_at h
  refine g_callVI F (mcR := 0) (msR := 0) (id := 65) (cells_at (kd_hidM (show kd 65 = 10 from rfl) (by decide)) (xc_10 rfl)) (ci := 10) rfl rfl rfl (c_X10_bearsOf G0 e3) wd_40_3 wd_40_0 wd_40_1 wd_40_2 wd_1_5 ⟨by decide, by decide⟩ (nn := 3) (by decide) (As := [.int l1, .int l2, .int l3]) rfl rfl (Nat.le_of_ble_eq_true rfl) (by decide) (by decide) ⟨by decide, by decide⟩ dX10_bears_4 ?_
  refine g_aload_n (i := 0) F dX10_bears_7 rfl rfl ?_
  refine g_iload_n (i := 1) F dX10_bears_8 rfl rfl ?_
  refine g_aload_n (i := 0) F dX10_bears_9 rfl rfl ?_
  refine g_get_10_13 F wd_12_1 dX10_bears_10 ?_
  refine g_iload_n (i := 1) F dX10_bears_13 rfl rfl ?_
  obtain ⟨v4, e5, h⟩ := bind_at h
  refine g_ildM F rfl rfl e5 dX10_bears_14 ?_
  refine g_iload_n (i := 2) F dX10_bears_15 rfl rfl ?_
  refine g_aload_n (i := 0) F dX10_bears_16 rfl rfl ?_
  refine g_get_10_14 F wd_12_2 dX10_bears_17 ?_
  refine g_iload_n (i := 1) F dX10_bears_20 rfl rfl ?_
  obtain ⟨v6, e7, h⟩ := bind_at h
  refine g_ildM F rfl rfl e7 dX10_bears_21 ?_
  obtain ⟨v9, M8, e10, h⟩ := bd2_at h
  refine g_callVI F (mcR := 0) (msR := 0) (id := 65) (cells_at (kd_hidM (show kd 65 = 10 from rfl) (by decide)) (xc_10 rfl)) (ci := 10) rfl rfl rfl (c_X10_powerOf G0 e10) wd_26_16 wd_26_13 wd_26_14 wd_26_15 wd_1_5 ⟨by decide, by decide⟩ (nn := 4) (by decide) (As := [.int l1, .int v4, .int l2, .int v6]) rfl rfl (Nat.le_of_ble_eq_true rfl) (by decide) (by decide) ⟨by decide, by decide⟩ dX10_bears_22 ?_
  refine g_icmp_gt (tgt := 32) F dX10_bears_25 (by decide) h (fun a11 h => ?_) (fun a11 h => ?_)
  · refine g_iconst F dX10_bears_32 (v := 0) (by decide) ?_
    have hp := Prod.mk.inj (Option.some.inj h)
    exact g_iret F hr9 (by decide) hl9 hp.1 (by rw [hp.2]) (by decide) (by decide) dX10_bears_33
  · refine g_iconst F dX10_bears_28 (v := 1) (by decide) ?_
    refine g_goto (tgt := 33) F dX10_bears_29 (by decide) ?_
    have hp := Prod.mk.inj (Option.some.inj h)
    exact g_iret F hr9 (by decide) hl9 hp.1 (by rw [hp.2]) (by decide) (by decide) dX10_bears_33
def fX10_two_ (M : MW) (l1 : Int32) (l2 : Int32) (l3 : Int32) (l4 : Int32) : Option (Int32 × MW) :=
  if (fX10_isBoat M l1) = 0 then some ((-5 : Int32), M)
  else if (fX10_isHour l2) = 0 then some ((-7 : Int32), M)
  else if (fX10_in l3 (0 : Int32) (3 : Int32)) = 0 then some ((-7 : Int32), M)
  else if (fX10_in l4 (0 : Int32) (1 : Int32)) = 0 then some ((-7 : Int32), M)
  else (rd (M.2 77) 6 l1).bind fun v9 =>
  if v9 = (-1 : Int32) then some ((-3 : Int32), M)
  else if l4 = 0 then bd2 (fX10_bearsOf M l1 l2 l3) fun v16 M15 =>
  some (v16, M15)
  else bd2 (fX10_bears M l1 l2 l3) fun v12 M11 =>
  if v12 = 0 then some ((0 : Int32), M11)
  else some ((1 : Int32), M11)
set_option maxRecDepth 100000 in
set_option maxHeartbeats 4000000 in
theorem c_X10_two_ {l : Launch} {s0 : State} {D : va_G} {ev : Nat → Nat} (G0 : Gl s0 D ev) {X : XW} {M : MW} {nb : Nat} {l1 : Int32} {l2 : Int32} {l3 : Int32} {l4 : Int32} {r' : Int32} {M' : MW}  (h : fX10_two_ M l1 l2 l3 l4 = some (r', M')) : CT l s0 D ev yX10_two_ cX10_two_ 5 (some .int) 6 0 0 [.ref (ev 0 + 65), .int l1, .int l2, .int l3, .int l4] (cells ev X M (nb + 1)) (QI s0 D ev r' (cells ev X M' (nb + 1))) := by
  refine ct_of G0 (by decide) (Nat.le_of_ble_eq_true rfl) ?_
  intro p9 e9 s9 m9 args9 below9 meth9 c9 F hr9 hl9 hin9 hargs9 hts9
  rw [fX10_two_] at h
  refine g_lv (lv' := [(0, .ref (ev 0 + 65)), (1, .int l1), (2, .int l2), (3, .int l3), (4, .int l4)]) ⟨rfl, rfl, rfl, rfl, rfl, trivial⟩ ?_
  refine g_aload_n (i := 0) F dX10_two__0 rfl rfl ?_
  refine g_iload_n (i := 1) F dX10_two__1 rfl rfl ?_
  refine g_callVI F (mcR := 0) (msR := 0) (id := 65) (cells_at (kd_hidM (show kd 65 = 10 from rfl) (by decide)) (xc_10 rfl)) (ci := 10) rfl rfl rfl (c_X10_isBoat G0 (X := X) (M := M) (nb := nb) rfl) wd_23_7 wd_23_4 wd_23_5 wd_23_6 wd_1_5 ⟨by decide, by decide⟩ (nn := 1) (by decide) (As := [.int l1]) rfl rfl (Nat.le_of_ble_eq_true rfl) (by decide) (by decide) ⟨by decide, by decide⟩ dX10_two__2 ?_
  refine g_if_ne (tgt := 11) F dX10_two__5 (by decide) h (fun a23 h => ?_) (fun a23 h => ?_)
  · refine g_iload_n (i := 2) F dX10_two__11 rfl rfl ?_
    refine g_callSI F (mcR := 0) (msR := 0) (c_X10_isHour G0 (X := X) (M := M) (nb := nb) rfl) wd_17_23 wd_17_21 wd_17_22 wd_1_5 ⟨by decide, by decide⟩ (nn := 1) (by decide) (As := [.int l2]) rfl rfl (Nat.le_of_ble_eq_true rfl) (by decide) (by decide) ⟨by decide, by decide⟩ dX10_two__12 ?_
    refine g_if_eq (tgt := 37) F dX10_two__15 (by decide) h (fun a22 h => ?_) (fun a22 h => ?_)
    · refine g_bipush F dX10_two__37 (v := -7) (by decide) ?_
      have hp := Prod.mk.inj (Option.some.inj h)
      exact g_iret F hr9 rfl hl9 hp.1 (by rw [hp.2]) (by decide) (by decide) dX10_two__39
    · refine g_iload_n (i := 3) F dX10_two__18 rfl rfl ?_
      refine g_iconst F dX10_two__19 (v := 0) (by decide) ?_
      refine g_iconst F dX10_two__20 (v := 3) (by decide) ?_
      refine g_callSI F (mcR := 0) (msR := 0) (c_X10_in G0 (X := X) (M := M) (nb := nb) rfl) wd_13_21 wd_13_19 wd_13_20 wd_1_5 ⟨by decide, by decide⟩ (nn := 3) (by decide) (As := [.int l3, .int (0 : Int32), .int (3 : Int32)]) rfl rfl (Nat.le_of_ble_eq_true rfl) (by decide) (by decide) ⟨by decide, by decide⟩ dX10_two__21 ?_
      refine g_if_eq (tgt := 37) F dX10_two__24 (by decide) h (fun a21 h => ?_) (fun a21 h => ?_)
      · refine g_bipush F dX10_two__37 (v := -7) (by decide) ?_
        have hp := Prod.mk.inj (Option.some.inj h)
        exact g_iret F hr9 rfl hl9 hp.1 (by rw [hp.2]) (by decide) (by decide) dX10_two__39
      · refine g_iload (i := 4) F dX10_two__27 rfl ?_
        refine g_iconst F dX10_two__29 (v := 0) (by decide) ?_
        refine g_iconst F dX10_two__30 (v := 1) (by decide) ?_
        refine g_callSI F (mcR := 0) (msR := 0) (c_X10_in G0 (X := X) (M := M) (nb := nb) rfl) wd_13_21 wd_13_19 wd_13_20 wd_1_5 ⟨by decide, by decide⟩ (nn := 3) (by decide) (As := [.int l4, .int (0 : Int32), .int (1 : Int32)]) rfl rfl (Nat.le_of_ble_eq_true rfl) (by decide) (by decide) ⟨by decide, by decide⟩ dX10_two__31 ?_
        refine g_if_ne (tgt := 40) F dX10_two__34 (by decide) h (fun a20 h => ?_) (fun a20 h => ?_)
        · refine g_aload_n (i := 0) F dX10_two__40 rfl rfl ?_
          refine g_get_10_13 F wd_12_1 dX10_two__41 ?_
          refine g_iload_n (i := 1) F dX10_two__44 rfl rfl ?_
          obtain ⟨v9, e10, h⟩ := bind_at h
          refine g_ildM F rfl rfl e10 dX10_two__45 ?_
          refine g_iconst F dX10_two__46 (v := -1) (by decide) ?_
          refine g_icmp_ne (tgt := 53) F dX10_two__47 (by decide) h (fun a19 h => ?_) (fun a19 h => ?_)
          · refine g_iload (i := 4) F dX10_two__53 rfl ?_
            refine g_if_ne (tgt := 68) F dX10_two__55 (by decide) h (fun a18 h => ?_) (fun a18 h => ?_)
            · refine g_aload_n (i := 0) F dX10_two__68 rfl rfl ?_
              refine g_iload_n (i := 1) F dX10_two__69 rfl rfl ?_
              refine g_iload_n (i := 2) F dX10_two__70 rfl rfl ?_
              refine g_iload_n (i := 3) F dX10_two__71 rfl rfl ?_
              obtain ⟨v12, M11, e13, h⟩ := bd2_at h
              refine g_callVI F (mcR := 0) (msR := 0) (id := 65) (cells_at (kd_hidM (show kd 65 = 10 from rfl) (by decide)) (xc_10 rfl)) (ci := 10) rfl rfl rfl (c_X10_bears G0 e13) wd_40_7 wd_40_4 wd_40_5 wd_40_6 wd_1_5 ⟨by decide, by decide⟩ (nn := 3) (by decide) (As := [.int l1, .int l2, .int l3]) rfl rfl (Nat.le_of_ble_eq_true rfl) (by decide) (by decide) ⟨by decide, by decide⟩ dX10_two__72 ?_
              refine g_if_eq (tgt := 82) F dX10_two__75 (by decide) h (fun a14 h => ?_) (fun a14 h => ?_)
              · refine g_iconst F dX10_two__82 (v := 0) (by decide) ?_
                have hp := Prod.mk.inj (Option.some.inj h)
                exact g_iret F hr9 rfl hl9 hp.1 (by rw [hp.2]) (by decide) (by decide) dX10_two__83
              · refine g_iconst F dX10_two__78 (v := 1) (by decide) ?_
                refine g_goto (tgt := 83) F dX10_two__79 (by decide) ?_
                have hp := Prod.mk.inj (Option.some.inj h)
                exact g_iret F hr9 rfl hl9 hp.1 (by rw [hp.2]) (by decide) (by decide) dX10_two__83
            · refine g_aload_n (i := 0) F dX10_two__58 rfl rfl ?_
              refine g_iload_n (i := 1) F dX10_two__59 rfl rfl ?_
              refine g_iload_n (i := 2) F dX10_two__60 rfl rfl ?_
              refine g_iload_n (i := 3) F dX10_two__61 rfl rfl ?_
              obtain ⟨v16, M15, e17, h⟩ := bd2_at h
              refine g_callVI F (mcR := 0) (msR := 0) (id := 65) (cells_at (kd_hidM (show kd 65 = 10 from rfl) (by decide)) (xc_10 rfl)) (ci := 10) rfl rfl rfl (c_X10_bearsOf G0 e17) wd_40_3 wd_40_0 wd_40_1 wd_40_2 wd_1_5 ⟨by decide, by decide⟩ (nn := 3) (by decide) (As := [.int l1, .int l2, .int l3]) rfl rfl (Nat.le_of_ble_eq_true rfl) (by decide) (by decide) ⟨by decide, by decide⟩ dX10_two__62 ?_
              refine g_goto (tgt := 83) F dX10_two__65 (by decide) ?_
              have hp := Prod.mk.inj (Option.some.inj h)
              exact g_iret F hr9 rfl hl9 hp.1 (by rw [hp.2]) (by decide) (by decide) dX10_two__83
          · refine g_bipush F dX10_two__50 (v := -3) (by decide) ?_
            have hp := Prod.mk.inj (Option.some.inj h)
            exact g_iret F hr9 rfl hl9 hp.1 (by rw [hp.2]) (by decide) (by decide) dX10_two__52
        · refine g_bipush F dX10_two__37 (v := -7) (by decide) ?_
          have hp := Prod.mk.inj (Option.some.inj h)
          exact g_iret F hr9 rfl hl9 hp.1 (by rw [hp.2]) (by decide) (by decide) dX10_two__39
  · refine g_bipush F dX10_two__8 (v := -5) (by decide) ?_
    have hp := Prod.mk.inj (Option.some.inj h)
    exact g_iret F hr9 rfl hl9 hp.1 (by rw [hp.2]) (by decide) (by decide) dX10_two__10
def fX10_angle_b96 (l1f40 : Int32) (l2f40 : Int32) (K40 : MW → Int32 → Int32 → Option (Int32 × MW)) (M : MW) (l3 : Int32) (l4 : Int32) (l5 : Int32) : Option (Int32 × MW) :=
  if l5 = 0 then K40 M l3 (l4 + (1 : Int32))
  else K40 M l4 (l4 + (1 : Int32))
def fX10_angle_l55 (l1f40 : Int32) (l2f40 : Int32) (l3f55 : Int32) (l4f55 : Int32) (K40 : MW → Int32 → Int32 → Option (Int32 × MW)) (K55 : MW → Int32 → Int32 → Option (Int32 × MW)) (M : MW) (l5 : Int32) (l6 : Int32) : Option (Int32 × MW) :=
  if ((M.1 7) + l2f40) ≤ l6 then fX10_angle_b96 l1f40 l2f40 K40 M l3f55 l4f55 l5
  else if l5 = 0 then K55 M (0 : Int32) (l6 + (1 : Int32))
  else bd2 (fX10_bears M l1f40 l6 l4f55) fun v11 M10 =>
  if v11 = 0 then K55 M10 (0 : Int32) (l6 + (1 : Int32))
  else K55 M10 (1 : Int32) (l6 + (1 : Int32))
def fX10_angle_l40 (l1f40 : Int32) (l2f40 : Int32) (K40 : MW → Int32 → Int32 → Option (Int32 × MW)) (M : MW) (l3 : Int32) (l4 : Int32) : Option (Int32 × MW) :=
  if (3 : Int32) < l4 then some (l3, M)
  else bd (M.1 7) fun v7 =>
  lo3 (fX10_angle_l55 l1f40 l2f40 l3 l4 K40) FU M (1 : Int32) v7
def fX10_angle (M : MW) (l1 : Int32) (l2 : Int32) : Option (Int32 × MW) :=
  if (fX10_isBoat M l1) = 0 then some ((-5 : Int32), M)
  else if (fX10_isNight M l2) = 0 then some ((-7 : Int32), M)
  else (rd (M.2 77) 6 l1).bind fun v5 =>
  if v5 = (-1 : Int32) then some ((-3 : Int32), M)
  else lo3 (fX10_angle_l40 l1 l2) FU M (-1 : Int32) (0 : Int32)
set_option maxRecDepth 100000 in
set_option maxHeartbeats 4000000 in
theorem c_X10_angle {l : Launch} {s0 : State} {D : va_G} {ev : Nat → Nat} (G0 : Gl s0 D ev) {X : XW} {M : MW} {nb : Nat} {l1 : Int32} {l2 : Int32} {r' : Int32} {M' : MW}  (h : fX10_angle M l1 l2 = some (r', M')) : CT l s0 D ev yX10_angle cX10_angle 7 (some .int) 6 0 0 [.ref (ev 0 + 65), .int l1, .int l2] (cells ev X M (nb + 1)) (QI s0 D ev r' (cells ev X M' (nb + 1))) := by
  refine ct_of G0 (by decide) (Nat.le_of_ble_eq_true rfl) ?_
  intro p9 e9 s9 m9 args9 below9 meth9 c9 F hr9 hl9 hin9 hargs9 hts9
  have L40 : ∀ (l1f40 : Int32) (l2f40 : Int32) (N40 : Nat) (M : MW) (l3 : Int32) (l4 : Int32), lo3 (fX10_angle_l40 l1f40 l2f40) N40 M l3 l4 = some (r', M') → GJ p9 l e9 (rg 6 0 0) s9 m9 args9 below9 meth9 c9 (MQ below9 (QI s0 D ev r' (cells ev X M' (nb + 1))) args9 s9 0 0 (frA ev)) s0 D ev 7 0 0 40 [(0, .ref (ev 0 + 65)), (1, .int l1f40), (2, .int l2f40), (3, .int l3), (4, .int l4)] ([]) (cells ev X M (nb + 1)) := by
    intro l1f40 l2f40 N40
    induction N40 with
    | zero => intro M l3 l4 h; cases h
    | succ N40 ih40 =>
      have U96 : ∀ (M : MW) (l3 : Int32) (l4 : Int32) (l5 : Int32), fX10_angle_b96 l1f40 l2f40 (lo3 (fX10_angle_l40 l1f40 l2f40) N40) M l3 l4 l5 = some (r', M') → GJ p9 l e9 (rg 6 0 0) s9 m9 args9 below9 meth9 c9 (MQ below9 (QI s0 D ev r' (cells ev X M' (nb + 1))) args9 s9 0 0 (frA ev)) s0 D ev 7 0 0 96 [(0, .ref (ev 0 + 65)), (1, .int l1f40), (2, .int l2f40), (3, .int l3), (4, .int l4), (5, .int l5)] ([]) (cells ev X M (nb + 1)) := by
        intro M l3 l4 l5 h
        rw [fX10_angle_b96] at h
        refine g_iload (i := 5) F dX10_angle_96 rfl ?_
        refine g_if_eq (tgt := 106) F dX10_angle_98 (by decide) h (fun a9 h => ?_) (fun a9 h => ?_)
        · refine g_iload_n (i := 3) F dX10_angle_106 rfl rfl ?_
          refine g_istore_n (i := 3) (lv' := [(3, .int l3), (0, .ref (ev 0 + 65)), (1, .int l1f40), (2, .int l2f40), (4, .int l4), (5, .int l5)]) F dX10_angle_107 rfl (by decide) rfl ?_
          refine g_iinc (i := 4) (v := (l4 + (1 : Int32))) (lv' := [(4, .int (l4 + (1 : Int32))), (3, .int l3), (0, .ref (ev 0 + 65)), (1, .int l1f40), (2, .int l2f40), (5, .int l5)]) F dX10_angle_108 rfl rfl (by decide) rfl ?_
          refine g_goto (tgt := 40) F dX10_angle_111 (by decide) ?_
          refine g_lv (lv' := [(0, .ref (ev 0 + 65)), (1, .int l1f40), (2, .int l2f40), (3, .int l3), (4, .int (l4 + (1 : Int32)))]) ⟨rfl, rfl, rfl, rfl, rfl, trivial⟩ ?_
          exact ih40 _ _ _ h
        · refine g_iload (i := 4) F dX10_angle_101 rfl ?_
          refine g_goto (tgt := 107) F dX10_angle_103 (by decide) ?_
          refine g_istore_n (i := 3) (lv' := [(3, .int l4), (0, .ref (ev 0 + 65)), (1, .int l1f40), (2, .int l2f40), (4, .int l4), (5, .int l5)]) F dX10_angle_107 rfl (by decide) rfl ?_
          refine g_iinc (i := 4) (v := (l4 + (1 : Int32))) (lv' := [(4, .int (l4 + (1 : Int32))), (3, .int l4), (0, .ref (ev 0 + 65)), (1, .int l1f40), (2, .int l2f40), (5, .int l5)]) F dX10_angle_108 rfl rfl (by decide) rfl ?_
          refine g_goto (tgt := 40) F dX10_angle_111 (by decide) ?_
          refine g_lv (lv' := [(0, .ref (ev 0 + 65)), (1, .int l1f40), (2, .int l2f40), (3, .int l4), (4, .int (l4 + (1 : Int32)))]) ⟨rfl, rfl, rfl, rfl, rfl, trivial⟩ ?_
          exact ih40 _ _ _ h
      have L55 : ∀ (l3f55 : Int32) (l4f55 : Int32) (N55 : Nat) (M : MW) (l5 : Int32) (l6 : Int32), lo3 (fX10_angle_l55 l1f40 l2f40 l3f55 l4f55 (lo3 (fX10_angle_l40 l1f40 l2f40) N40)) N55 M l5 l6 = some (r', M') → GJ p9 l e9 (rg 6 0 0) s9 m9 args9 below9 meth9 c9 (MQ below9 (QI s0 D ev r' (cells ev X M' (nb + 1))) args9 s9 0 0 (frA ev)) s0 D ev 7 0 0 55 [(0, .ref (ev 0 + 65)), (1, .int l1f40), (2, .int l2f40), (3, .int l3f55), (4, .int l4f55), (5, .int l5), (6, .int l6)] ([]) (cells ev X M (nb + 1)) := by
        intro l3f55 l4f55 N55
        induction N55 with
        | zero => intro M l5 l6 h; cases h
        | succ N55 ih55 =>
          intro M l5 l6 h
          change fX10_angle_l55 l1f40 l2f40 l3f55 l4f55 (lo3 (fX10_angle_l40 l1f40 l2f40) N40) (lo3 (fX10_angle_l55 l1f40 l2f40 l3f55 l4f55 (lo3 (fX10_angle_l40 l1f40 l2f40) N40)) N55) M l5 l6 = some (r', M') at h
          rw [fX10_angle_l55] at h
          refine g_iload (i := 6) F dX10_angle_55 rfl ?_
          refine g_aload_n (i := 0) F dX10_angle_57 rfl rfl ?_
          refine g_get_10_7 F wd_18_17 dX10_angle_58 ?_
          refine g_iload_n (i := 2) F dX10_angle_61 rfl rfl ?_
          refine g_iadd F dX10_angle_62 ?_
          refine g_icmp_ge (tgt := 96) F dX10_angle_63 (by decide) h (fun a15 h => ?_) (fun a15 h => ?_)
          · refine g_lv (lv' := [(0, .ref (ev 0 + 65)), (1, .int l1f40), (2, .int l2f40), (3, .int l3f55), (4, .int l4f55), (5, .int l5)]) ⟨rfl, rfl, rfl, rfl, rfl, rfl, trivial⟩ ?_
            exact U96 _ _ _ _ h
          · refine g_iload (i := 5) F dX10_angle_66 rfl ?_
            refine g_if_eq (tgt := 87) F dX10_angle_68 (by decide) h (fun a14 h => ?_) (fun a14 h => ?_)
            · refine g_iconst F dX10_angle_87 (v := 0) (by decide) ?_
              refine g_istore (i := 5) (lv' := [(5, .int (0 : Int32)), (0, .ref (ev 0 + 65)), (1, .int l1f40), (2, .int l2f40), (3, .int l3f55), (4, .int l4f55), (6, .int l6)]) F dX10_angle_88 (by decide) rfl ?_
              refine g_iinc (i := 6) (v := (l6 + (1 : Int32))) (lv' := [(6, .int (l6 + (1 : Int32))), (5, .int (0 : Int32)), (0, .ref (ev 0 + 65)), (1, .int l1f40), (2, .int l2f40), (3, .int l3f55), (4, .int l4f55)]) F dX10_angle_90 rfl rfl (by decide) rfl ?_
              refine g_goto (tgt := 55) F dX10_angle_93 (by decide) ?_
              refine g_lv (lv' := [(0, .ref (ev 0 + 65)), (1, .int l1f40), (2, .int l2f40), (3, .int l3f55), (4, .int l4f55), (5, .int (0 : Int32)), (6, .int (l6 + (1 : Int32)))]) ⟨rfl, rfl, rfl, rfl, rfl, rfl, rfl, trivial⟩ ?_
              exact ih55 _ _ _ h
            · refine g_aload_n (i := 0) F dX10_angle_71 rfl rfl ?_
              refine g_iload_n (i := 1) F dX10_angle_72 rfl rfl ?_
              refine g_iload (i := 6) F dX10_angle_73 rfl ?_
              refine g_iload (i := 4) F dX10_angle_75 rfl ?_
              obtain ⟨v11, M10, e12, h⟩ := bd2_at h
              refine g_callVI F (mcR := 0) (msR := 0) (id := 65) (cells_at (kd_hidM (show kd 65 = 10 from rfl) (by decide)) (xc_10 rfl)) (ci := 10) rfl rfl rfl (c_X10_bears G0 e12) wd_40_7 wd_40_4 wd_40_5 wd_40_6 wd_1_5 ⟨by decide, by decide⟩ (nn := 3) (by decide) (As := [.int l1f40, .int l6, .int l4f55]) rfl rfl (Nat.le_of_ble_eq_true rfl) (by decide) (by decide) ⟨by decide, by decide⟩ dX10_angle_77 ?_
              refine g_if_eq (tgt := 87) F dX10_angle_80 (by decide) h (fun a13 h => ?_) (fun a13 h => ?_)
              · refine g_iconst F dX10_angle_87 (v := 0) (by decide) ?_
                refine g_istore (i := 5) (lv' := [(5, .int (0 : Int32)), (0, .ref (ev 0 + 65)), (1, .int l1f40), (2, .int l2f40), (3, .int l3f55), (4, .int l4f55), (6, .int l6)]) F dX10_angle_88 (by decide) rfl ?_
                refine g_iinc (i := 6) (v := (l6 + (1 : Int32))) (lv' := [(6, .int (l6 + (1 : Int32))), (5, .int (0 : Int32)), (0, .ref (ev 0 + 65)), (1, .int l1f40), (2, .int l2f40), (3, .int l3f55), (4, .int l4f55)]) F dX10_angle_90 rfl rfl (by decide) rfl ?_
                refine g_goto (tgt := 55) F dX10_angle_93 (by decide) ?_
                refine g_lv (lv' := [(0, .ref (ev 0 + 65)), (1, .int l1f40), (2, .int l2f40), (3, .int l3f55), (4, .int l4f55), (5, .int (0 : Int32)), (6, .int (l6 + (1 : Int32)))]) ⟨rfl, rfl, rfl, rfl, rfl, rfl, rfl, trivial⟩ ?_
                exact ih55 _ _ _ h
              · refine g_iconst F dX10_angle_83 (v := 1) (by decide) ?_
                refine g_goto (tgt := 88) F dX10_angle_84 (by decide) ?_
                refine g_istore (i := 5) (lv' := [(5, .int (1 : Int32)), (0, .ref (ev 0 + 65)), (1, .int l1f40), (2, .int l2f40), (3, .int l3f55), (4, .int l4f55), (6, .int l6)]) F dX10_angle_88 (by decide) rfl ?_
                refine g_iinc (i := 6) (v := (l6 + (1 : Int32))) (lv' := [(6, .int (l6 + (1 : Int32))), (5, .int (1 : Int32)), (0, .ref (ev 0 + 65)), (1, .int l1f40), (2, .int l2f40), (3, .int l3f55), (4, .int l4f55)]) F dX10_angle_90 rfl rfl (by decide) rfl ?_
                refine g_goto (tgt := 55) F dX10_angle_93 (by decide) ?_
                refine g_lv (lv' := [(0, .ref (ev 0 + 65)), (1, .int l1f40), (2, .int l2f40), (3, .int l3f55), (4, .int l4f55), (5, .int (1 : Int32)), (6, .int (l6 + (1 : Int32)))]) ⟨rfl, rfl, rfl, rfl, rfl, rfl, rfl, trivial⟩ ?_
                exact ih55 _ _ _ h
      intro M l3 l4 h
      change fX10_angle_l40 l1f40 l2f40 (lo3 (fX10_angle_l40 l1f40 l2f40) N40) M l3 l4 = some (r', M') at h
      rw [fX10_angle_l40] at h
      refine g_iload (i := 4) F dX10_angle_40 rfl ?_
      refine g_iconst F dX10_angle_42 (v := 3) (by decide) ?_
      refine g_icmp_gt (tgt := 114) F dX10_angle_43 (by decide) h (fun a16 h => ?_) (fun a16 h => ?_)
      · refine g_iload_n (i := 3) F dX10_angle_114 rfl rfl ?_
        have hp := Prod.mk.inj (Option.some.inj h)
        exact g_iret F hr9 rfl hl9 hp.1 (by rw [hp.2]) (by decide) (by decide) dX10_angle_115
      · refine g_iconst F dX10_angle_46 (v := 1) (by decide) ?_
        refine g_istore (i := 5) (lv' := [(5, .int (1 : Int32)), (0, .ref (ev 0 + 65)), (1, .int l1f40), (2, .int l2f40), (3, .int l3), (4, .int l4)]) F dX10_angle_47 (by decide) rfl ?_
        refine g_aload_n (i := 0) F dX10_angle_49 rfl rfl ?_
        refine g_get_10_7 F wd_18_17 dX10_angle_50 ?_
        refine g_topi F h (fun v7 e8 h => ?_)
        refine g_istore (i := 6) (lv' := [(6, .int v7), (5, .int (1 : Int32)), (0, .ref (ev 0 + 65)), (1, .int l1f40), (2, .int l2f40), (3, .int l3), (4, .int l4)]) F dX10_angle_53 (by decide) rfl ?_
        refine g_lv (lv' := [(0, .ref (ev 0 + 65)), (1, .int l1f40), (2, .int l2f40), (3, .int l3), (4, .int l4), (5, .int (1 : Int32)), (6, .int v7)]) ⟨rfl, rfl, rfl, rfl, rfl, rfl, rfl, trivial⟩ ?_
        exact L55 _ _ FU _ _ _ h
  rw [fX10_angle] at h
  refine g_lv (lv' := [(0, .ref (ev 0 + 65)), (1, .int l1), (2, .int l2)]) ⟨rfl, rfl, rfl, trivial⟩ ?_
  refine g_aload_n (i := 0) F dX10_angle_0 rfl rfl ?_
  refine g_iload_n (i := 1) F dX10_angle_1 rfl rfl ?_
  refine g_callVI F (mcR := 0) (msR := 0) (id := 65) (cells_at (kd_hidM (show kd 65 = 10 from rfl) (by decide)) (xc_10 rfl)) (ci := 10) rfl rfl rfl (c_X10_isBoat G0 (X := X) (M := M) (nb := nb) rfl) wd_23_7 wd_23_4 wd_23_5 wd_23_6 wd_1_5 ⟨by decide, by decide⟩ (nn := 1) (by decide) (As := [.int l1]) rfl rfl (Nat.le_of_ble_eq_true rfl) (by decide) (by decide) ⟨by decide, by decide⟩ dX10_angle_2 ?_
  refine g_if_ne (tgt := 11) F dX10_angle_5 (by decide) h (fun a19 h => ?_) (fun a19 h => ?_)
  · refine g_aload_n (i := 0) F dX10_angle_11 rfl rfl ?_
    refine g_iload_n (i := 2) F dX10_angle_12 rfl rfl ?_
    refine g_callVI F (mcR := 0) (msR := 0) (id := 65) (cells_at (kd_hidM (show kd 65 = 10 from rfl) (by decide)) (xc_10 rfl)) (ci := 10) rfl rfl rfl (c_X10_isNight G0 (X := X) (M := M) (nb := nb) rfl) wd_29_17 wd_29_14 wd_29_15 wd_29_16 wd_1_5 ⟨by decide, by decide⟩ (nn := 1) (by decide) (As := [.int l2]) rfl rfl (Nat.le_of_ble_eq_true rfl) (by decide) (by decide) ⟨by decide, by decide⟩ dX10_angle_13 ?_
    refine g_if_ne (tgt := 22) F dX10_angle_16 (by decide) h (fun a18 h => ?_) (fun a18 h => ?_)
    · refine g_aload_n (i := 0) F dX10_angle_22 rfl rfl ?_
      refine g_get_10_13 F wd_12_1 dX10_angle_23 ?_
      refine g_iload_n (i := 1) F dX10_angle_26 rfl rfl ?_
      obtain ⟨v5, e6, h⟩ := bind_at h
      refine g_ildM F rfl rfl e6 dX10_angle_27 ?_
      refine g_iconst F dX10_angle_28 (v := -1) (by decide) ?_
      refine g_icmp_ne (tgt := 35) F dX10_angle_29 (by decide) h (fun a17 h => ?_) (fun a17 h => ?_)
      · refine g_iconst F dX10_angle_35 (v := -1) (by decide) ?_
        refine g_istore_n (i := 3) (lv' := [(3, .int (-1 : Int32)), (0, .ref (ev 0 + 65)), (1, .int l1), (2, .int l2)]) F dX10_angle_36 rfl (by decide) rfl ?_
        refine g_iconst F dX10_angle_37 (v := 0) (by decide) ?_
        refine g_istore (i := 4) (lv' := [(4, .int (0 : Int32)), (3, .int (-1 : Int32)), (0, .ref (ev 0 + 65)), (1, .int l1), (2, .int l2)]) F dX10_angle_38 (by decide) rfl ?_
        refine g_lv (lv' := [(0, .ref (ev 0 + 65)), (1, .int l1), (2, .int l2), (3, .int (-1 : Int32)), (4, .int (0 : Int32))]) ⟨rfl, rfl, rfl, rfl, rfl, trivial⟩ ?_
        exact L40 _ _ FU _ _ _ h
      · refine g_bipush F dX10_angle_32 (v := -3) (by decide) ?_
        have hp := Prod.mk.inj (Option.some.inj h)
        exact g_iret F hr9 rfl hl9 hp.1 (by rw [hp.2]) (by decide) (by decide) dX10_angle_34
    · refine g_bipush F dX10_angle_19 (v := -7) (by decide) ?_
      have hp := Prod.mk.inj (Option.some.inj h)
      exact g_iret F hr9 rfl hl9 hp.1 (by rw [hp.2]) (by decide) (by decide) dX10_angle_21
  · refine g_bipush F dX10_angle_8 (v := -5) (by decide) ?_
    have hp := Prod.mk.inj (Option.some.inj h)
    exact g_iret F hr9 rfl hl9 hp.1 (by rw [hp.2]) (by decide) (by decide) dX10_angle_10
def fX10_turns_l44 (l1f44 : Int32) (l2f44 : Int32) (K44 : MW → Int64 → Int32 → Option (Int64 × MW)) (M : MW) (l3 : Int64) (l5 : Int32) : Option (Int64 × MW) :=
  if ((M.1 7) + l2f44) ≤ l5 then some (l3, M)
  else (fX10_turnIn M l5).bind fun v9 =>
  if v9 < (3 : Int32) then K44 M l3 (l5 + (1 : Int32))
  else (rd (M.2 77) 6 l1f44).bind fun v11 =>
  (rd (M.2 78) 6 l1f44).bind fun v13 =>
  (fX10_namesOf M l1f44 v11 l5 v13).bind fun M15 =>
  bd2 (fX10_worth M15 (2 : Int32)) fun v18 M17 =>
  bd ((l3 * ((100 : Int32) - v18).toInt64) / (100 : Int64)) fun v20 =>
  K44 M17 v20 (l5 + (1 : Int32))
def fX10_turns (M : MW) (l1 : Int32) (l2 : Int32) : Option (Int64 × MW) :=
  if (fX10_isBoat M l1) = 0 then some ((-4611686018427387904 : Int64), M)
  else if (fX10_isNight M l2) = 0 then some ((-4611686018427387904 : Int64), M)
  else (rd (M.2 77) 6 l1).bind fun v5 =>
  if v5 = (-1 : Int32) then some ((-3 : Int64), M)
  else bd (M.1 7) fun v7 =>
  lo3 (fX10_turns_l44 l1 l2) FU M (1000000 : Int64) v7
set_option maxRecDepth 100000 in
set_option maxHeartbeats 4000000 in
theorem c_X10_turns {l : Launch} {s0 : State} {D : va_G} {ev : Nat → Nat} (G0 : Gl s0 D ev) {X : XW} {M : MW} {nb : Nat} {l1 : Int32} {l2 : Int32} {r' : Int64} {M' : MW}  (h : fX10_turns M l1 l2 = some (r', M')) : CT l s0 D ev yX10_turns cX10_turns 6 (some .long) 3 0 0 [.ref (ev 0 + 65), .int l1, .int l2] (cells ev X M (nb + 1)) (QL s0 D ev r' (cells ev X M' (nb + 1))) := by
  refine ct_of G0 (by decide) (Nat.le_of_ble_eq_true rfl) ?_
  intro p9 e9 s9 m9 args9 below9 meth9 c9 F hr9 hl9 hin9 hargs9 hts9
  have L44 : ∀ (l1f44 : Int32) (l2f44 : Int32) (N44 : Nat) (M : MW) (l3 : Int64) (l5 : Int32), lo3 (fX10_turns_l44 l1f44 l2f44) N44 M l3 l5 = some (r', M') → GJ p9 l e9 (rg 3 0 0) s9 m9 args9 below9 meth9 c9 (MQ below9 (QL s0 D ev r' (cells ev X M' (nb + 1))) args9 s9 0 0 (frA ev)) s0 D ev 6 0 0 44 [(0, .ref (ev 0 + 65)), (1, .int l1f44), (2, .int l2f44), (3, .long l3), (5, .int l5)] ([]) (cells ev X M (nb + 1)) := by
    intro l1f44 l2f44 N44
    induction N44 with
    | zero => intro M l3 l5 h; cases h
    | succ N44 ih44 =>
      intro M l3 l5 h
      change fX10_turns_l44 l1f44 l2f44 (lo3 (fX10_turns_l44 l1f44 l2f44) N44) M l3 l5 = some (r', M') at h
      rw [fX10_turns_l44] at h
      refine g_iload (i := 5) F dX10_turns_44 rfl ?_
      refine g_aload_n (i := 0) F dX10_turns_46 rfl rfl ?_
      refine g_get_10_7 F wd_18_17 dX10_turns_47 ?_
      refine g_iload_n (i := 2) F dX10_turns_50 rfl rfl ?_
      refine g_iadd F dX10_turns_51 ?_
      refine g_icmp_ge (tgt := 106) F dX10_turns_52 (by decide) h (fun a23 h => ?_) (fun a23 h => ?_)
      · refine g_lload_n (i := 3) F dX10_turns_106 rfl rfl ?_
        have hp := Prod.mk.inj (Option.some.inj h)
        exact g_lret F hr9 hl9 hp.1 (by rw [hp.2]) (by decide) (by decide) dX10_turns_107
      · refine g_aload_n (i := 0) F dX10_turns_55 rfl rfl ?_
        refine g_iload (i := 5) F dX10_turns_56 rfl ?_
        obtain ⟨v9, e10, h⟩ := bind_at h
        refine g_callVI F (mcR := 0) (msR := 0) (id := 65) (cells_at (kd_hidM (show kd 65 = 10 from rfl) (by decide)) (xc_10 rfl)) (ci := 10) rfl rfl rfl (c_X10_turnIn G0 e10) wd_30_14 wd_30_11 wd_30_12 wd_30_13 wd_1_5 ⟨by decide, by decide⟩ (nn := 1) (by decide) (As := [.int l5]) rfl rfl (Nat.le_of_ble_eq_true rfl) (by decide) (by decide) ⟨by decide, by decide⟩ dX10_turns_58 ?_
        refine g_iconst F dX10_turns_61 (v := 3) (by decide) ?_
        refine g_icmp_lt (tgt := 100) F dX10_turns_62 (by decide) h (fun a22 h => ?_) (fun a22 h => ?_)
        · refine g_iinc (i := 5) (v := (l5 + (1 : Int32))) (lv' := [(5, .int (l5 + (1 : Int32))), (0, .ref (ev 0 + 65)), (1, .int l1f44), (2, .int l2f44), (3, .long l3)]) F dX10_turns_100 rfl rfl (by decide) rfl ?_
          refine g_goto (tgt := 44) F dX10_turns_103 (by decide) ?_
          refine g_lv (lv' := [(0, .ref (ev 0 + 65)), (1, .int l1f44), (2, .int l2f44), (3, .long l3), (5, .int (l5 + (1 : Int32)))]) ⟨rfl, rfl, rfl, rfl, rfl, trivial⟩ ?_
          exact ih44 _ _ _ h
        · refine g_aload_n (i := 0) F dX10_turns_65 rfl rfl ?_
          refine g_iload_n (i := 1) F dX10_turns_66 rfl rfl ?_
          refine g_aload_n (i := 0) F dX10_turns_67 rfl rfl ?_
          refine g_get_10_13 F wd_12_1 dX10_turns_68 ?_
          refine g_iload_n (i := 1) F dX10_turns_71 rfl rfl ?_
          obtain ⟨v11, e12, h⟩ := bind_at h
          refine g_ildM F rfl rfl e12 dX10_turns_72 ?_
          refine g_iload (i := 5) F dX10_turns_73 rfl ?_
          refine g_aload_n (i := 0) F dX10_turns_75 rfl rfl ?_
          refine g_get_10_14 F wd_12_2 dX10_turns_76 ?_
          refine g_iload_n (i := 1) F dX10_turns_79 rfl rfl ?_
          obtain ⟨v13, e14, h⟩ := bind_at h
          refine g_ildM F rfl rfl e14 dX10_turns_80 ?_
          obtain ⟨M15, e16, h⟩ := bind_at h
          refine g_callVV F (mcR := 0) (msR := 0) (id := 65) (cells_at (kd_hidM (show kd 65 = 10 from rfl) (by decide)) (xc_10 rfl)) (ci := 10) rfl rfl rfl (c_X10_namesOf G0 e16) wd_26_3 wd_26_0 wd_26_1 wd_26_2 wd_1_5 ⟨by decide, by decide⟩ (nn := 4) (by decide) (As := [.int l1f44, .int v11, .int l5, .int v13]) rfl rfl (Nat.le_of_ble_eq_true rfl) (by decide) (by decide) ⟨by decide, by decide⟩ dX10_turns_81 ?_
          refine g_lload_n (i := 3) F dX10_turns_84 rfl rfl ?_
          refine g_bipush F dX10_turns_85 (v := 100) (by decide) ?_
          refine g_aload_n (i := 0) F dX10_turns_87 rfl rfl ?_
          refine g_iconst F dX10_turns_88 (v := 2) (by decide) ?_
          obtain ⟨v18, M17, e19, h⟩ := bd2_at h
          refine g_callVI F (mcR := 0) (msR := 0) (id := 65) (cells_at (kd_hidM (show kd 65 = 10 from rfl) (by decide)) (xc_10 rfl)) (ci := 10) rfl rfl rfl (c_X10_worth G0 e19) wd_21_11 wd_21_8 wd_21_9 wd_21_10 wd_1_5 ⟨by decide, by decide⟩ (nn := 1) (by decide) (As := [.int (2 : Int32)]) rfl rfl (Nat.le_of_ble_eq_true rfl) (by decide) (by decide) ⟨by decide, by decide⟩ dX10_turns_89 ?_
          refine g_isub F dX10_turns_92 ?_
          refine g_i2l F dX10_turns_93 ?_
          refine g_lmul F dX10_turns_94 ?_
          refine g_ldc2 F dX10_turns_95 wd_41_16 ?_
          refine g_ldiv F dX10_turns_98 (by decide) ?_
          refine g_topl F h (fun v20 e21 h => ?_)
          refine g_lstore_n (i := 3) (lv' := [(3, .long v20), (0, .ref (ev 0 + 65)), (1, .int l1f44), (2, .int l2f44), (5, .int l5)]) F dX10_turns_99 rfl (by decide) rfl ?_
          refine g_iinc (i := 5) (v := (l5 + (1 : Int32))) (lv' := [(5, .int (l5 + (1 : Int32))), (3, .long v20), (0, .ref (ev 0 + 65)), (1, .int l1f44), (2, .int l2f44)]) F dX10_turns_100 rfl rfl (by decide) rfl ?_
          refine g_goto (tgt := 44) F dX10_turns_103 (by decide) ?_
          refine g_lv (lv' := [(0, .ref (ev 0 + 65)), (1, .int l1f44), (2, .int l2f44), (3, .long v20), (5, .int (l5 + (1 : Int32)))]) ⟨rfl, rfl, rfl, rfl, rfl, trivial⟩ ?_
          exact ih44 _ _ _ h
  rw [fX10_turns] at h
  refine g_lv (lv' := [(0, .ref (ev 0 + 65)), (1, .int l1), (2, .int l2)]) ⟨rfl, rfl, rfl, trivial⟩ ?_
  refine g_aload_n (i := 0) F dX10_turns_0 rfl rfl ?_
  refine g_iload_n (i := 1) F dX10_turns_1 rfl rfl ?_
  refine g_callVI F (mcR := 0) (msR := 0) (id := 65) (cells_at (kd_hidM (show kd 65 = 10 from rfl) (by decide)) (xc_10 rfl)) (ci := 10) rfl rfl rfl (c_X10_isBoat G0 (X := X) (M := M) (nb := nb) rfl) wd_23_7 wd_23_4 wd_23_5 wd_23_6 wd_1_5 ⟨by decide, by decide⟩ (nn := 1) (by decide) (As := [.int l1]) rfl rfl (Nat.le_of_ble_eq_true rfl) (by decide) (by decide) ⟨by decide, by decide⟩ dX10_turns_2 ?_
  refine g_if_eq (tgt := 16) F dX10_turns_5 (by decide) h (fun a26 h => ?_) (fun a26 h => ?_)
  · refine g_ldc2 F dX10_turns_16 wd_41_13 ?_
    have hp := Prod.mk.inj (Option.some.inj h)
    exact g_lret F hr9 hl9 hp.1 (by rw [hp.2]) (by decide) (by decide) dX10_turns_19
  · refine g_aload_n (i := 0) F dX10_turns_8 rfl rfl ?_
    refine g_iload_n (i := 2) F dX10_turns_9 rfl rfl ?_
    refine g_callVI F (mcR := 0) (msR := 0) (id := 65) (cells_at (kd_hidM (show kd 65 = 10 from rfl) (by decide)) (xc_10 rfl)) (ci := 10) rfl rfl rfl (c_X10_isNight G0 (X := X) (M := M) (nb := nb) rfl) wd_29_17 wd_29_14 wd_29_15 wd_29_16 wd_1_5 ⟨by decide, by decide⟩ (nn := 1) (by decide) (As := [.int l2]) rfl rfl (Nat.le_of_ble_eq_true rfl) (by decide) (by decide) ⟨by decide, by decide⟩ dX10_turns_10 ?_
    refine g_if_ne (tgt := 20) F dX10_turns_13 (by decide) h (fun a25 h => ?_) (fun a25 h => ?_)
    · refine g_aload_n (i := 0) F dX10_turns_20 rfl rfl ?_
      refine g_get_10_13 F wd_12_1 dX10_turns_21 ?_
      refine g_iload_n (i := 1) F dX10_turns_24 rfl rfl ?_
      obtain ⟨v5, e6, h⟩ := bind_at h
      refine g_ildM F rfl rfl e6 dX10_turns_25 ?_
      refine g_iconst F dX10_turns_26 (v := -1) (by decide) ?_
      refine g_icmp_ne (tgt := 34) F dX10_turns_27 (by decide) h (fun a24 h => ?_) (fun a24 h => ?_)
      · refine g_ldc2 F dX10_turns_34 wd_41_15 ?_
        refine g_lstore_n (i := 3) (lv' := [(3, .long (1000000 : Int64)), (0, .ref (ev 0 + 65)), (1, .int l1), (2, .int l2)]) F dX10_turns_37 rfl (by decide) rfl ?_
        refine g_aload_n (i := 0) F dX10_turns_38 rfl rfl ?_
        refine g_get_10_7 F wd_18_17 dX10_turns_39 ?_
        refine g_topi F h (fun v7 e8 h => ?_)
        refine g_istore (i := 5) (lv' := [(5, .int v7), (3, .long (1000000 : Int64)), (0, .ref (ev 0 + 65)), (1, .int l1), (2, .int l2)]) F dX10_turns_42 (by decide) rfl ?_
        refine g_lv (lv' := [(0, .ref (ev 0 + 65)), (1, .int l1), (2, .int l2), (3, .long (1000000 : Int64)), (5, .int v7)]) ⟨rfl, rfl, rfl, rfl, rfl, trivial⟩ ?_
        exact L44 _ _ FU _ _ _ h
      · refine g_ldc2 F dX10_turns_30 wd_41_14 ?_
        have hp := Prod.mk.inj (Option.some.inj h)
        exact g_lret F hr9 hl9 hp.1 (by rw [hp.2]) (by decide) (by decide) dX10_turns_33
    · refine g_ldc2 F dX10_turns_16 wd_41_13 ?_
      have hp := Prod.mk.inj (Option.some.inj h)
      exact g_lret F hr9 hl9 hp.1 (by rw [hp.2]) (by decide) (by decide) dX10_turns_19
def fX10_isTrial (l0 : Int32) (l1 : Int32) : Int32 :=
  if (fX10_in l0 (0 : Int32) (4 : Int32)) = 0 then (0 : Int32)
  else if (fX10_in l1 (0 : Int32) (3 : Int32)) = 0 then (0 : Int32)
  else (1 : Int32)
set_option maxRecDepth 100000 in
set_option maxHeartbeats 4000000 in
theorem c_X10_isTrial {l : Launch} {s0 : State} {D : va_G} {ev : Nat → Nat} (G0 : Gl s0 D ev) {X : XW} {M : MW} {nb : Nat} {l0 : Int32} {l1 : Int32} {r' : Int32}  (h : fX10_isTrial l0 l1 = r') : CT l s0 D ev yX10_isTrial cX10_isTrial 2 (some .boolean) 1 0 0 [.int l0, .int l1] (cells ev X M (nb + 1)) (QI s0 D ev r' (cells ev X M (nb + 1))) := by
  refine ct_of G0 (by decide) (Nat.le_of_ble_eq_true rfl) ?_
  intro p9 e9 s9 m9 args9 below9 meth9 c9 F hr9 hl9 hin9 hargs9 hts9
  rw [fX10_isTrial] at h
  refine g_lv (lv' := [(0, .int l0), (1, .int l1)]) ⟨rfl, rfl, trivial⟩ ?_
  refine g_iload_n (i := 0) F dX10_isTrial_0 rfl rfl ?_
  refine g_iconst F dX10_isTrial_1 (v := 0) (by decide) ?_
  refine g_iconst F dX10_isTrial_2 (v := 4) (by decide) ?_
  refine g_callSI F (mcR := 0) (msR := 0) (c_X10_in G0 (X := X) (M := M) (nb := nb) rfl) wd_13_21 wd_13_19 wd_13_20 wd_1_5 ⟨by decide, by decide⟩ (nn := 3) (by decide) (As := [.int l0, .int (0 : Int32), .int (4 : Int32)]) rfl rfl (Nat.le_of_ble_eq_true rfl) (by decide) (by decide) ⟨by decide, by decide⟩ dX10_isTrial_3 ?_
  refine g_if_eq (tgt := 22) F dX10_isTrial_6 (by decide) h (fun a6 h => ?_) (fun a6 h => ?_)
  · refine g_iconst F dX10_isTrial_22 (v := 0) (by decide) ?_
    exact g_iret F hr9 (by decide) hl9 h rfl (by decide) (by decide) dX10_isTrial_23
  · refine g_iload_n (i := 1) F dX10_isTrial_9 rfl rfl ?_
    refine g_iconst F dX10_isTrial_10 (v := 0) (by decide) ?_
    refine g_iconst F dX10_isTrial_11 (v := 3) (by decide) ?_
    refine g_callSI F (mcR := 0) (msR := 0) (c_X10_in G0 (X := X) (M := M) (nb := nb) rfl) wd_13_21 wd_13_19 wd_13_20 wd_1_5 ⟨by decide, by decide⟩ (nn := 3) (by decide) (As := [.int l1, .int (0 : Int32), .int (3 : Int32)]) rfl rfl (Nat.le_of_ble_eq_true rfl) (by decide) (by decide) ⟨by decide, by decide⟩ dX10_isTrial_12 ?_
    refine g_if_eq (tgt := 22) F dX10_isTrial_15 (by decide) h (fun a5 h => ?_) (fun a5 h => ?_)
    · refine g_iconst F dX10_isTrial_22 (v := 0) (by decide) ?_
      exact g_iret F hr9 (by decide) hl9 h rfl (by decide) (by decide) dX10_isTrial_23
    · refine g_iconst F dX10_isTrial_18 (v := 1) (by decide) ?_
      refine g_goto (tgt := 23) F dX10_isTrial_19 (by decide) ?_
      exact g_iret F hr9 (by decide) hl9 h rfl (by decide) (by decide) dX10_isTrial_23
theorem b_X10_isTrial {l0 : Int32} {l1 : Int32} : (fX10_isTrial l0 l1) = 0 ∨ (fX10_isTrial l0 l1) = 1 := by
  unfold fX10_isTrial
  (repeat' split) <;> first | exact Or.inl rfl | exact Or.inr rfl | exact b_X10_in | exact b_X10_in
def fX10_trial (M : MW) (l1 : Int32) (l2 : Int32) (l3 : Int32) (l4 : Int32) : Option (Int32 × MW) :=
  if (fX10_isTrial l1 l2) = 0 then some ((-1 : Int32), M)
  else if (fX10_in l4 (1 : Int32) (99 : Int32)) = 0 then some ((-2 : Int32), M)
  else if (fX10_in l3 (0 : Int32) l4) = 0 then some ((-2 : Int32), M)
  else (rd (M.2 79) 20 (((4 : Int32) * l1) + l2)).bind fun v7 =>
  if (v7 + l4) ≤ (9999 : Int32) then (rd (M.2 79) 20 (((4 : Int32) * l1) + l2)).bind fun v9 =>
  if inb (((4 : Int32) * l1) + l2) 20 then bd (mA M 79 (((4 : Int32) * l1) + l2) (v9 + l4)) fun M12 =>
  (rd (M12.2 80) 20 (((4 : Int32) * l1) + l2)).bind fun v14 =>
  if inb (((4 : Int32) * l1) + l2) 20 then bd (mA M12 80 (((4 : Int32) * l1) + l2) (v14 + l3)) fun M17 =>
  (rd (M17.2 79) 20 (((4 : Int32) * l1) + l2)).bind fun v19 =>
  some (v19, M17)
  else none
  else none
  else some ((-4 : Int32), M)
set_option maxRecDepth 100000 in
set_option maxHeartbeats 4000000 in
theorem c_X10_trial {l : Launch} {s0 : State} {D : va_G} {ev : Nat → Nat} (G0 : Gl s0 D ev) {X : XW} {M : MW} {nb : Nat} {l1 : Int32} {l2 : Int32} {l3 : Int32} {l4 : Int32} {r' : Int32} {M' : MW}  (h : fX10_trial M l1 l2 l3 l4 = some (r', M')) : CT l s0 D ev yX10_trial cX10_trial 5 (some .int) 2 0 0 [.ref (ev 0 + 65), .int l1, .int l2, .int l3, .int l4] (cells ev X M (nb + 1)) (QI s0 D ev r' (cells ev X M' (nb + 1))) := by
  refine ct_of G0 (by decide) (Nat.le_of_ble_eq_true rfl) ?_
  intro p9 e9 s9 m9 args9 below9 meth9 c9 F hr9 hl9 hin9 hargs9 hts9
  rw [fX10_trial] at h
  refine g_lv (lv' := [(0, .ref (ev 0 + 65)), (1, .int l1), (2, .int l2), (3, .int l3), (4, .int l4)]) ⟨rfl, rfl, rfl, rfl, rfl, trivial⟩ ?_
  refine g_iload_n (i := 1) F dX10_trial_0 rfl rfl ?_
  refine g_iload_n (i := 2) F dX10_trial_1 rfl rfl ?_
  refine g_callSI F (mcR := 0) (msR := 0) (c_X10_isTrial G0 (X := X) (M := M) (nb := nb) rfl) wd_42_8 wd_42_6 wd_42_7 wd_1_5 ⟨by decide, by decide⟩ (nn := 2) (by decide) (As := [.int l1, .int l2]) rfl rfl (Nat.le_of_ble_eq_true rfl) (by decide) (by decide) ⟨by decide, by decide⟩ dX10_trial_2 ?_
  refine g_if_ne (tgt := 10) F dX10_trial_5 (by decide) h (fun a24 h => ?_) (fun a24 h => ?_)
  · refine g_iload (i := 4) F dX10_trial_10 rfl ?_
    refine g_iconst F dX10_trial_12 (v := 1) (by decide) ?_
    refine g_bipush F dX10_trial_13 (v := 99) (by decide) ?_
    refine g_callSI F (mcR := 0) (msR := 0) (c_X10_in G0 (X := X) (M := M) (nb := nb) rfl) wd_13_21 wd_13_19 wd_13_20 wd_1_5 ⟨by decide, by decide⟩ (nn := 3) (by decide) (As := [.int l4, .int (1 : Int32), .int (99 : Int32)]) rfl rfl (Nat.le_of_ble_eq_true rfl) (by decide) (by decide) ⟨by decide, by decide⟩ dX10_trial_15 ?_
    refine g_if_eq (tgt := 31) F dX10_trial_18 (by decide) h (fun a23 h => ?_) (fun a23 h => ?_)
    · refine g_bipush F dX10_trial_31 (v := -2) (by decide) ?_
      have hp := Prod.mk.inj (Option.some.inj h)
      exact g_iret F hr9 rfl hl9 hp.1 (by rw [hp.2]) (by decide) (by decide) dX10_trial_33
    · refine g_iload_n (i := 3) F dX10_trial_21 rfl rfl ?_
      refine g_iconst F dX10_trial_22 (v := 0) (by decide) ?_
      refine g_iload (i := 4) F dX10_trial_23 rfl ?_
      refine g_callSI F (mcR := 0) (msR := 0) (c_X10_in G0 (X := X) (M := M) (nb := nb) rfl) wd_13_21 wd_13_19 wd_13_20 wd_1_5 ⟨by decide, by decide⟩ (nn := 3) (by decide) (As := [.int l3, .int (0 : Int32), .int l4]) rfl rfl (Nat.le_of_ble_eq_true rfl) (by decide) (by decide) ⟨by decide, by decide⟩ dX10_trial_25 ?_
      refine g_if_ne (tgt := 34) F dX10_trial_28 (by decide) h (fun a22 h => ?_) (fun a22 h => ?_)
      · refine g_aload_n (i := 0) F dX10_trial_34 rfl rfl ?_
        refine g_get_10_15 F wd_12_3 dX10_trial_35 ?_
        refine g_iconst F dX10_trial_38 (v := 4) (by decide) ?_
        refine g_iload_n (i := 1) F dX10_trial_39 rfl rfl ?_
        refine g_imul F dX10_trial_40 ?_
        refine g_iload_n (i := 2) F dX10_trial_41 rfl rfl ?_
        refine g_iadd F dX10_trial_42 ?_
        obtain ⟨v7, e8, h⟩ := bind_at h
        refine g_ildM F rfl rfl e8 dX10_trial_43 ?_
        refine g_iload (i := 4) F dX10_trial_44 rfl ?_
        refine g_iadd F dX10_trial_46 ?_
        refine g_sipush F dX10_trial_47 (v := 9999) (by decide) ?_
        refine g_icmp_le (tgt := 56) F dX10_trial_50 (by decide) h (fun a21 h => ?_) (fun a21 h => ?_)
        · refine g_aload_n (i := 0) F dX10_trial_56 rfl rfl ?_
          refine g_get_10_15 F wd_12_3 dX10_trial_57 ?_
          refine g_iconst F dX10_trial_60 (v := 4) (by decide) ?_
          refine g_iload_n (i := 1) F dX10_trial_61 rfl rfl ?_
          refine g_imul F dX10_trial_62 ?_
          refine g_iload_n (i := 2) F dX10_trial_63 rfl rfl ?_
          refine g_iadd F dX10_trial_64 ?_
          refine g_dup2 F dX10_trial_65 rfl rfl ?_
          obtain ⟨v9, e10, h⟩ := bind_at h
          refine g_ildM F rfl rfl e10 dX10_trial_66 ?_
          refine g_iload (i := 4) F dX10_trial_67 rfl ?_
          refine g_iadd F dX10_trial_69 ?_
          obtain ⟨h11, h⟩ := if_at h
          obtain ⟨M12, e13, h⟩ := bd_at h
          refine g_istM F rfl rfl h11 dX10_trial_70 ?_
          rw [← e13]
          refine g_aload_n (i := 0) F dX10_trial_71 rfl rfl ?_
          refine g_get_10_16 F wd_12_4 dX10_trial_72 ?_
          refine g_iconst F dX10_trial_75 (v := 4) (by decide) ?_
          refine g_iload_n (i := 1) F dX10_trial_76 rfl rfl ?_
          refine g_imul F dX10_trial_77 ?_
          refine g_iload_n (i := 2) F dX10_trial_78 rfl rfl ?_
          refine g_iadd F dX10_trial_79 ?_
          refine g_dup2 F dX10_trial_80 rfl rfl ?_
          obtain ⟨v14, e15, h⟩ := bind_at h
          refine g_ildM F rfl rfl e15 dX10_trial_81 ?_
          refine g_iload_n (i := 3) F dX10_trial_82 rfl rfl ?_
          refine g_iadd F dX10_trial_83 ?_
          obtain ⟨h16, h⟩ := if_at h
          obtain ⟨M17, e18, h⟩ := bd_at h
          refine g_istM F rfl rfl h16 dX10_trial_84 ?_
          rw [← e18]
          refine g_aload_n (i := 0) F dX10_trial_85 rfl rfl ?_
          refine g_get_10_15 F wd_12_3 dX10_trial_86 ?_
          refine g_iconst F dX10_trial_89 (v := 4) (by decide) ?_
          refine g_iload_n (i := 1) F dX10_trial_90 rfl rfl ?_
          refine g_imul F dX10_trial_91 ?_
          refine g_iload_n (i := 2) F dX10_trial_92 rfl rfl ?_
          refine g_iadd F dX10_trial_93 ?_
          obtain ⟨v19, e20, h⟩ := bind_at h
          refine g_ildM F rfl rfl e20 dX10_trial_94 ?_
          have hp := Prod.mk.inj (Option.some.inj h)
          exact g_iret F hr9 rfl hl9 hp.1 (by rw [hp.2]) (by decide) (by decide) dX10_trial_95
        · refine g_bipush F dX10_trial_53 (v := -4) (by decide) ?_
          have hp := Prod.mk.inj (Option.some.inj h)
          exact g_iret F hr9 rfl hl9 hp.1 (by rw [hp.2]) (by decide) (by decide) dX10_trial_55
      · refine g_bipush F dX10_trial_31 (v := -2) (by decide) ?_
        have hp := Prod.mk.inj (Option.some.inj h)
        exact g_iret F hr9 rfl hl9 hp.1 (by rw [hp.2]) (by decide) (by decide) dX10_trial_33
  · refine g_iconst F dX10_trial_8 (v := -1) (by decide) ?_
    have hp := Prod.mk.inj (Option.some.inj h)
    exact g_iret F hr9 rfl hl9 hp.1 (by rw [hp.2]) (by decide) (by decide) dX10_trial_9
def fX10_lowest_b41 (l0 : Int64) (l2 : Int64) (l4 : Int32) (l5 : Int64) : Option Int64 :=
  if l4 = 0 then if l5 = 0 then none else some (l0 / l5)
  else if l5 = 0 then none else some (l2 / l5)
def fX10_lowest_l16 (l0f16 : Int64) (l2f16 : Int64) (l4f16 : Int32) (K16 : Int64 → Int64 → Option Int64) (l5 : Int64) (l7 : Int64) : Option Int64 :=
  if (lg_cmp l7 (0 : Int64)) = 0 then fX10_lowest_b41 l0f16 l2f16 l4f16 l5
  else if l7 = 0 then none else bd (lrem l5 l7) fun v5 =>
  K16 l7 v5
def fX10_lowest (l0 : Int64) (l2 : Int64) (l4 : Int32) : Option Int64 :=
  if (lg_cmp l0 (0 : Int64)) = 0 then some (l4.toInt64)
  else lo2 (fX10_lowest_l16 l0 l2 l4) FU l0 l2
set_option maxRecDepth 100000 in
set_option maxHeartbeats 4000000 in
theorem c_X10_lowest {l : Launch} {s0 : State} {D : va_G} {ev : Nat → Nat} (G0 : Gl s0 D ev) {X : XW} {M : MW} {nb : Nat} {l0 : Int64} {l2 : Int64} {l4 : Int32} {r' : Int64}  (h : fX10_lowest l0 l2 l4 = some r') : CT l s0 D ev yX10_lowest cX10_lowest 11 (some .long) 0 0 0 [.long l0, .long l2, .int l4] (cells ev X M (nb + 1)) (QL s0 D ev r' (cells ev X M (nb + 1))) := by
  refine ct_of G0 (by decide) (Nat.le_of_ble_eq_true rfl) ?_
  intro p9 e9 s9 m9 args9 below9 meth9 c9 F hr9 hl9 hin9 hargs9 hts9
  have U41 : ∀ (l0 : Int64) (l2 : Int64) (l4 : Int32) (l5 : Int64), fX10_lowest_b41 l0 l2 l4 l5 = some r' → GJ p9 l e9 (rg 0 0 0) s9 m9 args9 below9 meth9 c9 (MQ below9 (QL s0 D ev r' (cells ev X M (nb + 1))) args9 s9 0 0 (frA ev)) s0 D ev 11 0 0 41 [(0, .long l0), (2, .long l2), (4, .int l4), (5, .long l5)] ([]) (cells ev X M (nb + 1)) := by
    intro l0 l2 l4 l5 h
    rw [fX10_lowest_b41] at h
    refine g_iload (i := 4) F dX10_lowest_41 rfl ?_
    refine g_if_ne (tgt := 50) F dX10_lowest_43 (by decide) h (fun a3 h => ?_) (fun a3 h => ?_)
    · refine g_lload_n (i := 2) F dX10_lowest_50 rfl rfl ?_
      refine g_lload (i := 5) F dX10_lowest_51 rfl ?_
      refine ite_at h (fun _ h => by cases h) (fun h1 h => ?_)
      refine g_ldiv F dX10_lowest_53 h1 ?_
      exact g_lret F hr9 hl9 (Option.some.inj h) rfl (by decide) (by decide) dX10_lowest_54
    · refine g_lload_n (i := 0) F dX10_lowest_46 rfl rfl ?_
      refine g_goto (tgt := 51) F dX10_lowest_47 (by decide) ?_
      refine g_lload (i := 5) F dX10_lowest_51 rfl ?_
      refine ite_at h (fun _ h => by cases h) (fun h2 h => ?_)
      refine g_ldiv F dX10_lowest_53 h2 ?_
      exact g_lret F hr9 hl9 (Option.some.inj h) rfl (by decide) (by decide) dX10_lowest_54
  have L16 : ∀ (l0f16 : Int64) (l2f16 : Int64) (l4f16 : Int32) (N16 : Nat) (l5 : Int64) (l7 : Int64), lo2 (fX10_lowest_l16 l0f16 l2f16 l4f16) N16 l5 l7 = some r' → GJ p9 l e9 (rg 0 0 0) s9 m9 args9 below9 meth9 c9 (MQ below9 (QL s0 D ev r' (cells ev X M (nb + 1))) args9 s9 0 0 (frA ev)) s0 D ev 11 0 0 16 [(0, .long l0f16), (2, .long l2f16), (4, .int l4f16), (5, .long l5), (7, .long l7)] ([]) (cells ev X M (nb + 1)) := by
    intro l0f16 l2f16 l4f16 N16
    induction N16 with
    | zero => intro l5 l7 h; cases h
    | succ N16 ih16 =>
      intro l5 l7 h
      change fX10_lowest_l16 l0f16 l2f16 l4f16 (lo2 (fX10_lowest_l16 l0f16 l2f16 l4f16) N16) l5 l7 = some r' at h
      rw [fX10_lowest_l16] at h
      refine g_lload (i := 7) F dX10_lowest_16 rfl ?_
      refine g_lconst F dX10_lowest_18 (v := 0) (by decide) ?_
      refine g_lcmp F dX10_lowest_19 ?_
      refine g_if_eq (tgt := 41) F dX10_lowest_20 (by decide) h (fun a7 h => ?_) (fun a7 h => ?_)
      · refine g_lv (lv' := [(0, .long l0f16), (2, .long l2f16), (4, .int l4f16), (5, .long l5)]) ⟨rfl, rfl, rfl, rfl, trivial⟩ ?_
        exact U41 _ _ _ _ h
      · refine g_lload (i := 5) F dX10_lowest_23 rfl ?_
        refine g_lload (i := 7) F dX10_lowest_25 rfl ?_
        refine ite_at h (fun _ h => by cases h) (fun h4 h => ?_)
        refine g_lrem F dX10_lowest_27 h4 ?_
        refine g_topl F h (fun v5 e6 h => ?_)
        refine g_lstore (i := 9) (lv' := [(9, .long v5), (0, .long l0f16), (2, .long l2f16), (4, .int l4f16), (5, .long l5), (7, .long l7)]) F dX10_lowest_28 (by decide) rfl ?_
        refine g_lload (i := 7) F dX10_lowest_30 rfl ?_
        refine g_lstore (i := 5) (lv' := [(5, .long l7), (9, .long v5), (0, .long l0f16), (2, .long l2f16), (4, .int l4f16), (7, .long l7)]) F dX10_lowest_32 (by decide) rfl ?_
        refine g_lload (i := 9) F dX10_lowest_34 rfl ?_
        refine g_lstore (i := 7) (lv' := [(7, .long v5), (5, .long l7), (9, .long v5), (0, .long l0f16), (2, .long l2f16), (4, .int l4f16)]) F dX10_lowest_36 (by decide) rfl ?_
        refine g_goto (tgt := 16) F dX10_lowest_38 (by decide) ?_
        refine g_lv (lv' := [(0, .long l0f16), (2, .long l2f16), (4, .int l4f16), (5, .long l7), (7, .long v5)]) ⟨rfl, rfl, rfl, rfl, rfl, trivial⟩ ?_
        exact ih16 _ _ h
  rw [fX10_lowest] at h
  refine g_lv (lv' := [(0, .long l0), (2, .long l2), (4, .int l4)]) ⟨rfl, rfl, rfl, trivial⟩ ?_
  refine g_lload_n (i := 0) F dX10_lowest_0 rfl rfl ?_
  refine g_lconst F dX10_lowest_1 (v := 0) (by decide) ?_
  refine g_lcmp F dX10_lowest_2 ?_
  refine g_if_ne (tgt := 10) F dX10_lowest_3 (by decide) h (fun a8 h => ?_) (fun a8 h => ?_)
  · refine g_lload_n (i := 0) F dX10_lowest_10 rfl rfl ?_
    refine g_lstore (i := 5) (lv' := [(5, .long l0), (0, .long l0), (2, .long l2), (4, .int l4)]) F dX10_lowest_11 (by decide) rfl ?_
    refine g_lload_n (i := 2) F dX10_lowest_13 rfl rfl ?_
    refine g_lstore (i := 7) (lv' := [(7, .long l2), (5, .long l0), (0, .long l0), (2, .long l2), (4, .int l4)]) F dX10_lowest_14 (by decide) rfl ?_
    refine g_lv (lv' := [(0, .long l0), (2, .long l2), (4, .int l4), (5, .long l0), (7, .long l2)]) ⟨rfl, rfl, rfl, rfl, rfl, trivial⟩ ?_
    exact L16 _ _ _ FU _ _ h
  · refine g_iload (i := 4) F dX10_lowest_6 rfl ?_
    refine g_i2l F dX10_lowest_8 ?_
    exact g_lret F hr9 hl9 (Option.some.inj h) rfl (by decide) (by decide) dX10_lowest_9
def fX10_rate (M : MW) (l1 : Int32) (l2 : Int32) (l3 : Int32) : Option Int64 :=
  if (fX10_isTrial l1 l2) = 0 then some (-4611686018427387904 : Int64)
  else if (fX10_in l3 (0 : Int32) (1 : Int32)) = 0 then some (-4611686018427387904 : Int64)
  else (rd (M.2 80) 20 (((4 : Int32) * l1) + l2)).bind fun v5 =>
  (rd (M.2 79) 20 (((4 : Int32) * l1) + l2)).bind fun v7 =>
  (fX10_lowest (v5.toInt64 + (1 : Int64)) (v7.toInt64 + (2 : Int64)) l3).bind fun v9 =>
  some v9
set_option maxRecDepth 100000 in
set_option maxHeartbeats 4000000 in
theorem c_X10_rate {l : Launch} {s0 : State} {D : va_G} {ev : Nat → Nat} (G0 : Gl s0 D ev) {X : XW} {M : MW} {nb : Nat} {l1 : Int32} {l2 : Int32} {l3 : Int32} {r' : Int64}  (h : fX10_rate M l1 l2 l3 = some r') : CT l s0 D ev yX10_rate cX10_rate 4 (some .long) 2 0 0 [.ref (ev 0 + 65), .int l1, .int l2, .int l3] (cells ev X M (nb + 1)) (QL s0 D ev r' (cells ev X M (nb + 1))) := by
  refine ct_of G0 (by decide) (Nat.le_of_ble_eq_true rfl) ?_
  intro p9 e9 s9 m9 args9 below9 meth9 c9 F hr9 hl9 hin9 hargs9 hts9
  rw [fX10_rate] at h
  refine g_lv (lv' := [(0, .ref (ev 0 + 65)), (1, .int l1), (2, .int l2), (3, .int l3)]) ⟨rfl, rfl, rfl, rfl, trivial⟩ ?_
  refine g_iload_n (i := 1) F dX10_rate_0 rfl rfl ?_
  refine g_iload_n (i := 2) F dX10_rate_1 rfl rfl ?_
  refine g_callSI F (mcR := 0) (msR := 0) (c_X10_isTrial G0 (X := X) (M := M) (nb := nb) rfl) wd_42_8 wd_42_6 wd_42_7 wd_1_5 ⟨by decide, by decide⟩ (nn := 2) (by decide) (As := [.int l1, .int l2]) rfl rfl (Nat.le_of_ble_eq_true rfl) (by decide) (by decide) ⟨by decide, by decide⟩ dX10_rate_2 ?_
  refine g_if_eq (tgt := 52) F dX10_rate_5 (by decide) h (fun a12 h => ?_) (fun a12 h => ?_)
  · refine g_ldc2 F dX10_rate_52 wd_41_13 ?_
    exact g_lret F hr9 hl9 (Option.some.inj h) rfl (by decide) (by decide) dX10_rate_55
  · refine g_iload_n (i := 3) F dX10_rate_8 rfl rfl ?_
    refine g_iconst F dX10_rate_9 (v := 0) (by decide) ?_
    refine g_iconst F dX10_rate_10 (v := 1) (by decide) ?_
    refine g_callSI F (mcR := 0) (msR := 0) (c_X10_in G0 (X := X) (M := M) (nb := nb) rfl) wd_13_21 wd_13_19 wd_13_20 wd_1_5 ⟨by decide, by decide⟩ (nn := 3) (by decide) (As := [.int l3, .int (0 : Int32), .int (1 : Int32)]) rfl rfl (Nat.le_of_ble_eq_true rfl) (by decide) (by decide) ⟨by decide, by decide⟩ dX10_rate_11 ?_
    refine g_if_eq (tgt := 52) F dX10_rate_14 (by decide) h (fun a11 h => ?_) (fun a11 h => ?_)
    · refine g_ldc2 F dX10_rate_52 wd_41_13 ?_
      exact g_lret F hr9 hl9 (Option.some.inj h) rfl (by decide) (by decide) dX10_rate_55
    · refine g_aload_n (i := 0) F dX10_rate_17 rfl rfl ?_
      refine g_get_10_16 F wd_12_4 dX10_rate_18 ?_
      refine g_iconst F dX10_rate_21 (v := 4) (by decide) ?_
      refine g_iload_n (i := 1) F dX10_rate_22 rfl rfl ?_
      refine g_imul F dX10_rate_23 ?_
      refine g_iload_n (i := 2) F dX10_rate_24 rfl rfl ?_
      refine g_iadd F dX10_rate_25 ?_
      obtain ⟨v5, e6, h⟩ := bind_at h
      refine g_ildM F rfl rfl e6 dX10_rate_26 ?_
      refine g_i2l F dX10_rate_27 ?_
      refine g_lconst F dX10_rate_28 (v := 1) (by decide) ?_
      refine g_ladd F dX10_rate_29 ?_
      refine g_aload_n (i := 0) F dX10_rate_30 rfl rfl ?_
      refine g_get_10_15 F wd_12_3 dX10_rate_31 ?_
      refine g_iconst F dX10_rate_34 (v := 4) (by decide) ?_
      refine g_iload_n (i := 1) F dX10_rate_35 rfl rfl ?_
      refine g_imul F dX10_rate_36 ?_
      refine g_iload_n (i := 2) F dX10_rate_37 rfl rfl ?_
      refine g_iadd F dX10_rate_38 ?_
      obtain ⟨v7, e8, h⟩ := bind_at h
      refine g_ildM F rfl rfl e8 dX10_rate_39 ?_
      refine g_i2l F dX10_rate_40 ?_
      refine g_ldc2 F dX10_rate_41 wd_43_4 ?_
      refine g_ladd F dX10_rate_44 ?_
      refine g_iload_n (i := 3) F dX10_rate_45 rfl rfl ?_
      obtain ⟨v9, e10, h⟩ := bind_at h
      refine g_callSL F (mcR := 0) (msR := 0) (c_X10_lowest G0 e10) wd_43_7 wd_43_5 wd_43_6 wd_1_5 ⟨by decide, by decide⟩ (nn := 3) (by decide) (As := [.long (v5.toInt64 + (1 : Int64)), .long (v7.toInt64 + (2 : Int64)), .int l3]) rfl rfl (Nat.le_of_ble_eq_true rfl) (by decide) (by decide) ⟨by decide, by decide⟩ dX10_rate_46 ?_
      refine g_goto (tgt := 55) F dX10_rate_49 (by decide) ?_
      exact g_lret F hr9 hl9 (Option.some.inj h) rfl (by decide) (by decide) dX10_rate_55
def fX10_isLikelier (M : MW) (l1 : Int32) (l2 : Int32) : Option Int32 :=
  (rd (M.2 80) 20 l1).bind fun v1 =>
  (rd (M.2 79) 20 l2).bind fun v3 =>
  (rd (M.2 80) 20 l2).bind fun v5 =>
  (rd (M.2 79) 20 l1).bind fun v7 =>
  if (lg_cmp ((v1 + (1 : Int32)).toInt64 * (v3 + (2 : Int32)).toInt64) ((v5 + (1 : Int32)).toInt64 * (v7 + (2 : Int32)).toInt64)) ≤ 0 then some (0 : Int32)
  else some (1 : Int32)
set_option maxRecDepth 100000 in
set_option maxHeartbeats 4000000 in
theorem c_X10_isLikelier {l : Launch} {s0 : State} {D : va_G} {ev : Nat → Nat} (G0 : Gl s0 D ev) {X : XW} {M : MW} {nb : Nat} {l1 : Int32} {l2 : Int32} {r' : Int32}  (h : fX10_isLikelier M l1 l2 = some r') : CT l s0 D ev yX10_isLikelier cX10_isLikelier 3 (some .boolean) 0 0 0 [.ref (ev 0 + 65), .int l1, .int l2] (cells ev X M (nb + 1)) (QI s0 D ev r' (cells ev X M (nb + 1))) := by
  refine ct_of G0 (by decide) (Nat.le_of_ble_eq_true rfl) ?_
  intro p9 e9 s9 m9 args9 below9 meth9 c9 F hr9 hl9 hin9 hargs9 hts9
  rw [fX10_isLikelier] at h
  refine g_lv (lv' := [(0, .ref (ev 0 + 65)), (1, .int l1), (2, .int l2)]) ⟨rfl, rfl, rfl, trivial⟩ ?_
  refine g_aload_n (i := 0) F dX10_isLikelier_0 rfl rfl ?_
  refine g_get_10_16 F wd_12_4 dX10_isLikelier_1 ?_
  refine g_iload_n (i := 1) F dX10_isLikelier_4 rfl rfl ?_
  obtain ⟨v1, e2, h⟩ := bind_at h
  refine g_ildM F rfl rfl e2 dX10_isLikelier_5 ?_
  refine g_iconst F dX10_isLikelier_6 (v := 1) (by decide) ?_
  refine g_iadd F dX10_isLikelier_7 ?_
  refine g_i2l F dX10_isLikelier_8 ?_
  refine g_aload_n (i := 0) F dX10_isLikelier_9 rfl rfl ?_
  refine g_get_10_15 F wd_12_3 dX10_isLikelier_10 ?_
  refine g_iload_n (i := 2) F dX10_isLikelier_13 rfl rfl ?_
  obtain ⟨v3, e4, h⟩ := bind_at h
  refine g_ildM F rfl rfl e4 dX10_isLikelier_14 ?_
  refine g_iconst F dX10_isLikelier_15 (v := 2) (by decide) ?_
  refine g_iadd F dX10_isLikelier_16 ?_
  refine g_i2l F dX10_isLikelier_17 ?_
  refine g_lmul F dX10_isLikelier_18 ?_
  refine g_aload_n (i := 0) F dX10_isLikelier_19 rfl rfl ?_
  refine g_get_10_16 F wd_12_4 dX10_isLikelier_20 ?_
  refine g_iload_n (i := 2) F dX10_isLikelier_23 rfl rfl ?_
  obtain ⟨v5, e6, h⟩ := bind_at h
  refine g_ildM F rfl rfl e6 dX10_isLikelier_24 ?_
  refine g_iconst F dX10_isLikelier_25 (v := 1) (by decide) ?_
  refine g_iadd F dX10_isLikelier_26 ?_
  refine g_i2l F dX10_isLikelier_27 ?_
  refine g_aload_n (i := 0) F dX10_isLikelier_28 rfl rfl ?_
  refine g_get_10_15 F wd_12_3 dX10_isLikelier_29 ?_
  refine g_iload_n (i := 1) F dX10_isLikelier_32 rfl rfl ?_
  obtain ⟨v7, e8, h⟩ := bind_at h
  refine g_ildM F rfl rfl e8 dX10_isLikelier_33 ?_
  refine g_iconst F dX10_isLikelier_34 (v := 2) (by decide) ?_
  refine g_iadd F dX10_isLikelier_35 ?_
  refine g_i2l F dX10_isLikelier_36 ?_
  refine g_lmul F dX10_isLikelier_37 ?_
  refine g_lcmp F dX10_isLikelier_38 ?_
  refine g_if_le (tgt := 46) F dX10_isLikelier_39 (by decide) h (fun a9 h => ?_) (fun a9 h => ?_)
  · refine g_iconst F dX10_isLikelier_46 (v := 0) (by decide) ?_
    exact g_iret F hr9 (by decide) hl9 (Option.some.inj h) rfl (by decide) (by decide) dX10_isLikelier_47
  · refine g_iconst F dX10_isLikelier_42 (v := 1) (by decide) ?_
    refine g_goto (tgt := 47) F dX10_isLikelier_43 (by decide) ?_
    exact g_iret F hr9 (by decide) hl9 (Option.some.inj h) rfl (by decide) (by decide) dX10_isLikelier_47
def fX10_form_l16 (M : MW) (l1f16 : Int32) (K16 : Int32 → Int32 → Option Int32) (l2 : Int32) (l3 : Int32) : Option Int32 :=
  if (4 : Int32) < l3 then some l2
  else (fX10_isLikelier M (((4 : Int32) * l3) + l1f16) (((4 : Int32) * l2) + l1f16)).bind fun v3 =>
  if v3 = 0 then K16 l2 (l3 + (1 : Int32))
  else K16 l3 (l3 + (1 : Int32))
def fX10_form (M : MW) (l1 : Int32) : Option Int32 :=
  if (fX10_in l1 (0 : Int32) (3 : Int32)) = 0 then some (-5 : Int32)
  else lo2 (fX10_form_l16 M l1) FU (0 : Int32) (1 : Int32)
set_option maxRecDepth 100000 in
set_option maxHeartbeats 4000000 in
theorem c_X10_form {l : Launch} {s0 : State} {D : va_G} {ev : Nat → Nat} (G0 : Gl s0 D ev) {X : XW} {M : MW} {nb : Nat} {l1 : Int32} {r' : Int32}  (h : fX10_form M l1 = some r') : CT l s0 D ev yX10_form cX10_form 4 (some .int) 1 0 0 [.ref (ev 0 + 65), .int l1] (cells ev X M (nb + 1)) (QI s0 D ev r' (cells ev X M (nb + 1))) := by
  refine ct_of G0 (by decide) (Nat.le_of_ble_eq_true rfl) ?_
  intro p9 e9 s9 m9 args9 below9 meth9 c9 F hr9 hl9 hin9 hargs9 hts9
  have L16 : ∀ (l1f16 : Int32) (N16 : Nat) (l2 : Int32) (l3 : Int32), lo2 (fX10_form_l16 M l1f16) N16 l2 l3 = some r' → GJ p9 l e9 (rg 1 0 0) s9 m9 args9 below9 meth9 c9 (MQ below9 (QI s0 D ev r' (cells ev X M (nb + 1))) args9 s9 0 0 (frA ev)) s0 D ev 4 0 0 16 [(0, .ref (ev 0 + 65)), (1, .int l1f16), (2, .int l2), (3, .int l3)] ([]) (cells ev X M (nb + 1)) := by
    intro l1f16 N16
    induction N16 with
    | zero => intro l2 l3 h; cases h
    | succ N16 ih16 =>
      intro l2 l3 h
      change fX10_form_l16 M l1f16 (lo2 (fX10_form_l16 M l1f16) N16) l2 l3 = some r' at h
      rw [fX10_form_l16] at h
      refine g_iload_n (i := 3) F dX10_form_16 rfl rfl ?_
      refine g_iconst F dX10_form_17 (v := 4) (by decide) ?_
      refine g_icmp_gt (tgt := 50) F dX10_form_18 (by decide) h (fun a6 h => ?_) (fun a6 h => ?_)
      · refine g_iload_n (i := 2) F dX10_form_50 rfl rfl ?_
        exact g_iret F hr9 rfl hl9 (Option.some.inj h) rfl (by decide) (by decide) dX10_form_51
      · refine g_aload_n (i := 0) F dX10_form_21 rfl rfl ?_
        refine g_iconst F dX10_form_22 (v := 4) (by decide) ?_
        refine g_iload_n (i := 3) F dX10_form_23 rfl rfl ?_
        refine g_imul F dX10_form_24 ?_
        refine g_iload_n (i := 1) F dX10_form_25 rfl rfl ?_
        refine g_iadd F dX10_form_26 ?_
        refine g_iconst F dX10_form_27 (v := 4) (by decide) ?_
        refine g_iload_n (i := 2) F dX10_form_28 rfl rfl ?_
        refine g_imul F dX10_form_29 ?_
        refine g_iload_n (i := 1) F dX10_form_30 rfl rfl ?_
        refine g_iadd F dX10_form_31 ?_
        obtain ⟨v3, e4, h⟩ := bind_at h
        refine g_callVI F (mcR := 0) (msR := 0) (id := 65) (cells_at (kd_hidM (show kd 65 = 10 from rfl) (by decide)) (xc_10 rfl)) (ci := 10) rfl rfl rfl (c_X10_isLikelier G0 e4) wd_44_1 wd_43_22 wd_43_23 wd_44_0 wd_1_5 ⟨by decide, by decide⟩ (nn := 2) (by decide) (As := [.int (((4 : Int32) * l3) + l1f16), .int (((4 : Int32) * l2) + l1f16)]) rfl rfl (Nat.le_of_ble_eq_true rfl) (by decide) (by decide) ⟨by decide, by decide⟩ dX10_form_32 ?_
        refine g_if_eq (tgt := 42) F dX10_form_35 (by decide) h (fun a5 h => ?_) (fun a5 h => ?_)
        · refine g_iload_n (i := 2) F dX10_form_42 rfl rfl ?_
          refine g_istore_n (i := 2) (lv' := [(2, .int l2), (0, .ref (ev 0 + 65)), (1, .int l1f16), (3, .int l3)]) F dX10_form_43 rfl (by decide) rfl ?_
          refine g_iinc (i := 3) (v := (l3 + (1 : Int32))) (lv' := [(3, .int (l3 + (1 : Int32))), (2, .int l2), (0, .ref (ev 0 + 65)), (1, .int l1f16)]) F dX10_form_44 rfl rfl (by decide) rfl ?_
          refine g_goto (tgt := 16) F dX10_form_47 (by decide) ?_
          refine g_lv (lv' := [(0, .ref (ev 0 + 65)), (1, .int l1f16), (2, .int l2), (3, .int (l3 + (1 : Int32)))]) ⟨rfl, rfl, rfl, rfl, trivial⟩ ?_
          exact ih16 _ _ h
        · refine g_iload_n (i := 3) F dX10_form_38 rfl rfl ?_
          refine g_goto (tgt := 43) F dX10_form_39 (by decide) ?_
          refine g_istore_n (i := 2) (lv' := [(2, .int l3), (0, .ref (ev 0 + 65)), (1, .int l1f16), (3, .int l3)]) F dX10_form_43 rfl (by decide) rfl ?_
          refine g_iinc (i := 3) (v := (l3 + (1 : Int32))) (lv' := [(3, .int (l3 + (1 : Int32))), (2, .int l3), (0, .ref (ev 0 + 65)), (1, .int l1f16)]) F dX10_form_44 rfl rfl (by decide) rfl ?_
          refine g_goto (tgt := 16) F dX10_form_47 (by decide) ?_
          refine g_lv (lv' := [(0, .ref (ev 0 + 65)), (1, .int l1f16), (2, .int l3), (3, .int (l3 + (1 : Int32)))]) ⟨rfl, rfl, rfl, rfl, trivial⟩ ?_
          exact ih16 _ _ h
  rw [fX10_form] at h
  refine g_lv (lv' := [(0, .ref (ev 0 + 65)), (1, .int l1)]) ⟨rfl, rfl, trivial⟩ ?_
  refine g_iload_n (i := 1) F dX10_form_0 rfl rfl ?_
  refine g_iconst F dX10_form_1 (v := 0) (by decide) ?_
  refine g_iconst F dX10_form_2 (v := 3) (by decide) ?_
  refine g_callSI F (mcR := 0) (msR := 0) (c_X10_in G0 (X := X) (M := M) (nb := nb) rfl) wd_13_21 wd_13_19 wd_13_20 wd_1_5 ⟨by decide, by decide⟩ (nn := 3) (by decide) (As := [.int l1, .int (0 : Int32), .int (3 : Int32)]) rfl rfl (Nat.le_of_ble_eq_true rfl) (by decide) (by decide) ⟨by decide, by decide⟩ dX10_form_3 ?_
  refine g_if_ne (tgt := 12) F dX10_form_6 (by decide) h (fun a7 h => ?_) (fun a7 h => ?_)
  · refine g_iconst F dX10_form_12 (v := 0) (by decide) ?_
    refine g_istore_n (i := 2) (lv' := [(2, .int (0 : Int32)), (0, .ref (ev 0 + 65)), (1, .int l1)]) F dX10_form_13 rfl (by decide) rfl ?_
    refine g_iconst F dX10_form_14 (v := 1) (by decide) ?_
    refine g_istore_n (i := 3) (lv' := [(3, .int (1 : Int32)), (2, .int (0 : Int32)), (0, .ref (ev 0 + 65)), (1, .int l1)]) F dX10_form_15 rfl (by decide) rfl ?_
    refine g_lv (lv' := [(0, .ref (ev 0 + 65)), (1, .int l1), (2, .int (0 : Int32)), (3, .int (1 : Int32))]) ⟨rfl, rfl, rfl, rfl, trivial⟩ ?_
    exact L16 _ FU _ _ h
  · refine g_bipush F dX10_form_9 (v := -5) (by decide) ?_
    exact g_iret F hr9 rfl hl9 (Option.some.inj h) rfl (by decide) (by decide) dX10_form_11
def fX10_leastLikely_l6 (M : MW) (l1f6 : Int32) (K6 : Int32 → Int32 → Option Int32) (l2 : Int32) (l3 : Int32) : Option Int32 :=
  if (3 : Int32) < l3 then some l2
  else (fX10_isLikelier M l2 (((4 : Int32) * l1f6) + l3)).bind fun v3 =>
  if v3 = 0 then K6 l2 (l3 + (1 : Int32))
  else bd (((4 : Int32) * l1f6) + l3) fun v5 =>
  K6 v5 (l3 + (1 : Int32))
def fX10_leastLikely (M : MW) (l1 : Int32) : Option Int32 :=
  bd ((4 : Int32) * l1) fun v1 =>
  lo2 (fX10_leastLikely_l6 M l1) FU v1 (1 : Int32)
set_option maxRecDepth 100000 in
set_option maxHeartbeats 4000000 in
theorem c_X10_leastLikely {l : Launch} {s0 : State} {D : va_G} {ev : Nat → Nat} (G0 : Gl s0 D ev) {X : XW} {M : MW} {nb : Nat} {l1 : Int32} {r' : Int32}  (h : fX10_leastLikely M l1 = some r') : CT l s0 D ev yX10_leastLikely cX10_leastLikely 4 (some .int) 1 0 0 [.ref (ev 0 + 65), .int l1] (cells ev X M (nb + 1)) (QI s0 D ev r' (cells ev X M (nb + 1))) := by
  refine ct_of G0 (by decide) (Nat.le_of_ble_eq_true rfl) ?_
  intro p9 e9 s9 m9 args9 below9 meth9 c9 F hr9 hl9 hin9 hargs9 hts9
  have L6 : ∀ (l1f6 : Int32) (N6 : Nat) (l2 : Int32) (l3 : Int32), lo2 (fX10_leastLikely_l6 M l1f6) N6 l2 l3 = some r' → GJ p9 l e9 (rg 1 0 0) s9 m9 args9 below9 meth9 c9 (MQ below9 (QI s0 D ev r' (cells ev X M (nb + 1))) args9 s9 0 0 (frA ev)) s0 D ev 4 0 0 6 [(0, .ref (ev 0 + 65)), (1, .int l1f6), (2, .int l2), (3, .int l3)] ([]) (cells ev X M (nb + 1)) := by
    intro l1f6 N6
    induction N6 with
    | zero => intro l2 l3 h; cases h
    | succ N6 ih6 =>
      intro l2 l3 h
      change fX10_leastLikely_l6 M l1f6 (lo2 (fX10_leastLikely_l6 M l1f6) N6) l2 l3 = some r' at h
      rw [fX10_leastLikely_l6] at h
      refine g_iload_n (i := 3) F dX10_leastLikely_6 rfl rfl ?_
      refine g_iconst F dX10_leastLikely_7 (v := 3) (by decide) ?_
      refine g_icmp_gt (tgt := 40) F dX10_leastLikely_8 (by decide) h (fun a8 h => ?_) (fun a8 h => ?_)
      · refine g_iload_n (i := 2) F dX10_leastLikely_40 rfl rfl ?_
        exact g_iret F hr9 rfl hl9 (Option.some.inj h) rfl (by decide) (by decide) dX10_leastLikely_41
      · refine g_aload_n (i := 0) F dX10_leastLikely_11 rfl rfl ?_
        refine g_iload_n (i := 2) F dX10_leastLikely_12 rfl rfl ?_
        refine g_iconst F dX10_leastLikely_13 (v := 4) (by decide) ?_
        refine g_iload_n (i := 1) F dX10_leastLikely_14 rfl rfl ?_
        refine g_imul F dX10_leastLikely_15 ?_
        refine g_iload_n (i := 3) F dX10_leastLikely_16 rfl rfl ?_
        refine g_iadd F dX10_leastLikely_17 ?_
        obtain ⟨v3, e4, h⟩ := bind_at h
        refine g_callVI F (mcR := 0) (msR := 0) (id := 65) (cells_at (kd_hidM (show kd 65 = 10 from rfl) (by decide)) (xc_10 rfl)) (ci := 10) rfl rfl rfl (c_X10_isLikelier G0 e4) wd_44_1 wd_43_22 wd_43_23 wd_44_0 wd_1_5 ⟨by decide, by decide⟩ (nn := 2) (by decide) (As := [.int l2, .int (((4 : Int32) * l1f6) + l3)]) rfl rfl (Nat.le_of_ble_eq_true rfl) (by decide) (by decide) ⟨by decide, by decide⟩ dX10_leastLikely_18 ?_
        refine g_if_eq (tgt := 32) F dX10_leastLikely_21 (by decide) h (fun a7 h => ?_) (fun a7 h => ?_)
        · refine g_iload_n (i := 2) F dX10_leastLikely_32 rfl rfl ?_
          refine g_istore_n (i := 2) (lv' := [(2, .int l2), (0, .ref (ev 0 + 65)), (1, .int l1f6), (3, .int l3)]) F dX10_leastLikely_33 rfl (by decide) rfl ?_
          refine g_iinc (i := 3) (v := (l3 + (1 : Int32))) (lv' := [(3, .int (l3 + (1 : Int32))), (2, .int l2), (0, .ref (ev 0 + 65)), (1, .int l1f6)]) F dX10_leastLikely_34 rfl rfl (by decide) rfl ?_
          refine g_goto (tgt := 6) F dX10_leastLikely_37 (by decide) ?_
          refine g_lv (lv' := [(0, .ref (ev 0 + 65)), (1, .int l1f6), (2, .int l2), (3, .int (l3 + (1 : Int32)))]) ⟨rfl, rfl, rfl, rfl, trivial⟩ ?_
          exact ih6 _ _ h
        · refine g_iconst F dX10_leastLikely_24 (v := 4) (by decide) ?_
          refine g_iload_n (i := 1) F dX10_leastLikely_25 rfl rfl ?_
          refine g_imul F dX10_leastLikely_26 ?_
          refine g_iload_n (i := 3) F dX10_leastLikely_27 rfl rfl ?_
          refine g_iadd F dX10_leastLikely_28 ?_
          refine g_goto (tgt := 33) F dX10_leastLikely_29 (by decide) ?_
          refine g_topi F h (fun v5 e6 h => ?_)
          refine g_istore_n (i := 2) (lv' := [(2, .int v5), (0, .ref (ev 0 + 65)), (1, .int l1f6), (3, .int l3)]) F dX10_leastLikely_33 rfl (by decide) rfl ?_
          refine g_iinc (i := 3) (v := (l3 + (1 : Int32))) (lv' := [(3, .int (l3 + (1 : Int32))), (2, .int v5), (0, .ref (ev 0 + 65)), (1, .int l1f6)]) F dX10_leastLikely_34 rfl rfl (by decide) rfl ?_
          refine g_goto (tgt := 6) F dX10_leastLikely_37 (by decide) ?_
          refine g_lv (lv' := [(0, .ref (ev 0 + 65)), (1, .int l1f6), (2, .int v5), (3, .int (l3 + (1 : Int32)))]) ⟨rfl, rfl, rfl, rfl, trivial⟩ ?_
          exact ih6 _ _ h
  rw [fX10_leastLikely] at h
  refine g_lv (lv' := [(0, .ref (ev 0 + 65)), (1, .int l1)]) ⟨rfl, rfl, trivial⟩ ?_
  refine g_iconst F dX10_leastLikely_0 (v := 4) (by decide) ?_
  refine g_iload_n (i := 1) F dX10_leastLikely_1 rfl rfl ?_
  refine g_imul F dX10_leastLikely_2 ?_
  refine g_topi F h (fun v1 e2 h => ?_)
  refine g_istore_n (i := 2) (lv' := [(2, .int v1), (0, .ref (ev 0 + 65)), (1, .int l1)]) F dX10_leastLikely_3 rfl (by decide) rfl ?_
  refine g_iconst F dX10_leastLikely_4 (v := 1) (by decide) ?_
  refine g_istore_n (i := 3) (lv' := [(3, .int (1 : Int32)), (2, .int v1), (0, .ref (ev 0 + 65)), (1, .int l1)]) F dX10_leastLikely_5 rfl (by decide) rfl ?_
  refine g_lv (lv' := [(0, .ref (ev 0 + 65)), (1, .int l1), (2, .int v1), (3, .int (1 : Int32))]) ⟨rfl, rfl, rfl, rfl, trivial⟩ ?_
  exact L6 _ FU _ _ h
def fX10_joined_l4 (M : MW) (K4 : Int32 → Int32 → Option Int32) (l1 : Int32) (l2 : Int32) : Option Int32 :=
  if (4 : Int32) < l2 then some l1
  else (fX10_leastLikely M l2).bind fun v1 =>
  (fX10_leastLikely M l1).bind fun v3 =>
  (fX10_isLikelier M v1 v3).bind fun v5 =>
  if v5 = 0 then K4 l1 (l2 + (1 : Int32))
  else K4 l2 (l2 + (1 : Int32))
def fX10_joined (M : MW) : Option Int32 :=
  lo2 (fX10_joined_l4 M) FU (0 : Int32) (1 : Int32)
set_option maxRecDepth 100000 in
set_option maxHeartbeats 4000000 in
theorem c_X10_joined {l : Launch} {s0 : State} {D : va_G} {ev : Nat → Nat} (G0 : Gl s0 D ev) {X : XW} {M : MW} {nb : Nat}  {r' : Int32}  (h : fX10_joined M = some r') : CT l s0 D ev yX10_joined cX10_joined 3 (some .int) 2 0 0 [.ref (ev 0 + 65)] (cells ev X M (nb + 1)) (QI s0 D ev r' (cells ev X M (nb + 1))) := by
  refine ct_of G0 (by decide) (Nat.le_of_ble_eq_true rfl) ?_
  intro p9 e9 s9 m9 args9 below9 meth9 c9 F hr9 hl9 hin9 hargs9 hts9
  have L4 : ∀  (N4 : Nat) (l1 : Int32) (l2 : Int32), lo2 (fX10_joined_l4 M) N4 l1 l2 = some r' → GJ p9 l e9 (rg 2 0 0) s9 m9 args9 below9 meth9 c9 (MQ below9 (QI s0 D ev r' (cells ev X M (nb + 1))) args9 s9 0 0 (frA ev)) s0 D ev 3 0 0 4 [(0, .ref (ev 0 + 65)), (1, .int l1), (2, .int l2)] ([]) (cells ev X M (nb + 1)) := by
    intro  N4
    induction N4 with
    | zero => intro l1 l2 h; cases h
    | succ N4 ih4 =>
      intro l1 l2 h
      change fX10_joined_l4 M (lo2 (fX10_joined_l4 M) N4) l1 l2 = some r' at h
      rw [fX10_joined_l4] at h
      refine g_iload_n (i := 2) F dX10_joined_4 rfl rfl ?_
      refine g_iconst F dX10_joined_5 (v := 4) (by decide) ?_
      refine g_icmp_gt (tgt := 38) F dX10_joined_6 (by decide) h (fun a8 h => ?_) (fun a8 h => ?_)
      · refine g_iload_n (i := 1) F dX10_joined_38 rfl rfl ?_
        exact g_iret F hr9 rfl hl9 (Option.some.inj h) rfl (by decide) (by decide) dX10_joined_39
      · refine g_aload_n (i := 0) F dX10_joined_9 rfl rfl ?_
        refine g_aload_n (i := 0) F dX10_joined_10 rfl rfl ?_
        refine g_iload_n (i := 2) F dX10_joined_11 rfl rfl ?_
        obtain ⟨v1, e2, h⟩ := bind_at h
        refine g_callVI F (mcR := 0) (msR := 0) (id := 65) (cells_at (kd_hidM (show kd 65 = 10 from rfl) (by decide)) (xc_10 rfl)) (ci := 10) rfl rfl rfl (c_X10_leastLikely G0 e2) wd_44_18 wd_44_15 wd_44_16 wd_44_17 wd_1_5 ⟨by decide, by decide⟩ (nn := 1) (by decide) (As := [.int l2]) rfl rfl (Nat.le_of_ble_eq_true rfl) (by decide) (by decide) ⟨by decide, by decide⟩ dX10_joined_12 ?_
        refine g_aload_n (i := 0) F dX10_joined_15 rfl rfl ?_
        refine g_iload_n (i := 1) F dX10_joined_16 rfl rfl ?_
        obtain ⟨v3, e4, h⟩ := bind_at h
        refine g_callVI F (mcR := 0) (msR := 0) (id := 65) (cells_at (kd_hidM (show kd 65 = 10 from rfl) (by decide)) (xc_10 rfl)) (ci := 10) rfl rfl rfl (c_X10_leastLikely G0 e4) wd_44_18 wd_44_15 wd_44_16 wd_44_17 wd_1_5 ⟨by decide, by decide⟩ (nn := 1) (by decide) (As := [.int l1]) rfl rfl (Nat.le_of_ble_eq_true rfl) (by decide) (by decide) ⟨by decide, by decide⟩ dX10_joined_17 ?_
        obtain ⟨v5, e6, h⟩ := bind_at h
        refine g_callVI F (mcR := 0) (msR := 0) (id := 65) (cells_at (kd_hidM (show kd 65 = 10 from rfl) (by decide)) (xc_10 rfl)) (ci := 10) rfl rfl rfl (c_X10_isLikelier G0 e6) wd_44_1 wd_43_22 wd_43_23 wd_44_0 wd_1_5 ⟨by decide, by decide⟩ (nn := 2) (by decide) (As := [.int v1, .int v3]) rfl rfl (Nat.le_of_ble_eq_true rfl) (by decide) (by decide) ⟨by decide, by decide⟩ dX10_joined_20 ?_
        refine g_if_eq (tgt := 30) F dX10_joined_23 (by decide) h (fun a7 h => ?_) (fun a7 h => ?_)
        · refine g_iload_n (i := 1) F dX10_joined_30 rfl rfl ?_
          refine g_istore_n (i := 1) (lv' := [(1, .int l1), (0, .ref (ev 0 + 65)), (2, .int l2)]) F dX10_joined_31 rfl (by decide) rfl ?_
          refine g_iinc (i := 2) (v := (l2 + (1 : Int32))) (lv' := [(2, .int (l2 + (1 : Int32))), (1, .int l1), (0, .ref (ev 0 + 65))]) F dX10_joined_32 rfl rfl (by decide) rfl ?_
          refine g_goto (tgt := 4) F dX10_joined_35 (by decide) ?_
          refine g_lv (lv' := [(0, .ref (ev 0 + 65)), (1, .int l1), (2, .int (l2 + (1 : Int32)))]) ⟨rfl, rfl, rfl, trivial⟩ ?_
          exact ih4 _ _ h
        · refine g_iload_n (i := 2) F dX10_joined_26 rfl rfl ?_
          refine g_goto (tgt := 31) F dX10_joined_27 (by decide) ?_
          refine g_istore_n (i := 1) (lv' := [(1, .int l2), (0, .ref (ev 0 + 65)), (2, .int l2)]) F dX10_joined_31 rfl (by decide) rfl ?_
          refine g_iinc (i := 2) (v := (l2 + (1 : Int32))) (lv' := [(2, .int (l2 + (1 : Int32))), (1, .int l2), (0, .ref (ev 0 + 65))]) F dX10_joined_32 rfl rfl (by decide) rfl ?_
          refine g_goto (tgt := 4) F dX10_joined_35 (by decide) ?_
          refine g_lv (lv' := [(0, .ref (ev 0 + 65)), (1, .int l2), (2, .int (l2 + (1 : Int32)))]) ⟨rfl, rfl, rfl, trivial⟩ ?_
          exact ih4 _ _ h
  rw [fX10_joined] at h
  refine g_lv (lv' := [(0, .ref (ev 0 + 65))]) ⟨rfl, trivial⟩ ?_
  refine g_iconst F dX10_joined_0 (v := 0) (by decide) ?_
  refine g_istore_n (i := 1) (lv' := [(1, .int (0 : Int32)), (0, .ref (ev 0 + 65))]) F dX10_joined_1 rfl (by decide) rfl ?_
  refine g_iconst F dX10_joined_2 (v := 1) (by decide) ?_
  refine g_istore_n (i := 2) (lv' := [(2, .int (1 : Int32)), (1, .int (0 : Int32)), (0, .ref (ev 0 + 65))]) F dX10_joined_3 rfl (by decide) rfl ?_
  refine g_lv (lv' := [(0, .ref (ev 0 + 65)), (1, .int (0 : Int32)), (2, .int (1 : Int32))]) ⟨rfl, rfl, rfl, trivial⟩ ?_
  exact L4 FU _ _ h
def fX10_filmWrong (M : MW) (l1 : Int32) : Option Int32 :=
  if (fX10_in l1 (0 : Int32) (3 : Int32)) = 0 then some (-2 : Int32)
  else (rd (M.2 88) 4 l1).bind fun v3 =>
  if v3 = (-1 : Int32) then some (-11 : Int32)
  else (rd (M.2 89) 4 l1).bind fun v5 =>
  if (fX10_in v5 (1 : Int32) ((12 : Int32) - (M.1 7))) = 0 then some (-2 : Int32)
  else some (0 : Int32)
set_option maxRecDepth 100000 in
set_option maxHeartbeats 4000000 in
theorem c_X10_filmWrong {l : Launch} {s0 : State} {D : va_G} {ev : Nat → Nat} (G0 : Gl s0 D ev) {X : XW} {M : MW} {nb : Nat} {l1 : Int32} {r' : Int32}  (h : fX10_filmWrong M l1 = some r') : CT l s0 D ev yX10_filmWrong cX10_filmWrong 2 (some .int) 1 0 0 [.ref (ev 0 + 65), .int l1] (cells ev X M (nb + 1)) (QI s0 D ev r' (cells ev X M (nb + 1))) := by
  refine ct_of G0 (by decide) (Nat.le_of_ble_eq_true rfl) ?_
  intro p9 e9 s9 m9 args9 below9 meth9 c9 F hr9 hl9 hin9 hargs9 hts9
  rw [fX10_filmWrong] at h
  refine g_lv (lv' := [(0, .ref (ev 0 + 65)), (1, .int l1)]) ⟨rfl, rfl, trivial⟩ ?_
  refine g_iload_n (i := 1) F dX10_filmWrong_0 rfl rfl ?_
  refine g_iconst F dX10_filmWrong_1 (v := 0) (by decide) ?_
  refine g_iconst F dX10_filmWrong_2 (v := 3) (by decide) ?_
  refine g_callSI F (mcR := 0) (msR := 0) (c_X10_in G0 (X := X) (M := M) (nb := nb) rfl) wd_13_21 wd_13_19 wd_13_20 wd_1_5 ⟨by decide, by decide⟩ (nn := 3) (by decide) (As := [.int l1, .int (0 : Int32), .int (3 : Int32)]) rfl rfl (Nat.le_of_ble_eq_true rfl) (by decide) (by decide) ⟨by decide, by decide⟩ dX10_filmWrong_3 ?_
  refine g_if_ne (tgt := 12) F dX10_filmWrong_6 (by decide) h (fun a11 h => ?_) (fun a11 h => ?_)
  · refine g_aload_n (i := 0) F dX10_filmWrong_12 rfl rfl ?_
    refine g_get_10_31 F wd_12_12 dX10_filmWrong_13 ?_
    refine g_iload_n (i := 1) F dX10_filmWrong_16 rfl rfl ?_
    obtain ⟨v3, e4, h⟩ := bind_at h
    refine g_ildM F rfl rfl e4 dX10_filmWrong_17 ?_
    refine g_iconst F dX10_filmWrong_18 (v := -1) (by decide) ?_
    refine g_icmp_ne (tgt := 25) F dX10_filmWrong_19 (by decide) h (fun a10 h => ?_) (fun a10 h => ?_)
    · refine g_aload_n (i := 0) F dX10_filmWrong_25 rfl rfl ?_
      refine g_get_10_32 F wd_12_13 dX10_filmWrong_26 ?_
      refine g_iload_n (i := 1) F dX10_filmWrong_29 rfl rfl ?_
      obtain ⟨v5, e6, h⟩ := bind_at h
      refine g_ildM F rfl rfl e6 dX10_filmWrong_30 ?_
      refine g_iconst F dX10_filmWrong_31 (v := 1) (by decide) ?_
      refine g_bipush F dX10_filmWrong_32 (v := 12) (by decide) ?_
      refine g_aload_n (i := 0) F dX10_filmWrong_34 rfl rfl ?_
      refine g_get_10_7 F wd_18_17 dX10_filmWrong_35 ?_
      refine g_isub F dX10_filmWrong_38 ?_
      refine g_callSI F (mcR := 0) (msR := 0) (c_X10_in G0 (X := X) (M := M) (nb := nb) rfl) wd_13_21 wd_13_19 wd_13_20 wd_1_5 ⟨by decide, by decide⟩ (nn := 3) (by decide) (As := [.int v5, .int (1 : Int32), .int ((12 : Int32) - (M.1 7))]) rfl rfl (Nat.le_of_ble_eq_true rfl) (by decide) (by decide) ⟨by decide, by decide⟩ dX10_filmWrong_39 ?_
      refine g_if_eq (tgt := 49) F dX10_filmWrong_42 (by decide) h (fun a9 h => ?_) (fun a9 h => ?_)
      · refine g_bipush F dX10_filmWrong_49 (v := -2) (by decide) ?_
        exact g_iret F hr9 rfl hl9 (Option.some.inj h) rfl (by decide) (by decide) dX10_filmWrong_51
      · refine g_iconst F dX10_filmWrong_45 (v := 0) (by decide) ?_
        refine g_goto (tgt := 51) F dX10_filmWrong_46 (by decide) ?_
        exact g_iret F hr9 rfl hl9 (Option.some.inj h) rfl (by decide) (by decide) dX10_filmWrong_51
    · refine g_bipush F dX10_filmWrong_22 (v := -11) (by decide) ?_
      exact g_iret F hr9 rfl hl9 (Option.some.inj h) rfl (by decide) (by decide) dX10_filmWrong_24
  · refine g_bipush F dX10_filmWrong_9 (v := -2) (by decide) ?_
    exact g_iret F hr9 rfl hl9 (Option.some.inj h) rfl (by decide) (by decide) dX10_filmWrong_11
def fX10_elsewhere_l2 (M : MW) (l1f2 : Int32) (l2f2 : Int32) (K2 : Int32 → Option Int32) (l3 : Int32) : Option Int32 :=
  (rd (M.2 89) 4 l2f2).bind fun v1 =>
  if v1 ≤ l3 then some (-1 : Int32)
  else (rd (M.2 90) 160 (((40 : Int32) * l2f2) + l3)).bind fun v3 =>
  (rd (M.2 100) 72 (((6 : Int32) * ((M.1 7) + l3)) + l1f2)).bind fun v5 =>
  if v3 = v5 then K2 (l3 + (1 : Int32))
  else some l3
def fX10_elsewhere (M : MW) (l1 : Int32) (l2 : Int32) : Option Int32 :=
  lo1 (fX10_elsewhere_l2 M l1 l2) FU (0 : Int32)
set_option maxRecDepth 100000 in
set_option maxHeartbeats 4000000 in
theorem c_X10_elsewhere {l : Launch} {s0 : State} {D : va_G} {ev : Nat → Nat} (G0 : Gl s0 D ev) {X : XW} {M : MW} {nb : Nat} {l1 : Int32} {l2 : Int32} {r' : Int32}  (h : fX10_elsewhere M l1 l2 = some r') : CT l s0 D ev yX10_elsewhere cX10_elsewhere 4 (some .int) 0 0 0 [.ref (ev 0 + 65), .int l1, .int l2] (cells ev X M (nb + 1)) (QI s0 D ev r' (cells ev X M (nb + 1))) := by
  refine ct_of G0 (by decide) (Nat.le_of_ble_eq_true rfl) ?_
  intro p9 e9 s9 m9 args9 below9 meth9 c9 F hr9 hl9 hin9 hargs9 hts9
  have L2 : ∀ (l1f2 : Int32) (l2f2 : Int32) (N2 : Nat) (l3 : Int32), lo1 (fX10_elsewhere_l2 M l1f2 l2f2) N2 l3 = some r' → GJ p9 l e9 (rg 0 0 0) s9 m9 args9 below9 meth9 c9 (MQ below9 (QI s0 D ev r' (cells ev X M (nb + 1))) args9 s9 0 0 (frA ev)) s0 D ev 4 0 0 2 [(0, .ref (ev 0 + 65)), (1, .int l1f2), (2, .int l2f2), (3, .int l3)] ([]) (cells ev X M (nb + 1)) := by
    intro l1f2 l2f2 N2
    induction N2 with
    | zero => intro l3 h; cases h
    | succ N2 ih2 =>
      intro l3 h
      change fX10_elsewhere_l2 M l1f2 l2f2 (lo1 (fX10_elsewhere_l2 M l1f2 l2f2) N2) l3 = some r' at h
      rw [fX10_elsewhere_l2] at h
      refine g_iload_n (i := 3) F dX10_elsewhere_2 rfl rfl ?_
      refine g_aload_n (i := 0) F dX10_elsewhere_3 rfl rfl ?_
      refine g_get_10_32 F wd_12_13 dX10_elsewhere_4 ?_
      refine g_iload_n (i := 2) F dX10_elsewhere_7 rfl rfl ?_
      obtain ⟨v1, e2, h⟩ := bind_at h
      refine g_ildM F rfl rfl e2 dX10_elsewhere_8 ?_
      refine g_icmp_ge (tgt := 50) F dX10_elsewhere_9 (by decide) h (fun a8 h => ?_) (fun a8 h => ?_)
      · refine g_iconst F dX10_elsewhere_50 (v := -1) (by decide) ?_
        exact g_iret F hr9 rfl hl9 (Option.some.inj h) rfl (by decide) (by decide) dX10_elsewhere_51
      · refine g_aload_n (i := 0) F dX10_elsewhere_12 rfl rfl ?_
        refine g_get_10_33 F wd_12_14 dX10_elsewhere_13 ?_
        refine g_bipush F dX10_elsewhere_16 (v := 40) (by decide) ?_
        refine g_iload_n (i := 2) F dX10_elsewhere_18 rfl rfl ?_
        refine g_imul F dX10_elsewhere_19 ?_
        refine g_iload_n (i := 3) F dX10_elsewhere_20 rfl rfl ?_
        refine g_iadd F dX10_elsewhere_21 ?_
        obtain ⟨v3, e4, h⟩ := bind_at h
        refine g_ildM F rfl rfl e4 dX10_elsewhere_22 ?_
        refine g_aload_n (i := 0) F dX10_elsewhere_23 rfl rfl ?_
        refine g_get_10_51 F wd_13_0 dX10_elsewhere_24 ?_
        refine g_bipush F dX10_elsewhere_27 (v := 6) (by decide) ?_
        refine g_aload_n (i := 0) F dX10_elsewhere_29 rfl rfl ?_
        refine g_get_10_7 F wd_18_17 dX10_elsewhere_30 ?_
        refine g_iload_n (i := 3) F dX10_elsewhere_33 rfl rfl ?_
        refine g_iadd F dX10_elsewhere_34 ?_
        refine g_imul F dX10_elsewhere_35 ?_
        refine g_iload_n (i := 1) F dX10_elsewhere_36 rfl rfl ?_
        refine g_iadd F dX10_elsewhere_37 ?_
        obtain ⟨v5, e6, h⟩ := bind_at h
        refine g_ildM F rfl rfl e6 dX10_elsewhere_38 ?_
        refine g_icmp_eq (tgt := 44) F dX10_elsewhere_39 (by decide) h (fun a7 h => ?_) (fun a7 h => ?_)
        · refine g_iinc (i := 3) (v := (l3 + (1 : Int32))) (lv' := [(3, .int (l3 + (1 : Int32))), (0, .ref (ev 0 + 65)), (1, .int l1f2), (2, .int l2f2)]) F dX10_elsewhere_44 rfl rfl (by decide) rfl ?_
          refine g_goto (tgt := 2) F dX10_elsewhere_47 (by decide) ?_
          refine g_lv (lv' := [(0, .ref (ev 0 + 65)), (1, .int l1f2), (2, .int l2f2), (3, .int (l3 + (1 : Int32)))]) ⟨rfl, rfl, rfl, rfl, trivial⟩ ?_
          exact ih2 _ h
        · refine g_iload_n (i := 3) F dX10_elsewhere_42 rfl rfl ?_
          exact g_iret F hr9 rfl hl9 (Option.some.inj h) rfl (by decide) (by decide) dX10_elsewhere_43
  rw [fX10_elsewhere] at h
  refine g_lv (lv' := [(0, .ref (ev 0 + 65)), (1, .int l1), (2, .int l2)]) ⟨rfl, rfl, rfl, trivial⟩ ?_
  refine g_iconst F dX10_elsewhere_0 (v := 0) (by decide) ?_
  refine g_istore_n (i := 3) (lv' := [(3, .int (0 : Int32)), (0, .ref (ev 0 + 65)), (1, .int l1), (2, .int l2)]) F dX10_elsewhere_1 rfl (by decide) rfl ?_
  refine g_lv (lv' := [(0, .ref (ev 0 + 65)), (1, .int l1), (2, .int l2), (3, .int (0 : Int32))]) ⟨rfl, rfl, rfl, rfl, trivial⟩ ?_
  exact L2 _ _ FU _ h
def fX10_judge (M : MW) (l1 : Int32) (l2 : Int32) : Option (Int32 × MW) :=
  if (fX10_isBoat M l1) = 0 then some ((-5 : Int32), M)
  else (fX10_filmWrong M l2).bind fun v3 =>
  if v3 = 0 then (rd (M.2 89) 4 l2).bind fun v5 =>
  (fX10_goes M v5).bind fun M7 =>
  (fX10_elsewhere M7 l1 l2).bind fun v9 =>
  some (v9, M7)
  else some (v3, M)
set_option maxRecDepth 100000 in
set_option maxHeartbeats 4000000 in
theorem c_X10_judge {l : Launch} {s0 : State} {D : va_G} {ev : Nat → Nat} (G0 : Gl s0 D ev) {X : XW} {M : MW} {nb : Nat} {l1 : Int32} {l2 : Int32} {r' : Int32} {M' : MW}  (h : fX10_judge M l1 l2 = some (r', M')) : CT l s0 D ev yX10_judge cX10_judge 4 (some .int) 7 0 0 [.ref (ev 0 + 65), .int l1, .int l2] (cells ev X M (nb + 1)) (QI s0 D ev r' (cells ev X M' (nb + 1))) := by
  refine ct_of G0 (by decide) (Nat.le_of_ble_eq_true rfl) ?_
  intro p9 e9 s9 m9 args9 below9 meth9 c9 F hr9 hl9 hin9 hargs9 hts9
  rw [fX10_judge] at h
  refine g_lv (lv' := [(0, .ref (ev 0 + 65)), (1, .int l1), (2, .int l2)]) ⟨rfl, rfl, rfl, trivial⟩ ?_
  refine g_aload_n (i := 0) F dX10_judge_0 rfl rfl ?_
  refine g_iload_n (i := 1) F dX10_judge_1 rfl rfl ?_
  refine g_callVI F (mcR := 0) (msR := 0) (id := 65) (cells_at (kd_hidM (show kd 65 = 10 from rfl) (by decide)) (xc_10 rfl)) (ci := 10) rfl rfl rfl (c_X10_isBoat G0 (X := X) (M := M) (nb := nb) rfl) wd_23_7 wd_23_4 wd_23_5 wd_23_6 wd_1_5 ⟨by decide, by decide⟩ (nn := 1) (by decide) (As := [.int l1]) rfl rfl (Nat.le_of_ble_eq_true rfl) (by decide) (by decide) ⟨by decide, by decide⟩ dX10_judge_2 ?_
  refine g_if_ne (tgt := 11) F dX10_judge_5 (by decide) h (fun a12 h => ?_) (fun a12 h => ?_)
  · refine g_aload_n (i := 0) F dX10_judge_11 rfl rfl ?_
    refine g_iload_n (i := 2) F dX10_judge_12 rfl rfl ?_
    obtain ⟨v3, e4, h⟩ := bind_at h
    refine g_callVI F (mcR := 0) (msR := 0) (id := 65) (cells_at (kd_hidM (show kd 65 = 10 from rfl) (by decide)) (xc_10 rfl)) (ci := 10) rfl rfl rfl (c_X10_filmWrong G0 e4) wd_46_0 wd_45_21 wd_45_22 wd_45_23 wd_1_5 ⟨by decide, by decide⟩ (nn := 1) (by decide) (As := [.int l2]) rfl rfl (Nat.le_of_ble_eq_true rfl) (by decide) (by decide) ⟨by decide, by decide⟩ dX10_judge_13 ?_
    refine g_istore_n (i := 3) (lv' := [(3, .int v3), (0, .ref (ev 0 + 65)), (1, .int l1), (2, .int l2)]) F dX10_judge_16 rfl (by decide) rfl ?_
    refine g_iload_n (i := 3) F dX10_judge_17 rfl rfl ?_
    refine g_if_eq (tgt := 23) F dX10_judge_18 (by decide) h (fun a11 h => ?_) (fun a11 h => ?_)
    · refine g_aload_n (i := 0) F dX10_judge_23 rfl rfl ?_
      refine g_aload_n (i := 0) F dX10_judge_24 rfl rfl ?_
      refine g_get_10_32 F wd_12_13 dX10_judge_25 ?_
      refine g_iload_n (i := 2) F dX10_judge_28 rfl rfl ?_
      obtain ⟨v5, e6, h⟩ := bind_at h
      refine g_ildM F rfl rfl e6 dX10_judge_29 ?_
      obtain ⟨M7, e8, h⟩ := bind_at h
      refine g_callVV F (mcR := 0) (msR := 0) (id := 65) (cells_at (kd_hidM (show kd 65 = 10 from rfl) (by decide)) (xc_10 rfl)) (ci := 10) rfl rfl rfl (c_X10_goes G0 e8) wd_29_21 wd_29_18 wd_29_19 wd_29_20 wd_1_5 ⟨by decide, by decide⟩ (nn := 1) (by decide) (As := [.int v5]) rfl rfl (Nat.le_of_ble_eq_true rfl) (by decide) (by decide) ⟨by decide, by decide⟩ dX10_judge_30 ?_
      refine g_aload_n (i := 0) F dX10_judge_33 rfl rfl ?_
      refine g_iload_n (i := 1) F dX10_judge_34 rfl rfl ?_
      refine g_iload_n (i := 2) F dX10_judge_35 rfl rfl ?_
      obtain ⟨v9, e10, h⟩ := bind_at h
      refine g_callVI F (mcR := 0) (msR := 0) (id := 65) (cells_at (kd_hidM (show kd 65 = 10 from rfl) (by decide)) (xc_10 rfl)) (ci := 10) rfl rfl rfl (c_X10_elsewhere G0 e10) wd_46_4 wd_46_1 wd_46_2 wd_46_3 wd_1_5 ⟨by decide, by decide⟩ (nn := 2) (by decide) (As := [.int l1, .int l2]) rfl rfl (Nat.le_of_ble_eq_true rfl) (by decide) (by decide) ⟨by decide, by decide⟩ dX10_judge_36 ?_
      have hp := Prod.mk.inj (Option.some.inj h)
      exact g_iret F hr9 rfl hl9 hp.1 (by rw [hp.2]) (by decide) (by decide) dX10_judge_39
    · refine g_iload_n (i := 3) F dX10_judge_21 rfl rfl ?_
      have hp := Prod.mk.inj (Option.some.inj h)
      exact g_iret F hr9 rfl hl9 hp.1 (by rw [hp.2]) (by decide) (by decide) dX10_judge_22
  · refine g_bipush F dX10_judge_8 (v := -5) (by decide) ?_
    have hp := Prod.mk.inj (Option.some.inj h)
    exact g_iret F hr9 rfl hl9 hp.1 (by rw [hp.2]) (by decide) (by decide) dX10_judge_10
def fX10_which_l27 (l1f27 : Int32) (K27 : MW → Int32 → Int32 → Option (Int32 × MW)) (M : MW) (l3 : Int32) (l4 : Int32) : Option (Int32 × MW) :=
  if (M.1 8) ≤ l4 then some (l3, M)
  else (fX10_elsewhere M l4 l1f27).bind fun v7 =>
  if v7 = (-1 : Int32) then bd (l3 ||| ((1 : Int32) <<< (l4 &&& (31 : Int32)))) fun v11 =>
  K27 M v11 (l4 + (1 : Int32))
  else bd (l3 ||| (0 : Int32)) fun v9 =>
  K27 M v9 (l4 + (1 : Int32))
def fX10_which (M : MW) (l1 : Int32) : Option (Int32 × MW) :=
  (fX10_filmWrong M l1).bind fun v1 =>
  if v1 = 0 then (rd (M.2 89) 4 l1).bind fun v3 =>
  (fX10_goes M v3).bind fun M5 =>
  lo3 (fX10_which_l27 l1) FU M5 (0 : Int32) (0 : Int32)
  else some (v1, M)
set_option maxRecDepth 100000 in
set_option maxHeartbeats 4000000 in
theorem c_X10_which {l : Launch} {s0 : State} {D : va_G} {ev : Nat → Nat} (G0 : Gl s0 D ev) {X : XW} {M : MW} {nb : Nat} {l1 : Int32} {r' : Int32} {M' : MW}  (h : fX10_which M l1 = some (r', M')) : CT l s0 D ev yX10_which cX10_which 5 (some .int) 7 0 0 [.ref (ev 0 + 65), .int l1] (cells ev X M (nb + 1)) (QI s0 D ev r' (cells ev X M' (nb + 1))) := by
  refine ct_of G0 (by decide) (Nat.le_of_ble_eq_true rfl) ?_
  intro p9 e9 s9 m9 args9 below9 meth9 c9 F hr9 hl9 hin9 hargs9 hts9
  have L27 : ∀ (l1f27 : Int32) (N27 : Nat) (M : MW) (l3 : Int32) (l4 : Int32), lo3 (fX10_which_l27 l1f27) N27 M l3 l4 = some (r', M') → GJ p9 l e9 (rg 7 0 0) s9 m9 args9 below9 meth9 c9 (MQ below9 (QI s0 D ev r' (cells ev X M' (nb + 1))) args9 s9 0 0 (frA ev)) s0 D ev 5 0 0 27 [(0, .ref (ev 0 + 65)), (1, .int l1f27), (3, .int l3), (4, .int l4)] ([]) (cells ev X M (nb + 1)) := by
    intro l1f27 N27
    induction N27 with
    | zero => intro M l3 l4 h; cases h
    | succ N27 ih27 =>
      intro M l3 l4 h
      change fX10_which_l27 l1f27 (lo3 (fX10_which_l27 l1f27) N27) M l3 l4 = some (r', M') at h
      rw [fX10_which_l27] at h
      refine g_iload (i := 4) F dX10_which_27 rfl ?_
      refine g_aload_n (i := 0) F dX10_which_29 rfl rfl ?_
      refine g_get_10_8 F wd_18_18 dX10_which_30 ?_
      refine g_icmp_ge (tgt := 64) F dX10_which_33 (by decide) h (fun a14 h => ?_) (fun a14 h => ?_)
      · refine g_iload_n (i := 3) F dX10_which_64 rfl rfl ?_
        have hp := Prod.mk.inj (Option.some.inj h)
        exact g_iret F hr9 rfl hl9 hp.1 (by rw [hp.2]) (by decide) (by decide) dX10_which_65
      · refine g_iload_n (i := 3) F dX10_which_36 rfl rfl ?_
        refine g_aload_n (i := 0) F dX10_which_37 rfl rfl ?_
        refine g_iload (i := 4) F dX10_which_38 rfl ?_
        refine g_iload_n (i := 1) F dX10_which_40 rfl rfl ?_
        obtain ⟨v7, e8, h⟩ := bind_at h
        refine g_callVI F (mcR := 0) (msR := 0) (id := 65) (cells_at (kd_hidM (show kd 65 = 10 from rfl) (by decide)) (xc_10 rfl)) (ci := 10) rfl rfl rfl (c_X10_elsewhere G0 e8) wd_46_4 wd_46_1 wd_46_2 wd_46_3 wd_1_5 ⟨by decide, by decide⟩ (nn := 2) (by decide) (As := [.int l4, .int l1f27]) rfl rfl (Nat.le_of_ble_eq_true rfl) (by decide) (by decide) ⟨by decide, by decide⟩ dX10_which_41 ?_
        refine g_iconst F dX10_which_44 (v := -1) (by decide) ?_
        refine g_icmp_ne (tgt := 55) F dX10_which_45 (by decide) h (fun a13 h => ?_) (fun a13 h => ?_)
        · refine g_iconst F dX10_which_55 (v := 0) (by decide) ?_
          refine g_ior F dX10_which_56 ?_
          refine g_topi F h (fun v9 e10 h => ?_)
          refine g_istore_n (i := 3) (lv' := [(3, .int v9), (0, .ref (ev 0 + 65)), (1, .int l1f27), (4, .int l4)]) F dX10_which_57 rfl (by decide) rfl ?_
          refine g_iinc (i := 4) (v := (l4 + (1 : Int32))) (lv' := [(4, .int (l4 + (1 : Int32))), (3, .int v9), (0, .ref (ev 0 + 65)), (1, .int l1f27)]) F dX10_which_58 rfl rfl (by decide) rfl ?_
          refine g_goto (tgt := 27) F dX10_which_61 (by decide) ?_
          refine g_lv (lv' := [(0, .ref (ev 0 + 65)), (1, .int l1f27), (3, .int v9), (4, .int (l4 + (1 : Int32)))]) ⟨rfl, rfl, rfl, rfl, trivial⟩ ?_
          exact ih27 _ _ _ h
        · refine g_iconst F dX10_which_48 (v := 1) (by decide) ?_
          refine g_iload (i := 4) F dX10_which_49 rfl ?_
          refine g_ishl F dX10_which_51 ?_
          refine g_goto (tgt := 56) F dX10_which_52 (by decide) ?_
          refine g_ior F dX10_which_56 ?_
          refine g_topi F h (fun v11 e12 h => ?_)
          refine g_istore_n (i := 3) (lv' := [(3, .int v11), (0, .ref (ev 0 + 65)), (1, .int l1f27), (4, .int l4)]) F dX10_which_57 rfl (by decide) rfl ?_
          refine g_iinc (i := 4) (v := (l4 + (1 : Int32))) (lv' := [(4, .int (l4 + (1 : Int32))), (3, .int v11), (0, .ref (ev 0 + 65)), (1, .int l1f27)]) F dX10_which_58 rfl rfl (by decide) rfl ?_
          refine g_goto (tgt := 27) F dX10_which_61 (by decide) ?_
          refine g_lv (lv' := [(0, .ref (ev 0 + 65)), (1, .int l1f27), (3, .int v11), (4, .int (l4 + (1 : Int32)))]) ⟨rfl, rfl, rfl, rfl, trivial⟩ ?_
          exact ih27 _ _ _ h
  rw [fX10_which] at h
  refine g_lv (lv' := [(0, .ref (ev 0 + 65)), (1, .int l1)]) ⟨rfl, rfl, trivial⟩ ?_
  refine g_aload_n (i := 0) F dX10_which_0 rfl rfl ?_
  refine g_iload_n (i := 1) F dX10_which_1 rfl rfl ?_
  obtain ⟨v1, e2, h⟩ := bind_at h
  refine g_callVI F (mcR := 0) (msR := 0) (id := 65) (cells_at (kd_hidM (show kd 65 = 10 from rfl) (by decide)) (xc_10 rfl)) (ci := 10) rfl rfl rfl (c_X10_filmWrong G0 e2) wd_46_0 wd_45_21 wd_45_22 wd_45_23 wd_1_5 ⟨by decide, by decide⟩ (nn := 1) (by decide) (As := [.int l1]) rfl rfl (Nat.le_of_ble_eq_true rfl) (by decide) (by decide) ⟨by decide, by decide⟩ dX10_which_2 ?_
  refine g_istore_n (i := 2) (lv' := [(2, .int v1), (0, .ref (ev 0 + 65)), (1, .int l1)]) F dX10_which_5 rfl (by decide) rfl ?_
  refine g_iload_n (i := 2) F dX10_which_6 rfl rfl ?_
  refine g_if_eq (tgt := 12) F dX10_which_7 (by decide) h (fun a15 h => ?_) (fun a15 h => ?_)
  · refine g_aload_n (i := 0) F dX10_which_12 rfl rfl ?_
    refine g_aload_n (i := 0) F dX10_which_13 rfl rfl ?_
    refine g_get_10_32 F wd_12_13 dX10_which_14 ?_
    refine g_iload_n (i := 1) F dX10_which_17 rfl rfl ?_
    obtain ⟨v3, e4, h⟩ := bind_at h
    refine g_ildM F rfl rfl e4 dX10_which_18 ?_
    obtain ⟨M5, e6, h⟩ := bind_at h
    refine g_callVV F (mcR := 0) (msR := 0) (id := 65) (cells_at (kd_hidM (show kd 65 = 10 from rfl) (by decide)) (xc_10 rfl)) (ci := 10) rfl rfl rfl (c_X10_goes G0 e6) wd_29_21 wd_29_18 wd_29_19 wd_29_20 wd_1_5 ⟨by decide, by decide⟩ (nn := 1) (by decide) (As := [.int v3]) rfl rfl (Nat.le_of_ble_eq_true rfl) (by decide) (by decide) ⟨by decide, by decide⟩ dX10_which_19 ?_
    refine g_iconst F dX10_which_22 (v := 0) (by decide) ?_
    refine g_istore_n (i := 3) (lv' := [(3, .int (0 : Int32)), (2, .int v1), (0, .ref (ev 0 + 65)), (1, .int l1)]) F dX10_which_23 rfl (by decide) rfl ?_
    refine g_iconst F dX10_which_24 (v := 0) (by decide) ?_
    refine g_istore (i := 4) (lv' := [(4, .int (0 : Int32)), (3, .int (0 : Int32)), (2, .int v1), (0, .ref (ev 0 + 65)), (1, .int l1)]) F dX10_which_25 (by decide) rfl ?_
    refine g_lv (lv' := [(0, .ref (ev 0 + 65)), (1, .int l1), (3, .int (0 : Int32)), (4, .int (0 : Int32))]) ⟨rfl, rfl, rfl, rfl, trivial⟩ ?_
    exact L27 _ FU _ _ _ h
  · refine g_iload_n (i := 2) F dX10_which_10 rfl rfl ?_
    have hp := Prod.mk.inj (Option.some.inj h)
    exact g_iret F hr9 rfl hl9 hp.1 (by rw [hp.2]) (by decide) (by decide) dX10_which_11
def fX10_laws_b89 (M : MW) (l4 : Int32) (l5 : Int32) : Option (Int32 × MW) :=
  bd (mI M 22 l4) fun M7 =>
  some (l5, M7)
def fX10_laws_l35 (l1f35 : Int32) (l2f35 : Int32) (l4f35 : Int32) (K35 : MW → Int32 → Int32 → Option (Int32 × MW)) (M : MW) (l5 : Int32) (l6 : Int32) : Option (Int32 × MW) :=
  if (M.1 21) ≤ l6 then fX10_laws_b89 M l4f35 l5
  else bd (mI M 22 l6) fun M9 =>
  (rd (M9.2 89) 4 l2f35).bind fun v11 =>
  (fX10_goes M9 v11).bind fun M13 =>
  (fX10_elsewhere M13 l1f35 l2f35).bind fun v15 =>
  if v15 = (-1 : Int32) then bd (l5 ||| ((1 : Int32) <<< (l6 &&& (31 : Int32)))) fun v19 =>
  K35 M13 v19 (l6 + (1 : Int32))
  else bd (l5 ||| (0 : Int32)) fun v17 =>
  K35 M13 v17 (l6 + (1 : Int32))
def fX10_laws (M : MW) (l1 : Int32) (l2 : Int32) : Option (Int32 × MW) :=
  if (fX10_isBoat M l1) = 0 then some ((-5 : Int32), M)
  else (fX10_filmWrong M l2).bind fun v3 =>
  if v3 = 0 then bd (M.1 22) fun v5 =>
  lo3 (fX10_laws_l35 l1 l2 v5) FU M (0 : Int32) (0 : Int32)
  else some (v3, M)
set_option maxRecDepth 100000 in
set_option maxHeartbeats 4000000 in
theorem c_X10_laws {l : Launch} {s0 : State} {D : va_G} {ev : Nat → Nat} (G0 : Gl s0 D ev) {X : XW} {M : MW} {nb : Nat} {l1 : Int32} {l2 : Int32} {r' : Int32} {M' : MW}  (h : fX10_laws M l1 l2 = some (r', M')) : CT l s0 D ev yX10_laws cX10_laws 7 (some .int) 7 0 0 [.ref (ev 0 + 65), .int l1, .int l2] (cells ev X M (nb + 1)) (QI s0 D ev r' (cells ev X M' (nb + 1))) := by
  refine ct_of G0 (by decide) (Nat.le_of_ble_eq_true rfl) ?_
  intro p9 e9 s9 m9 args9 below9 meth9 c9 F hr9 hl9 hin9 hargs9 hts9
  have U89 : ∀ (M : MW) (l4 : Int32) (l5 : Int32), fX10_laws_b89 M l4 l5 = some (r', M') → GJ p9 l e9 (rg 7 0 0) s9 m9 args9 below9 meth9 c9 (MQ below9 (QI s0 D ev r' (cells ev X M' (nb + 1))) args9 s9 0 0 (frA ev)) s0 D ev 7 0 0 89 [(0, .ref (ev 0 + 65)), (4, .int l4), (5, .int l5)] ([]) (cells ev X M (nb + 1)) := by
    intro M l4 l5 h
    rw [fX10_laws_b89] at h
    refine g_aload_n (i := 0) F dX10_laws_89 rfl rfl ?_
    refine g_iload (i := 4) F dX10_laws_90 rfl ?_
    obtain ⟨M7, e8, h⟩ := bd_at h
    refine g_put_10_22 F wd_18_19 dX10_laws_92 ?_
    rw [← e8]
    refine g_iload (i := 5) F dX10_laws_95 rfl ?_
    have hp := Prod.mk.inj (Option.some.inj h)
    exact g_iret F hr9 rfl hl9 hp.1 (by rw [hp.2]) (by decide) (by decide) dX10_laws_97
  have L35 : ∀ (l1f35 : Int32) (l2f35 : Int32) (l4f35 : Int32) (N35 : Nat) (M : MW) (l5 : Int32) (l6 : Int32), lo3 (fX10_laws_l35 l1f35 l2f35 l4f35) N35 M l5 l6 = some (r', M') → GJ p9 l e9 (rg 7 0 0) s9 m9 args9 below9 meth9 c9 (MQ below9 (QI s0 D ev r' (cells ev X M' (nb + 1))) args9 s9 0 0 (frA ev)) s0 D ev 7 0 0 35 [(0, .ref (ev 0 + 65)), (1, .int l1f35), (2, .int l2f35), (4, .int l4f35), (5, .int l5), (6, .int l6)] ([]) (cells ev X M (nb + 1)) := by
    intro l1f35 l2f35 l4f35 N35
    induction N35 with
    | zero => intro M l5 l6 h; cases h
    | succ N35 ih35 =>
      intro M l5 l6 h
      change fX10_laws_l35 l1f35 l2f35 l4f35 (lo3 (fX10_laws_l35 l1f35 l2f35 l4f35) N35) M l5 l6 = some (r', M') at h
      rw [fX10_laws_l35] at h
      refine g_iload (i := 6) F dX10_laws_35 rfl ?_
      refine g_aload_n (i := 0) F dX10_laws_37 rfl rfl ?_
      refine g_get_10_21 F wd_13_9 dX10_laws_38 ?_
      refine g_icmp_ge (tgt := 89) F dX10_laws_41 (by decide) h (fun a22 h => ?_) (fun a22 h => ?_)
      · refine g_lv (lv' := [(0, .ref (ev 0 + 65)), (4, .int l4f35), (5, .int l5)]) ⟨rfl, rfl, rfl, trivial⟩ ?_
        exact U89 _ _ _ h
      · refine g_aload_n (i := 0) F dX10_laws_44 rfl rfl ?_
        refine g_iload (i := 6) F dX10_laws_45 rfl ?_
        obtain ⟨M9, e10, h⟩ := bd_at h
        refine g_put_10_22 F wd_18_19 dX10_laws_47 ?_
        rw [← e10]
        refine g_aload_n (i := 0) F dX10_laws_50 rfl rfl ?_
        refine g_aload_n (i := 0) F dX10_laws_51 rfl rfl ?_
        refine g_get_10_32 F wd_12_13 dX10_laws_52 ?_
        refine g_iload_n (i := 2) F dX10_laws_55 rfl rfl ?_
        obtain ⟨v11, e12, h⟩ := bind_at h
        refine g_ildM F rfl rfl e12 dX10_laws_56 ?_
        obtain ⟨M13, e14, h⟩ := bind_at h
        refine g_callVV F (mcR := 0) (msR := 0) (id := 65) (cells_at (kd_hidM (show kd 65 = 10 from rfl) (by decide)) (xc_10 rfl)) (ci := 10) rfl rfl rfl (c_X10_goes G0 e14) wd_29_21 wd_29_18 wd_29_19 wd_29_20 wd_1_5 ⟨by decide, by decide⟩ (nn := 1) (by decide) (As := [.int v11]) rfl rfl (Nat.le_of_ble_eq_true rfl) (by decide) (by decide) ⟨by decide, by decide⟩ dX10_laws_57 ?_
        refine g_iload (i := 5) F dX10_laws_60 rfl ?_
        refine g_aload_n (i := 0) F dX10_laws_62 rfl rfl ?_
        refine g_iload_n (i := 1) F dX10_laws_63 rfl rfl ?_
        refine g_iload_n (i := 2) F dX10_laws_64 rfl rfl ?_
        obtain ⟨v15, e16, h⟩ := bind_at h
        refine g_callVI F (mcR := 0) (msR := 0) (id := 65) (cells_at (kd_hidM (show kd 65 = 10 from rfl) (by decide)) (xc_10 rfl)) (ci := 10) rfl rfl rfl (c_X10_elsewhere G0 e16) wd_46_4 wd_46_1 wd_46_2 wd_46_3 wd_1_5 ⟨by decide, by decide⟩ (nn := 2) (by decide) (As := [.int l1f35, .int l2f35]) rfl rfl (Nat.le_of_ble_eq_true rfl) (by decide) (by decide) ⟨by decide, by decide⟩ dX10_laws_65 ?_
        refine g_iconst F dX10_laws_68 (v := -1) (by decide) ?_
        refine g_icmp_ne (tgt := 79) F dX10_laws_69 (by decide) h (fun a21 h => ?_) (fun a21 h => ?_)
        · refine g_iconst F dX10_laws_79 (v := 0) (by decide) ?_
          refine g_ior F dX10_laws_80 ?_
          refine g_topi F h (fun v17 e18 h => ?_)
          refine g_istore (i := 5) (lv' := [(5, .int v17), (0, .ref (ev 0 + 65)), (1, .int l1f35), (2, .int l2f35), (4, .int l4f35), (6, .int l6)]) F dX10_laws_81 (by decide) rfl ?_
          refine g_iinc (i := 6) (v := (l6 + (1 : Int32))) (lv' := [(6, .int (l6 + (1 : Int32))), (5, .int v17), (0, .ref (ev 0 + 65)), (1, .int l1f35), (2, .int l2f35), (4, .int l4f35)]) F dX10_laws_83 rfl rfl (by decide) rfl ?_
          refine g_goto (tgt := 35) F dX10_laws_86 (by decide) ?_
          refine g_lv (lv' := [(0, .ref (ev 0 + 65)), (1, .int l1f35), (2, .int l2f35), (4, .int l4f35), (5, .int v17), (6, .int (l6 + (1 : Int32)))]) ⟨rfl, rfl, rfl, rfl, rfl, rfl, trivial⟩ ?_
          exact ih35 _ _ _ h
        · refine g_iconst F dX10_laws_72 (v := 1) (by decide) ?_
          refine g_iload (i := 6) F dX10_laws_73 rfl ?_
          refine g_ishl F dX10_laws_75 ?_
          refine g_goto (tgt := 80) F dX10_laws_76 (by decide) ?_
          refine g_ior F dX10_laws_80 ?_
          refine g_topi F h (fun v19 e20 h => ?_)
          refine g_istore (i := 5) (lv' := [(5, .int v19), (0, .ref (ev 0 + 65)), (1, .int l1f35), (2, .int l2f35), (4, .int l4f35), (6, .int l6)]) F dX10_laws_81 (by decide) rfl ?_
          refine g_iinc (i := 6) (v := (l6 + (1 : Int32))) (lv' := [(6, .int (l6 + (1 : Int32))), (5, .int v19), (0, .ref (ev 0 + 65)), (1, .int l1f35), (2, .int l2f35), (4, .int l4f35)]) F dX10_laws_83 rfl rfl (by decide) rfl ?_
          refine g_goto (tgt := 35) F dX10_laws_86 (by decide) ?_
          refine g_lv (lv' := [(0, .ref (ev 0 + 65)), (1, .int l1f35), (2, .int l2f35), (4, .int l4f35), (5, .int v19), (6, .int (l6 + (1 : Int32)))]) ⟨rfl, rfl, rfl, rfl, rfl, rfl, trivial⟩ ?_
          exact ih35 _ _ _ h
  rw [fX10_laws] at h
  refine g_lv (lv' := [(0, .ref (ev 0 + 65)), (1, .int l1), (2, .int l2)]) ⟨rfl, rfl, rfl, trivial⟩ ?_
  refine g_aload_n (i := 0) F dX10_laws_0 rfl rfl ?_
  refine g_iload_n (i := 1) F dX10_laws_1 rfl rfl ?_
  refine g_callVI F (mcR := 0) (msR := 0) (id := 65) (cells_at (kd_hidM (show kd 65 = 10 from rfl) (by decide)) (xc_10 rfl)) (ci := 10) rfl rfl rfl (c_X10_isBoat G0 (X := X) (M := M) (nb := nb) rfl) wd_23_7 wd_23_4 wd_23_5 wd_23_6 wd_1_5 ⟨by decide, by decide⟩ (nn := 1) (by decide) (As := [.int l1]) rfl rfl (Nat.le_of_ble_eq_true rfl) (by decide) (by decide) ⟨by decide, by decide⟩ dX10_laws_2 ?_
  refine g_if_ne (tgt := 11) F dX10_laws_5 (by decide) h (fun a24 h => ?_) (fun a24 h => ?_)
  · refine g_aload_n (i := 0) F dX10_laws_11 rfl rfl ?_
    refine g_iload_n (i := 2) F dX10_laws_12 rfl rfl ?_
    obtain ⟨v3, e4, h⟩ := bind_at h
    refine g_callVI F (mcR := 0) (msR := 0) (id := 65) (cells_at (kd_hidM (show kd 65 = 10 from rfl) (by decide)) (xc_10 rfl)) (ci := 10) rfl rfl rfl (c_X10_filmWrong G0 e4) wd_46_0 wd_45_21 wd_45_22 wd_45_23 wd_1_5 ⟨by decide, by decide⟩ (nn := 1) (by decide) (As := [.int l2]) rfl rfl (Nat.le_of_ble_eq_true rfl) (by decide) (by decide) ⟨by decide, by decide⟩ dX10_laws_13 ?_
    refine g_istore_n (i := 3) (lv' := [(3, .int v3), (0, .ref (ev 0 + 65)), (1, .int l1), (2, .int l2)]) F dX10_laws_16 rfl (by decide) rfl ?_
    refine g_iload_n (i := 3) F dX10_laws_17 rfl rfl ?_
    refine g_if_eq (tgt := 23) F dX10_laws_18 (by decide) h (fun a23 h => ?_) (fun a23 h => ?_)
    · refine g_aload_n (i := 0) F dX10_laws_23 rfl rfl ?_
      refine g_get_10_22 F wd_18_19 dX10_laws_24 ?_
      refine g_topi F h (fun v5 e6 h => ?_)
      refine g_istore (i := 4) (lv' := [(4, .int v5), (3, .int v3), (0, .ref (ev 0 + 65)), (1, .int l1), (2, .int l2)]) F dX10_laws_27 (by decide) rfl ?_
      refine g_iconst F dX10_laws_29 (v := 0) (by decide) ?_
      refine g_istore (i := 5) (lv' := [(5, .int (0 : Int32)), (4, .int v5), (3, .int v3), (0, .ref (ev 0 + 65)), (1, .int l1), (2, .int l2)]) F dX10_laws_30 (by decide) rfl ?_
      refine g_iconst F dX10_laws_32 (v := 0) (by decide) ?_
      refine g_istore (i := 6) (lv' := [(6, .int (0 : Int32)), (5, .int (0 : Int32)), (4, .int v5), (3, .int v3), (0, .ref (ev 0 + 65)), (1, .int l1), (2, .int l2)]) F dX10_laws_33 (by decide) rfl ?_
      refine g_lv (lv' := [(0, .ref (ev 0 + 65)), (1, .int l1), (2, .int l2), (4, .int v5), (5, .int (0 : Int32)), (6, .int (0 : Int32))]) ⟨rfl, rfl, rfl, rfl, rfl, rfl, trivial⟩ ?_
      exact L35 _ _ _ FU _ _ _ h
    · refine g_iload_n (i := 3) F dX10_laws_21 rfl rfl ?_
      have hp := Prod.mk.inj (Option.some.inj h)
      exact g_iret F hr9 rfl hl9 hp.1 (by rw [hp.2]) (by decide) (by decide) dX10_laws_22
  · refine g_bipush F dX10_laws_8 (v := -5) (by decide) ?_
    have hp := Prod.mk.inj (Option.some.inj h)
    exact g_iret F hr9 rfl hl9 hp.1 (by rw [hp.2]) (by decide) (by decide) dX10_laws_10
def fX10_film_b101 (l1f56 : Int32) (l2f56 : Int32) (l3f56 : Int32) (K56 : MW → Int32 → Option (Int32 × MW)) (M : MW) (l4 : Int32) (t1 : Int32) (t2 : Int32) : Option (Int32 × MW) :=
  if inb t1 160 then bd (mA M 90 t1 t2) fun M16 =>
  K56 M16 (l4 + (1 : Int32))
  else none
def fX10_film_l56 (l1f56 : Int32) (l2f56 : Int32) (l3f56 : Int32) (K56 : MW → Int32 → Option (Int32 × MW)) (M : MW) (l4 : Int32) : Option (Int32 × MW) :=
  if (40 : Int32) ≤ l4 then some (l3f56, M)
  else if l3f56 ≤ l4 then fX10_film_b101 l1f56 l2f56 l3f56 K56 M l4 (((40 : Int32) * l2f56) + l4) (0 : Int32)
  else (rd (M.2 100) 72 (((6 : Int32) * ((M.1 7) + l4)) + l1f56)).bind fun v18 =>
  fX10_film_b101 l1f56 l2f56 l3f56 K56 M l4 (((40 : Int32) * l2f56) + l4) v18
def fX10_film (M : MW) (l1 : Int32) (l2 : Int32) (l3 : Int32) : Option (Int32 × MW) :=
  if (fX10_isBoat M l1) = 0 then some ((-5 : Int32), M)
  else if (fX10_in l2 (0 : Int32) (3 : Int32)) = 0 then some ((-2 : Int32), M)
  else if (fX10_isNight M l3) = 0 then some ((-7 : Int32), M)
  else (fX10_goes M l3).bind fun M7 =>
  if inb l2 4 then bd (mA M7 88 l2 (2 : Int32)) fun M10 =>
  if inb l2 4 then bd (mA M10 89 l2 l3) fun M13 =>
  lo2 (fX10_film_l56 l1 l2 l3) FU M13 (0 : Int32)
  else none
  else none
set_option maxRecDepth 100000 in
set_option maxHeartbeats 4000000 in
theorem c_X10_film {l : Launch} {s0 : State} {D : va_G} {ev : Nat → Nat} (G0 : Gl s0 D ev) {X : XW} {M : MW} {nb : Nat} {l1 : Int32} {l2 : Int32} {l3 : Int32} {r' : Int32} {M' : MW}  (h : fX10_film M l1 l2 l3 = some (r', M')) : CT l s0 D ev yX10_film cX10_film 5 (some .int) 7 0 0 [.ref (ev 0 + 65), .int l1, .int l2, .int l3] (cells ev X M (nb + 1)) (QI s0 D ev r' (cells ev X M' (nb + 1))) := by
  refine ct_of G0 (by decide) (Nat.le_of_ble_eq_true rfl) ?_
  intro p9 e9 s9 m9 args9 below9 meth9 c9 F hr9 hl9 hin9 hargs9 hts9
  have L56 : ∀ (l1f56 : Int32) (l2f56 : Int32) (l3f56 : Int32) (N56 : Nat) (M : MW) (l4 : Int32), lo2 (fX10_film_l56 l1f56 l2f56 l3f56) N56 M l4 = some (r', M') → GJ p9 l e9 (rg 7 0 0) s9 m9 args9 below9 meth9 c9 (MQ below9 (QI s0 D ev r' (cells ev X M' (nb + 1))) args9 s9 0 0 (frA ev)) s0 D ev 5 0 0 56 [(0, .ref (ev 0 + 65)), (1, .int l1f56), (2, .int l2f56), (3, .int l3f56), (4, .int l4)] ([]) (cells ev X M (nb + 1)) := by
    intro l1f56 l2f56 l3f56 N56
    induction N56 with
    | zero => intro M l4 h; cases h
    | succ N56 ih56 =>
      have U101 : ∀ (M : MW) (l4 : Int32) (t1 : Int32) (t2 : Int32), fX10_film_b101 l1f56 l2f56 l3f56 (lo2 (fX10_film_l56 l1f56 l2f56 l3f56) N56) M l4 t1 t2 = some (r', M') → GJ p9 l e9 (rg 7 0 0) s9 m9 args9 below9 meth9 c9 (MQ below9 (QI s0 D ev r' (cells ev X M' (nb + 1))) args9 s9 0 0 (frA ev)) s0 D ev 5 0 0 101 [(0, .ref (ev 0 + 65)), (1, .int l1f56), (2, .int l2f56), (3, .int l3f56), (4, .int l4)] (.int t2 :: .int t1 :: .ref (ev 0 + 90) :: []) (cells ev X M (nb + 1)) := by
        intro M l4 t1 t2 h
        rw [fX10_film_b101] at h
        obtain ⟨h15, h⟩ := if_at h
        obtain ⟨M16, e17, h⟩ := bd_at h
        refine g_istM F rfl rfl h15 dX10_film_101 ?_
        rw [← e17]
        refine g_iinc (i := 4) (v := (l4 + (1 : Int32))) (lv' := [(4, .int (l4 + (1 : Int32))), (0, .ref (ev 0 + 65)), (1, .int l1f56), (2, .int l2f56), (3, .int l3f56)]) F dX10_film_102 rfl rfl (by decide) rfl ?_
        refine g_goto (tgt := 56) F dX10_film_105 (by decide) ?_
        refine g_lv (lv' := [(0, .ref (ev 0 + 65)), (1, .int l1f56), (2, .int l2f56), (3, .int l3f56), (4, .int (l4 + (1 : Int32)))]) ⟨rfl, rfl, rfl, rfl, rfl, trivial⟩ ?_
        exact ih56 _ _ h
      intro M l4 h
      change fX10_film_l56 l1f56 l2f56 l3f56 (lo2 (fX10_film_l56 l1f56 l2f56 l3f56) N56) M l4 = some (r', M') at h
      rw [fX10_film_l56] at h
      refine g_iload (i := 4) F dX10_film_56 rfl ?_
      refine g_bipush F dX10_film_58 (v := 40) (by decide) ?_
      refine g_icmp_ge (tgt := 108) F dX10_film_60 (by decide) h (fun a21 h => ?_) (fun a21 h => ?_)
      · refine g_iload_n (i := 3) F dX10_film_108 rfl rfl ?_
        have hp := Prod.mk.inj (Option.some.inj h)
        exact g_iret F hr9 rfl hl9 hp.1 (by rw [hp.2]) (by decide) (by decide) dX10_film_109
      · refine g_aload_n (i := 0) F dX10_film_63 rfl rfl ?_
        refine g_get_10_33 F wd_12_14 dX10_film_64 ?_
        refine g_bipush F dX10_film_67 (v := 40) (by decide) ?_
        refine g_iload_n (i := 2) F dX10_film_69 rfl rfl ?_
        refine g_imul F dX10_film_70 ?_
        refine g_iload (i := 4) F dX10_film_71 rfl ?_
        refine g_iadd F dX10_film_73 ?_
        refine g_iload (i := 4) F dX10_film_74 rfl ?_
        refine g_iload_n (i := 3) F dX10_film_76 rfl rfl ?_
        refine g_icmp_ge (tgt := 100) F dX10_film_77 (by decide) h (fun a20 h => ?_) (fun a20 h => ?_)
        · refine g_iconst F dX10_film_100 (v := 0) (by decide) ?_
          refine g_lv (lv' := [(0, .ref (ev 0 + 65)), (1, .int l1f56), (2, .int l2f56), (3, .int l3f56), (4, .int l4)]) ⟨rfl, rfl, rfl, rfl, rfl, trivial⟩ ?_
          exact U101 _ _ _ _ h
        · refine g_aload_n (i := 0) F dX10_film_80 rfl rfl ?_
          refine g_get_10_51 F wd_13_0 dX10_film_81 ?_
          refine g_bipush F dX10_film_84 (v := 6) (by decide) ?_
          refine g_aload_n (i := 0) F dX10_film_86 rfl rfl ?_
          refine g_get_10_7 F wd_18_17 dX10_film_87 ?_
          refine g_iload (i := 4) F dX10_film_90 rfl ?_
          refine g_iadd F dX10_film_92 ?_
          refine g_imul F dX10_film_93 ?_
          refine g_iload_n (i := 1) F dX10_film_94 rfl rfl ?_
          refine g_iadd F dX10_film_95 ?_
          obtain ⟨v18, e19, h⟩ := bind_at h
          refine g_ildM F rfl rfl e19 dX10_film_96 ?_
          refine g_goto (tgt := 101) F dX10_film_97 (by decide) ?_
          refine g_lv (lv' := [(0, .ref (ev 0 + 65)), (1, .int l1f56), (2, .int l2f56), (3, .int l3f56), (4, .int l4)]) ⟨rfl, rfl, rfl, rfl, rfl, trivial⟩ ?_
          exact U101 _ _ _ _ h
  rw [fX10_film] at h
  refine g_lv (lv' := [(0, .ref (ev 0 + 65)), (1, .int l1), (2, .int l2), (3, .int l3)]) ⟨rfl, rfl, rfl, rfl, trivial⟩ ?_
  refine g_aload_n (i := 0) F dX10_film_0 rfl rfl ?_
  refine g_iload_n (i := 1) F dX10_film_1 rfl rfl ?_
  refine g_callVI F (mcR := 0) (msR := 0) (id := 65) (cells_at (kd_hidM (show kd 65 = 10 from rfl) (by decide)) (xc_10 rfl)) (ci := 10) rfl rfl rfl (c_X10_isBoat G0 (X := X) (M := M) (nb := nb) rfl) wd_23_7 wd_23_4 wd_23_5 wd_23_6 wd_1_5 ⟨by decide, by decide⟩ (nn := 1) (by decide) (As := [.int l1]) rfl rfl (Nat.le_of_ble_eq_true rfl) (by decide) (by decide) ⟨by decide, by decide⟩ dX10_film_2 ?_
  refine g_if_ne (tgt := 11) F dX10_film_5 (by decide) h (fun a24 h => ?_) (fun a24 h => ?_)
  · refine g_iload_n (i := 2) F dX10_film_11 rfl rfl ?_
    refine g_iconst F dX10_film_12 (v := 0) (by decide) ?_
    refine g_iconst F dX10_film_13 (v := 3) (by decide) ?_
    refine g_callSI F (mcR := 0) (msR := 0) (c_X10_in G0 (X := X) (M := M) (nb := nb) rfl) wd_13_21 wd_13_19 wd_13_20 wd_1_5 ⟨by decide, by decide⟩ (nn := 3) (by decide) (As := [.int l2, .int (0 : Int32), .int (3 : Int32)]) rfl rfl (Nat.le_of_ble_eq_true rfl) (by decide) (by decide) ⟨by decide, by decide⟩ dX10_film_14 ?_
    refine g_if_ne (tgt := 23) F dX10_film_17 (by decide) h (fun a23 h => ?_) (fun a23 h => ?_)
    · refine g_aload_n (i := 0) F dX10_film_23 rfl rfl ?_
      refine g_iload_n (i := 3) F dX10_film_24 rfl rfl ?_
      refine g_callVI F (mcR := 0) (msR := 0) (id := 65) (cells_at (kd_hidM (show kd 65 = 10 from rfl) (by decide)) (xc_10 rfl)) (ci := 10) rfl rfl rfl (c_X10_isNight G0 (X := X) (M := M) (nb := nb) rfl) wd_29_17 wd_29_14 wd_29_15 wd_29_16 wd_1_5 ⟨by decide, by decide⟩ (nn := 1) (by decide) (As := [.int l3]) rfl rfl (Nat.le_of_ble_eq_true rfl) (by decide) (by decide) ⟨by decide, by decide⟩ dX10_film_25 ?_
      refine g_if_ne (tgt := 34) F dX10_film_28 (by decide) h (fun a22 h => ?_) (fun a22 h => ?_)
      · refine g_aload_n (i := 0) F dX10_film_34 rfl rfl ?_
        refine g_iload_n (i := 3) F dX10_film_35 rfl rfl ?_
        obtain ⟨M7, e8, h⟩ := bind_at h
        refine g_callVV F (mcR := 0) (msR := 0) (id := 65) (cells_at (kd_hidM (show kd 65 = 10 from rfl) (by decide)) (xc_10 rfl)) (ci := 10) rfl rfl rfl (c_X10_goes G0 e8) wd_29_21 wd_29_18 wd_29_19 wd_29_20 wd_1_5 ⟨by decide, by decide⟩ (nn := 1) (by decide) (As := [.int l3]) rfl rfl (Nat.le_of_ble_eq_true rfl) (by decide) (by decide) ⟨by decide, by decide⟩ dX10_film_36 ?_
        refine g_aload_n (i := 0) F dX10_film_39 rfl rfl ?_
        refine g_get_10_31 F wd_12_12 dX10_film_40 ?_
        refine g_iload_n (i := 2) F dX10_film_43 rfl rfl ?_
        refine g_iconst F dX10_film_44 (v := 2) (by decide) ?_
        obtain ⟨h9, h⟩ := if_at h
        obtain ⟨M10, e11, h⟩ := bd_at h
        refine g_istM F rfl rfl h9 dX10_film_45 ?_
        rw [← e11]
        refine g_aload_n (i := 0) F dX10_film_46 rfl rfl ?_
        refine g_get_10_32 F wd_12_13 dX10_film_47 ?_
        refine g_iload_n (i := 2) F dX10_film_50 rfl rfl ?_
        refine g_iload_n (i := 3) F dX10_film_51 rfl rfl ?_
        obtain ⟨h12, h⟩ := if_at h
        obtain ⟨M13, e14, h⟩ := bd_at h
        refine g_istM F rfl rfl h12 dX10_film_52 ?_
        rw [← e14]
        refine g_iconst F dX10_film_53 (v := 0) (by decide) ?_
        refine g_istore (i := 4) (lv' := [(4, .int (0 : Int32)), (0, .ref (ev 0 + 65)), (1, .int l1), (2, .int l2), (3, .int l3)]) F dX10_film_54 (by decide) rfl ?_
        refine g_lv (lv' := [(0, .ref (ev 0 + 65)), (1, .int l1), (2, .int l2), (3, .int l3), (4, .int (0 : Int32))]) ⟨rfl, rfl, rfl, rfl, rfl, trivial⟩ ?_
        exact L56 _ _ _ FU _ _ h
      · refine g_bipush F dX10_film_31 (v := -7) (by decide) ?_
        have hp := Prod.mk.inj (Option.some.inj h)
        exact g_iret F hr9 rfl hl9 hp.1 (by rw [hp.2]) (by decide) (by decide) dX10_film_33
    · refine g_bipush F dX10_film_20 (v := -2) (by decide) ?_
      have hp := Prod.mk.inj (Option.some.inj h)
      exact g_iret F hr9 rfl hl9 hp.1 (by rw [hp.2]) (by decide) (by decide) dX10_film_22
  · refine g_bipush F dX10_film_8 (v := -5) (by decide) ?_
    have hp := Prod.mk.inj (Option.some.inj h)
    exact g_iret F hr9 rfl hl9 hp.1 (by rw [hp.2]) (by decide) (by decide) dX10_film_10
def fX10_draws_b54 (M : MW) (l2 : Int32) : Option (MW) :=
  bd (mI M 46 (1 : Int32)) fun M5 =>
  (fX10_goes M5 l2).bind fun M7 =>
  bd (mI M7 46 (0 : Int32)) fun M9 =>
  some M9
def fX10_draws_l11 (l2f11 : Int32) (K11 : MW → Int64 → Int32 → Option (MW)) (M : MW) (l3 : Int64) (l5 : Int32) : Option (MW) :=
  if ((M.1 7) + l2f11) ≤ l5 then fX10_draws_b54 M l2f11
  else bd (lrem (l3 * (48271 : Int64)) (2147483647 : Int64)) fun v11 =>
  if inb l5 12 then bd (mA M 96 l5 ((lrem v11 (41 : Int64)).toInt32 - (20 : Int32))) fun M14 =>
  K11 M14 v11 (l5 + (1 : Int32))
  else none
def fX10_draws (M : MW) (l1 : Int32) (l2 : Int32) : Option (MW) :=
  bd (l1.toInt64 + (1 : Int64)) fun v1 =>
  bd (M.1 7) fun v3 =>
  lo3 (fX10_draws_l11 l2) FU M v1 v3
set_option maxRecDepth 100000 in
set_option maxHeartbeats 4000000 in
theorem c_X10_draws {l : Launch} {s0 : State} {D : va_G} {ev : Nat → Nat} (G0 : Gl s0 D ev) {X : XW} {M : MW} {nb : Nat} {l1 : Int32} {l2 : Int32} {M' : MW}  (h : fX10_draws M l1 l2 = some (M')) : CT l s0 D ev yX10_draws cX10_draws 6 none 7 0 0 [.ref (ev 0 + 65), .int l1, .int l2] (cells ev X M (nb + 1)) (QV s0 D ev (cells ev X M' (nb + 1))) := by
  refine ct_of G0 (by decide) (Nat.le_of_ble_eq_true rfl) ?_
  intro p9 e9 s9 m9 args9 below9 meth9 c9 F hr9 hl9 hin9 hargs9 hts9
  have U54 : ∀ (M : MW) (l2 : Int32), fX10_draws_b54 M l2 = some (M') → GJ p9 l e9 (rg 7 0 0) s9 m9 args9 below9 meth9 c9 (MQ below9 (QV s0 D ev (cells ev X M' (nb + 1))) args9 s9 0 0 (frA ev)) s0 D ev 6 0 0 54 [(0, .ref (ev 0 + 65)), (2, .int l2)] ([]) (cells ev X M (nb + 1)) := by
    intro M l2 h
    rw [fX10_draws_b54] at h
    refine g_aload_n (i := 0) F dX10_draws_54 rfl rfl ?_
    refine g_iconst F dX10_draws_55 (v := 1) (by decide) ?_
    obtain ⟨M5, e6, h⟩ := bd_at h
    refine g_put_10_46 F (by decide) wd_26_8 dX10_draws_56 ?_
    rw [← e6]
    refine g_aload_n (i := 0) F dX10_draws_59 rfl rfl ?_
    refine g_iload_n (i := 2) F dX10_draws_60 rfl rfl ?_
    obtain ⟨M7, e8, h⟩ := bind_at h
    refine g_callVV F (mcR := 0) (msR := 0) (id := 65) (cells_at (kd_hidM (show kd 65 = 10 from rfl) (by decide)) (xc_10 rfl)) (ci := 10) rfl rfl rfl (c_X10_goes G0 e8) wd_29_21 wd_29_18 wd_29_19 wd_29_20 wd_1_5 ⟨by decide, by decide⟩ (nn := 1) (by decide) (As := [.int l2]) rfl rfl (Nat.le_of_ble_eq_true rfl) (by decide) (by decide) ⟨by decide, by decide⟩ dX10_draws_61 ?_
    refine g_aload_n (i := 0) F dX10_draws_64 rfl rfl ?_
    refine g_iconst F dX10_draws_65 (v := 0) (by decide) ?_
    obtain ⟨M9, e10, h⟩ := bd_at h
    refine g_put_10_46 F (by decide) wd_26_8 dX10_draws_66 ?_
    rw [← e10]
    exact g_vret F hr9 hl9 (by rw [Option.some.inj h]) (by decide) (by decide) dX10_draws_69
  have L11 : ∀ (l2f11 : Int32) (N11 : Nat) (M : MW) (l3 : Int64) (l5 : Int32), lo3 (fX10_draws_l11 l2f11) N11 M l3 l5 = some (M') → GJ p9 l e9 (rg 7 0 0) s9 m9 args9 below9 meth9 c9 (MQ below9 (QV s0 D ev (cells ev X M' (nb + 1))) args9 s9 0 0 (frA ev)) s0 D ev 6 0 0 11 [(0, .ref (ev 0 + 65)), (2, .int l2f11), (3, .long l3), (5, .int l5)] ([]) (cells ev X M (nb + 1)) := by
    intro l2f11 N11
    induction N11 with
    | zero => intro M l3 l5 h; cases h
    | succ N11 ih11 =>
      intro M l3 l5 h
      change fX10_draws_l11 l2f11 (lo3 (fX10_draws_l11 l2f11) N11) M l3 l5 = some (M') at h
      rw [fX10_draws_l11] at h
      refine g_iload (i := 5) F dX10_draws_11 rfl ?_
      refine g_aload_n (i := 0) F dX10_draws_13 rfl rfl ?_
      refine g_get_10_7 F wd_18_17 dX10_draws_14 ?_
      refine g_iload_n (i := 2) F dX10_draws_17 rfl rfl ?_
      refine g_iadd F dX10_draws_18 ?_
      refine g_icmp_ge (tgt := 54) F dX10_draws_19 (by decide) h (fun a16 h => ?_) (fun a16 h => ?_)
      · refine g_lv (lv' := [(0, .ref (ev 0 + 65)), (2, .int l2f11)]) ⟨rfl, rfl, trivial⟩ ?_
        exact U54 _ _ h
      · refine g_lload_n (i := 3) F dX10_draws_22 rfl rfl ?_
        refine g_ldc2 F dX10_draws_23 wd_48_16 ?_
        refine g_lmul F dX10_draws_26 ?_
        refine g_ldc2 F dX10_draws_27 wd_48_17 ?_
        refine g_lrem F dX10_draws_30 (by decide) ?_
        refine g_topl F h (fun v11 e12 h => ?_)
        refine g_lstore_n (i := 3) (lv' := [(3, .long v11), (0, .ref (ev 0 + 65)), (2, .int l2f11), (5, .int l5)]) F dX10_draws_31 rfl (by decide) rfl ?_
        refine g_aload_n (i := 0) F dX10_draws_32 rfl rfl ?_
        refine g_get_10_47 F wd_12_20 dX10_draws_33 ?_
        refine g_iload (i := 5) F dX10_draws_36 rfl ?_
        refine g_lload_n (i := 3) F dX10_draws_38 rfl rfl ?_
        refine g_ldc2 F dX10_draws_39 wd_48_18 ?_
        refine g_lrem F dX10_draws_42 (by decide) ?_
        refine g_l2i F dX10_draws_43 ?_
        refine g_bipush F dX10_draws_44 (v := 20) (by decide) ?_
        refine g_isub F dX10_draws_46 ?_
        obtain ⟨h13, h⟩ := if_at h
        obtain ⟨M14, e15, h⟩ := bd_at h
        refine g_istM F rfl rfl h13 dX10_draws_47 ?_
        rw [← e15]
        refine g_iinc (i := 5) (v := (l5 + (1 : Int32))) (lv' := [(5, .int (l5 + (1 : Int32))), (3, .long v11), (0, .ref (ev 0 + 65)), (2, .int l2f11)]) F dX10_draws_48 rfl rfl (by decide) rfl ?_
        refine g_goto (tgt := 11) F dX10_draws_51 (by decide) ?_
        refine g_lv (lv' := [(0, .ref (ev 0 + 65)), (2, .int l2f11), (3, .long v11), (5, .int (l5 + (1 : Int32)))]) ⟨rfl, rfl, rfl, rfl, trivial⟩ ?_
        exact ih11 _ _ _ h
  rw [fX10_draws] at h
  refine g_lv (lv' := [(0, .ref (ev 0 + 65)), (1, .int l1), (2, .int l2)]) ⟨rfl, rfl, rfl, trivial⟩ ?_
  refine g_iload_n (i := 1) F dX10_draws_0 rfl rfl ?_
  refine g_i2l F dX10_draws_1 ?_
  refine g_lconst F dX10_draws_2 (v := 1) (by decide) ?_
  refine g_ladd F dX10_draws_3 ?_
  refine g_topl F h (fun v1 e2 h => ?_)
  refine g_lstore_n (i := 3) (lv' := [(3, .long v1), (0, .ref (ev 0 + 65)), (1, .int l1), (2, .int l2)]) F dX10_draws_4 rfl (by decide) rfl ?_
  refine g_aload_n (i := 0) F dX10_draws_5 rfl rfl ?_
  refine g_get_10_7 F wd_18_17 dX10_draws_6 ?_
  refine g_topi F h (fun v3 e4 h => ?_)
  refine g_istore (i := 5) (lv' := [(5, .int v3), (3, .long v1), (0, .ref (ev 0 + 65)), (1, .int l1), (2, .int l2)]) F dX10_draws_9 (by decide) rfl ?_
  refine g_lv (lv' := [(0, .ref (ev 0 + 65)), (2, .int l2), (3, .long v1), (5, .int v3)]) ⟨rfl, rfl, rfl, rfl, trivial⟩ ?_
  exact L11 _ FU _ _ _ h
def fX10_drawn (M : MW) (l1 : Int32) (l2 : Int32) (l3 : Int32) (l4 : Int32) : Option (Int32 × MW) :=
  if (fX10_isBoat M l3) = 0 then some ((-5 : Int32), M)
  else if (fX10_in l1 (0 : Int32) (99999 : Int32)) = 0 then some ((-7 : Int32), M)
  else if (fX10_isNight M l2) = 0 then some ((-7 : Int32), M)
  else if (fX10_in l4 (0 : Int32) (2 : Int32)) = 0 then some ((-7 : Int32), M)
  else (fX10_draws M l1 l2).bind fun M9 =>
  if l4 = 0 then (rd (M9.2 97) 6 l3).bind fun v16 =>
  some (v16, M9)
  else if l4 = (1 : Int32) then (rd (M9.2 98) 6 l3).bind fun v13 =>
  some (v13, M9)
  else (rd (M9.2 99) 6 l3).bind fun v11 =>
  some (v11, M9)
set_option maxRecDepth 100000 in
set_option maxHeartbeats 4000000 in
theorem c_X10_drawn {l : Launch} {s0 : State} {D : va_G} {ev : Nat → Nat} (G0 : Gl s0 D ev) {X : XW} {M : MW} {nb : Nat} {l1 : Int32} {l2 : Int32} {l3 : Int32} {l4 : Int32} {r' : Int32} {M' : MW}  (h : fX10_drawn M l1 l2 l3 l4 = some (r', M')) : CT l s0 D ev yX10_drawn cX10_drawn 5 (some .int) 8 0 0 [.ref (ev 0 + 65), .int l1, .int l2, .int l3, .int l4] (cells ev X M (nb + 1)) (QI s0 D ev r' (cells ev X M' (nb + 1))) := by
  refine ct_of G0 (by decide) (Nat.le_of_ble_eq_true rfl) ?_
  intro p9 e9 s9 m9 args9 below9 meth9 c9 F hr9 hl9 hin9 hargs9 hts9
  rw [fX10_drawn] at h
  refine g_lv (lv' := [(0, .ref (ev 0 + 65)), (1, .int l1), (2, .int l2), (3, .int l3), (4, .int l4)]) ⟨rfl, rfl, rfl, rfl, rfl, trivial⟩ ?_
  refine g_aload_n (i := 0) F dX10_drawn_0 rfl rfl ?_
  refine g_iload_n (i := 3) F dX10_drawn_1 rfl rfl ?_
  refine g_callVI F (mcR := 0) (msR := 0) (id := 65) (cells_at (kd_hidM (show kd 65 = 10 from rfl) (by decide)) (xc_10 rfl)) (ci := 10) rfl rfl rfl (c_X10_isBoat G0 (X := X) (M := M) (nb := nb) rfl) wd_23_7 wd_23_4 wd_23_5 wd_23_6 wd_1_5 ⟨by decide, by decide⟩ (nn := 1) (by decide) (As := [.int l3]) rfl rfl (Nat.le_of_ble_eq_true rfl) (by decide) (by decide) ⟨by decide, by decide⟩ dX10_drawn_2 ?_
  refine g_if_ne (tgt := 11) F dX10_drawn_5 (by decide) h (fun a22 h => ?_) (fun a22 h => ?_)
  · refine g_iload_n (i := 1) F dX10_drawn_11 rfl rfl ?_
    refine g_iconst F dX10_drawn_12 (v := 0) (by decide) ?_
    refine g_ldcw F dX10_drawn_13 wd_48_11 ?_
    refine g_callSI F (mcR := 0) (msR := 0) (c_X10_in G0 (X := X) (M := M) (nb := nb) rfl) wd_13_21 wd_13_19 wd_13_20 wd_1_5 ⟨by decide, by decide⟩ (nn := 3) (by decide) (As := [.int l1, .int (0 : Int32), .int (99999 : Int32)]) rfl rfl (Nat.le_of_ble_eq_true rfl) (by decide) (by decide) ⟨by decide, by decide⟩ dX10_drawn_16 ?_
    refine g_if_eq (tgt := 40) F dX10_drawn_19 (by decide) h (fun a21 h => ?_) (fun a21 h => ?_)
    · refine g_bipush F dX10_drawn_40 (v := -7) (by decide) ?_
      have hp := Prod.mk.inj (Option.some.inj h)
      exact g_iret F hr9 rfl hl9 hp.1 (by rw [hp.2]) (by decide) (by decide) dX10_drawn_42
    · refine g_aload_n (i := 0) F dX10_drawn_22 rfl rfl ?_
      refine g_iload_n (i := 2) F dX10_drawn_23 rfl rfl ?_
      refine g_callVI F (mcR := 0) (msR := 0) (id := 65) (cells_at (kd_hidM (show kd 65 = 10 from rfl) (by decide)) (xc_10 rfl)) (ci := 10) rfl rfl rfl (c_X10_isNight G0 (X := X) (M := M) (nb := nb) rfl) wd_29_17 wd_29_14 wd_29_15 wd_29_16 wd_1_5 ⟨by decide, by decide⟩ (nn := 1) (by decide) (As := [.int l2]) rfl rfl (Nat.le_of_ble_eq_true rfl) (by decide) (by decide) ⟨by decide, by decide⟩ dX10_drawn_24 ?_
      refine g_if_eq (tgt := 40) F dX10_drawn_27 (by decide) h (fun a20 h => ?_) (fun a20 h => ?_)
      · refine g_bipush F dX10_drawn_40 (v := -7) (by decide) ?_
        have hp := Prod.mk.inj (Option.some.inj h)
        exact g_iret F hr9 rfl hl9 hp.1 (by rw [hp.2]) (by decide) (by decide) dX10_drawn_42
      · refine g_iload (i := 4) F dX10_drawn_30 rfl ?_
        refine g_iconst F dX10_drawn_32 (v := 0) (by decide) ?_
        refine g_iconst F dX10_drawn_33 (v := 2) (by decide) ?_
        refine g_callSI F (mcR := 0) (msR := 0) (c_X10_in G0 (X := X) (M := M) (nb := nb) rfl) wd_13_21 wd_13_19 wd_13_20 wd_1_5 ⟨by decide, by decide⟩ (nn := 3) (by decide) (As := [.int l4, .int (0 : Int32), .int (2 : Int32)]) rfl rfl (Nat.le_of_ble_eq_true rfl) (by decide) (by decide) ⟨by decide, by decide⟩ dX10_drawn_34 ?_
        refine g_if_ne (tgt := 43) F dX10_drawn_37 (by decide) h (fun a19 h => ?_) (fun a19 h => ?_)
        · refine g_aload_n (i := 0) F dX10_drawn_43 rfl rfl ?_
          refine g_iload_n (i := 1) F dX10_drawn_44 rfl rfl ?_
          refine g_iload_n (i := 2) F dX10_drawn_45 rfl rfl ?_
          obtain ⟨M9, e10, h⟩ := bind_at h
          refine g_callVV F (mcR := 0) (msR := 0) (id := 65) (cells_at (kd_hidM (show kd 65 = 10 from rfl) (by decide)) (xc_10 rfl)) (ci := 10) rfl rfl rfl (c_X10_draws G0 e10) wd_48_15 wd_48_12 wd_48_13 wd_48_14 wd_1_5 ⟨by decide, by decide⟩ (nn := 2) (by decide) (As := [.int l1, .int l2]) rfl rfl (Nat.le_of_ble_eq_true rfl) (by decide) (by decide) ⟨by decide, by decide⟩ dX10_drawn_46 ?_
          refine g_iload (i := 4) F dX10_drawn_49 rfl ?_
          refine g_if_ne (tgt := 63) F dX10_drawn_51 (by decide) h (fun a18 h => ?_) (fun a18 h => ?_)
          · refine g_iload (i := 4) F dX10_drawn_63 rfl ?_
            refine g_iconst F dX10_drawn_65 (v := 1) (by decide) ?_
            refine g_icmp_ne (tgt := 78) F dX10_drawn_66 (by decide) h (fun a15 h => ?_) (fun a15 h => ?_)
            · refine g_aload_n (i := 0) F dX10_drawn_78 rfl rfl ?_
              refine g_get_10_50 F wd_12_23 dX10_drawn_79 ?_
              refine g_iload_n (i := 3) F dX10_drawn_82 rfl rfl ?_
              obtain ⟨v11, e12, h⟩ := bind_at h
              refine g_ildM F rfl rfl e12 dX10_drawn_83 ?_
              have hp := Prod.mk.inj (Option.some.inj h)
              exact g_iret F hr9 rfl hl9 hp.1 (by rw [hp.2]) (by decide) (by decide) dX10_drawn_84
            · refine g_aload_n (i := 0) F dX10_drawn_69 rfl rfl ?_
              refine g_get_10_49 F wd_12_22 dX10_drawn_70 ?_
              refine g_iload_n (i := 3) F dX10_drawn_73 rfl rfl ?_
              obtain ⟨v13, e14, h⟩ := bind_at h
              refine g_ildM F rfl rfl e14 dX10_drawn_74 ?_
              refine g_goto (tgt := 84) F dX10_drawn_75 (by decide) ?_
              have hp := Prod.mk.inj (Option.some.inj h)
              exact g_iret F hr9 rfl hl9 hp.1 (by rw [hp.2]) (by decide) (by decide) dX10_drawn_84
          · refine g_aload_n (i := 0) F dX10_drawn_54 rfl rfl ?_
            refine g_get_10_48 F wd_12_21 dX10_drawn_55 ?_
            refine g_iload_n (i := 3) F dX10_drawn_58 rfl rfl ?_
            obtain ⟨v16, e17, h⟩ := bind_at h
            refine g_ildM F rfl rfl e17 dX10_drawn_59 ?_
            refine g_goto (tgt := 84) F dX10_drawn_60 (by decide) ?_
            have hp := Prod.mk.inj (Option.some.inj h)
            exact g_iret F hr9 rfl hl9 hp.1 (by rw [hp.2]) (by decide) (by decide) dX10_drawn_84
        · refine g_bipush F dX10_drawn_40 (v := -7) (by decide) ?_
          have hp := Prod.mk.inj (Option.some.inj h)
          exact g_iret F hr9 rfl hl9 hp.1 (by rw [hp.2]) (by decide) (by decide) dX10_drawn_42
  · refine g_bipush F dX10_drawn_8 (v := -5) (by decide) ?_
    have hp := Prod.mk.inj (Option.some.inj h)
    exact g_iret F hr9 rfl hl9 hp.1 (by rw [hp.2]) (by decide) (by decide) dX10_drawn_10
def fX10_chance_b125 (M : MW) (l3 : Int32) (l4 : Int32) (l6 : Int64) : Option (Int64 × MW) :=
  (fX10_lowest l6 ((l3 / (100 : Int32)).toInt64) l4).bind fun v3 =>
  some (v3, M)
def fX10_chance_l79 (l1f79 : Int32) (l2f79 : Int32) (l3f79 : Int32) (l4f79 : Int32) (K79 : MW → Int64 → Int32 → Option (Int64 × MW)) (M : MW) (l6 : Int64) (l8 : Int32) : Option (Int64 × MW) :=
  if (l3f79 / (100 : Int32)) ≤ l8 then fX10_chance_b125 M l3f79 l4f79 l6
  else (fX10_draws M (l2f79 + l8) (jrem l3f79 (100 : Int32))).bind fun M5 =>
  (rd (M5.2 98) 6 l1f79).bind fun v7 =>
  if v7 = 0 then bd (l6 + (1 : Int64)) fun v11 =>
  K79 M5 v11 (l8 + (1 : Int32))
  else bd (l6 + (0 : Int64)) fun v9 =>
  K79 M5 v9 (l8 + (1 : Int32))
def fX10_chance_b62 (M : MW) (l1 : Int32) (l2 : Int32) (l3 : Int32) (l4 : Int32) (t0 : Int32) : Option (Int64 × MW) :=
  if t0 = 0 then some ((-4611686018427387904 : Int64), M)
  else lo3 (fX10_chance_l79 l1 l2 l3 l4) FU M (0 : Int64) (0 : Int32)
def fX10_chance_b61 (M : MW) (l1 : Int32) (l2 : Int32) (l3 : Int32) (l4 : Int32) : Option (Int64 × MW) :=
  fX10_chance_b62 M l1 l2 l3 l4 (0 : Int32)
def fX10_chance (M : MW) (l1 : Int32) (l2 : Int32) (l3 : Int32) (l4 : Int32) : Option (Int64 × MW) :=
  if (fX10_isBoat M l1) = 0 then fX10_chance_b61 M l1 l2 l3 l4
  else if (fX10_in l2 (0 : Int32) (99999 : Int32)) = 0 then fX10_chance_b61 M l1 l2 l3 l4
  else if l3 < 0 then fX10_chance_b61 M l1 l2 l3 l4
  else if (fX10_in (l3 / (100 : Int32)) (1 : Int32) (20 : Int32)) = 0 then fX10_chance_b61 M l1 l2 l3 l4
  else if (fX10_isNight M (jrem l3 (100 : Int32))) = 0 then fX10_chance_b61 M l1 l2 l3 l4
  else if (fX10_in l4 (0 : Int32) (1 : Int32)) = 0 then fX10_chance_b61 M l1 l2 l3 l4
  else fX10_chance_b62 M l1 l2 l3 l4 (1 : Int32)
set_option maxRecDepth 100000 in
set_option maxHeartbeats 4000000 in
theorem c_X10_chance {l : Launch} {s0 : State} {D : va_G} {ev : Nat → Nat} (G0 : Gl s0 D ev) {X : XW} {M : MW} {nb : Nat} {l1 : Int32} {l2 : Int32} {l3 : Int32} {l4 : Int32} {r' : Int64} {M' : MW}  (h : fX10_chance M l1 l2 l3 l4 = some (r', M')) : CT l s0 D ev yX10_chance cX10_chance 9 (some .long) 8 0 0 [.ref (ev 0 + 65), .int l1, .int l2, .int l3, .int l4] (cells ev X M (nb + 1)) (QL s0 D ev r' (cells ev X M' (nb + 1))) := by
  refine ct_of G0 (by decide) (Nat.le_of_ble_eq_true rfl) ?_
  intro p9 e9 s9 m9 args9 below9 meth9 c9 F hr9 hl9 hin9 hargs9 hts9
  have U125 : ∀ (M : MW) (l3 : Int32) (l4 : Int32) (l6 : Int64), fX10_chance_b125 M l3 l4 l6 = some (r', M') → GJ p9 l e9 (rg 8 0 0) s9 m9 args9 below9 meth9 c9 (MQ below9 (QL s0 D ev r' (cells ev X M' (nb + 1))) args9 s9 0 0 (frA ev)) s0 D ev 9 0 0 125 [(3, .int l3), (4, .int l4), (6, .long l6)] ([]) (cells ev X M (nb + 1)) := by
    intro M l3 l4 l6 h
    rw [fX10_chance_b125] at h
    refine g_lload (i := 6) F dX10_chance_125 rfl ?_
    refine g_iload_n (i := 3) F dX10_chance_127 rfl rfl ?_
    refine g_bipush F dX10_chance_128 (v := 100) (by decide) ?_
    refine g_idiv F dX10_chance_130 (by decide) ?_
    refine g_i2l F dX10_chance_131 ?_
    refine g_iload (i := 4) F dX10_chance_132 rfl ?_
    obtain ⟨v3, e4, h⟩ := bind_at h
    refine g_callSL F (mcR := 0) (msR := 0) (c_X10_lowest G0 e4) wd_43_7 wd_43_5 wd_43_6 wd_1_5 ⟨by decide, by decide⟩ (nn := 3) (by decide) (As := [.long l6, .long ((l3 / (100 : Int32)).toInt64), .int l4]) rfl rfl (Nat.le_of_ble_eq_true rfl) (by decide) (by decide) ⟨by decide, by decide⟩ dX10_chance_134 ?_
    have hp := Prod.mk.inj (Option.some.inj h)
    exact g_lret F hr9 hl9 hp.1 (by rw [hp.2]) (by decide) (by decide) dX10_chance_137
  have L79 : ∀ (l1f79 : Int32) (l2f79 : Int32) (l3f79 : Int32) (l4f79 : Int32) (N79 : Nat) (M : MW) (l6 : Int64) (l8 : Int32), lo3 (fX10_chance_l79 l1f79 l2f79 l3f79 l4f79) N79 M l6 l8 = some (r', M') → GJ p9 l e9 (rg 8 0 0) s9 m9 args9 below9 meth9 c9 (MQ below9 (QL s0 D ev r' (cells ev X M' (nb + 1))) args9 s9 0 0 (frA ev)) s0 D ev 9 0 0 79 [(0, .ref (ev 0 + 65)), (1, .int l1f79), (2, .int l2f79), (3, .int l3f79), (4, .int l4f79), (6, .long l6), (8, .int l8)] ([]) (cells ev X M (nb + 1)) := by
    intro l1f79 l2f79 l3f79 l4f79 N79
    induction N79 with
    | zero => intro M l6 l8 h; cases h
    | succ N79 ih79 =>
      intro M l6 l8 h
      change fX10_chance_l79 l1f79 l2f79 l3f79 l4f79 (lo3 (fX10_chance_l79 l1f79 l2f79 l3f79 l4f79) N79) M l6 l8 = some (r', M') at h
      rw [fX10_chance_l79] at h
      refine g_iload (i := 8) F dX10_chance_79 rfl ?_
      refine g_iload_n (i := 3) F dX10_chance_81 rfl rfl ?_
      refine g_bipush F dX10_chance_82 (v := 100) (by decide) ?_
      refine g_idiv F dX10_chance_84 (by decide) ?_
      refine g_icmp_ge (tgt := 125) F dX10_chance_85 (by decide) h (fun a14 h => ?_) (fun a14 h => ?_)
      · refine g_lv (lv' := [(3, .int l3f79), (4, .int l4f79), (6, .long l6)]) ⟨rfl, rfl, rfl, trivial⟩ ?_
        exact U125 _ _ _ _ h
      · refine g_aload_n (i := 0) F dX10_chance_88 rfl rfl ?_
        refine g_iload_n (i := 2) F dX10_chance_89 rfl rfl ?_
        refine g_iload (i := 8) F dX10_chance_90 rfl ?_
        refine g_iadd F dX10_chance_92 ?_
        refine g_iload_n (i := 3) F dX10_chance_93 rfl rfl ?_
        refine g_bipush F dX10_chance_94 (v := 100) (by decide) ?_
        refine g_irem F dX10_chance_96 (by decide) ?_
        obtain ⟨M5, e6, h⟩ := bind_at h
        refine g_callVV F (mcR := 0) (msR := 0) (id := 65) (cells_at (kd_hidM (show kd 65 = 10 from rfl) (by decide)) (xc_10 rfl)) (ci := 10) rfl rfl rfl (c_X10_draws G0 e6) wd_48_15 wd_48_12 wd_48_13 wd_48_14 wd_1_5 ⟨by decide, by decide⟩ (nn := 2) (by decide) (As := [.int (l2f79 + l8), .int (jrem l3f79 (100 : Int32))]) rfl rfl (Nat.le_of_ble_eq_true rfl) (by decide) (by decide) ⟨by decide, by decide⟩ dX10_chance_97 ?_
        refine g_lload (i := 6) F dX10_chance_100 rfl ?_
        refine g_aload_n (i := 0) F dX10_chance_102 rfl rfl ?_
        refine g_get_10_49 F wd_12_22 dX10_chance_103 ?_
        refine g_iload_n (i := 1) F dX10_chance_106 rfl rfl ?_
        obtain ⟨v7, e8, h⟩ := bind_at h
        refine g_ildM F rfl rfl e8 dX10_chance_107 ?_
        refine g_if_ne (tgt := 115) F dX10_chance_108 (by decide) h (fun a13 h => ?_) (fun a13 h => ?_)
        · refine g_lconst F dX10_chance_115 (v := 0) (by decide) ?_
          refine g_ladd F dX10_chance_116 ?_
          refine g_topl F h (fun v9 e10 h => ?_)
          refine g_lstore (i := 6) (lv' := [(6, .long v9), (0, .ref (ev 0 + 65)), (1, .int l1f79), (2, .int l2f79), (3, .int l3f79), (4, .int l4f79), (8, .int l8)]) F dX10_chance_117 (by decide) rfl ?_
          refine g_iinc (i := 8) (v := (l8 + (1 : Int32))) (lv' := [(8, .int (l8 + (1 : Int32))), (6, .long v9), (0, .ref (ev 0 + 65)), (1, .int l1f79), (2, .int l2f79), (3, .int l3f79), (4, .int l4f79)]) F dX10_chance_119 rfl rfl (by decide) rfl ?_
          refine g_goto (tgt := 79) F dX10_chance_122 (by decide) ?_
          refine g_lv (lv' := [(0, .ref (ev 0 + 65)), (1, .int l1f79), (2, .int l2f79), (3, .int l3f79), (4, .int l4f79), (6, .long v9), (8, .int (l8 + (1 : Int32)))]) ⟨rfl, rfl, rfl, rfl, rfl, rfl, rfl, trivial⟩ ?_
          exact ih79 _ _ _ h
        · refine g_lconst F dX10_chance_111 (v := 1) (by decide) ?_
          refine g_goto (tgt := 116) F dX10_chance_112 (by decide) ?_
          refine g_ladd F dX10_chance_116 ?_
          refine g_topl F h (fun v11 e12 h => ?_)
          refine g_lstore (i := 6) (lv' := [(6, .long v11), (0, .ref (ev 0 + 65)), (1, .int l1f79), (2, .int l2f79), (3, .int l3f79), (4, .int l4f79), (8, .int l8)]) F dX10_chance_117 (by decide) rfl ?_
          refine g_iinc (i := 8) (v := (l8 + (1 : Int32))) (lv' := [(8, .int (l8 + (1 : Int32))), (6, .long v11), (0, .ref (ev 0 + 65)), (1, .int l1f79), (2, .int l2f79), (3, .int l3f79), (4, .int l4f79)]) F dX10_chance_119 rfl rfl (by decide) rfl ?_
          refine g_goto (tgt := 79) F dX10_chance_122 (by decide) ?_
          refine g_lv (lv' := [(0, .ref (ev 0 + 65)), (1, .int l1f79), (2, .int l2f79), (3, .int l3f79), (4, .int l4f79), (6, .long v11), (8, .int (l8 + (1 : Int32)))]) ⟨rfl, rfl, rfl, rfl, rfl, rfl, rfl, trivial⟩ ?_
          exact ih79 _ _ _ h
  have U62 : ∀ (M : MW) (l1 : Int32) (l2 : Int32) (l3 : Int32) (l4 : Int32) (t0 : Int32), fX10_chance_b62 M l1 l2 l3 l4 t0 = some (r', M') → GJ p9 l e9 (rg 8 0 0) s9 m9 args9 below9 meth9 c9 (MQ below9 (QL s0 D ev r' (cells ev X M' (nb + 1))) args9 s9 0 0 (frA ev)) s0 D ev 9 0 0 62 [(0, .ref (ev 0 + 65)), (1, .int l1), (2, .int l2), (3, .int l3), (4, .int l4)] (.int t0 :: []) (cells ev X M (nb + 1)) := by
    intro M l1 l2 l3 l4 t0 h
    rw [fX10_chance_b62] at h
    refine g_istore (i := 5) (lv' := [(5, .int t0), (0, .ref (ev 0 + 65)), (1, .int l1), (2, .int l2), (3, .int l3), (4, .int l4)]) F dX10_chance_62 (by decide) rfl ?_
    refine g_iload (i := 5) F dX10_chance_64 rfl ?_
    refine g_if_ne (tgt := 73) F dX10_chance_66 (by decide) h (fun a15 h => ?_) (fun a15 h => ?_)
    · refine g_lconst F dX10_chance_73 (v := 0) (by decide) ?_
      refine g_lstore (i := 6) (lv' := [(6, .long (0 : Int64)), (5, .int t0), (0, .ref (ev 0 + 65)), (1, .int l1), (2, .int l2), (3, .int l3), (4, .int l4)]) F dX10_chance_74 (by decide) rfl ?_
      refine g_iconst F dX10_chance_76 (v := 0) (by decide) ?_
      refine g_istore (i := 8) (lv' := [(8, .int (0 : Int32)), (6, .long (0 : Int64)), (5, .int t0), (0, .ref (ev 0 + 65)), (1, .int l1), (2, .int l2), (3, .int l3), (4, .int l4)]) F dX10_chance_77 (by decide) rfl ?_
      refine g_lv (lv' := [(0, .ref (ev 0 + 65)), (1, .int l1), (2, .int l2), (3, .int l3), (4, .int l4), (6, .long (0 : Int64)), (8, .int (0 : Int32))]) ⟨rfl, rfl, rfl, rfl, rfl, rfl, rfl, trivial⟩ ?_
      exact L79 _ _ _ _ FU _ _ _ h
    · refine g_ldc2 F dX10_chance_69 wd_41_13 ?_
      have hp := Prod.mk.inj (Option.some.inj h)
      exact g_lret F hr9 hl9 hp.1 (by rw [hp.2]) (by decide) (by decide) dX10_chance_72
  have U61 : ∀ (M : MW) (l1 : Int32) (l2 : Int32) (l3 : Int32) (l4 : Int32), fX10_chance_b61 M l1 l2 l3 l4 = some (r', M') → GJ p9 l e9 (rg 8 0 0) s9 m9 args9 below9 meth9 c9 (MQ below9 (QL s0 D ev r' (cells ev X M' (nb + 1))) args9 s9 0 0 (frA ev)) s0 D ev 9 0 0 61 [(0, .ref (ev 0 + 65)), (1, .int l1), (2, .int l2), (3, .int l3), (4, .int l4)] ([]) (cells ev X M (nb + 1)) := by
    intro M l1 l2 l3 l4 h
    rw [fX10_chance_b61] at h
    refine g_iconst F dX10_chance_61 (v := 0) (by decide) ?_
    refine g_lv (lv' := [(0, .ref (ev 0 + 65)), (1, .int l1), (2, .int l2), (3, .int l3), (4, .int l4)]) ⟨rfl, rfl, rfl, rfl, rfl, trivial⟩ ?_
    exact U62 _ _ _ _ _ _ h
  rw [fX10_chance] at h
  refine g_lv (lv' := [(0, .ref (ev 0 + 65)), (1, .int l1), (2, .int l2), (3, .int l3), (4, .int l4)]) ⟨rfl, rfl, rfl, rfl, rfl, trivial⟩ ?_
  refine g_aload_n (i := 0) F dX10_chance_0 rfl rfl ?_
  refine g_iload_n (i := 1) F dX10_chance_1 rfl rfl ?_
  refine g_callVI F (mcR := 0) (msR := 0) (id := 65) (cells_at (kd_hidM (show kd 65 = 10 from rfl) (by decide)) (xc_10 rfl)) (ci := 10) rfl rfl rfl (c_X10_isBoat G0 (X := X) (M := M) (nb := nb) rfl) wd_23_7 wd_23_4 wd_23_5 wd_23_6 wd_1_5 ⟨by decide, by decide⟩ (nn := 1) (by decide) (As := [.int l1]) rfl rfl (Nat.le_of_ble_eq_true rfl) (by decide) (by decide) ⟨by decide, by decide⟩ dX10_chance_2 ?_
  refine g_if_eq (tgt := 61) F dX10_chance_5 (by decide) h (fun a29 h => ?_) (fun a29 h => ?_)
  · refine g_lv (lv' := [(0, .ref (ev 0 + 65)), (1, .int l1), (2, .int l2), (3, .int l3), (4, .int l4)]) ⟨rfl, rfl, rfl, rfl, rfl, trivial⟩ ?_
    exact U61 _ _ _ _ _ h
  · refine g_iload_n (i := 2) F dX10_chance_8 rfl rfl ?_
    refine g_iconst F dX10_chance_9 (v := 0) (by decide) ?_
    refine g_ldcw F dX10_chance_10 wd_48_11 ?_
    refine g_callSI F (mcR := 0) (msR := 0) (c_X10_in G0 (X := X) (M := M) (nb := nb) rfl) wd_13_21 wd_13_19 wd_13_20 wd_1_5 ⟨by decide, by decide⟩ (nn := 3) (by decide) (As := [.int l2, .int (0 : Int32), .int (99999 : Int32)]) rfl rfl (Nat.le_of_ble_eq_true rfl) (by decide) (by decide) ⟨by decide, by decide⟩ dX10_chance_13 ?_
    refine g_if_eq (tgt := 61) F dX10_chance_16 (by decide) h (fun a28 h => ?_) (fun a28 h => ?_)
    · refine g_lv (lv' := [(0, .ref (ev 0 + 65)), (1, .int l1), (2, .int l2), (3, .int l3), (4, .int l4)]) ⟨rfl, rfl, rfl, rfl, rfl, trivial⟩ ?_
      exact U61 _ _ _ _ _ h
    · refine g_iload_n (i := 3) F dX10_chance_19 rfl rfl ?_
      refine g_if_lt (tgt := 61) F dX10_chance_20 (by decide) h (fun a27 h => ?_) (fun a27 h => ?_)
      · refine g_lv (lv' := [(0, .ref (ev 0 + 65)), (1, .int l1), (2, .int l2), (3, .int l3), (4, .int l4)]) ⟨rfl, rfl, rfl, rfl, rfl, trivial⟩ ?_
        exact U61 _ _ _ _ _ h
      · refine g_iload_n (i := 3) F dX10_chance_23 rfl rfl ?_
        refine g_bipush F dX10_chance_24 (v := 100) (by decide) ?_
        refine g_idiv F dX10_chance_26 (by decide) ?_
        refine g_iconst F dX10_chance_27 (v := 1) (by decide) ?_
        refine g_bipush F dX10_chance_28 (v := 20) (by decide) ?_
        refine g_callSI F (mcR := 0) (msR := 0) (c_X10_in G0 (X := X) (M := M) (nb := nb) rfl) wd_13_21 wd_13_19 wd_13_20 wd_1_5 ⟨by decide, by decide⟩ (nn := 3) (by decide) (As := [.int (l3 / (100 : Int32)), .int (1 : Int32), .int (20 : Int32)]) rfl rfl (Nat.le_of_ble_eq_true rfl) (by decide) (by decide) ⟨by decide, by decide⟩ dX10_chance_30 ?_
        refine g_if_eq (tgt := 61) F dX10_chance_33 (by decide) h (fun a26 h => ?_) (fun a26 h => ?_)
        · refine g_lv (lv' := [(0, .ref (ev 0 + 65)), (1, .int l1), (2, .int l2), (3, .int l3), (4, .int l4)]) ⟨rfl, rfl, rfl, rfl, rfl, trivial⟩ ?_
          exact U61 _ _ _ _ _ h
        · refine g_aload_n (i := 0) F dX10_chance_36 rfl rfl ?_
          refine g_iload_n (i := 3) F dX10_chance_37 rfl rfl ?_
          refine g_bipush F dX10_chance_38 (v := 100) (by decide) ?_
          refine g_irem F dX10_chance_40 (by decide) ?_
          refine g_callVI F (mcR := 0) (msR := 0) (id := 65) (cells_at (kd_hidM (show kd 65 = 10 from rfl) (by decide)) (xc_10 rfl)) (ci := 10) rfl rfl rfl (c_X10_isNight G0 (X := X) (M := M) (nb := nb) rfl) wd_29_17 wd_29_14 wd_29_15 wd_29_16 wd_1_5 ⟨by decide, by decide⟩ (nn := 1) (by decide) (As := [.int (jrem l3 (100 : Int32))]) rfl rfl (Nat.le_of_ble_eq_true rfl) (by decide) (by decide) ⟨by decide, by decide⟩ dX10_chance_41 ?_
          refine g_if_eq (tgt := 61) F dX10_chance_44 (by decide) h (fun a25 h => ?_) (fun a25 h => ?_)
          · refine g_lv (lv' := [(0, .ref (ev 0 + 65)), (1, .int l1), (2, .int l2), (3, .int l3), (4, .int l4)]) ⟨rfl, rfl, rfl, rfl, rfl, trivial⟩ ?_
            exact U61 _ _ _ _ _ h
          · refine g_iload (i := 4) F dX10_chance_47 rfl ?_
            refine g_iconst F dX10_chance_49 (v := 0) (by decide) ?_
            refine g_iconst F dX10_chance_50 (v := 1) (by decide) ?_
            refine g_callSI F (mcR := 0) (msR := 0) (c_X10_in G0 (X := X) (M := M) (nb := nb) rfl) wd_13_21 wd_13_19 wd_13_20 wd_1_5 ⟨by decide, by decide⟩ (nn := 3) (by decide) (As := [.int l4, .int (0 : Int32), .int (1 : Int32)]) rfl rfl (Nat.le_of_ble_eq_true rfl) (by decide) (by decide) ⟨by decide, by decide⟩ dX10_chance_51 ?_
            refine g_if_eq (tgt := 61) F dX10_chance_54 (by decide) h (fun a24 h => ?_) (fun a24 h => ?_)
            · refine g_lv (lv' := [(0, .ref (ev 0 + 65)), (1, .int l1), (2, .int l2), (3, .int l3), (4, .int l4)]) ⟨rfl, rfl, rfl, rfl, rfl, trivial⟩ ?_
              exact U61 _ _ _ _ _ h
            · refine g_iconst F dX10_chance_57 (v := 1) (by decide) ?_
              refine g_goto (tgt := 62) F dX10_chance_58 (by decide) ?_
              refine g_lv (lv' := [(0, .ref (ev 0 + 65)), (1, .int l1), (2, .int l2), (3, .int l3), (4, .int l4)]) ⟨rfl, rfl, rfl, rfl, rfl, trivial⟩ ?_
              exact U62 _ _ _ _ _ _ h
def fX10_image_l69 (K69 : MW → Int32 → Option (Int32 × MW)) (M : MW) (l1 : Int32) : Option (Int32 × MW) :=
  if (20 : Int32) ≤ l1 then some ((M.1 8), M)
  else (rd (M.2 79) 20 l1).bind fun v9 =>
  if inb l1 20 then bd (mA M 86 l1 v9) fun M12 =>
  (rd (M12.2 80) 20 l1).bind fun v14 =>
  if inb l1 20 then bd (mA M12 87 l1 v14) fun M17 =>
  K69 M17 (l1 + (1 : Int32))
  else none
  else none
def fX10_image_b67 (M : MW) : Option (Int32 × MW) :=
  lo2 (fX10_image_l69) FU M (0 : Int32)
def fX10_image_l31 (K31 : MW → Int32 → Option (Int32 × MW)) (M : MW) (l1 : Int32) : Option (Int32 × MW) :=
  if (6 : Int32) ≤ l1 then fX10_image_b67 M
  else (rd (M.2 77) 6 l1).bind fun v20 =>
  if inb l1 6 then bd (mA M 84 l1 v20) fun M23 =>
  (rd (M23.2 78) 6 l1).bind fun v25 =>
  if inb l1 6 then bd (mA M23 85 l1 v25) fun M28 =>
  K31 M28 (l1 + (1 : Int32))
  else none
  else none
def fX10_image (M : MW) : Option (Int32 × MW) :=
  bd (mI M 23 (1 : Int32)) fun M1 =>
  bd (mI M1 24 (M1.1 7)) fun M3 =>
  bd (mI M3 25 (M3.1 8)) fun M5 =>
  bd (mI M5 26 (M5.1 22)) fun M7 =>
  lo2 (fX10_image_l31) FU M7 (0 : Int32)
set_option maxRecDepth 100000 in
set_option maxHeartbeats 4000000 in
theorem c_X10_image {l : Launch} {s0 : State} {D : va_G} {ev : Nat → Nat} (G0 : Gl s0 D ev) {X : XW} {M : MW} {nb : Nat}  {r' : Int32} {M' : MW}  (h : fX10_image M = some (r', M')) : CT l s0 D ev yX10_image cX10_image 2 (some .int) 0 0 0 [.ref (ev 0 + 65)] (cells ev X M (nb + 1)) (QI s0 D ev r' (cells ev X M' (nb + 1))) := by
  refine ct_of G0 (by decide) (Nat.le_of_ble_eq_true rfl) ?_
  intro p9 e9 s9 m9 args9 below9 meth9 c9 F hr9 hl9 hin9 hargs9 hts9
  have L69 : ∀  (N69 : Nat) (M : MW) (l1 : Int32), lo2 (fX10_image_l69) N69 M l1 = some (r', M') → GJ p9 l e9 (rg 0 0 0) s9 m9 args9 below9 meth9 c9 (MQ below9 (QI s0 D ev r' (cells ev X M' (nb + 1))) args9 s9 0 0 (frA ev)) s0 D ev 2 0 0 69 [(0, .ref (ev 0 + 65)), (1, .int l1)] ([]) (cells ev X M (nb + 1)) := by
    intro  N69
    induction N69 with
    | zero => intro M l1 h; cases h
    | succ N69 ih69 =>
      intro M l1 h
      change fX10_image_l69 (lo2 (fX10_image_l69) N69) M l1 = some (r', M') at h
      rw [fX10_image_l69] at h
      refine g_iload_n (i := 1) F dX10_image_69 rfl rfl ?_
      refine g_bipush F dX10_image_70 (v := 20) (by decide) ?_
      refine g_icmp_ge (tgt := 105) F dX10_image_72 (by decide) h (fun a19 h => ?_) (fun a19 h => ?_)
      · refine g_aload_n (i := 0) F dX10_image_105 rfl rfl ?_
        refine g_get_10_8 F wd_18_18 dX10_image_106 ?_
        have hp := Prod.mk.inj (Option.some.inj h)
        exact g_iret F hr9 rfl hl9 hp.1 (by rw [hp.2]) (by decide) (by decide) dX10_image_109
      · refine g_aload_n (i := 0) F dX10_image_75 rfl rfl ?_
        refine g_get_10_29 F wd_12_10 dX10_image_76 ?_
        refine g_iload_n (i := 1) F dX10_image_79 rfl rfl ?_
        refine g_aload_n (i := 0) F dX10_image_80 rfl rfl ?_
        refine g_get_10_15 F wd_12_3 dX10_image_81 ?_
        refine g_iload_n (i := 1) F dX10_image_84 rfl rfl ?_
        obtain ⟨v9, e10, h⟩ := bind_at h
        refine g_ildM F rfl rfl e10 dX10_image_85 ?_
        obtain ⟨h11, h⟩ := if_at h
        obtain ⟨M12, e13, h⟩ := bd_at h
        refine g_istM F rfl rfl h11 dX10_image_86 ?_
        rw [← e13]
        refine g_aload_n (i := 0) F dX10_image_87 rfl rfl ?_
        refine g_get_10_30 F wd_12_11 dX10_image_88 ?_
        refine g_iload_n (i := 1) F dX10_image_91 rfl rfl ?_
        refine g_aload_n (i := 0) F dX10_image_92 rfl rfl ?_
        refine g_get_10_16 F wd_12_4 dX10_image_93 ?_
        refine g_iload_n (i := 1) F dX10_image_96 rfl rfl ?_
        obtain ⟨v14, e15, h⟩ := bind_at h
        refine g_ildM F rfl rfl e15 dX10_image_97 ?_
        obtain ⟨h16, h⟩ := if_at h
        obtain ⟨M17, e18, h⟩ := bd_at h
        refine g_istM F rfl rfl h16 dX10_image_98 ?_
        rw [← e18]
        refine g_iinc (i := 1) (v := (l1 + (1 : Int32))) (lv' := [(1, .int (l1 + (1 : Int32))), (0, .ref (ev 0 + 65))]) F dX10_image_99 rfl rfl (by decide) rfl ?_
        refine g_goto (tgt := 69) F dX10_image_102 (by decide) ?_
        refine g_lv (lv' := [(0, .ref (ev 0 + 65)), (1, .int (l1 + (1 : Int32)))]) ⟨rfl, rfl, trivial⟩ ?_
        exact ih69 _ _ h
  have U67 : ∀ (M : MW), fX10_image_b67 M = some (r', M') → GJ p9 l e9 (rg 0 0 0) s9 m9 args9 below9 meth9 c9 (MQ below9 (QI s0 D ev r' (cells ev X M' (nb + 1))) args9 s9 0 0 (frA ev)) s0 D ev 2 0 0 67 [(0, .ref (ev 0 + 65))] ([]) (cells ev X M (nb + 1)) := by
    intro M h
    rw [fX10_image_b67] at h
    refine g_iconst F dX10_image_67 (v := 0) (by decide) ?_
    refine g_istore_n (i := 1) (lv' := [(1, .int (0 : Int32)), (0, .ref (ev 0 + 65))]) F dX10_image_68 rfl (by decide) rfl ?_
    refine g_lv (lv' := [(0, .ref (ev 0 + 65)), (1, .int (0 : Int32))]) ⟨rfl, rfl, trivial⟩ ?_
    exact L69 FU _ _ h
  have L31 : ∀  (N31 : Nat) (M : MW) (l1 : Int32), lo2 (fX10_image_l31) N31 M l1 = some (r', M') → GJ p9 l e9 (rg 0 0 0) s9 m9 args9 below9 meth9 c9 (MQ below9 (QI s0 D ev r' (cells ev X M' (nb + 1))) args9 s9 0 0 (frA ev)) s0 D ev 2 0 0 31 [(0, .ref (ev 0 + 65)), (1, .int l1)] ([]) (cells ev X M (nb + 1)) := by
    intro  N31
    induction N31 with
    | zero => intro M l1 h; cases h
    | succ N31 ih31 =>
      intro M l1 h
      change fX10_image_l31 (lo2 (fX10_image_l31) N31) M l1 = some (r', M') at h
      rw [fX10_image_l31] at h
      refine g_iload_n (i := 1) F dX10_image_31 rfl rfl ?_
      refine g_bipush F dX10_image_32 (v := 6) (by decide) ?_
      refine g_icmp_ge (tgt := 67) F dX10_image_34 (by decide) h (fun a30 h => ?_) (fun a30 h => ?_)
      · refine g_lv (lv' := [(0, .ref (ev 0 + 65))]) ⟨rfl, trivial⟩ ?_
        exact U67 _ h
      · refine g_aload_n (i := 0) F dX10_image_37 rfl rfl ?_
        refine g_get_10_27 F wd_12_8 dX10_image_38 ?_
        refine g_iload_n (i := 1) F dX10_image_41 rfl rfl ?_
        refine g_aload_n (i := 0) F dX10_image_42 rfl rfl ?_
        refine g_get_10_13 F wd_12_1 dX10_image_43 ?_
        refine g_iload_n (i := 1) F dX10_image_46 rfl rfl ?_
        obtain ⟨v20, e21, h⟩ := bind_at h
        refine g_ildM F rfl rfl e21 dX10_image_47 ?_
        obtain ⟨h22, h⟩ := if_at h
        obtain ⟨M23, e24, h⟩ := bd_at h
        refine g_istM F rfl rfl h22 dX10_image_48 ?_
        rw [← e24]
        refine g_aload_n (i := 0) F dX10_image_49 rfl rfl ?_
        refine g_get_10_28 F wd_12_9 dX10_image_50 ?_
        refine g_iload_n (i := 1) F dX10_image_53 rfl rfl ?_
        refine g_aload_n (i := 0) F dX10_image_54 rfl rfl ?_
        refine g_get_10_14 F wd_12_2 dX10_image_55 ?_
        refine g_iload_n (i := 1) F dX10_image_58 rfl rfl ?_
        obtain ⟨v25, e26, h⟩ := bind_at h
        refine g_ildM F rfl rfl e26 dX10_image_59 ?_
        obtain ⟨h27, h⟩ := if_at h
        obtain ⟨M28, e29, h⟩ := bd_at h
        refine g_istM F rfl rfl h27 dX10_image_60 ?_
        rw [← e29]
        refine g_iinc (i := 1) (v := (l1 + (1 : Int32))) (lv' := [(1, .int (l1 + (1 : Int32))), (0, .ref (ev 0 + 65))]) F dX10_image_61 rfl rfl (by decide) rfl ?_
        refine g_goto (tgt := 31) F dX10_image_64 (by decide) ?_
        refine g_lv (lv' := [(0, .ref (ev 0 + 65)), (1, .int (l1 + (1 : Int32)))]) ⟨rfl, rfl, trivial⟩ ?_
        exact ih31 _ _ h
  rw [fX10_image] at h
  refine g_lv (lv' := [(0, .ref (ev 0 + 65))]) ⟨rfl, trivial⟩ ?_
  refine g_aload_n (i := 0) F dX10_image_0 rfl rfl ?_
  refine g_iconst F dX10_image_1 (v := 1) (by decide) ?_
  obtain ⟨M1, e2, h⟩ := bd_at h
  refine g_put_10_23 F (by decide) wd_49_21 dX10_image_2 ?_
  rw [← e2]
  refine g_aload_n (i := 0) F dX10_image_5 rfl rfl ?_
  refine g_aload_n (i := 0) F dX10_image_6 rfl rfl ?_
  refine g_get_10_7 F wd_18_17 dX10_image_7 ?_
  obtain ⟨M3, e4, h⟩ := bd_at h
  refine g_put_10_24 F wd_49_22 dX10_image_10 ?_
  rw [← e4]
  refine g_aload_n (i := 0) F dX10_image_13 rfl rfl ?_
  refine g_aload_n (i := 0) F dX10_image_14 rfl rfl ?_
  refine g_get_10_8 F wd_18_18 dX10_image_15 ?_
  obtain ⟨M5, e6, h⟩ := bd_at h
  refine g_put_10_25 F wd_49_23 dX10_image_18 ?_
  rw [← e6]
  refine g_aload_n (i := 0) F dX10_image_21 rfl rfl ?_
  refine g_aload_n (i := 0) F dX10_image_22 rfl rfl ?_
  refine g_get_10_22 F wd_18_19 dX10_image_23 ?_
  obtain ⟨M7, e8, h⟩ := bd_at h
  refine g_put_10_26 F wd_50_0 dX10_image_26 ?_
  rw [← e8]
  refine g_iconst F dX10_image_29 (v := 0) (by decide) ?_
  refine g_istore_n (i := 1) (lv' := [(1, .int (0 : Int32)), (0, .ref (ev 0 + 65))]) F dX10_image_30 rfl (by decide) rfl ?_
  refine g_lv (lv' := [(0, .ref (ev 0 + 65)), (1, .int (0 : Int32))]) ⟨rfl, rfl, trivial⟩ ?_
  exact L31 FU _ _ h

def fX9_drawn (X : XW) (nb : Nat) (l1 : Int32) (l2 : Int32) (l3 : Int32) (l4 : Int32) : Option (Int32 × XW) :=
  (fX9_boatOf X l3).bind fun r1 =>
  oc r1 (some ((-5 : Int32), X)) (fun b3 => if (fX9_within l1 (0 : Int32) (99999 : Int32)) = 0 then some ((-7 : Int32), X)
  else if (fX9_isNight X l2) = 0 then some ((-7 : Int32), X)
  else if (fX9_within l4 (0 : Int32) (2 : Int32)) = 0 then some ((-7 : Int32), X)
  else (fX9_draw X l1).bind fun X11 =>
  bd (xR X11 10 4 (some 16)) fun X13 =>
  bd2 (fX9_sailed X13 nb l3 b3 l2) fun r16 X15 =>
  bd (xR X15 10 4 (some 5)) fun X18 =>
  if l4 = (0 : Int32) then (r16).bind fun b22 =>
  if kd b22 = 2 then some ((X18.1 b22 1), X18) else none
  else if l4 = (1 : Int32) then (r16).bind fun b25 =>
  if kd b25 = 2 then some ((X18.1 b25 2), X18) else none
  else (r16).bind fun b28 =>
  if kd b28 = 2 then some ((X18.1 b28 3), X18) else none)
set_option maxRecDepth 100000 in
set_option maxHeartbeats 4000000 in
theorem c_X9_drawn {l : Launch} {s0 : State} {D : va_G} {ev : Nat → Nat} (G0 : Gl s0 D ev) {X : XW} {M : MW} {nb : Nat} {l1 : Int32} {l2 : Int32} {l3 : Int32} {l4 : Int32} {r' : Int32} {X' : XW}  (h : fX9_drawn X nb l1 l2 l3 l4 = some (r', X')) : CT l s0 D ev yX9_drawn cX9_drawn 7 (some .int) 7 0 0 [.ref (ev 0 + 0), .int l1, .int l2, .int l3, .int l4] (cells ev X M nb) (QI s0 D ev r' (cells ev X' M nb)) := by
  refine ct_of G0 (by decide) (Nat.le_of_ble_eq_true rfl) ?_
  intro p9 e9 s9 m9 args9 below9 meth9 c9 F hr9 hl9 hin9 hargs9 hts9
  rw [fX9_drawn] at h
  refine g_lv (lv' := [(0, .ref (ev 0 + 0)), (1, .int l1), (2, .int l2), (3, .int l3), (4, .int l4)]) ⟨rfl, rfl, rfl, rfl, rfl, trivial⟩ ?_
  refine g_aload_n (i := 0) F dX9_drawn_0 rfl rfl ?_
  refine g_iload_n (i := 3) F dX9_drawn_1 rfl rfl ?_
  obtain ⟨r1, e2, h⟩ := bind_at h
  refine g_callVR F (mcR := 0) (msR := 0) (id := 0) (cells_at (kd_lit (i := 0) (by decide)) (xc_9 rfl)) (ci := 9) rfl rfl rfl (c_X9_boatOf G0 e2) wd_22_23 wd_22_20 wd_22_21 wd_22_22 wd_1_2 ⟨by decide, by decide⟩ (nn := 1) (by decide) (As := [.int l3]) rfl rfl (Nat.le_of_ble_eq_true rfl) (by decide) (by decide) ⟨by decide, by decide⟩ dX9_drawn_2 ?_
  refine g_zastore (i := 5) (lv' := [(5, zr ev r1), (0, .ref (ev 0 + 0)), (1, .int l1), (2, .int l2), (3, .int l3), (4, .int l4)]) F dX9_drawn_5 (by decide) rfl ?_
  refine g_zaload (i := 5) F dX9_drawn_7 rfl ?_
  rcases oc_at h with ⟨e4, h⟩ | ⟨b3, e4, h⟩
  · rw [e4]
    refine g_ifnnN F dX9_drawn_9 ?_
    refine g_bipush F dX9_drawn_12 (v := -5) (by decide) ?_
    have hp := Prod.mk.inj (Option.some.inj h)
    exact g_iret F hr9 rfl hl9 hp.1 (by rw [hp.2]) (by decide) (by decide) dX9_drawn_14
  · rw [e4]
    refine g_ifnn (tgt := 15) F dX9_drawn_9 (by decide) ?_
    refine g_iload_n (i := 1) F dX9_drawn_15 rfl rfl ?_
    refine g_iconst F dX9_drawn_16 (v := 0) (by decide) ?_
    refine g_ldcw F dX9_drawn_17 wd_47_20 ?_
    refine g_callSI F (mcR := 0) (msR := 0) (c_X9_within G0 (X := X) (M := M) (nb := nb) rfl) wd_9_7 wd_15_21 wd_9_6 wd_1_2 ⟨by decide, by decide⟩ (nn := 3) (by decide) (As := [.int l1, .int (0 : Int32), .int (99999 : Int32)]) rfl rfl (Nat.le_of_ble_eq_true rfl) (by decide) (by decide) ⟨by decide, by decide⟩ dX9_drawn_20 ?_
    refine g_if_eq (tgt := 44) F dX9_drawn_23 (by decide) h (fun a33 h => ?_) (fun a33 h => ?_)
    · refine g_bipush F dX9_drawn_44 (v := -7) (by decide) ?_
      have hp := Prod.mk.inj (Option.some.inj h)
      exact g_iret F hr9 rfl hl9 hp.1 (by rw [hp.2]) (by decide) (by decide) dX9_drawn_46
    · refine g_aload_n (i := 0) F dX9_drawn_26 rfl rfl ?_
      refine g_iload_n (i := 2) F dX9_drawn_27 rfl rfl ?_
      refine g_callVI F (mcR := 0) (msR := 0) (id := 0) (cells_at (kd_lit (i := 0) (by decide)) (xc_9 rfl)) (ci := 9) rfl rfl rfl (c_X9_isNight G0 (X := X) (M := M) (nb := nb) rfl) wd_27_7 wd_27_4 wd_27_5 wd_27_6 wd_1_2 ⟨by decide, by decide⟩ (nn := 1) (by decide) (As := [.int l2]) rfl rfl (Nat.le_of_ble_eq_true rfl) (by decide) (by decide) ⟨by decide, by decide⟩ dX9_drawn_28 ?_
      refine g_if_eq (tgt := 44) F dX9_drawn_31 (by decide) h (fun a32 h => ?_) (fun a32 h => ?_)
      · refine g_bipush F dX9_drawn_44 (v := -7) (by decide) ?_
        have hp := Prod.mk.inj (Option.some.inj h)
        exact g_iret F hr9 rfl hl9 hp.1 (by rw [hp.2]) (by decide) (by decide) dX9_drawn_46
      · refine g_iload (i := 4) F dX9_drawn_34 rfl ?_
        refine g_iconst F dX9_drawn_36 (v := 0) (by decide) ?_
        refine g_iconst F dX9_drawn_37 (v := 2) (by decide) ?_
        refine g_callSI F (mcR := 0) (msR := 0) (c_X9_within G0 (X := X) (M := M) (nb := nb) rfl) wd_9_7 wd_15_21 wd_9_6 wd_1_2 ⟨by decide, by decide⟩ (nn := 3) (by decide) (As := [.int l4, .int (0 : Int32), .int (2 : Int32)]) rfl rfl (Nat.le_of_ble_eq_true rfl) (by decide) (by decide) ⟨by decide, by decide⟩ dX9_drawn_38 ?_
        refine g_if_ne (tgt := 47) F dX9_drawn_41 (by decide) h (fun a31 h => ?_) (fun a31 h => ?_)
        · refine g_aload_n (i := 0) F dX9_drawn_47 rfl rfl ?_
          refine g_iload_n (i := 1) F dX9_drawn_48 rfl rfl ?_
          obtain ⟨X11, e12, h⟩ := bind_at h
          refine g_callVV F (mcR := 0) (msR := 0) (id := 0) (cells_at (kd_lit (i := 0) (by decide)) (xc_9 rfl)) (ci := 9) rfl rfl rfl (c_X9_draw G0 e12) wd_48_2 wd_47_23 wd_48_0 wd_48_1 wd_1_2 ⟨by decide, by decide⟩ (nn := 1) (by decide) (As := [.int l1]) rfl rfl (Nat.le_of_ble_eq_true rfl) (by decide) (by decide) ⟨by decide, by decide⟩ dX9_drawn_49 ?_
          refine g_aload_n (i := 0) F dX9_drawn_52 rfl rfl ?_
          refine g_get_9_3 F rfl (kd_lit (by decide)) wd_2_1 dX9_drawn_53 ?_
          refine g_aload_n (i := 0) F dX9_drawn_56 rfl rfl ?_
          refine g_get_9_7 F rfl (kd_lit (by decide)) wd_2_8 dX9_drawn_57 ?_
          obtain ⟨X13, e14, h⟩ := bd_at h
          refine g_put_7_4 F (v := (some 16)) rfl rfl (kd_lit (by decide)) wd_47_21 dX9_drawn_60 ?_
          rw [← e14]
          refine g_aload_n (i := 0) F dX9_drawn_63 rfl rfl ?_
          refine g_iload_n (i := 3) F dX9_drawn_64 rfl rfl ?_
          refine g_aload (i := 5) F dX9_drawn_65 rfl ?_
          refine g_iload_n (i := 2) F dX9_drawn_67 rfl rfl ?_
          obtain ⟨r16, X15, e17, h⟩ := bd2_at h
          refine g_callVR F (mcR := 0) (msR := 0) (id := 0) (cells_at (kd_lit (i := 0) (by decide)) (xc_9 rfl)) (ci := 9) rfl rfl rfl (c_X9_sailed G0 e17) wd_27_11 wd_27_8 wd_27_9 wd_27_10 wd_1_2 ⟨by decide, by decide⟩ (nn := 3) (by decide) (As := [.int l3, .ref (ev 0 + b3), .int l2]) rfl rfl (Nat.le_of_ble_eq_true rfl) (by decide) (by decide) ⟨by decide, by decide⟩ dX9_drawn_68 ?_
          refine g_zastore (i := 6) (lv' := [(6, zr ev r16), (5, .ref (ev 0 + b3)), (0, .ref (ev 0 + 0)), (1, .int l1), (2, .int l2), (3, .int l3), (4, .int l4)]) F dX9_drawn_71 (by decide) rfl ?_
          refine g_aload_n (i := 0) F dX9_drawn_73 rfl rfl ?_
          refine g_get_9_3 F rfl (kd_lit (by decide)) wd_2_1 dX9_drawn_74 ?_
          refine g_aload_n (i := 0) F dX9_drawn_77 rfl rfl ?_
          refine g_get_9_0 F rfl (kd_lit (by decide)) wd_1_15 dX9_drawn_78 ?_
          refine g_get_0_3 F rfl (kd_lit (by decide)) wd_47_22 dX9_drawn_81 ?_
          obtain ⟨X18, e19, h⟩ := bd_at h
          refine g_put_7_4 F (v := (some 5)) rfl rfl (kd_lit (by decide)) wd_47_21 dX9_drawn_84 ?_
          rw [← e19]
          refine g_iload (i := 4) F dX9_drawn_87 rfl ?_
          refine ite_at h (fun a20 h => ?_) (fun a20 h => ?_)
          · refine g_lsw (tgt := 116) F (off := 27) (by rw [a20]; decide) dX9_drawn_89 (by decide) (by decide) ?_
            refine g_zaload (i := 6) F dX9_drawn_116 rfl ?_
            obtain ⟨b22, e23, h⟩ := bind_at h
            rw [e23]
            obtain ⟨h24, h⟩ := if_at h
            refine g_get_2_1 F h24 (kd_hid h24 (by decide)) wd_27_1 dX9_drawn_118 ?_
            have hp := Prod.mk.inj (Option.some.inj h)
            exact g_iret F hr9 rfl hl9 hp.1 (by rw [hp.2]) (by decide) (by decide) dX9_drawn_121
          · refine ite_at h (fun a21 h => ?_) (fun a21 h => ?_)
            · refine g_lsw (tgt := 122) F (off := 33) (by rw [a21]; decide) dX9_drawn_89 (by decide) (by decide) ?_
              refine g_zaload (i := 6) F dX9_drawn_122 rfl ?_
              obtain ⟨b25, e26, h⟩ := bind_at h
              rw [e26]
              obtain ⟨h27, h⟩ := if_at h
              refine g_get_2_2 F h27 (kd_hid h27 (by decide)) wd_27_2 dX9_drawn_124 ?_
              have hp := Prod.mk.inj (Option.some.inj h)
              exact g_iret F hr9 rfl hl9 hp.1 (by rw [hp.2]) (by decide) (by decide) dX9_drawn_127
            · refine g_lsw (tgt := 128) F (off := 39) ((lv_osw (k := 0) a20 (by decide)).trans ((lv_osw (k := 1) a21 (by decide)).trans (rfl))) dX9_drawn_89 (by decide) (by decide) ?_
              refine g_zaload (i := 6) F dX9_drawn_128 rfl ?_
              obtain ⟨b28, e29, h⟩ := bind_at h
              rw [e29]
              obtain ⟨h30, h⟩ := if_at h
              refine g_get_2_3 F h30 (kd_hid h30 (by decide)) wd_27_3 dX9_drawn_130 ?_
              have hp := Prod.mk.inj (Option.some.inj h)
              exact g_iret F hr9 rfl hl9 hp.1 (by rw [hp.2]) (by decide) (by decide) dX9_drawn_133
        · refine g_bipush F dX9_drawn_44 (v := -7) (by decide) ?_
          have hp := Prod.mk.inj (Option.some.inj h)
          exact g_iret F hr9 rfl hl9 hp.1 (by rw [hp.2]) (by decide) (by decide) dX9_drawn_46
def fX9_chance_b139 (nb : Nat) (X : XW) (l4 : Int32) (l6 : Int32) (l7 : Int32) : Option (Int64 × XW) :=
  bd (xR X 10 4 (some 5)) fun X17 =>
  (fX9_partOf l7 l6 l4).bind fun v19 =>
  some (v19, X17)
def fX9_chance_l84 (nb : Nat) (l2f84 : Int32) (l3f84 : Int32) (l4f84 : Int32) (l5f84 : Option Nat) (l6f84 : Int32) (K84 : XW → Int32 → Int32 → Option (Int64 × XW)) (X : XW) (l7 : Int32) (l8 : Int32) : Option (Int64 × XW) :=
  if l6f84 ≤ l8 then fX9_chance_b139 nb X l4f84 l6f84 l7
  else (fX9_draw X (l2f84 + l8)).bind fun X21 =>
  (l5f84).bind fun b23 =>
  if NS ≤ b23 ∧ b23 < TT nb then (fX1_isGone X21 nb b23).bind fun v26 =>
  if v26 = 0 then bd2 (fX9_stays X21 nb b23 (X21.1 b23 4) (X21.1 b23 5) (jrem l3f84 (100 : Int32))) fun v29 X28 =>
  if v29 = 0 then K84 X28 l7 (l8 + (1 : Int32))
  else K84 X28 (l7 + (1 : Int32)) (l8 + (1 : Int32))
  else K84 X21 (l7 + (1 : Int32)) (l8 + (1 : Int32)) else none
def fX9_chance (X : XW) (nb : Nat) (l1 : Int32) (l2 : Int32) (l3 : Int32) (l4 : Int32) : Option (Int64 × XW) :=
  (fX9_boatOf X l1).bind fun r1 =>
  oc r1 (some ((-4611686018427387904 : Int64), X)) (fun b3 => if (fX9_within l2 (0 : Int32) (99999 : Int32)) = 0 then some ((-4611686018427387904 : Int64), X)
  else if (fX9_within (l3 / (100 : Int32)) (1 : Int32) (20 : Int32)) = 0 then some ((-4611686018427387904 : Int64), X)
  else if (fX9_isNight X (jrem l3 (100 : Int32))) = 0 then some ((-4611686018427387904 : Int64), X)
  else if (fX9_within l4 (0 : Int32) (1 : Int32)) = 0 then some ((-4611686018427387904 : Int64), X)
  else bd (l3 / (100 : Int32)) fun v13 =>
  bd (xR X 10 4 (some 16)) fun X15 =>
  lo3 (fX9_chance_l84 nb l2 l3 l4 (some b3) v13) FU X15 (0 : Int32) (0 : Int32))
set_option maxRecDepth 100000 in
set_option maxHeartbeats 4000000 in
theorem c_X9_chance {l : Launch} {s0 : State} {D : va_G} {ev : Nat → Nat} (G0 : Gl s0 D ev) {X : XW} {M : MW} {nb : Nat} {l1 : Int32} {l2 : Int32} {l3 : Int32} {l4 : Int32} {r' : Int64} {X' : XW}  (h : fX9_chance X nb l1 l2 l3 l4 = some (r', X')) : CT l s0 D ev yX9_chance cX9_chance 9 (some .long) 6 0 0 [.ref (ev 0 + 0), .int l1, .int l2, .int l3, .int l4] (cells ev X M nb) (QL s0 D ev r' (cells ev X' M nb)) := by
  refine ct_of G0 (by decide) (Nat.le_of_ble_eq_true rfl) ?_
  intro p9 e9 s9 m9 args9 below9 meth9 c9 F hr9 hl9 hin9 hargs9 hts9
  have U139 : ∀ (X : XW) (l4 : Int32) (l6 : Int32) (l7 : Int32), fX9_chance_b139 nb X l4 l6 l7 = some (r', X') → GJ p9 l e9 (rg 6 0 0) s9 m9 args9 below9 meth9 c9 (MQ below9 (QL s0 D ev r' (cells ev X' M nb)) args9 s9 0 0 (frA ev)) s0 D ev 9 0 0 139 [(0, .ref (ev 0 + 0)), (4, .int l4), (6, .int l6), (7, .int l7)] ([]) (cells ev X M nb) := by
    intro X l4 l6 l7 h
    rw [fX9_chance_b139] at h
    refine g_aload_n (i := 0) F dX9_chance_139 rfl rfl ?_
    refine g_get_9_3 F rfl (kd_lit (by decide)) wd_2_1 dX9_chance_140 ?_
    refine g_aload_n (i := 0) F dX9_chance_143 rfl rfl ?_
    refine g_get_9_0 F rfl (kd_lit (by decide)) wd_1_15 dX9_chance_144 ?_
    refine g_get_0_3 F rfl (kd_lit (by decide)) wd_47_22 dX9_chance_147 ?_
    obtain ⟨X17, e18, h⟩ := bd_at h
    refine g_put_7_4 F (v := (some 5)) rfl rfl (kd_lit (by decide)) wd_47_21 dX9_chance_150 ?_
    rw [← e18]
    refine g_iload (i := 7) F dX9_chance_153 rfl ?_
    refine g_iload (i := 6) F dX9_chance_155 rfl ?_
    refine g_iload (i := 4) F dX9_chance_157 rfl ?_
    obtain ⟨v19, e20, h⟩ := bind_at h
    refine g_callSL F (mcR := 0) (msR := 0) (c_X9_partOf G0 e20) wd_42_23 wd_42_21 wd_42_22 wd_1_2 ⟨by decide, by decide⟩ (nn := 3) (by decide) (As := [.int l7, .int l6, .int l4]) rfl rfl (Nat.le_of_ble_eq_true rfl) (by decide) (by decide) ⟨by decide, by decide⟩ dX9_chance_159 ?_
    have hp := Prod.mk.inj (Option.some.inj h)
    exact g_lret F hr9 hl9 hp.1 (by rw [hp.2]) (by decide) (by decide) dX9_chance_162
  have L84 : ∀ (l2f84 : Int32) (l3f84 : Int32) (l4f84 : Int32) (l5f84 : Option Nat) (l6f84 : Int32) (N84 : Nat) (X : XW) (l7 : Int32) (l8 : Int32), lo3 (fX9_chance_l84 nb l2f84 l3f84 l4f84 l5f84 l6f84) N84 X l7 l8 = some (r', X') → GJ p9 l e9 (rg 6 0 0) s9 m9 args9 below9 meth9 c9 (MQ below9 (QL s0 D ev r' (cells ev X' M nb)) args9 s9 0 0 (frA ev)) s0 D ev 9 0 0 84 [(0, .ref (ev 0 + 0)), (2, .int l2f84), (3, .int l3f84), (4, .int l4f84), (5, zr ev l5f84), (6, .int l6f84), (7, .int l7), (8, .int l8)] ([]) (cells ev X M nb) := by
    intro l2f84 l3f84 l4f84 l5f84 l6f84 N84
    induction N84 with
    | zero => intro X l7 l8 h; cases h
    | succ N84 ih84 =>
      intro X l7 l8 h
      change fX9_chance_l84 nb l2f84 l3f84 l4f84 l5f84 l6f84 (lo3 (fX9_chance_l84 nb l2f84 l3f84 l4f84 l5f84 l6f84) N84) X l7 l8 = some (r', X') at h
      rw [fX9_chance_l84] at h
      refine g_iload (i := 8) F dX9_chance_84 rfl ?_
      refine g_iload (i := 6) F dX9_chance_86 rfl ?_
      refine g_icmp_ge (tgt := 139) F dX9_chance_88 (by decide) h (fun a33 h => ?_) (fun a33 h => ?_)
      · refine g_lv (lv' := [(0, .ref (ev 0 + 0)), (4, .int l4f84), (6, .int l6f84), (7, .int l7)]) ⟨rfl, rfl, rfl, rfl, trivial⟩ ?_
        exact U139 _ _ _ _ h
      · refine g_aload_n (i := 0) F dX9_chance_91 rfl rfl ?_
        refine g_iload_n (i := 2) F dX9_chance_92 rfl rfl ?_
        refine g_iload (i := 8) F dX9_chance_93 rfl ?_
        refine g_iadd F dX9_chance_95 ?_
        obtain ⟨X21, e22, h⟩ := bind_at h
        refine g_callVV F (mcR := 0) (msR := 0) (id := 0) (cells_at (kd_lit (i := 0) (by decide)) (xc_9 rfl)) (ci := 9) rfl rfl rfl (c_X9_draw G0 e22) wd_48_2 wd_47_23 wd_48_0 wd_48_1 wd_1_2 ⟨by decide, by decide⟩ (nn := 1) (by decide) (As := [.int (l2f84 + l8)]) rfl rfl (Nat.le_of_ble_eq_true rfl) (by decide) (by decide) ⟨by decide, by decide⟩ dX9_chance_96 ?_
        refine g_zaload (i := 5) F dX9_chance_99 rfl ?_
        obtain ⟨b23, e24, h⟩ := bind_at h
        rw [e24]
        obtain ⟨h25, h⟩ := if_at h
        obtain ⟨v26, e27, h⟩ := bind_at h
        refine g_callVI F (mcR := 0) (msR := 0) (id := b23) (cells_at h25.2 (xc_1 (kd_b h25))) (ci := 1) rfl rfl rfl (c_X1_isGone G0 e27) wd_24_6 wd_24_3 wd_24_4 wd_24_5 wd_21_23 ⟨by decide, by decide⟩ (nn := 0) (by decide) (As := []) rfl rfl (Nat.le_of_ble_eq_true rfl) (by decide) (by decide) ⟨by decide, by decide⟩ dX9_chance_101 ?_
        refine g_if_ne (tgt := 130) F dX9_chance_104 (by decide) h (fun a32 h => ?_) (fun a32 h => ?_)
        · refine g_iinc (i := 7) (v := (l7 + (1 : Int32))) (lv' := [(7, .int (l7 + (1 : Int32))), (0, .ref (ev 0 + 0)), (2, .int l2f84), (3, .int l3f84), (4, .int l4f84), (5, .ref (ev 0 + b23)), (6, .int l6f84), (8, .int l8)]) F dX9_chance_130 rfl rfl (by decide) rfl ?_
          refine g_iinc (i := 8) (v := (l8 + (1 : Int32))) (lv' := [(8, .int (l8 + (1 : Int32))), (7, .int (l7 + (1 : Int32))), (0, .ref (ev 0 + 0)), (2, .int l2f84), (3, .int l3f84), (4, .int l4f84), (5, .ref (ev 0 + b23)), (6, .int l6f84)]) F dX9_chance_133 rfl rfl (by decide) rfl ?_
          refine g_goto (tgt := 84) F dX9_chance_136 (by decide) ?_
          refine g_lv (lv' := [(0, .ref (ev 0 + 0)), (2, .int l2f84), (3, .int l3f84), (4, .int l4f84), (5, zr ev l5f84), (6, .int l6f84), (7, .int (l7 + (1 : Int32))), (8, .int (l8 + (1 : Int32)))]) ⟨rfl, rfl, rfl, rfl, (by rw [e24]; rfl), rfl, rfl, rfl, trivial⟩ ?_
          exact ih84 _ _ _ h
        · refine g_aload_n (i := 0) F dX9_chance_107 rfl rfl ?_
          refine g_aload (i := 5) F dX9_chance_108 rfl ?_
          refine g_aload (i := 5) F dX9_chance_110 rfl ?_
          refine g_get_1_4 F (kd_b h25) h25.2 wd_22_18 dX9_chance_112 ?_
          refine g_aload (i := 5) F dX9_chance_115 rfl ?_
          refine g_get_1_5 F (kd_b h25) h25.2 wd_22_19 dX9_chance_117 ?_
          refine g_iload_n (i := 3) F dX9_chance_120 rfl rfl ?_
          refine g_bipush F dX9_chance_121 (v := 100) (by decide) ?_
          refine g_irem F dX9_chance_123 (by decide) ?_
          obtain ⟨v29, X28, e30, h⟩ := bd2_at h
          refine g_callVI F (mcR := 0) (msR := 0) (id := 0) (cells_at (kd_lit (i := 0) (by decide)) (xc_9 rfl)) (ci := 9) rfl rfl rfl (c_X9_stays G0 e30) wd_33_17 wd_33_14 wd_33_15 wd_33_16 wd_1_2 ⟨by decide, by decide⟩ (nn := 4) (by decide) (As := [.ref (ev 0 + b23), .int (X21.1 b23 4), .int (X21.1 b23 5), .int (jrem l3f84 (100 : Int32))]) rfl rfl (Nat.le_of_ble_eq_true rfl) (by decide) (by decide) ⟨by decide, by decide⟩ dX9_chance_124 ?_
          refine g_if_eq (tgt := 133) F dX9_chance_127 (by decide) h (fun a31 h => ?_) (fun a31 h => ?_)
          · refine g_iinc (i := 8) (v := (l8 + (1 : Int32))) (lv' := [(8, .int (l8 + (1 : Int32))), (0, .ref (ev 0 + 0)), (2, .int l2f84), (3, .int l3f84), (4, .int l4f84), (5, .ref (ev 0 + b23)), (6, .int l6f84), (7, .int l7)]) F dX9_chance_133 rfl rfl (by decide) rfl ?_
            refine g_goto (tgt := 84) F dX9_chance_136 (by decide) ?_
            refine g_lv (lv' := [(0, .ref (ev 0 + 0)), (2, .int l2f84), (3, .int l3f84), (4, .int l4f84), (5, zr ev l5f84), (6, .int l6f84), (7, .int l7), (8, .int (l8 + (1 : Int32)))]) ⟨rfl, rfl, rfl, rfl, (by rw [e24]; rfl), rfl, rfl, rfl, trivial⟩ ?_
            exact ih84 _ _ _ h
          · refine g_iinc (i := 7) (v := (l7 + (1 : Int32))) (lv' := [(7, .int (l7 + (1 : Int32))), (0, .ref (ev 0 + 0)), (2, .int l2f84), (3, .int l3f84), (4, .int l4f84), (5, .ref (ev 0 + b23)), (6, .int l6f84), (8, .int l8)]) F dX9_chance_130 rfl rfl (by decide) rfl ?_
            refine g_iinc (i := 8) (v := (l8 + (1 : Int32))) (lv' := [(8, .int (l8 + (1 : Int32))), (7, .int (l7 + (1 : Int32))), (0, .ref (ev 0 + 0)), (2, .int l2f84), (3, .int l3f84), (4, .int l4f84), (5, .ref (ev 0 + b23)), (6, .int l6f84)]) F dX9_chance_133 rfl rfl (by decide) rfl ?_
            refine g_goto (tgt := 84) F dX9_chance_136 (by decide) ?_
            refine g_lv (lv' := [(0, .ref (ev 0 + 0)), (2, .int l2f84), (3, .int l3f84), (4, .int l4f84), (5, zr ev l5f84), (6, .int l6f84), (7, .int (l7 + (1 : Int32))), (8, .int (l8 + (1 : Int32)))]) ⟨rfl, rfl, rfl, rfl, (by rw [e24]; rfl), rfl, rfl, rfl, trivial⟩ ?_
            exact ih84 _ _ _ h
  rw [fX9_chance] at h
  refine g_lv (lv' := [(0, .ref (ev 0 + 0)), (1, .int l1), (2, .int l2), (3, .int l3), (4, .int l4)]) ⟨rfl, rfl, rfl, rfl, rfl, trivial⟩ ?_
  refine g_aload_n (i := 0) F dX9_chance_0 rfl rfl ?_
  refine g_iload_n (i := 1) F dX9_chance_1 rfl rfl ?_
  obtain ⟨r1, e2, h⟩ := bind_at h
  refine g_callVR F (mcR := 0) (msR := 0) (id := 0) (cells_at (kd_lit (i := 0) (by decide)) (xc_9 rfl)) (ci := 9) rfl rfl rfl (c_X9_boatOf G0 e2) wd_22_23 wd_22_20 wd_22_21 wd_22_22 wd_1_2 ⟨by decide, by decide⟩ (nn := 1) (by decide) (As := [.int l1]) rfl rfl (Nat.le_of_ble_eq_true rfl) (by decide) (by decide) ⟨by decide, by decide⟩ dX9_chance_2 ?_
  refine g_zastore (i := 5) (lv' := [(5, zr ev r1), (0, .ref (ev 0 + 0)), (1, .int l1), (2, .int l2), (3, .int l3), (4, .int l4)]) F dX9_chance_5 (by decide) rfl ?_
  refine g_zaload (i := 5) F dX9_chance_7 rfl ?_
  rcases oc_at h with ⟨e4, h⟩ | ⟨b3, e4, h⟩
  · rw [e4]
    refine g_ifnN (tgt := 57) F dX9_chance_9 (by decide) ?_
    refine g_ldc2 F dX9_chance_57 wd_41_0 ?_
    have hp := Prod.mk.inj (Option.some.inj h)
    exact g_lret F hr9 hl9 hp.1 (by rw [hp.2]) (by decide) (by decide) dX9_chance_60
  · rw [e4]
    refine g_ifn F dX9_chance_9 ?_
    refine g_iload_n (i := 2) F dX9_chance_12 rfl rfl ?_
    refine g_iconst F dX9_chance_13 (v := 0) (by decide) ?_
    refine g_ldcw F dX9_chance_14 wd_47_20 ?_
    refine g_callSI F (mcR := 0) (msR := 0) (c_X9_within G0 (X := X) (M := M) (nb := nb) rfl) wd_9_7 wd_15_21 wd_9_6 wd_1_2 ⟨by decide, by decide⟩ (nn := 3) (by decide) (As := [.int l2, .int (0 : Int32), .int (99999 : Int32)]) rfl rfl (Nat.le_of_ble_eq_true rfl) (by decide) (by decide) ⟨by decide, by decide⟩ dX9_chance_17 ?_
    refine g_if_eq (tgt := 57) F dX9_chance_20 (by decide) h (fun a37 h => ?_) (fun a37 h => ?_)
    · refine g_ldc2 F dX9_chance_57 wd_41_0 ?_
      have hp := Prod.mk.inj (Option.some.inj h)
      exact g_lret F hr9 hl9 hp.1 (by rw [hp.2]) (by decide) (by decide) dX9_chance_60
    · refine g_iload_n (i := 3) F dX9_chance_23 rfl rfl ?_
      refine g_bipush F dX9_chance_24 (v := 100) (by decide) ?_
      refine g_idiv F dX9_chance_26 (by decide) ?_
      refine g_iconst F dX9_chance_27 (v := 1) (by decide) ?_
      refine g_bipush F dX9_chance_28 (v := 20) (by decide) ?_
      refine g_callSI F (mcR := 0) (msR := 0) (c_X9_within G0 (X := X) (M := M) (nb := nb) rfl) wd_9_7 wd_15_21 wd_9_6 wd_1_2 ⟨by decide, by decide⟩ (nn := 3) (by decide) (As := [.int (l3 / (100 : Int32)), .int (1 : Int32), .int (20 : Int32)]) rfl rfl (Nat.le_of_ble_eq_true rfl) (by decide) (by decide) ⟨by decide, by decide⟩ dX9_chance_30 ?_
      refine g_if_eq (tgt := 57) F dX9_chance_33 (by decide) h (fun a36 h => ?_) (fun a36 h => ?_)
      · refine g_ldc2 F dX9_chance_57 wd_41_0 ?_
        have hp := Prod.mk.inj (Option.some.inj h)
        exact g_lret F hr9 hl9 hp.1 (by rw [hp.2]) (by decide) (by decide) dX9_chance_60
      · refine g_aload_n (i := 0) F dX9_chance_36 rfl rfl ?_
        refine g_iload_n (i := 3) F dX9_chance_37 rfl rfl ?_
        refine g_bipush F dX9_chance_38 (v := 100) (by decide) ?_
        refine g_irem F dX9_chance_40 (by decide) ?_
        refine g_callVI F (mcR := 0) (msR := 0) (id := 0) (cells_at (kd_lit (i := 0) (by decide)) (xc_9 rfl)) (ci := 9) rfl rfl rfl (c_X9_isNight G0 (X := X) (M := M) (nb := nb) rfl) wd_27_7 wd_27_4 wd_27_5 wd_27_6 wd_1_2 ⟨by decide, by decide⟩ (nn := 1) (by decide) (As := [.int (jrem l3 (100 : Int32))]) rfl rfl (Nat.le_of_ble_eq_true rfl) (by decide) (by decide) ⟨by decide, by decide⟩ dX9_chance_41 ?_
        refine g_if_eq (tgt := 57) F dX9_chance_44 (by decide) h (fun a35 h => ?_) (fun a35 h => ?_)
        · refine g_ldc2 F dX9_chance_57 wd_41_0 ?_
          have hp := Prod.mk.inj (Option.some.inj h)
          exact g_lret F hr9 hl9 hp.1 (by rw [hp.2]) (by decide) (by decide) dX9_chance_60
        · refine g_iload (i := 4) F dX9_chance_47 rfl ?_
          refine g_iconst F dX9_chance_49 (v := 0) (by decide) ?_
          refine g_iconst F dX9_chance_50 (v := 1) (by decide) ?_
          refine g_callSI F (mcR := 0) (msR := 0) (c_X9_within G0 (X := X) (M := M) (nb := nb) rfl) wd_9_7 wd_15_21 wd_9_6 wd_1_2 ⟨by decide, by decide⟩ (nn := 3) (by decide) (As := [.int l4, .int (0 : Int32), .int (1 : Int32)]) rfl rfl (Nat.le_of_ble_eq_true rfl) (by decide) (by decide) ⟨by decide, by decide⟩ dX9_chance_51 ?_
          refine g_if_ne (tgt := 61) F dX9_chance_54 (by decide) h (fun a34 h => ?_) (fun a34 h => ?_)
          · refine g_iload_n (i := 3) F dX9_chance_61 rfl rfl ?_
            refine g_bipush F dX9_chance_62 (v := 100) (by decide) ?_
            refine g_idiv F dX9_chance_64 (by decide) ?_
            refine g_topi F h (fun v13 e14 h => ?_)
            refine g_istore (i := 6) (lv' := [(6, .int v13), (5, .ref (ev 0 + b3)), (0, .ref (ev 0 + 0)), (1, .int l1), (2, .int l2), (3, .int l3), (4, .int l4)]) F dX9_chance_65 (by decide) rfl ?_
            refine g_iconst F dX9_chance_67 (v := 0) (by decide) ?_
            refine g_istore (i := 7) (lv' := [(7, .int (0 : Int32)), (6, .int v13), (5, .ref (ev 0 + b3)), (0, .ref (ev 0 + 0)), (1, .int l1), (2, .int l2), (3, .int l3), (4, .int l4)]) F dX9_chance_68 (by decide) rfl ?_
            refine g_aload_n (i := 0) F dX9_chance_70 rfl rfl ?_
            refine g_get_9_3 F rfl (kd_lit (by decide)) wd_2_1 dX9_chance_71 ?_
            refine g_aload_n (i := 0) F dX9_chance_74 rfl rfl ?_
            refine g_get_9_7 F rfl (kd_lit (by decide)) wd_2_8 dX9_chance_75 ?_
            obtain ⟨X15, e16, h⟩ := bd_at h
            refine g_put_7_4 F (v := (some 16)) rfl rfl (kd_lit (by decide)) wd_47_21 dX9_chance_78 ?_
            rw [← e16]
            refine g_iconst F dX9_chance_81 (v := 0) (by decide) ?_
            refine g_istore (i := 8) (lv' := [(8, .int (0 : Int32)), (7, .int (0 : Int32)), (6, .int v13), (5, .ref (ev 0 + b3)), (0, .ref (ev 0 + 0)), (1, .int l1), (2, .int l2), (3, .int l3), (4, .int l4)]) F dX9_chance_82 (by decide) rfl ?_
            refine g_lv (lv' := [(0, .ref (ev 0 + 0)), (2, .int l2), (3, .int l3), (4, .int l4), (5, zr ev (some b3)), (6, .int v13), (7, .int (0 : Int32)), (8, .int (0 : Int32))]) ⟨rfl, rfl, rfl, rfl, rfl, rfl, rfl, rfl, trivial⟩ ?_
            exact L84 _ _ _ _ _ FU _ _ _ h
          · refine g_ldc2 F dX9_chance_57 wd_41_0 ?_
            have hp := Prod.mk.inj (Option.some.inj h)
            exact g_lret F hr9 hl9 hp.1 (by rw [hp.2]) (by decide) (by decide) dX9_chance_60
def fX9_image_b52 (nb : Nat) (X : XW) : Option (Int32 × XW) :=
  (fX3_takeOver X 24 17).bind fun X1 =>
  bd (xI X1 21 3 (X1.1 0 12)) fun X3 =>
  bd (xI X3 21 4 (X3.1 0 11)) fun X5 =>
  bd (xI X5 21 5 (X5.1 0 14)) fun X7 =>
  some ((X7.1 0 12), X7)
def fX9_image_l2 (nb : Nat) (K2 : XW → Int32 → Option (Int32 × XW)) (X : XW) (l1 : Int32) : Option (Int32 × XW) :=
  if (X.1 0 12) ≤ l1 then fX9_image_b52 nb X
  else (rdR (X.2.2 13) 6 l1).bind fun r9 =>
  (r9).bind fun b11 =>
  if NS ≤ b11 ∧ b11 < TT nb then if inb l1 6 then bd (xA X 22 l1 (X.1 b11 4)) fun X15 =>
  (rdR (X15.2.2 13) 6 l1).bind fun r17 =>
  (r17).bind fun b19 =>
  if NS ≤ b19 ∧ b19 < TT nb then if inb l1 6 then bd (xA X15 23 l1 (X15.1 b19 5)) fun X23 =>
  K2 X23 (l1 + (1 : Int32))
  else none else none
  else none else none
def fX9_image (X : XW) (nb : Nat) : Option (Int32 × XW) :=
  lo2 (fX9_image_l2 nb) FU X (0 : Int32)
set_option maxRecDepth 100000 in
set_option maxHeartbeats 4000000 in
theorem c_X9_image {l : Launch} {s0 : State} {D : va_G} {ev : Nat → Nat} (G0 : Gl s0 D ev) {X : XW} {M : MW} {nb : Nat}  {r' : Int32} {X' : XW}  (h : fX9_image X nb = some (r', X')) : CT l s0 D ev yX9_image cX9_image 2 (some .int) 1 0 0 [.ref (ev 0 + 0)] (cells ev X M nb) (QI s0 D ev r' (cells ev X' M nb)) := by
  refine ct_of G0 (by decide) (Nat.le_of_ble_eq_true rfl) ?_
  intro p9 e9 s9 m9 args9 below9 meth9 c9 F hr9 hl9 hin9 hargs9 hts9
  have U52 : ∀ (X : XW), fX9_image_b52 nb X = some (r', X') → GJ p9 l e9 (rg 1 0 0) s9 m9 args9 below9 meth9 c9 (MQ below9 (QI s0 D ev r' (cells ev X' M nb)) args9 s9 0 0 (frA ev)) s0 D ev 2 0 0 52 [(0, .ref (ev 0 + 0))] ([]) (cells ev X M nb) := by
    intro X h
    rw [fX9_image_b52] at h
    refine g_aload_n (i := 0) F dX9_image_52 rfl rfl ?_
    refine g_get_9_10 F rfl (kd_lit (by decide)) wd_2_18 dX9_image_53 ?_
    refine g_get_4_2 F rfl (kd_lit (by decide)) wd_49_9 dX9_image_56 ?_
    refine g_aload_n (i := 0) F dX9_image_59 rfl rfl ?_
    refine g_get_9_8 F rfl (kd_lit (by decide)) wd_2_12 dX9_image_60 ?_
    obtain ⟨X1, e2, h⟩ := bind_at h
    refine g_callVV F (mcR := 0) (msR := 0) (id := 24) (cells_at (kd_lit (i := 24) (by decide)) (xc_3 rfl)) (ci := 3) rfl rfl rfl (c_X3_takeOver G0 e2) wd_49_16 wd_49_13 wd_49_14 wd_49_15 wd_2_11 ⟨by decide, by decide⟩ (nn := 1) (by decide) (As := [.ref (ev 0 + 17)]) rfl rfl (Nat.le_of_ble_eq_true rfl) (by decide) (by decide) ⟨by decide, by decide⟩ dX9_image_63 ?_
    refine g_aload_n (i := 0) F dX9_image_66 rfl rfl ?_
    refine g_get_9_10 F rfl (kd_lit (by decide)) wd_2_18 dX9_image_67 ?_
    refine g_aload_n (i := 0) F dX9_image_70 rfl rfl ?_
    refine g_get_9_12 F rfl (kd_lit (by decide)) wd_2_20 dX9_image_71 ?_
    obtain ⟨X3, e4, h⟩ := bd_at h
    refine g_put_4_3 F rfl (kd_lit (by decide)) wd_49_10 dX9_image_74 ?_
    rw [← e4]
    refine g_aload_n (i := 0) F dX9_image_77 rfl rfl ?_
    refine g_get_9_10 F rfl (kd_lit (by decide)) wd_2_18 dX9_image_78 ?_
    refine g_aload_n (i := 0) F dX9_image_81 rfl rfl ?_
    refine g_get_9_11 F rfl (kd_lit (by decide)) wd_2_19 dX9_image_82 ?_
    obtain ⟨X5, e6, h⟩ := bd_at h
    refine g_put_4_4 F rfl (kd_lit (by decide)) wd_49_11 dX9_image_85 ?_
    rw [← e6]
    refine g_aload_n (i := 0) F dX9_image_88 rfl rfl ?_
    refine g_get_9_10 F rfl (kd_lit (by decide)) wd_2_18 dX9_image_89 ?_
    refine g_aload_n (i := 0) F dX9_image_92 rfl rfl ?_
    refine g_get_9_14 F rfl (kd_lit (by decide)) wd_2_22 dX9_image_93 ?_
    obtain ⟨X7, e8, h⟩ := bd_at h
    refine g_put_4_5 F rfl (kd_lit (by decide)) wd_49_12 dX9_image_96 ?_
    rw [← e8]
    refine g_aload_n (i := 0) F dX9_image_99 rfl rfl ?_
    refine g_get_9_12 F rfl (kd_lit (by decide)) wd_2_20 dX9_image_100 ?_
    have hp := Prod.mk.inj (Option.some.inj h)
    exact g_iret F hr9 rfl hl9 hp.1 (by rw [hp.2]) (by decide) (by decide) dX9_image_103
  have L2 : ∀  (N2 : Nat) (X : XW) (l1 : Int32), lo2 (fX9_image_l2 nb) N2 X l1 = some (r', X') → GJ p9 l e9 (rg 1 0 0) s9 m9 args9 below9 meth9 c9 (MQ below9 (QI s0 D ev r' (cells ev X' M nb)) args9 s9 0 0 (frA ev)) s0 D ev 2 0 0 2 [(0, .ref (ev 0 + 0)), (1, .int l1)] ([]) (cells ev X M nb) := by
    intro  N2
    induction N2 with
    | zero => intro X l1 h; cases h
    | succ N2 ih2 =>
      intro X l1 h
      change fX9_image_l2 nb (lo2 (fX9_image_l2 nb) N2) X l1 = some (r', X') at h
      rw [fX9_image_l2] at h
      refine g_iload_n (i := 1) F dX9_image_2 rfl rfl ?_
      refine g_aload_n (i := 0) F dX9_image_3 rfl rfl ?_
      refine g_get_9_12 F rfl (kd_lit (by decide)) wd_2_20 dX9_image_4 ?_
      refine g_icmp_ge (tgt := 52) F dX9_image_7 (by decide) h (fun a25 h => ?_) (fun a25 h => ?_)
      · refine g_lv (lv' := [(0, .ref (ev 0 + 0))]) ⟨rfl, trivial⟩ ?_
        exact U52 _ h
      · refine g_aload_n (i := 0) F dX9_image_10 rfl rfl ?_
        refine g_get_9_10 F rfl (kd_lit (by decide)) wd_2_18 dX9_image_11 ?_
        refine g_get_4_0 F rfl (kd_lit (by decide)) wd_49_7 dX9_image_14 ?_
        refine g_iload_n (i := 1) F dX9_image_17 rfl rfl ?_
        refine g_aload_n (i := 0) F dX9_image_18 rfl rfl ?_
        refine g_get_9_4 F rfl (kd_lit (by decide)) wd_2_3 dX9_image_19 ?_
        refine g_iload_n (i := 1) F dX9_image_22 rfl rfl ?_
        obtain ⟨r9, e10, h⟩ := bind_at h
        refine g_aldB F e10 dX9_image_23 ?_
        obtain ⟨b11, e12, h⟩ := bind_at h
        rw [e12]
        obtain ⟨h13, h⟩ := if_at h
        refine g_get_1_4 F (kd_b h13) h13.2 wd_22_18 dX9_image_24 ?_
        obtain ⟨h14, h⟩ := if_at h
        obtain ⟨X15, e16, h⟩ := bd_at h
        refine g_istX F rfl rfl h14 dX9_image_27 ?_
        rw [← e16]
        refine g_aload_n (i := 0) F dX9_image_28 rfl rfl ?_
        refine g_get_9_10 F rfl (kd_lit (by decide)) wd_2_18 dX9_image_29 ?_
        refine g_get_4_1 F rfl (kd_lit (by decide)) wd_49_8 dX9_image_32 ?_
        refine g_iload_n (i := 1) F dX9_image_35 rfl rfl ?_
        refine g_aload_n (i := 0) F dX9_image_36 rfl rfl ?_
        refine g_get_9_4 F rfl (kd_lit (by decide)) wd_2_3 dX9_image_37 ?_
        refine g_iload_n (i := 1) F dX9_image_40 rfl rfl ?_
        obtain ⟨r17, e18, h⟩ := bind_at h
        refine g_aldB F e18 dX9_image_41 ?_
        obtain ⟨b19, e20, h⟩ := bind_at h
        rw [e20]
        obtain ⟨h21, h⟩ := if_at h
        refine g_get_1_5 F (kd_b h21) h21.2 wd_22_19 dX9_image_42 ?_
        obtain ⟨h22, h⟩ := if_at h
        obtain ⟨X23, e24, h⟩ := bd_at h
        refine g_istX F rfl rfl h22 dX9_image_45 ?_
        rw [← e24]
        refine g_iinc (i := 1) (v := (l1 + (1 : Int32))) (lv' := [(1, .int (l1 + (1 : Int32))), (0, .ref (ev 0 + 0))]) F dX9_image_46 rfl rfl (by decide) rfl ?_
        refine g_goto (tgt := 2) F dX9_image_49 (by decide) ?_
        refine g_lv (lv' := [(0, .ref (ev 0 + 0)), (1, .int (l1 + (1 : Int32)))]) ⟨rfl, rfl, trivial⟩ ?_
        exact ih2 _ _ h
  rw [fX9_image] at h
  refine g_lv (lv' := [(0, .ref (ev 0 + 0))]) ⟨rfl, trivial⟩ ?_
  refine g_iconst F dX9_image_0 (v := 0) (by decide) ?_
  refine g_istore_n (i := 1) (lv' := [(1, .int (0 : Int32)), (0, .ref (ev 0 + 0))]) F dX9_image_1 rfl (by decide) rfl ?_
  refine g_lv (lv' := [(0, .ref (ev 0 + 0)), (1, .int (0 : Int32))]) ⟨rfl, rfl, trivial⟩ ?_
  exact L2 FU _ _ h
def fX9_back_b84 (nb : Nat) (X : XW) : Option (Int32 × XW) :=
  (fX3_takeOver X 17 24).bind fun X3 =>
  bd (xI X3 0 11 (X3.1 21 4)) fun X5 =>
  (fX9_rule X5 (X5.1 21 5)).bind fun X7 =>
  some ((X7.1 0 12), X7)
def fX9_back_l34 (nb : Nat) (K34 : XW → Int32 → Option (Int32 × XW)) (X : XW) (l1 : Int32) : Option (Int32 × XW) :=
  if (X.1 0 12) ≤ l1 then fX9_back_b84 nb X
  else (rdR (X.2.2 13) 6 l1).bind fun r9 =>
  (rd (X.2.1 22) 6 l1).bind fun v11 =>
  (r9).bind fun b13 =>
  if NS ≤ b13 ∧ b13 < TT nb then bd (xI X b13 4 v11) fun X16 =>
  (rdR (X16.2.2 13) 6 l1).bind fun r18 =>
  (rd (X16.2.1 23) 6 l1).bind fun v20 =>
  (r18).bind fun b22 =>
  if NS ≤ b22 ∧ b22 < TT nb then bd (xI X16 b22 5 v20) fun X25 =>
  K34 X25 (l1 + (1 : Int32)) else none else none
def fX9_back (X : XW) (nb : Nat) : Option (Int32 × XW) :=
  if (X.1 21 3) = (-1 : Int32) then some ((-3 : Int32), X)
  else bd (xI X 0 12 (jmin (X.1 0 12) (X.1 21 3))) fun X1 =>
  lo2 (fX9_back_l34 nb) FU X1 (0 : Int32)
set_option maxRecDepth 100000 in
set_option maxHeartbeats 4000000 in
theorem c_X9_back {l : Launch} {s0 : State} {D : va_G} {ev : Nat → Nat} (G0 : Gl s0 D ev) {X : XW} {M : MW} {nb : Nat}  {r' : Int32} {X' : XW}  (h : fX9_back X nb = some (r', X')) : CT l s0 D ev yX9_back cX9_back 2 (some .int) 1 0 0 [.ref (ev 0 + 0)] (cells ev X M nb) (QI s0 D ev r' (cells ev X' M nb)) := by
  refine ct_of G0 (by decide) (Nat.le_of_ble_eq_true rfl) ?_
  intro p9 e9 s9 m9 args9 below9 meth9 c9 F hr9 hl9 hin9 hargs9 hts9
  have U84 : ∀ (X : XW), fX9_back_b84 nb X = some (r', X') → GJ p9 l e9 (rg 1 0 0) s9 m9 args9 below9 meth9 c9 (MQ below9 (QI s0 D ev r' (cells ev X' M nb)) args9 s9 0 0 (frA ev)) s0 D ev 2 0 0 84 [(0, .ref (ev 0 + 0))] ([]) (cells ev X M nb) := by
    intro X h
    rw [fX9_back_b84] at h
    refine g_aload_n (i := 0) F dX9_back_84 rfl rfl ?_
    refine g_get_9_8 F rfl (kd_lit (by decide)) wd_2_12 dX9_back_85 ?_
    refine g_aload_n (i := 0) F dX9_back_88 rfl rfl ?_
    refine g_get_9_10 F rfl (kd_lit (by decide)) wd_2_18 dX9_back_89 ?_
    refine g_get_4_2 F rfl (kd_lit (by decide)) wd_49_9 dX9_back_92 ?_
    obtain ⟨X3, e4, h⟩ := bind_at h
    refine g_callVV F (mcR := 0) (msR := 0) (id := 17) (cells_at (kd_lit (i := 17) (by decide)) (xc_3 rfl)) (ci := 3) rfl rfl rfl (c_X3_takeOver G0 e4) wd_49_16 wd_49_13 wd_49_14 wd_49_15 wd_2_11 ⟨by decide, by decide⟩ (nn := 1) (by decide) (As := [.ref (ev 0 + 24)]) rfl rfl (Nat.le_of_ble_eq_true rfl) (by decide) (by decide) ⟨by decide, by decide⟩ dX9_back_95 ?_
    refine g_aload_n (i := 0) F dX9_back_98 rfl rfl ?_
    refine g_aload_n (i := 0) F dX9_back_99 rfl rfl ?_
    refine g_get_9_10 F rfl (kd_lit (by decide)) wd_2_18 dX9_back_100 ?_
    refine g_get_4_4 F rfl (kd_lit (by decide)) wd_49_11 dX9_back_103 ?_
    obtain ⟨X5, e6, h⟩ := bd_at h
    refine g_put_9_11 F rfl (kd_lit (by decide)) wd_2_19 dX9_back_106 ?_
    rw [← e6]
    refine g_aload_n (i := 0) F dX9_back_109 rfl rfl ?_
    refine g_aload_n (i := 0) F dX9_back_110 rfl rfl ?_
    refine g_get_9_10 F rfl (kd_lit (by decide)) wd_2_18 dX9_back_111 ?_
    refine g_get_4_5 F rfl (kd_lit (by decide)) wd_49_12 dX9_back_114 ?_
    obtain ⟨X7, e8, h⟩ := bind_at h
    refine g_callVV F (mcR := 0) (msR := 0) (id := 0) (cells_at (kd_lit (i := 0) (by decide)) (xc_9 rfl)) (ci := 9) rfl rfl rfl (c_X9_rule G0 e8) wd_19_22 wd_19_19 wd_19_20 wd_19_21 wd_1_2 ⟨by decide, by decide⟩ (nn := 1) (by decide) (As := [.int (X5.1 21 5)]) rfl rfl (Nat.le_of_ble_eq_true rfl) (by decide) (by decide) ⟨by decide, by decide⟩ dX9_back_117 ?_
    refine g_aload_n (i := 0) F dX9_back_120 rfl rfl ?_
    refine g_get_9_12 F rfl (kd_lit (by decide)) wd_2_20 dX9_back_121 ?_
    have hp := Prod.mk.inj (Option.some.inj h)
    exact g_iret F hr9 rfl hl9 hp.1 (by rw [hp.2]) (by decide) (by decide) dX9_back_124
  have L34 : ∀  (N34 : Nat) (X : XW) (l1 : Int32), lo2 (fX9_back_l34 nb) N34 X l1 = some (r', X') → GJ p9 l e9 (rg 1 0 0) s9 m9 args9 below9 meth9 c9 (MQ below9 (QI s0 D ev r' (cells ev X' M nb)) args9 s9 0 0 (frA ev)) s0 D ev 2 0 0 34 [(0, .ref (ev 0 + 0)), (1, .int l1)] ([]) (cells ev X M nb) := by
    intro  N34
    induction N34 with
    | zero => intro X l1 h; cases h
    | succ N34 ih34 =>
      intro X l1 h
      change fX9_back_l34 nb (lo2 (fX9_back_l34 nb) N34) X l1 = some (r', X') at h
      rw [fX9_back_l34] at h
      refine g_iload_n (i := 1) F dX9_back_34 rfl rfl ?_
      refine g_aload_n (i := 0) F dX9_back_35 rfl rfl ?_
      refine g_get_9_12 F rfl (kd_lit (by decide)) wd_2_20 dX9_back_36 ?_
      refine g_icmp_ge (tgt := 84) F dX9_back_39 (by decide) h (fun a27 h => ?_) (fun a27 h => ?_)
      · refine g_lv (lv' := [(0, .ref (ev 0 + 0))]) ⟨rfl, trivial⟩ ?_
        exact U84 _ h
      · refine g_aload_n (i := 0) F dX9_back_42 rfl rfl ?_
        refine g_get_9_4 F rfl (kd_lit (by decide)) wd_2_3 dX9_back_43 ?_
        refine g_iload_n (i := 1) F dX9_back_46 rfl rfl ?_
        obtain ⟨r9, e10, h⟩ := bind_at h
        refine g_aldB F e10 dX9_back_47 ?_
        refine g_aload_n (i := 0) F dX9_back_48 rfl rfl ?_
        refine g_get_9_10 F rfl (kd_lit (by decide)) wd_2_18 dX9_back_49 ?_
        refine g_get_4_0 F rfl (kd_lit (by decide)) wd_49_7 dX9_back_52 ?_
        refine g_iload_n (i := 1) F dX9_back_55 rfl rfl ?_
        obtain ⟨v11, e12, h⟩ := bind_at h
        refine g_ildX F rfl rfl e12 dX9_back_56 ?_
        obtain ⟨b13, e14, h⟩ := bind_at h
        rw [e14]
        obtain ⟨h15, h⟩ := if_at h
        obtain ⟨X16, e17, h⟩ := bd_at h
        refine g_put_1_4 F (kd_b h15) h15.2 wd_22_18 dX9_back_57 ?_
        rw [← e17]
        refine g_aload_n (i := 0) F dX9_back_60 rfl rfl ?_
        refine g_get_9_4 F rfl (kd_lit (by decide)) wd_2_3 dX9_back_61 ?_
        refine g_iload_n (i := 1) F dX9_back_64 rfl rfl ?_
        obtain ⟨r18, e19, h⟩ := bind_at h
        refine g_aldB F e19 dX9_back_65 ?_
        refine g_aload_n (i := 0) F dX9_back_66 rfl rfl ?_
        refine g_get_9_10 F rfl (kd_lit (by decide)) wd_2_18 dX9_back_67 ?_
        refine g_get_4_1 F rfl (kd_lit (by decide)) wd_49_8 dX9_back_70 ?_
        refine g_iload_n (i := 1) F dX9_back_73 rfl rfl ?_
        obtain ⟨v20, e21, h⟩ := bind_at h
        refine g_ildX F rfl rfl e21 dX9_back_74 ?_
        obtain ⟨b22, e23, h⟩ := bind_at h
        rw [e23]
        obtain ⟨h24, h⟩ := if_at h
        obtain ⟨X25, e26, h⟩ := bd_at h
        refine g_put_1_5 F (kd_b h24) h24.2 wd_22_19 dX9_back_75 ?_
        rw [← e26]
        refine g_iinc (i := 1) (v := (l1 + (1 : Int32))) (lv' := [(1, .int (l1 + (1 : Int32))), (0, .ref (ev 0 + 0))]) F dX9_back_78 rfl rfl (by decide) rfl ?_
        refine g_goto (tgt := 34) F dX9_back_81 (by decide) ?_
        refine g_lv (lv' := [(0, .ref (ev 0 + 0)), (1, .int (l1 + (1 : Int32)))]) ⟨rfl, rfl, trivial⟩ ?_
        exact ih34 _ _ h
  rw [fX9_back] at h
  refine g_lv (lv' := [(0, .ref (ev 0 + 0))]) ⟨rfl, trivial⟩ ?_
  refine g_aload_n (i := 0) F dX9_back_0 rfl rfl ?_
  refine g_get_9_10 F rfl (kd_lit (by decide)) wd_2_18 dX9_back_1 ?_
  refine g_get_4_3 F rfl (kd_lit (by decide)) wd_49_10 dX9_back_4 ?_
  refine g_iconst F dX9_back_7 (v := -1) (by decide) ?_
  refine g_icmp_ne (tgt := 14) F dX9_back_8 (by decide) h (fun a28 h => ?_) (fun a28 h => ?_)
  · refine g_aload_n (i := 0) F dX9_back_14 rfl rfl ?_
    refine g_aload_n (i := 0) F dX9_back_15 rfl rfl ?_
    refine g_get_9_12 F rfl (kd_lit (by decide)) wd_2_20 dX9_back_16 ?_
    refine g_aload_n (i := 0) F dX9_back_19 rfl rfl ?_
    refine g_get_9_10 F rfl (kd_lit (by decide)) wd_2_18 dX9_back_20 ?_
    refine g_get_4_3 F rfl (kd_lit (by decide)) wd_49_10 dX9_back_23 ?_
    refine g_mmin F wd_16_19 wd_16_20 wd_16_21 wd_16_22 (Nat.le_of_ble_eq_true rfl) (Nat.le_of_ble_eq_true rfl) (Nat.zero_le _) (Nat.zero_le _) dX9_back_26 ?_
    obtain ⟨X1, e2, h⟩ := bd_at h
    refine g_put_9_12 F rfl (kd_lit (by decide)) wd_2_20 dX9_back_29 ?_
    rw [← e2]
    refine g_iconst F dX9_back_32 (v := 0) (by decide) ?_
    refine g_istore_n (i := 1) (lv' := [(1, .int (0 : Int32)), (0, .ref (ev 0 + 0))]) F dX9_back_33 rfl (by decide) rfl ?_
    refine g_lv (lv' := [(0, .ref (ev 0 + 0)), (1, .int (0 : Int32))]) ⟨rfl, rfl, trivial⟩ ?_
    exact L34 FU _ _ h
  · refine g_bipush F dX9_back_11 (v := -3) (by decide) ?_
    have hp := Prod.mk.inj (Option.some.inj h)
    exact g_iret F hr9 rfl hl9 hp.1 (by rw [hp.2]) (by decide) (by decide) dX9_back_13
def fX9_cell (X : XW) (l1 : Int32) (l2 : Int32) (l3 : Int32) : Option (Int32 × XW) :=
  (fX9_sheetOf X l1).bind fun r1 =>
  oc r1 (some ((-2 : Int32), X)) (fun b3 => if kd b3 = 8 then (fX8_isMissing X b3).bind fun v6 =>
  if v6 = 0 then if (fX9_within l2 (0 : Int32) ((X.1 b3 2) - (1 : Int32))) = 0 then some ((-12 : Int32), X)
  else (fX8_put X b3 l2 l3).bind fun X10 =>
  some ((1 : Int32), X10)
  else some ((-11 : Int32), X) else none)
set_option maxRecDepth 100000 in
set_option maxHeartbeats 4000000 in
theorem c_X9_cell {l : Launch} {s0 : State} {D : va_G} {ev : Nat → Nat} (G0 : Gl s0 D ev) {X : XW} {M : MW} {nb : Nat} {l1 : Int32} {l2 : Int32} {l3 : Int32} {r' : Int32} {X' : XW}  (h : fX9_cell X l1 l2 l3 = some (r', X')) : CT l s0 D ev yX9_cell cX9_cell 5 (some .int) 2 0 0 [.ref (ev 0 + 0), .int l1, .int l2, .int l3] (cells ev X M nb) (QI s0 D ev r' (cells ev X' M nb)) := by
  refine ct_of G0 (by decide) (Nat.le_of_ble_eq_true rfl) ?_
  intro p9 e9 s9 m9 args9 below9 meth9 c9 F hr9 hl9 hin9 hargs9 hts9
  rw [fX9_cell] at h
  refine g_lv (lv' := [(0, .ref (ev 0 + 0)), (1, .int l1), (2, .int l2), (3, .int l3)]) ⟨rfl, rfl, rfl, rfl, trivial⟩ ?_
  refine g_aload_n (i := 0) F dX9_cell_0 rfl rfl ?_
  refine g_iload_n (i := 1) F dX9_cell_1 rfl rfl ?_
  obtain ⟨r1, e2, h⟩ := bind_at h
  refine g_callVR F (mcR := 0) (msR := 0) (id := 0) (cells_at (kd_lit (i := 0) (by decide)) (xc_9 rfl)) (ci := 9) rfl rfl rfl (c_X9_sheetOf G0 e2) wd_45_2 wd_44_23 wd_45_0 wd_45_1 wd_1_2 ⟨by decide, by decide⟩ (nn := 1) (by decide) (As := [.int l1]) rfl rfl (Nat.le_of_ble_eq_true rfl) (by decide) (by decide) ⟨by decide, by decide⟩ dX9_cell_2 ?_
  refine g_zastore (i := 4) (lv' := [(4, zr ev r1), (0, .ref (ev 0 + 0)), (1, .int l1), (2, .int l2), (3, .int l3)]) F dX9_cell_5 (by decide) rfl ?_
  refine g_zaload (i := 4) F dX9_cell_7 rfl ?_
  rcases oc_at h with ⟨e4, h⟩ | ⟨b3, e4, h⟩
  · rw [e4]
    refine g_ifnnN F dX9_cell_9 ?_
    refine g_bipush F dX9_cell_12 (v := -2) (by decide) ?_
    have hp := Prod.mk.inj (Option.some.inj h)
    exact g_iret F hr9 rfl hl9 hp.1 (by rw [hp.2]) (by decide) (by decide) dX9_cell_14
  · rw [e4]
    refine g_ifnn (tgt := 15) F dX9_cell_9 (by decide) ?_
    refine g_aload (i := 4) F dX9_cell_15 rfl ?_
    obtain ⟨h5, h⟩ := if_at h
    obtain ⟨v6, e7, h⟩ := bind_at h
    refine g_callVI F (mcR := 0) (msR := 0) (id := b3) (cells_at (kd_hid h5 (by decide)) (xc_8 h5)) (ci := 8) rfl rfl rfl (c_X8_isMissing G0 e7) wd_45_11 wd_45_8 wd_45_9 wd_45_10 wd_3_2 ⟨by decide, by decide⟩ (nn := 0) (by decide) (As := []) rfl rfl (Nat.le_of_ble_eq_true rfl) (by decide) (by decide) ⟨by decide, by decide⟩ dX9_cell_17 ?_
    refine g_if_eq (tgt := 26) F dX9_cell_20 (by decide) h (fun a13 h => ?_) (fun a13 h => ?_)
    · refine g_iload_n (i := 2) F dX9_cell_26 rfl rfl ?_
      refine g_iconst F dX9_cell_27 (v := 0) (by decide) ?_
      refine g_aload (i := 4) F dX9_cell_28 rfl ?_
      refine g_get_8_2 F h5 (kd_hid h5 (by decide)) wd_45_7 dX9_cell_30 ?_
      refine g_iconst F dX9_cell_33 (v := 1) (by decide) ?_
      refine g_isub F dX9_cell_34 ?_
      refine g_callSI F (mcR := 0) (msR := 0) (c_X9_within G0 (X := X) (M := M) (nb := nb) rfl) wd_9_7 wd_15_21 wd_9_6 wd_1_2 ⟨by decide, by decide⟩ (nn := 3) (by decide) (As := [.int l2, .int (0 : Int32), .int ((X.1 b3 2) - (1 : Int32))]) rfl rfl (Nat.le_of_ble_eq_true rfl) (by decide) (by decide) ⟨by decide, by decide⟩ dX9_cell_35 ?_
      refine g_if_ne (tgt := 44) F dX9_cell_38 (by decide) h (fun a12 h => ?_) (fun a12 h => ?_)
      · refine g_aload (i := 4) F dX9_cell_44 rfl ?_
        refine g_iload_n (i := 2) F dX9_cell_46 rfl rfl ?_
        refine g_iload_n (i := 3) F dX9_cell_47 rfl rfl ?_
        obtain ⟨X10, e11, h⟩ := bind_at h
        refine g_callVV F (mcR := 0) (msR := 0) (id := b3) (cells_at (kd_hid h5 (by decide)) (xc_8 h5)) (ci := 8) rfl rfl rfl (c_X8_put G0 e11) wd_47_11 wd_47_8 wd_47_9 wd_47_10 wd_3_2 ⟨by decide, by decide⟩ (nn := 2) (by decide) (As := [.int l2, .int l3]) rfl rfl (Nat.le_of_ble_eq_true rfl) (by decide) (by decide) ⟨by decide, by decide⟩ dX9_cell_48 ?_
        refine g_iconst F dX9_cell_51 (v := 1) (by decide) ?_
        have hp := Prod.mk.inj (Option.some.inj h)
        exact g_iret F hr9 rfl hl9 hp.1 (by rw [hp.2]) (by decide) (by decide) dX9_cell_52
      · refine g_bipush F dX9_cell_41 (v := -12) (by decide) ?_
        have hp := Prod.mk.inj (Option.some.inj h)
        exact g_iret F hr9 rfl hl9 hp.1 (by rw [hp.2]) (by decide) (by decide) dX9_cell_43
    · refine g_bipush F dX9_cell_23 (v := -11) (by decide) ?_
      have hp := Prod.mk.inj (Option.some.inj h)
      exact g_iret F hr9 rfl hl9 hp.1 (by rw [hp.2]) (by decide) (by decide) dX9_cell_25
def fX9_taken_b72 (X : XW) (nb : Nat) (l1 : Int32) (l2 : Int32) : Option Int32 :=
  (rd (X.2.1 2) 100 l1).bind fun v5 =>
  if 0 < v5 then if l2 = (6 : Int32) then (rd (X.2.1 2) 100 l1).bind fun v7 =>
  (rd (X.2.1 3) 100 l1).bind fun v9 =>
  some (((10 : Int32) * v7) + v9)
  else some (-13 : Int32)
  else some (-11 : Int32)
def fX9_taken_b46 (X : XW) (nb : Nat) (l2 : Int32) (l3 : Int32) : Option Int32 :=
  (rdR (X.2.2 13) 6 l3).bind fun r18 =>
  (r18).bind fun b20 =>
  if NS ≤ b20 ∧ b20 < TT nb then (fX1_isA X nb b20 l2).bind fun v23 =>
  if v23 = 0 then some (-13 : Int32)
  else some l3 else none
def fX9_taken_l25 (X : XW) (nb : Nat) (l1f25 : Int32) (l2f25 : Int32) (K25 : Int32 → Option Int32) (l3 : Int32) : Option Int32 :=
  if (X.1 0 12) ≤ l3 then fX9_taken_b72 X nb l1f25 l2f25
  else (rdR (X.2.2 13) 6 l3).bind fun r13 =>
  (r13).bind fun b15 =>
  if NS ≤ b15 ∧ b15 < TT nb then if (X.1 b15 4) = l1f25 then fX9_taken_b46 X nb l2f25 l3
  else K25 (l3 + (1 : Int32)) else none
def fX9_taken (X : XW) (nb : Nat) (l1 : Int32) (l2 : Int32) : Option Int32 :=
  if (fX9_within l2 (0 : Int32) (6 : Int32)) = 0 then some (-2 : Int32)
  else if (fX9_isCell l1) = 0 then some (-12 : Int32)
  else lo1 (fX9_taken_l25 X nb l1 l2) FU (0 : Int32)
set_option maxRecDepth 100000 in
set_option maxHeartbeats 4000000 in
theorem c_X9_taken {l : Launch} {s0 : State} {D : va_G} {ev : Nat → Nat} (G0 : Gl s0 D ev) {X : XW} {M : MW} {nb : Nat} {l1 : Int32} {l2 : Int32} {r' : Int32}  (h : fX9_taken X nb l1 l2 = some r') : CT l s0 D ev yX9_taken cX9_taken 4 (some .int) 2 0 0 [.ref (ev 0 + 0), .int l1, .int l2] (cells ev X M nb) (QI s0 D ev r' (cells ev X M nb)) := by
  refine ct_of G0 (by decide) (Nat.le_of_ble_eq_true rfl) ?_
  intro p9 e9 s9 m9 args9 below9 meth9 c9 F hr9 hl9 hin9 hargs9 hts9
  have U72 : ∀ (l1 : Int32) (l2 : Int32), fX9_taken_b72 X nb l1 l2 = some r' → GJ p9 l e9 (rg 2 0 0) s9 m9 args9 below9 meth9 c9 (MQ below9 (QI s0 D ev r' (cells ev X M nb)) args9 s9 0 0 (frA ev)) s0 D ev 4 0 0 72 [(0, .ref (ev 0 + 0)), (1, .int l1), (2, .int l2)] ([]) (cells ev X M nb) := by
    intro l1 l2 h
    rw [fX9_taken_b72] at h
    refine g_aload_n (i := 0) F dX9_taken_72 rfl rfl ?_
    refine g_get_9_0 F rfl (kd_lit (by decide)) wd_1_15 dX9_taken_73 ?_
    refine g_get_0_0 F rfl (kd_lit (by decide)) wd_15_16 dX9_taken_76 ?_
    refine g_iload_n (i := 1) F dX9_taken_79 rfl rfl ?_
    obtain ⟨v5, e6, h⟩ := bind_at h
    refine g_ildX F rfl rfl e6 dX9_taken_80 ?_
    refine g_if_gt (tgt := 87) F dX9_taken_81 (by decide) h (fun a12 h => ?_) (fun a12 h => ?_)
    · refine g_iload_n (i := 2) F dX9_taken_87 rfl rfl ?_
      refine g_bipush F dX9_taken_88 (v := 6) (by decide) ?_
      refine g_icmp_ne (tgt := 118) F dX9_taken_90 (by decide) h (fun a11 h => ?_) (fun a11 h => ?_)
      · refine g_bipush F dX9_taken_118 (v := -13) (by decide) ?_
        exact g_iret F hr9 rfl hl9 (Option.some.inj h) rfl (by decide) (by decide) dX9_taken_120
      · refine g_bipush F dX9_taken_93 (v := 10) (by decide) ?_
        refine g_aload_n (i := 0) F dX9_taken_95 rfl rfl ?_
        refine g_get_9_0 F rfl (kd_lit (by decide)) wd_1_15 dX9_taken_96 ?_
        refine g_get_0_0 F rfl (kd_lit (by decide)) wd_15_16 dX9_taken_99 ?_
        refine g_iload_n (i := 1) F dX9_taken_102 rfl rfl ?_
        obtain ⟨v7, e8, h⟩ := bind_at h
        refine g_ildX F rfl rfl e8 dX9_taken_103 ?_
        refine g_imul F dX9_taken_104 ?_
        refine g_aload_n (i := 0) F dX9_taken_105 rfl rfl ?_
        refine g_get_9_0 F rfl (kd_lit (by decide)) wd_1_15 dX9_taken_106 ?_
        refine g_get_0_1 F rfl (kd_lit (by decide)) wd_15_17 dX9_taken_109 ?_
        refine g_iload_n (i := 1) F dX9_taken_112 rfl rfl ?_
        obtain ⟨v9, e10, h⟩ := bind_at h
        refine g_ildX F rfl rfl e10 dX9_taken_113 ?_
        refine g_iadd F dX9_taken_114 ?_
        refine g_goto (tgt := 120) F dX9_taken_115 (by decide) ?_
        exact g_iret F hr9 rfl hl9 (Option.some.inj h) rfl (by decide) (by decide) dX9_taken_120
    · refine g_bipush F dX9_taken_84 (v := -11) (by decide) ?_
      exact g_iret F hr9 rfl hl9 (Option.some.inj h) rfl (by decide) (by decide) dX9_taken_86
  have U46 : ∀ (l2 : Int32) (l3 : Int32), fX9_taken_b46 X nb l2 l3 = some r' → GJ p9 l e9 (rg 2 0 0) s9 m9 args9 below9 meth9 c9 (MQ below9 (QI s0 D ev r' (cells ev X M nb)) args9 s9 0 0 (frA ev)) s0 D ev 4 0 0 46 [(0, .ref (ev 0 + 0)), (2, .int l2), (3, .int l3)] ([]) (cells ev X M nb) := by
    intro l2 l3 h
    rw [fX9_taken_b46] at h
    refine g_aload_n (i := 0) F dX9_taken_46 rfl rfl ?_
    refine g_get_9_4 F rfl (kd_lit (by decide)) wd_2_3 dX9_taken_47 ?_
    refine g_iload_n (i := 3) F dX9_taken_50 rfl rfl ?_
    obtain ⟨r18, e19, h⟩ := bind_at h
    refine g_aldB F e19 dX9_taken_51 ?_
    refine g_iload_n (i := 2) F dX9_taken_52 rfl rfl ?_
    obtain ⟨b20, e21, h⟩ := bind_at h
    rw [e21]
    obtain ⟨h22, h⟩ := if_at h
    obtain ⟨v23, e24, h⟩ := bind_at h
    refine g_callVI F (mcR := 0) (msR := 0) (id := b20) (cells_at h22.2 (xc_1 (kd_b h22))) (ci := 1) rfl rfl rfl (c_X1_isA G0 e24) wd_52_11 wd_52_8 wd_52_9 wd_52_10 wd_21_23 ⟨by decide, by decide⟩ (nn := 1) (by decide) (As := [.int l2]) rfl rfl (Nat.le_of_ble_eq_true rfl) (by decide) (by decide) ⟨by decide, by decide⟩ dX9_taken_53 ?_
    refine g_if_eq (tgt := 63) F dX9_taken_56 (by decide) h (fun a25 h => ?_) (fun a25 h => ?_)
    · refine g_bipush F dX9_taken_63 (v := -13) (by decide) ?_
      exact g_iret F hr9 rfl hl9 (Option.some.inj h) rfl (by decide) (by decide) dX9_taken_65
    · refine g_iload_n (i := 3) F dX9_taken_59 rfl rfl ?_
      refine g_goto (tgt := 65) F dX9_taken_60 (by decide) ?_
      exact g_iret F hr9 rfl hl9 (Option.some.inj h) rfl (by decide) (by decide) dX9_taken_65
  have L25 : ∀ (l1f25 : Int32) (l2f25 : Int32) (N25 : Nat) (l3 : Int32), lo1 (fX9_taken_l25 X nb l1f25 l2f25) N25 l3 = some r' → GJ p9 l e9 (rg 2 0 0) s9 m9 args9 below9 meth9 c9 (MQ below9 (QI s0 D ev r' (cells ev X M nb)) args9 s9 0 0 (frA ev)) s0 D ev 4 0 0 25 [(0, .ref (ev 0 + 0)), (1, .int l1f25), (2, .int l2f25), (3, .int l3)] ([]) (cells ev X M nb) := by
    intro l1f25 l2f25 N25
    induction N25 with
    | zero => intro l3 h; cases h
    | succ N25 ih25 =>
      intro l3 h
      change fX9_taken_l25 X nb l1f25 l2f25 (lo1 (fX9_taken_l25 X nb l1f25 l2f25) N25) l3 = some r' at h
      rw [fX9_taken_l25] at h
      refine g_iload_n (i := 3) F dX9_taken_25 rfl rfl ?_
      refine g_aload_n (i := 0) F dX9_taken_26 rfl rfl ?_
      refine g_get_9_12 F rfl (kd_lit (by decide)) wd_2_20 dX9_taken_27 ?_
      refine g_icmp_ge (tgt := 72) F dX9_taken_30 (by decide) h (fun a27 h => ?_) (fun a27 h => ?_)
      · refine g_lv (lv' := [(0, .ref (ev 0 + 0)), (1, .int l1f25), (2, .int l2f25)]) ⟨rfl, rfl, rfl, trivial⟩ ?_
        exact U72 _ _ h
      · refine g_aload_n (i := 0) F dX9_taken_33 rfl rfl ?_
        refine g_get_9_4 F rfl (kd_lit (by decide)) wd_2_3 dX9_taken_34 ?_
        refine g_iload_n (i := 3) F dX9_taken_37 rfl rfl ?_
        obtain ⟨r13, e14, h⟩ := bind_at h
        refine g_aldB F e14 dX9_taken_38 ?_
        obtain ⟨b15, e16, h⟩ := bind_at h
        rw [e16]
        obtain ⟨h17, h⟩ := if_at h
        refine g_get_1_4 F (kd_b h17) h17.2 wd_22_18 dX9_taken_39 ?_
        refine g_iload_n (i := 1) F dX9_taken_42 rfl rfl ?_
        refine g_icmp_ne (tgt := 66) F dX9_taken_43 (by decide) h (fun a26 h => ?_) (fun a26 h => ?_)
        · refine g_iinc (i := 3) (v := (l3 + (1 : Int32))) (lv' := [(3, .int (l3 + (1 : Int32))), (0, .ref (ev 0 + 0)), (1, .int l1f25), (2, .int l2f25)]) F dX9_taken_66 rfl rfl (by decide) rfl ?_
          refine g_goto (tgt := 25) F dX9_taken_69 (by decide) ?_
          refine g_lv (lv' := [(0, .ref (ev 0 + 0)), (1, .int l1f25), (2, .int l2f25), (3, .int (l3 + (1 : Int32)))]) ⟨rfl, rfl, rfl, rfl, trivial⟩ ?_
          exact ih25 _ h
        · refine g_lv (lv' := [(0, .ref (ev 0 + 0)), (2, .int l2f25), (3, .int l3)]) ⟨rfl, rfl, rfl, trivial⟩ ?_
          exact U46 _ _ h
  rw [fX9_taken] at h
  refine g_lv (lv' := [(0, .ref (ev 0 + 0)), (1, .int l1), (2, .int l2)]) ⟨rfl, rfl, rfl, trivial⟩ ?_
  refine g_iload_n (i := 2) F dX9_taken_0 rfl rfl ?_
  refine g_iconst F dX9_taken_1 (v := 0) (by decide) ?_
  refine g_bipush F dX9_taken_2 (v := 6) (by decide) ?_
  refine g_callSI F (mcR := 0) (msR := 0) (c_X9_within G0 (X := X) (M := M) (nb := nb) rfl) wd_9_7 wd_15_21 wd_9_6 wd_1_2 ⟨by decide, by decide⟩ (nn := 3) (by decide) (As := [.int l2, .int (0 : Int32), .int (6 : Int32)]) rfl rfl (Nat.le_of_ble_eq_true rfl) (by decide) (by decide) ⟨by decide, by decide⟩ dX9_taken_4 ?_
  refine g_if_ne (tgt := 13) F dX9_taken_7 (by decide) h (fun a29 h => ?_) (fun a29 h => ?_)
  · refine g_iload_n (i := 1) F dX9_taken_13 rfl rfl ?_
    refine g_callSI F (mcR := 0) (msR := 0) (c_X9_isCell G0 (X := X) (M := M) (nb := nb) rfl) wd_15_20 wd_15_18 wd_15_19 wd_1_2 ⟨by decide, by decide⟩ (nn := 1) (by decide) (As := [.int l1]) rfl rfl (Nat.le_of_ble_eq_true rfl) (by decide) (by decide) ⟨by decide, by decide⟩ dX9_taken_14 ?_
    refine g_if_ne (tgt := 23) F dX9_taken_17 (by decide) h (fun a28 h => ?_) (fun a28 h => ?_)
    · refine g_iconst F dX9_taken_23 (v := 0) (by decide) ?_
      refine g_istore_n (i := 3) (lv' := [(3, .int (0 : Int32)), (0, .ref (ev 0 + 0)), (1, .int l1), (2, .int l2)]) F dX9_taken_24 rfl (by decide) rfl ?_
      refine g_lv (lv' := [(0, .ref (ev 0 + 0)), (1, .int l1), (2, .int l2), (3, .int (0 : Int32))]) ⟨rfl, rfl, rfl, rfl, trivial⟩ ?_
      exact L25 _ _ FU _ h
    · refine g_bipush F dX9_taken_20 (v := -12) (by decide) ?_
      exact g_iret F hr9 rfl hl9 (Option.some.inj h) rfl (by decide) (by decide) dX9_taken_22
  · refine g_bipush F dX9_taken_10 (v := -2) (by decide) ?_
    exact g_iret F hr9 rfl hl9 (Option.some.inj h) rfl (by decide) (by decide) dX9_taken_12
def fX10_in (l0 : Int32) (l1 : Int32) (l2 : Int32) : Int32 :=
  if l0 < l1 then (0 : Int32)
  else if l2 < l0 then (0 : Int32)
  else (1 : Int32)
set_option maxRecDepth 100000 in
set_option maxHeartbeats 4000000 in
theorem c_X10_in {l : Launch} {s0 : State} {D : va_G} {ev : Nat → Nat} (G0 : Gl s0 D ev) {X : XW} {M : MW} {nb : Nat} {l0 : Int32} {l1 : Int32} {l2 : Int32} {r' : Int32}  (h : fX10_in l0 l1 l2 = r') : CT l s0 D ev yX10_in cX10_in 3 (some .boolean) 0 0 0 [.int l0, .int l1, .int l2] (cells ev X M (nb + 1)) (QI s0 D ev r' (cells ev X M (nb + 1))) := by
  refine ct_of G0 (by decide) (Nat.le_of_ble_eq_true rfl) ?_
  intro p9 e9 s9 m9 args9 below9 meth9 c9 F hr9 hl9 hin9 hargs9 hts9
  rw [fX10_in] at h
  refine g_lv (lv' := [(0, .int l0), (1, .int l1), (2, .int l2)]) ⟨rfl, rfl, rfl, trivial⟩ ?_
  refine g_iload_n (i := 0) F dX10_in_0 rfl rfl ?_
  refine g_iload_n (i := 1) F dX10_in_1 rfl rfl ?_
  refine g_icmp_lt (tgt := 14) F dX10_in_2 (by decide) h (fun a2 h => ?_) (fun a2 h => ?_)
  · refine g_iconst F dX10_in_14 (v := 0) (by decide) ?_
    exact g_iret F hr9 (by decide) hl9 h rfl (by decide) (by decide) dX10_in_15
  · refine g_iload_n (i := 0) F dX10_in_5 rfl rfl ?_
    refine g_iload_n (i := 2) F dX10_in_6 rfl rfl ?_
    refine g_icmp_gt (tgt := 14) F dX10_in_7 (by decide) h (fun a1 h => ?_) (fun a1 h => ?_)
    · refine g_iconst F dX10_in_14 (v := 0) (by decide) ?_
      exact g_iret F hr9 (by decide) hl9 h rfl (by decide) (by decide) dX10_in_15
    · refine g_iconst F dX10_in_10 (v := 1) (by decide) ?_
      refine g_goto (tgt := 15) F dX10_in_11 (by decide) ?_
      exact g_iret F hr9 (by decide) hl9 h rfl (by decide) (by decide) dX10_in_15
theorem b_X10_in {l0 : Int32} {l1 : Int32} {l2 : Int32} : (fX10_in l0 l1 l2) = 0 ∨ (fX10_in l0 l1 l2) = 1 := by
  unfold fX10_in
  (repeat' split) <;> first | exact Or.inl rfl | exact Or.inr rfl
def fX10_within (l0 : Int32) (l1 : Int32) (l2 : Int32) : Int32 :=
  if l1 ≤ l0 then if l0 ≤ l2 then l0
  else l2
  else l1
set_option maxRecDepth 100000 in
set_option maxHeartbeats 4000000 in
theorem c_X10_within {l : Launch} {s0 : State} {D : va_G} {ev : Nat → Nat} (G0 : Gl s0 D ev) {X : XW} {M : MW} {nb : Nat} {l0 : Int32} {l1 : Int32} {l2 : Int32} {r' : Int32}  (h : fX10_within l0 l1 l2 = r') : CT l s0 D ev yX10_within cX10_within 3 (some .int) 0 0 0 [.int l0, .int l1, .int l2] (cells ev X M (nb + 1)) (QI s0 D ev r' (cells ev X M (nb + 1))) := by
  refine ct_of G0 (by decide) (Nat.le_of_ble_eq_true rfl) ?_
  intro p9 e9 s9 m9 args9 below9 meth9 c9 F hr9 hl9 hin9 hargs9 hts9
  rw [fX10_within] at h
  refine g_lv (lv' := [(0, .int l0), (1, .int l1), (2, .int l2)]) ⟨rfl, rfl, rfl, trivial⟩ ?_
  refine g_iload_n (i := 0) F dX10_within_0 rfl rfl ?_
  refine g_iload_n (i := 1) F dX10_within_1 rfl rfl ?_
  refine g_icmp_ge (tgt := 9) F dX10_within_2 (by decide) h (fun a2 h => ?_) (fun a2 h => ?_)
  · refine g_iload_n (i := 0) F dX10_within_9 rfl rfl ?_
    refine g_iload_n (i := 2) F dX10_within_10 rfl rfl ?_
    refine g_icmp_le (tgt := 18) F dX10_within_11 (by decide) h (fun a1 h => ?_) (fun a1 h => ?_)
    · refine g_iload_n (i := 0) F dX10_within_18 rfl rfl ?_
      exact g_iret F hr9 rfl hl9 h rfl (by decide) (by decide) dX10_within_19
    · refine g_iload_n (i := 2) F dX10_within_14 rfl rfl ?_
      refine g_goto (tgt := 19) F dX10_within_15 (by decide) ?_
      exact g_iret F hr9 rfl hl9 h rfl (by decide) (by decide) dX10_within_19
  · refine g_iload_n (i := 1) F dX10_within_5 rfl rfl ?_
    refine g_goto (tgt := 19) F dX10_within_6 (by decide) ?_
    exact g_iret F hr9 rfl hl9 h rfl (by decide) (by decide) dX10_within_19
def fX10_size (l0 : Int32) : Int32 :=
  if 0 ≤ l0 then l0
  else (-l0)
set_option maxRecDepth 100000 in
set_option maxHeartbeats 4000000 in
theorem c_X10_size {l : Launch} {s0 : State} {D : va_G} {ev : Nat → Nat} (G0 : Gl s0 D ev) {X : XW} {M : MW} {nb : Nat} {l0 : Int32} {r' : Int32}  (h : fX10_size l0 = r') : CT l s0 D ev yX10_size cX10_size 1 (some .int) 0 0 0 [.int l0] (cells ev X M (nb + 1)) (QI s0 D ev r' (cells ev X M (nb + 1))) := by
  refine ct_of G0 (by decide) (Nat.le_of_ble_eq_true rfl) ?_
  intro p9 e9 s9 m9 args9 below9 meth9 c9 F hr9 hl9 hin9 hargs9 hts9
  rw [fX10_size] at h
  refine g_lv (lv' := [(0, .int l0)]) ⟨rfl, trivial⟩ ?_
  refine g_iload_n (i := 0) F dX10_size_0 rfl rfl ?_
  refine g_if_ge (tgt := 9) F dX10_size_1 (by decide) h (fun a1 h => ?_) (fun a1 h => ?_)
  · refine g_iload_n (i := 0) F dX10_size_9 rfl rfl ?_
    exact g_iret F hr9 rfl hl9 h rfl (by decide) (by decide) dX10_size_10
  · refine g_iload_n (i := 0) F dX10_size_4 rfl rfl ?_
    refine g_ineg F dX10_size_5 ?_
    refine g_goto (tgt := 10) F dX10_size_6 (by decide) ?_
    exact g_iret F hr9 rfl hl9 h rfl (by decide) (by decide) dX10_size_10
def fX10_isCell (l0 : Int32) : Int32 :=
  (fX10_in l0 (0 : Int32) (99 : Int32))
set_option maxRecDepth 100000 in
set_option maxHeartbeats 4000000 in
theorem c_X10_isCell {l : Launch} {s0 : State} {D : va_G} {ev : Nat → Nat} (G0 : Gl s0 D ev) {X : XW} {M : MW} {nb : Nat} {l0 : Int32} {r' : Int32}  (h : fX10_isCell l0 = r') : CT l s0 D ev yX10_isCell cX10_isCell 1 (some .boolean) 1 0 0 [.int l0] (cells ev X M (nb + 1)) (QI s0 D ev r' (cells ev X M (nb + 1))) := by
  refine ct_of G0 (by decide) (Nat.le_of_ble_eq_true rfl) ?_
  intro p9 e9 s9 m9 args9 below9 meth9 c9 F hr9 hl9 hin9 hargs9 hts9
  rw [fX10_isCell] at h
  refine g_lv (lv' := [(0, .int l0)]) ⟨rfl, trivial⟩ ?_
  refine g_iload_n (i := 0) F dX10_isCell_0 rfl rfl ?_
  refine g_iconst F dX10_isCell_1 (v := 0) (by decide) ?_
  refine g_bipush F dX10_isCell_2 (v := 99) (by decide) ?_
  refine g_callSI F (mcR := 0) (msR := 0) (c_X10_in G0 (X := X) (M := M) (nb := nb) rfl) wd_13_21 wd_13_19 wd_13_20 wd_1_5 ⟨by decide, by decide⟩ (nn := 3) (by decide) (As := [.int l0, .int (0 : Int32), .int (99 : Int32)]) rfl rfl (Nat.le_of_ble_eq_true rfl) (by decide) (by decide) ⟨by decide, by decide⟩ dX10_isCell_4 ?_
  exact g_iret F hr9 (nar_b b_X10_in) hl9 h rfl (by decide) (by decide) dX10_isCell_7
theorem b_X10_isCell {l0 : Int32} : (fX10_isCell l0) = 0 ∨ (fX10_isCell l0) = 1 := by
  unfold fX10_isCell
  (repeat' split) <;> first | exact Or.inl rfl | exact Or.inr rfl | exact b_X10_in
def fX10_isHour (l0 : Int32) : Int32 :=
  (fX10_in l0 (0 : Int32) (11 : Int32))
set_option maxRecDepth 100000 in
set_option maxHeartbeats 4000000 in
theorem c_X10_isHour {l : Launch} {s0 : State} {D : va_G} {ev : Nat → Nat} (G0 : Gl s0 D ev) {X : XW} {M : MW} {nb : Nat} {l0 : Int32} {r' : Int32}  (h : fX10_isHour l0 = r') : CT l s0 D ev yX10_isHour cX10_isHour 1 (some .boolean) 1 0 0 [.int l0] (cells ev X M (nb + 1)) (QI s0 D ev r' (cells ev X M (nb + 1))) := by
  refine ct_of G0 (by decide) (Nat.le_of_ble_eq_true rfl) ?_
  intro p9 e9 s9 m9 args9 below9 meth9 c9 F hr9 hl9 hin9 hargs9 hts9
  rw [fX10_isHour] at h
  refine g_lv (lv' := [(0, .int l0)]) ⟨rfl, trivial⟩ ?_
  refine g_iload_n (i := 0) F dX10_isHour_0 rfl rfl ?_
  refine g_iconst F dX10_isHour_1 (v := 0) (by decide) ?_
  refine g_bipush F dX10_isHour_2 (v := 11) (by decide) ?_
  refine g_callSI F (mcR := 0) (msR := 0) (c_X10_in G0 (X := X) (M := M) (nb := nb) rfl) wd_13_21 wd_13_19 wd_13_20 wd_1_5 ⟨by decide, by decide⟩ (nn := 3) (by decide) (As := [.int l0, .int (0 : Int32), .int (11 : Int32)]) rfl rfl (Nat.le_of_ble_eq_true rfl) (by decide) (by decide) ⟨by decide, by decide⟩ dX10_isHour_4 ?_
  exact g_iret F hr9 (nar_b b_X10_in) hl9 h rfl (by decide) (by decide) dX10_isHour_7
theorem b_X10_isHour {l0 : Int32} : (fX10_isHour l0) = 0 ∨ (fX10_isHour l0) = 1 := by
  unfold fX10_isHour
  (repeat' split) <;> first | exact Or.inl rfl | exact Or.inr rfl | exact b_X10_in
def fX10_isBoat (M : MW) (l1 : Int32) : Int32 :=
  (fX10_in l1 (0 : Int32) ((M.1 8) - (1 : Int32)))
set_option maxRecDepth 100000 in
set_option maxHeartbeats 4000000 in
theorem c_X10_isBoat {l : Launch} {s0 : State} {D : va_G} {ev : Nat → Nat} (G0 : Gl s0 D ev) {X : XW} {M : MW} {nb : Nat} {l1 : Int32} {r' : Int32}  (h : fX10_isBoat M l1 = r') : CT l s0 D ev yX10_isBoat cX10_isBoat 2 (some .boolean) 1 0 0 [.ref (ev 0 + 65), .int l1] (cells ev X M (nb + 1)) (QI s0 D ev r' (cells ev X M (nb + 1))) := by
  refine ct_of G0 (by decide) (Nat.le_of_ble_eq_true rfl) ?_
  intro p9 e9 s9 m9 args9 below9 meth9 c9 F hr9 hl9 hin9 hargs9 hts9
  rw [fX10_isBoat] at h
  refine g_lv (lv' := [(0, .ref (ev 0 + 65)), (1, .int l1)]) ⟨rfl, rfl, trivial⟩ ?_
  refine g_iload_n (i := 1) F dX10_isBoat_0 rfl rfl ?_
  refine g_iconst F dX10_isBoat_1 (v := 0) (by decide) ?_
  refine g_aload_n (i := 0) F dX10_isBoat_2 rfl rfl ?_
  refine g_get_10_8 F wd_18_18 dX10_isBoat_3 ?_
  refine g_iconst F dX10_isBoat_6 (v := 1) (by decide) ?_
  refine g_isub F dX10_isBoat_7 ?_
  refine g_callSI F (mcR := 0) (msR := 0) (c_X10_in G0 (X := X) (M := M) (nb := nb) rfl) wd_13_21 wd_13_19 wd_13_20 wd_1_5 ⟨by decide, by decide⟩ (nn := 3) (by decide) (As := [.int l1, .int (0 : Int32), .int ((M.1 8) - (1 : Int32))]) rfl rfl (Nat.le_of_ble_eq_true rfl) (by decide) (by decide) ⟨by decide, by decide⟩ dX10_isBoat_8 ?_
  exact g_iret F hr9 (nar_b b_X10_in) hl9 h rfl (by decide) (by decide) dX10_isBoat_11
theorem b_X10_isBoat {M : MW} {l1 : Int32} : (fX10_isBoat M l1) = 0 ∨ (fX10_isBoat M l1) = 1 := by
  unfold fX10_isBoat
  (repeat' split) <;> first | exact Or.inl rfl | exact Or.inr rfl | exact b_X10_in
def fX10_isNight (M : MW) (l1 : Int32) : Int32 :=
  (fX10_in l1 (0 : Int32) ((12 : Int32) - (M.1 7)))
set_option maxRecDepth 100000 in
set_option maxHeartbeats 4000000 in
theorem c_X10_isNight {l : Launch} {s0 : State} {D : va_G} {ev : Nat → Nat} (G0 : Gl s0 D ev) {X : XW} {M : MW} {nb : Nat} {l1 : Int32} {r' : Int32}  (h : fX10_isNight M l1 = r') : CT l s0 D ev yX10_isNight cX10_isNight 2 (some .boolean) 1 0 0 [.ref (ev 0 + 65), .int l1] (cells ev X M (nb + 1)) (QI s0 D ev r' (cells ev X M (nb + 1))) := by
  refine ct_of G0 (by decide) (Nat.le_of_ble_eq_true rfl) ?_
  intro p9 e9 s9 m9 args9 below9 meth9 c9 F hr9 hl9 hin9 hargs9 hts9
  rw [fX10_isNight] at h
  refine g_lv (lv' := [(0, .ref (ev 0 + 65)), (1, .int l1)]) ⟨rfl, rfl, trivial⟩ ?_
  refine g_iload_n (i := 1) F dX10_isNight_0 rfl rfl ?_
  refine g_iconst F dX10_isNight_1 (v := 0) (by decide) ?_
  refine g_bipush F dX10_isNight_2 (v := 12) (by decide) ?_
  refine g_aload_n (i := 0) F dX10_isNight_4 rfl rfl ?_
  refine g_get_10_7 F wd_18_17 dX10_isNight_5 ?_
  refine g_isub F dX10_isNight_8 ?_
  refine g_callSI F (mcR := 0) (msR := 0) (c_X10_in G0 (X := X) (M := M) (nb := nb) rfl) wd_13_21 wd_13_19 wd_13_20 wd_1_5 ⟨by decide, by decide⟩ (nn := 3) (by decide) (As := [.int l1, .int (0 : Int32), .int ((12 : Int32) - (M.1 7))]) rfl rfl (Nat.le_of_ble_eq_true rfl) (by decide) (by decide) ⟨by decide, by decide⟩ dX10_isNight_9 ?_
  exact g_iret F hr9 (nar_b b_X10_in) hl9 h rfl (by decide) (by decide) dX10_isNight_12
theorem b_X10_isNight {M : MW} {l1 : Int32} : (fX10_isNight M l1) = 0 ∨ (fX10_isNight M l1) = 1 := by
  unfold fX10_isNight
  (repeat' split) <;> first | exact Or.inl rfl | exact Or.inr rfl | exact b_X10_in
def fX10_isSounding_b21 (t0 : Int32) (t1 : Int32) (t2 : Int32) : Int32 :=
  if (fX10_in t0 t1 t2) = 0 then (0 : Int32)
  else (1 : Int32)
def fX10_isSounding (l0 : Int32) (l1 : Int32) : Int32 :=
  if (fX10_in l0 (0 : Int32) (1 : Int32)) = 0 then (0 : Int32)
  else if l0 = 0 then fX10_isSounding_b21 l1 (0 : Int32) (30 : Int32)
  else fX10_isSounding_b21 l1 (0 : Int32) (3 : Int32)
set_option maxRecDepth 100000 in
set_option maxHeartbeats 4000000 in
theorem c_X10_isSounding {l : Launch} {s0 : State} {D : va_G} {ev : Nat → Nat} (G0 : Gl s0 D ev) {X : XW} {M : MW} {nb : Nat} {l0 : Int32} {l1 : Int32} {r' : Int32}  (h : fX10_isSounding l0 l1 = r') : CT l s0 D ev yX10_isSounding cX10_isSounding 2 (some .boolean) 1 0 0 [.int l0, .int l1] (cells ev X M (nb + 1)) (QI s0 D ev r' (cells ev X M (nb + 1))) := by
  refine ct_of G0 (by decide) (Nat.le_of_ble_eq_true rfl) ?_
  intro p9 e9 s9 m9 args9 below9 meth9 c9 F hr9 hl9 hin9 hargs9 hts9
  have U21 : ∀ (t0 : Int32) (t1 : Int32) (t2 : Int32), fX10_isSounding_b21 t0 t1 t2 = r' → GJ p9 l e9 (rg 1 0 0) s9 m9 args9 below9 meth9 c9 (MQ below9 (QI s0 D ev r' (cells ev X M (nb + 1))) args9 s9 0 0 (frA ev)) s0 D ev 2 0 0 21 [] (.int t2 :: .int t1 :: .int t0 :: []) (cells ev X M (nb + 1)) := by
    intro t0 t1 t2 h
    rw [fX10_isSounding_b21] at h
    refine g_callSI F (mcR := 0) (msR := 0) (c_X10_in G0 (X := X) (M := M) (nb := nb) rfl) wd_13_21 wd_13_19 wd_13_20 wd_1_5 ⟨by decide, by decide⟩ (nn := 3) (by decide) (As := [.int t0, .int t1, .int t2]) rfl rfl (Nat.le_of_ble_eq_true rfl) (by decide) (by decide) ⟨by decide, by decide⟩ dX10_isSounding_21 ?_
    refine g_if_eq (tgt := 31) F dX10_isSounding_24 (by decide) h (fun a5 h => ?_) (fun a5 h => ?_)
    · refine g_iconst F dX10_isSounding_31 (v := 0) (by decide) ?_
      exact g_iret F hr9 (by decide) hl9 h rfl (by decide) (by decide) dX10_isSounding_32
    · refine g_iconst F dX10_isSounding_27 (v := 1) (by decide) ?_
      refine g_goto (tgt := 32) F dX10_isSounding_28 (by decide) ?_
      exact g_iret F hr9 (by decide) hl9 h rfl (by decide) (by decide) dX10_isSounding_32
  rw [fX10_isSounding] at h
  refine g_lv (lv' := [(0, .int l0), (1, .int l1)]) ⟨rfl, rfl, trivial⟩ ?_
  refine g_iload_n (i := 0) F dX10_isSounding_0 rfl rfl ?_
  refine g_iconst F dX10_isSounding_1 (v := 0) (by decide) ?_
  refine g_iconst F dX10_isSounding_2 (v := 1) (by decide) ?_
  refine g_callSI F (mcR := 0) (msR := 0) (c_X10_in G0 (X := X) (M := M) (nb := nb) rfl) wd_13_21 wd_13_19 wd_13_20 wd_1_5 ⟨by decide, by decide⟩ (nn := 3) (by decide) (As := [.int l0, .int (0 : Int32), .int (1 : Int32)]) rfl rfl (Nat.le_of_ble_eq_true rfl) (by decide) (by decide) ⟨by decide, by decide⟩ dX10_isSounding_3 ?_
  refine g_if_eq (tgt := 31) F dX10_isSounding_6 (by decide) h (fun a7 h => ?_) (fun a7 h => ?_)
  · refine g_iconst F dX10_isSounding_31 (v := 0) (by decide) ?_
    exact g_iret F hr9 (by decide) hl9 h rfl (by decide) (by decide) dX10_isSounding_32
  · refine g_iload_n (i := 1) F dX10_isSounding_9 rfl rfl ?_
    refine g_iconst F dX10_isSounding_10 (v := 0) (by decide) ?_
    refine g_iload_n (i := 0) F dX10_isSounding_11 rfl rfl ?_
    refine g_if_ne (tgt := 20) F dX10_isSounding_12 (by decide) h (fun a6 h => ?_) (fun a6 h => ?_)
    · refine g_iconst F dX10_isSounding_20 (v := 3) (by decide) ?_
      refine g_lv (lv' := []) trivial ?_
      exact U21 _ _ _ h
    · refine g_bipush F dX10_isSounding_15 (v := 30) (by decide) ?_
      refine g_goto (tgt := 21) F dX10_isSounding_17 (by decide) ?_
      refine g_lv (lv' := []) trivial ?_
      exact U21 _ _ _ h
theorem b_X10_isSounding {l0 : Int32} {l1 : Int32} : (fX10_isSounding l0 l1) = 0 ∨ (fX10_isSounding l0 l1) = 1 := by
  unfold fX10_isSounding fX10_isSounding_b21
  (repeat' split) <;> first | exact Or.inl rfl | exact Or.inr rfl | exact b_X10_in | exact b_X10_in
def fX10_sounds_b40 (M : MW) (t1 : Int32) (t2 : Int32) : Option (MW) :=
  if inb t1 100 then bd (mA M 67 t1 t2) fun M9 =>
  some M9
  else none
def fX10_sounds_b19 (M : MW) (l1 : Int32) (l2 : Int32) (l3 : Int32) (t1 : Int32) (t2 : Int32) : Option (MW) :=
  if inb t1 100 then bd (mA M 66 t1 t2) fun M4 =>
  if l2 = (1 : Int32) then fX10_sounds_b40 M4 l1 l3
  else (rd (M4.2 67) 100 l1).bind fun v6 =>
  fX10_sounds_b40 M4 l1 v6
  else none
def fX10_sounds (M : MW) (l1 : Int32) (l2 : Int32) (l3 : Int32) : Option (MW) :=
  if l2 = 0 then fX10_sounds_b19 M l1 l2 l3 l1 l3
  else (rd (M.2 66) 100 l1).bind fun v1 =>
  fX10_sounds_b19 M l1 l2 l3 l1 v1
set_option maxRecDepth 100000 in
set_option maxHeartbeats 4000000 in
theorem c_X10_sounds {l : Launch} {s0 : State} {D : va_G} {ev : Nat → Nat} (G0 : Gl s0 D ev) {X : XW} {M : MW} {nb : Nat} {l1 : Int32} {l2 : Int32} {l3 : Int32} {M' : MW}  (h : fX10_sounds M l1 l2 l3 = some (M')) : CT l s0 D ev yX10_sounds cX10_sounds 4 none 0 0 0 [.ref (ev 0 + 65), .int l1, .int l2, .int l3] (cells ev X M (nb + 1)) (QV s0 D ev (cells ev X M' (nb + 1))) := by
  refine ct_of G0 (by decide) (Nat.le_of_ble_eq_true rfl) ?_
  intro p9 e9 s9 m9 args9 below9 meth9 c9 F hr9 hl9 hin9 hargs9 hts9
  have U40 : ∀ (M : MW) (t1 : Int32) (t2 : Int32), fX10_sounds_b40 M t1 t2 = some (M') → GJ p9 l e9 (rg 0 0 0) s9 m9 args9 below9 meth9 c9 (MQ below9 (QV s0 D ev (cells ev X M' (nb + 1))) args9 s9 0 0 (frA ev)) s0 D ev 4 0 0 40 [] (.int t2 :: .int t1 :: .ref (ev 0 + 67) :: []) (cells ev X M (nb + 1)) := by
    intro M t1 t2 h
    rw [fX10_sounds_b40] at h
    obtain ⟨h8, h⟩ := if_at h
    obtain ⟨M9, e10, h⟩ := bd_at h
    refine g_istM F rfl rfl h8 dX10_sounds_40 ?_
    rw [← e10]
    exact g_vret F hr9 hl9 (by rw [Option.some.inj h]) (by decide) (by decide) dX10_sounds_41
  have U19 : ∀ (M : MW) (l1 : Int32) (l2 : Int32) (l3 : Int32) (t1 : Int32) (t2 : Int32), fX10_sounds_b19 M l1 l2 l3 t1 t2 = some (M') → GJ p9 l e9 (rg 0 0 0) s9 m9 args9 below9 meth9 c9 (MQ below9 (QV s0 D ev (cells ev X M' (nb + 1))) args9 s9 0 0 (frA ev)) s0 D ev 4 0 0 19 [(0, .ref (ev 0 + 65)), (1, .int l1), (2, .int l2), (3, .int l3)] (.int t2 :: .int t1 :: .ref (ev 0 + 66) :: []) (cells ev X M (nb + 1)) := by
    intro M l1 l2 l3 t1 t2 h
    rw [fX10_sounds_b19] at h
    obtain ⟨h3, h⟩ := if_at h
    obtain ⟨M4, e5, h⟩ := bd_at h
    refine g_istM F rfl rfl h3 dX10_sounds_19 ?_
    rw [← e5]
    refine g_aload_n (i := 0) F dX10_sounds_20 rfl rfl ?_
    refine g_get_10_1 F wd_11_15 dX10_sounds_21 ?_
    refine g_iload_n (i := 1) F dX10_sounds_24 rfl rfl ?_
    refine g_iload_n (i := 2) F dX10_sounds_25 rfl rfl ?_
    refine g_iconst F dX10_sounds_26 (v := 1) (by decide) ?_
    refine g_icmp_ne (tgt := 34) F dX10_sounds_27 (by decide) h (fun a11 h => ?_) (fun a11 h => ?_)
    · refine g_aload_n (i := 0) F dX10_sounds_34 rfl rfl ?_
      refine g_get_10_1 F wd_11_15 dX10_sounds_35 ?_
      refine g_iload_n (i := 1) F dX10_sounds_38 rfl rfl ?_
      obtain ⟨v6, e7, h⟩ := bind_at h
      refine g_ildM F rfl rfl e7 dX10_sounds_39 ?_
      refine g_lv (lv' := []) trivial ?_
      exact U40 _ _ _ h
    · refine g_iload_n (i := 3) F dX10_sounds_30 rfl rfl ?_
      refine g_goto (tgt := 40) F dX10_sounds_31 (by decide) ?_
      refine g_lv (lv' := []) trivial ?_
      exact U40 _ _ _ h
  rw [fX10_sounds] at h
  refine g_lv (lv' := [(0, .ref (ev 0 + 65)), (1, .int l1), (2, .int l2), (3, .int l3)]) ⟨rfl, rfl, rfl, rfl, trivial⟩ ?_
  refine g_aload_n (i := 0) F dX10_sounds_0 rfl rfl ?_
  refine g_get_10_0 F wd_11_14 dX10_sounds_1 ?_
  refine g_iload_n (i := 1) F dX10_sounds_4 rfl rfl ?_
  refine g_iload_n (i := 2) F dX10_sounds_5 rfl rfl ?_
  refine g_if_ne (tgt := 13) F dX10_sounds_6 (by decide) h (fun a12 h => ?_) (fun a12 h => ?_)
  · refine g_aload_n (i := 0) F dX10_sounds_13 rfl rfl ?_
    refine g_get_10_0 F wd_11_14 dX10_sounds_14 ?_
    refine g_iload_n (i := 1) F dX10_sounds_17 rfl rfl ?_
    obtain ⟨v1, e2, h⟩ := bind_at h
    refine g_ildM F rfl rfl e2 dX10_sounds_18 ?_
    refine g_lv (lv' := [(0, .ref (ev 0 + 65)), (1, .int l1), (2, .int l2), (3, .int l3)]) ⟨rfl, rfl, rfl, rfl, trivial⟩ ?_
    exact U19 _ _ _ _ _ _ h
  · refine g_iload_n (i := 3) F dX10_sounds_9 rfl rfl ?_
    refine g_goto (tgt := 19) F dX10_sounds_10 (by decide) ?_
    refine g_lv (lv' := [(0, .ref (ev 0 + 65)), (1, .int l1), (2, .int l2), (3, .int l3)]) ⟨rfl, rfl, rfl, rfl, trivial⟩ ?_
    exact U19 _ _ _ _ _ _ h
def fX10_sound_b40 (M : MW) (l1 : Int32) (l2 : Int32) (l3 : Int32) (t0 : Int32) : Option (Int32 × MW) :=
  (fX10_sounds M l1 l2 l3).bind fun M7 =>
  some (t0, M7)
def fX10_sound (M : MW) (l1 : Int32) (l2 : Int32) (l3 : Int32) : Option (Int32 × MW) :=
  if (fX10_isCell l1) = 0 then some ((-5 : Int32), M)
  else if (fX10_isSounding l2 l3) = 0 then some ((-7 : Int32), M)
  else if l2 = 0 then (rd (M.2 66) 100 l1).bind fun v9 =>
  fX10_sound_b40 M l1 l2 l3 v9
  else (rd (M.2 67) 100 l1).bind fun v5 =>
  fX10_sound_b40 M l1 l2 l3 v5
set_option maxRecDepth 100000 in
set_option maxHeartbeats 4000000 in
theorem c_X10_sound {l : Launch} {s0 : State} {D : va_G} {ev : Nat → Nat} (G0 : Gl s0 D ev) {X : XW} {M : MW} {nb : Nat} {l1 : Int32} {l2 : Int32} {l3 : Int32} {r' : Int32} {M' : MW}  (h : fX10_sound M l1 l2 l3 = some (r', M')) : CT l s0 D ev yX10_sound cX10_sound 5 (some .int) 2 0 0 [.ref (ev 0 + 65), .int l1, .int l2, .int l3] (cells ev X M (nb + 1)) (QI s0 D ev r' (cells ev X M' (nb + 1))) := by
  refine ct_of G0 (by decide) (Nat.le_of_ble_eq_true rfl) ?_
  intro p9 e9 s9 m9 args9 below9 meth9 c9 F hr9 hl9 hin9 hargs9 hts9
  have U40 : ∀ (M : MW) (l1 : Int32) (l2 : Int32) (l3 : Int32) (t0 : Int32), fX10_sound_b40 M l1 l2 l3 t0 = some (r', M') → GJ p9 l e9 (rg 2 0 0) s9 m9 args9 below9 meth9 c9 (MQ below9 (QI s0 D ev r' (cells ev X M' (nb + 1))) args9 s9 0 0 (frA ev)) s0 D ev 5 0 0 40 [(0, .ref (ev 0 + 65)), (1, .int l1), (2, .int l2), (3, .int l3)] (.int t0 :: []) (cells ev X M (nb + 1)) := by
    intro M l1 l2 l3 t0 h
    rw [fX10_sound_b40] at h
    refine g_istore (i := 4) (lv' := [(4, .int t0), (0, .ref (ev 0 + 65)), (1, .int l1), (2, .int l2), (3, .int l3)]) F dX10_sound_40 (by decide) rfl ?_
    refine g_aload_n (i := 0) F dX10_sound_42 rfl rfl ?_
    refine g_iload_n (i := 1) F dX10_sound_43 rfl rfl ?_
    refine g_iload_n (i := 2) F dX10_sound_44 rfl rfl ?_
    refine g_iload_n (i := 3) F dX10_sound_45 rfl rfl ?_
    obtain ⟨M7, e8, h⟩ := bind_at h
    refine g_callVV F (mcR := 0) (msR := 0) (id := 65) (cells_at (kd_hidM (show kd 65 = 10 from rfl) (by decide)) (xc_10 rfl)) (ci := 10) rfl rfl rfl (c_X10_sounds G0 e8) wd_16_14 wd_16_11 wd_16_12 wd_16_13 wd_1_5 ⟨by decide, by decide⟩ (nn := 3) (by decide) (As := [.int l1, .int l2, .int l3]) rfl rfl (Nat.le_of_ble_eq_true rfl) (by decide) (by decide) ⟨by decide, by decide⟩ dX10_sound_46 ?_
    refine g_iload (i := 4) F dX10_sound_49 rfl ?_
    have hp := Prod.mk.inj (Option.some.inj h)
    exact g_iret F hr9 rfl hl9 hp.1 (by rw [hp.2]) (by decide) (by decide) dX10_sound_51
  rw [fX10_sound] at h
  refine g_lv (lv' := [(0, .ref (ev 0 + 65)), (1, .int l1), (2, .int l2), (3, .int l3)]) ⟨rfl, rfl, rfl, rfl, trivial⟩ ?_
  refine g_iload_n (i := 1) F dX10_sound_0 rfl rfl ?_
  refine g_callSI F (mcR := 0) (msR := 0) (c_X10_isCell G0 (X := X) (M := M) (nb := nb) rfl) wd_16_7 wd_16_5 wd_16_6 wd_1_5 ⟨by decide, by decide⟩ (nn := 1) (by decide) (As := [.int l1]) rfl rfl (Nat.le_of_ble_eq_true rfl) (by decide) (by decide) ⟨by decide, by decide⟩ dX10_sound_1 ?_
  refine g_if_ne (tgt := 10) F dX10_sound_4 (by decide) h (fun a13 h => ?_) (fun a13 h => ?_)
  · refine g_iload_n (i := 2) F dX10_sound_10 rfl rfl ?_
    refine g_iload_n (i := 3) F dX10_sound_11 rfl rfl ?_
    refine g_callSI F (mcR := 0) (msR := 0) (c_X10_isSounding G0 (X := X) (M := M) (nb := nb) rfl) wd_16_10 wd_16_8 wd_16_9 wd_1_5 ⟨by decide, by decide⟩ (nn := 2) (by decide) (As := [.int l2, .int l3]) rfl rfl (Nat.le_of_ble_eq_true rfl) (by decide) (by decide) ⟨by decide, by decide⟩ dX10_sound_12 ?_
    refine g_if_ne (tgt := 21) F dX10_sound_15 (by decide) h (fun a12 h => ?_) (fun a12 h => ?_)
    · refine g_iload_n (i := 2) F dX10_sound_21 rfl rfl ?_
      refine g_if_ne (tgt := 34) F dX10_sound_22 (by decide) h (fun a11 h => ?_) (fun a11 h => ?_)
      · refine g_aload_n (i := 0) F dX10_sound_34 rfl rfl ?_
        refine g_get_10_1 F wd_11_15 dX10_sound_35 ?_
        refine g_iload_n (i := 1) F dX10_sound_38 rfl rfl ?_
        obtain ⟨v5, e6, h⟩ := bind_at h
        refine g_ildM F rfl rfl e6 dX10_sound_39 ?_
        refine g_lv (lv' := [(0, .ref (ev 0 + 65)), (1, .int l1), (2, .int l2), (3, .int l3)]) ⟨rfl, rfl, rfl, rfl, trivial⟩ ?_
        exact U40 _ _ _ _ _ h
      · refine g_aload_n (i := 0) F dX10_sound_25 rfl rfl ?_
        refine g_get_10_0 F wd_11_14 dX10_sound_26 ?_
        refine g_iload_n (i := 1) F dX10_sound_29 rfl rfl ?_
        obtain ⟨v9, e10, h⟩ := bind_at h
        refine g_ildM F rfl rfl e10 dX10_sound_30 ?_
        refine g_goto (tgt := 40) F dX10_sound_31 (by decide) ?_
        refine g_lv (lv' := [(0, .ref (ev 0 + 65)), (1, .int l1), (2, .int l2), (3, .int l3)]) ⟨rfl, rfl, rfl, rfl, trivial⟩ ?_
        exact U40 _ _ _ _ _ h
    · refine g_bipush F dX10_sound_18 (v := -7) (by decide) ?_
      have hp := Prod.mk.inj (Option.some.inj h)
      exact g_iret F hr9 rfl hl9 hp.1 (by rw [hp.2]) (by decide) (by decide) dX10_sound_20
  · refine g_bipush F dX10_sound_7 (v := -5) (by decide) ?_
    have hp := Prod.mk.inj (Option.some.inj h)
    exact g_iret F hr9 rfl hl9 hp.1 (by rw [hp.2]) (by decide) (by decide) dX10_sound_9
def fX10_chart_l88 (l1f61 : Int32) (l2f61 : Int32) (l3f61 : Int32) (l4f61 : Int32) (l6f88 : Int32) (K61 : MW → Int32 → Int32 → Option (Int32 × MW)) (K88 : MW → Int32 → Int32 → Option (Int32 × MW)) (M : MW) (l5 : Int32) (l7 : Int32) : Option (Int32 × MW) :=
  if ((jrem l1f61 (10 : Int32)) + (jrem l2f61 (10 : Int32))) ≤ l7 then K61 M l5 (l6f88 + (1 : Int32))
  else if (10 : Int32) ≤ l7 then K61 M l5 (l6f88 + (1 : Int32))
  else (fX10_sounds M (((10 : Int32) * l6f88) + l7) l3f61 l4f61).bind fun M13 =>
  K88 M13 (l5 + (1 : Int32)) (l7 + (1 : Int32))
def fX10_chart_l61 (l1f61 : Int32) (l2f61 : Int32) (l3f61 : Int32) (l4f61 : Int32) (K61 : MW → Int32 → Int32 → Option (Int32 × MW)) (M : MW) (l5 : Int32) (l6 : Int32) : Option (Int32 × MW) :=
  if ((l1f61 / (10 : Int32)) + (l2f61 / (10 : Int32))) ≤ l6 then some (l5, M)
  else if (10 : Int32) ≤ l6 then some (l5, M)
  else bd (jrem l1f61 (10 : Int32)) fun v11 =>
  lo3 (fX10_chart_l88 l1f61 l2f61 l3f61 l4f61 l6 K61) FU M l5 v11
def fX10_chart (M : MW) (l1 : Int32) (l2 : Int32) (l3 : Int32) (l4 : Int32) : Option (Int32 × MW) :=
  if (fX10_isCell l1) = 0 then some ((-2 : Int32), M)
  else if l2 < 0 then some ((-2 : Int32), M)
  else if (fX10_in (l2 / (10 : Int32)) (1 : Int32) (9 : Int32)) = 0 then some ((-2 : Int32), M)
  else if (fX10_in (jrem l2 (10 : Int32)) (1 : Int32) (9 : Int32)) = 0 then some ((-2 : Int32), M)
  else if (fX10_isSounding l3 l4) = 0 then some ((-7 : Int32), M)
  else bd (l1 / (10 : Int32)) fun v9 =>
  lo3 (fX10_chart_l61 l1 l2 l3 l4) FU M (0 : Int32) v9
set_option maxRecDepth 100000 in
set_option maxHeartbeats 4000000 in
theorem c_X10_chart {l : Launch} {s0 : State} {D : va_G} {ev : Nat → Nat} (G0 : Gl s0 D ev) {X : XW} {M : MW} {nb : Nat} {l1 : Int32} {l2 : Int32} {l3 : Int32} {l4 : Int32} {r' : Int32} {M' : MW}  (h : fX10_chart M l1 l2 l3 l4 = some (r', M')) : CT l s0 D ev yX10_chart cX10_chart 8 (some .int) 2 0 0 [.ref (ev 0 + 65), .int l1, .int l2, .int l3, .int l4] (cells ev X M (nb + 1)) (QI s0 D ev r' (cells ev X M' (nb + 1))) := by
  refine ct_of G0 (by decide) (Nat.le_of_ble_eq_true rfl) ?_
  intro p9 e9 s9 m9 args9 below9 meth9 c9 F hr9 hl9 hin9 hargs9 hts9
  have L61 : ∀ (l1f61 : Int32) (l2f61 : Int32) (l3f61 : Int32) (l4f61 : Int32) (N61 : Nat) (M : MW) (l5 : Int32) (l6 : Int32), lo3 (fX10_chart_l61 l1f61 l2f61 l3f61 l4f61) N61 M l5 l6 = some (r', M') → GJ p9 l e9 (rg 2 0 0) s9 m9 args9 below9 meth9 c9 (MQ below9 (QI s0 D ev r' (cells ev X M' (nb + 1))) args9 s9 0 0 (frA ev)) s0 D ev 8 0 0 61 [(0, .ref (ev 0 + 65)), (1, .int l1f61), (2, .int l2f61), (3, .int l3f61), (4, .int l4f61), (5, .int l5), (6, .int l6)] ([]) (cells ev X M (nb + 1)) := by
    intro l1f61 l2f61 l3f61 l4f61 N61
    induction N61 with
    | zero => intro M l5 l6 h; cases h
    | succ N61 ih61 =>
      have L88 : ∀ (l6f88 : Int32) (N88 : Nat) (M : MW) (l5 : Int32) (l7 : Int32), lo3 (fX10_chart_l88 l1f61 l2f61 l3f61 l4f61 l6f88 (lo3 (fX10_chart_l61 l1f61 l2f61 l3f61 l4f61) N61)) N88 M l5 l7 = some (r', M') → GJ p9 l e9 (rg 2 0 0) s9 m9 args9 below9 meth9 c9 (MQ below9 (QI s0 D ev r' (cells ev X M' (nb + 1))) args9 s9 0 0 (frA ev)) s0 D ev 8 0 0 88 [(0, .ref (ev 0 + 65)), (1, .int l1f61), (2, .int l2f61), (3, .int l3f61), (4, .int l4f61), (5, .int l5), (6, .int l6f88), (7, .int l7)] ([]) (cells ev X M (nb + 1)) := by
        intro l6f88 N88
        induction N88 with
        | zero => intro M l5 l7 h; cases h
        | succ N88 ih88 =>
          intro M l5 l7 h
          change fX10_chart_l88 l1f61 l2f61 l3f61 l4f61 l6f88 (lo3 (fX10_chart_l61 l1f61 l2f61 l3f61 l4f61) N61) (lo3 (fX10_chart_l88 l1f61 l2f61 l3f61 l4f61 l6f88 (lo3 (fX10_chart_l61 l1f61 l2f61 l3f61 l4f61) N61)) N88) M l5 l7 = some (r', M') at h
          rw [fX10_chart_l88] at h
          refine g_iload (i := 7) F dX10_chart_88 rfl ?_
          refine g_iload_n (i := 1) F dX10_chart_90 rfl rfl ?_
          refine g_bipush F dX10_chart_91 (v := 10) (by decide) ?_
          refine g_irem F dX10_chart_93 (by decide) ?_
          refine g_iload_n (i := 2) F dX10_chart_94 rfl rfl ?_
          refine g_bipush F dX10_chart_95 (v := 10) (by decide) ?_
          refine g_irem F dX10_chart_97 (by decide) ?_
          refine g_iadd F dX10_chart_98 ?_
          refine g_icmp_ge (tgt := 133) F dX10_chart_99 (by decide) h (fun a16 h => ?_) (fun a16 h => ?_)
          · refine g_iinc (i := 6) (v := (l6f88 + (1 : Int32))) (lv' := [(6, .int (l6f88 + (1 : Int32))), (0, .ref (ev 0 + 65)), (1, .int l1f61), (2, .int l2f61), (3, .int l3f61), (4, .int l4f61), (5, .int l5), (7, .int l7)]) F dX10_chart_133 rfl rfl (by decide) rfl ?_
            refine g_goto (tgt := 61) F dX10_chart_136 (by decide) ?_
            refine g_lv (lv' := [(0, .ref (ev 0 + 65)), (1, .int l1f61), (2, .int l2f61), (3, .int l3f61), (4, .int l4f61), (5, .int l5), (6, .int (l6f88 + (1 : Int32)))]) ⟨rfl, rfl, rfl, rfl, rfl, rfl, rfl, trivial⟩ ?_
            exact ih61 _ _ _ h
          · refine g_iload (i := 7) F dX10_chart_102 rfl ?_
            refine g_bipush F dX10_chart_104 (v := 10) (by decide) ?_
            refine g_icmp_ge (tgt := 133) F dX10_chart_106 (by decide) h (fun a15 h => ?_) (fun a15 h => ?_)
            · refine g_iinc (i := 6) (v := (l6f88 + (1 : Int32))) (lv' := [(6, .int (l6f88 + (1 : Int32))), (0, .ref (ev 0 + 65)), (1, .int l1f61), (2, .int l2f61), (3, .int l3f61), (4, .int l4f61), (5, .int l5), (7, .int l7)]) F dX10_chart_133 rfl rfl (by decide) rfl ?_
              refine g_goto (tgt := 61) F dX10_chart_136 (by decide) ?_
              refine g_lv (lv' := [(0, .ref (ev 0 + 65)), (1, .int l1f61), (2, .int l2f61), (3, .int l3f61), (4, .int l4f61), (5, .int l5), (6, .int (l6f88 + (1 : Int32)))]) ⟨rfl, rfl, rfl, rfl, rfl, rfl, rfl, trivial⟩ ?_
              exact ih61 _ _ _ h
            · refine g_aload_n (i := 0) F dX10_chart_109 rfl rfl ?_
              refine g_bipush F dX10_chart_110 (v := 10) (by decide) ?_
              refine g_iload (i := 6) F dX10_chart_112 rfl ?_
              refine g_imul F dX10_chart_114 ?_
              refine g_iload (i := 7) F dX10_chart_115 rfl ?_
              refine g_iadd F dX10_chart_117 ?_
              refine g_iload_n (i := 3) F dX10_chart_118 rfl rfl ?_
              refine g_iload (i := 4) F dX10_chart_119 rfl ?_
              obtain ⟨M13, e14, h⟩ := bind_at h
              refine g_callVV F (mcR := 0) (msR := 0) (id := 65) (cells_at (kd_hidM (show kd 65 = 10 from rfl) (by decide)) (xc_10 rfl)) (ci := 10) rfl rfl rfl (c_X10_sounds G0 e14) wd_16_14 wd_16_11 wd_16_12 wd_16_13 wd_1_5 ⟨by decide, by decide⟩ (nn := 3) (by decide) (As := [.int (((10 : Int32) * l6f88) + l7), .int l3f61, .int l4f61]) rfl rfl (Nat.le_of_ble_eq_true rfl) (by decide) (by decide) ⟨by decide, by decide⟩ dX10_chart_121 ?_
              refine g_iinc (i := 5) (v := (l5 + (1 : Int32))) (lv' := [(5, .int (l5 + (1 : Int32))), (0, .ref (ev 0 + 65)), (1, .int l1f61), (2, .int l2f61), (3, .int l3f61), (4, .int l4f61), (6, .int l6f88), (7, .int l7)]) F dX10_chart_124 rfl rfl (by decide) rfl ?_
              refine g_iinc (i := 7) (v := (l7 + (1 : Int32))) (lv' := [(7, .int (l7 + (1 : Int32))), (5, .int (l5 + (1 : Int32))), (0, .ref (ev 0 + 65)), (1, .int l1f61), (2, .int l2f61), (3, .int l3f61), (4, .int l4f61), (6, .int l6f88)]) F dX10_chart_127 rfl rfl (by decide) rfl ?_
              refine g_goto (tgt := 88) F dX10_chart_130 (by decide) ?_
              refine g_lv (lv' := [(0, .ref (ev 0 + 65)), (1, .int l1f61), (2, .int l2f61), (3, .int l3f61), (4, .int l4f61), (5, .int (l5 + (1 : Int32))), (6, .int l6f88), (7, .int (l7 + (1 : Int32)))]) ⟨rfl, rfl, rfl, rfl, rfl, rfl, rfl, rfl, trivial⟩ ?_
              exact ih88 _ _ _ h
      intro M l5 l6 h
      change fX10_chart_l61 l1f61 l2f61 l3f61 l4f61 (lo3 (fX10_chart_l61 l1f61 l2f61 l3f61 l4f61) N61) M l5 l6 = some (r', M') at h
      rw [fX10_chart_l61] at h
      refine g_iload (i := 6) F dX10_chart_61 rfl ?_
      refine g_iload_n (i := 1) F dX10_chart_63 rfl rfl ?_
      refine g_bipush F dX10_chart_64 (v := 10) (by decide) ?_
      refine g_idiv F dX10_chart_66 (by decide) ?_
      refine g_iload_n (i := 2) F dX10_chart_67 rfl rfl ?_
      refine g_bipush F dX10_chart_68 (v := 10) (by decide) ?_
      refine g_idiv F dX10_chart_70 (by decide) ?_
      refine g_iadd F dX10_chart_71 ?_
      refine g_icmp_ge (tgt := 139) F dX10_chart_72 (by decide) h (fun a18 h => ?_) (fun a18 h => ?_)
      · refine g_iload (i := 5) F dX10_chart_139 rfl ?_
        have hp := Prod.mk.inj (Option.some.inj h)
        exact g_iret F hr9 rfl hl9 hp.1 (by rw [hp.2]) (by decide) (by decide) dX10_chart_141
      · refine g_iload (i := 6) F dX10_chart_75 rfl ?_
        refine g_bipush F dX10_chart_77 (v := 10) (by decide) ?_
        refine g_icmp_ge (tgt := 139) F dX10_chart_79 (by decide) h (fun a17 h => ?_) (fun a17 h => ?_)
        · refine g_iload (i := 5) F dX10_chart_139 rfl ?_
          have hp := Prod.mk.inj (Option.some.inj h)
          exact g_iret F hr9 rfl hl9 hp.1 (by rw [hp.2]) (by decide) (by decide) dX10_chart_141
        · refine g_iload_n (i := 1) F dX10_chart_82 rfl rfl ?_
          refine g_bipush F dX10_chart_83 (v := 10) (by decide) ?_
          refine g_irem F dX10_chart_85 (by decide) ?_
          refine g_topi F h (fun v11 e12 h => ?_)
          refine g_istore (i := 7) (lv' := [(7, .int v11), (0, .ref (ev 0 + 65)), (1, .int l1f61), (2, .int l2f61), (3, .int l3f61), (4, .int l4f61), (5, .int l5), (6, .int l6)]) F dX10_chart_86 (by decide) rfl ?_
          refine g_lv (lv' := [(0, .ref (ev 0 + 65)), (1, .int l1f61), (2, .int l2f61), (3, .int l3f61), (4, .int l4f61), (5, .int l5), (6, .int l6), (7, .int v11)]) ⟨rfl, rfl, rfl, rfl, rfl, rfl, rfl, rfl, trivial⟩ ?_
          exact L88 _ FU _ _ _ h
  rw [fX10_chart] at h
  refine g_lv (lv' := [(0, .ref (ev 0 + 65)), (1, .int l1), (2, .int l2), (3, .int l3), (4, .int l4)]) ⟨rfl, rfl, rfl, rfl, rfl, trivial⟩ ?_
  refine g_iload_n (i := 1) F dX10_chart_0 rfl rfl ?_
  refine g_callSI F (mcR := 0) (msR := 0) (c_X10_isCell G0 (X := X) (M := M) (nb := nb) rfl) wd_16_7 wd_16_5 wd_16_6 wd_1_5 ⟨by decide, by decide⟩ (nn := 1) (by decide) (As := [.int l1]) rfl rfl (Nat.le_of_ble_eq_true rfl) (by decide) (by decide) ⟨by decide, by decide⟩ dX10_chart_1 ?_
  refine g_if_eq (tgt := 37) F dX10_chart_4 (by decide) h (fun a23 h => ?_) (fun a23 h => ?_)
  · refine g_bipush F dX10_chart_37 (v := -2) (by decide) ?_
    have hp := Prod.mk.inj (Option.some.inj h)
    exact g_iret F hr9 rfl hl9 hp.1 (by rw [hp.2]) (by decide) (by decide) dX10_chart_39
  · refine g_iload_n (i := 2) F dX10_chart_7 rfl rfl ?_
    refine g_if_lt (tgt := 37) F dX10_chart_8 (by decide) h (fun a22 h => ?_) (fun a22 h => ?_)
    · refine g_bipush F dX10_chart_37 (v := -2) (by decide) ?_
      have hp := Prod.mk.inj (Option.some.inj h)
      exact g_iret F hr9 rfl hl9 hp.1 (by rw [hp.2]) (by decide) (by decide) dX10_chart_39
    · refine g_iload_n (i := 2) F dX10_chart_11 rfl rfl ?_
      refine g_bipush F dX10_chart_12 (v := 10) (by decide) ?_
      refine g_idiv F dX10_chart_14 (by decide) ?_
      refine g_iconst F dX10_chart_15 (v := 1) (by decide) ?_
      refine g_bipush F dX10_chart_16 (v := 9) (by decide) ?_
      refine g_callSI F (mcR := 0) (msR := 0) (c_X10_in G0 (X := X) (M := M) (nb := nb) rfl) wd_13_21 wd_13_19 wd_13_20 wd_1_5 ⟨by decide, by decide⟩ (nn := 3) (by decide) (As := [.int (l2 / (10 : Int32)), .int (1 : Int32), .int (9 : Int32)]) rfl rfl (Nat.le_of_ble_eq_true rfl) (by decide) (by decide) ⟨by decide, by decide⟩ dX10_chart_18 ?_
      refine g_if_eq (tgt := 37) F dX10_chart_21 (by decide) h (fun a21 h => ?_) (fun a21 h => ?_)
      · refine g_bipush F dX10_chart_37 (v := -2) (by decide) ?_
        have hp := Prod.mk.inj (Option.some.inj h)
        exact g_iret F hr9 rfl hl9 hp.1 (by rw [hp.2]) (by decide) (by decide) dX10_chart_39
      · refine g_iload_n (i := 2) F dX10_chart_24 rfl rfl ?_
        refine g_bipush F dX10_chart_25 (v := 10) (by decide) ?_
        refine g_irem F dX10_chart_27 (by decide) ?_
        refine g_iconst F dX10_chart_28 (v := 1) (by decide) ?_
        refine g_bipush F dX10_chart_29 (v := 9) (by decide) ?_
        refine g_callSI F (mcR := 0) (msR := 0) (c_X10_in G0 (X := X) (M := M) (nb := nb) rfl) wd_13_21 wd_13_19 wd_13_20 wd_1_5 ⟨by decide, by decide⟩ (nn := 3) (by decide) (As := [.int (jrem l2 (10 : Int32)), .int (1 : Int32), .int (9 : Int32)]) rfl rfl (Nat.le_of_ble_eq_true rfl) (by decide) (by decide) ⟨by decide, by decide⟩ dX10_chart_31 ?_
        refine g_if_ne (tgt := 40) F dX10_chart_34 (by decide) h (fun a20 h => ?_) (fun a20 h => ?_)
        · refine g_iload_n (i := 3) F dX10_chart_40 rfl rfl ?_
          refine g_iload (i := 4) F dX10_chart_41 rfl ?_
          refine g_callSI F (mcR := 0) (msR := 0) (c_X10_isSounding G0 (X := X) (M := M) (nb := nb) rfl) wd_16_10 wd_16_8 wd_16_9 wd_1_5 ⟨by decide, by decide⟩ (nn := 2) (by decide) (As := [.int l3, .int l4]) rfl rfl (Nat.le_of_ble_eq_true rfl) (by decide) (by decide) ⟨by decide, by decide⟩ dX10_chart_43 ?_
          refine g_if_ne (tgt := 52) F dX10_chart_46 (by decide) h (fun a19 h => ?_) (fun a19 h => ?_)
          · refine g_iconst F dX10_chart_52 (v := 0) (by decide) ?_
            refine g_istore (i := 5) (lv' := [(5, .int (0 : Int32)), (0, .ref (ev 0 + 65)), (1, .int l1), (2, .int l2), (3, .int l3), (4, .int l4)]) F dX10_chart_53 (by decide) rfl ?_
            refine g_iload_n (i := 1) F dX10_chart_55 rfl rfl ?_
            refine g_bipush F dX10_chart_56 (v := 10) (by decide) ?_
            refine g_idiv F dX10_chart_58 (by decide) ?_
            refine g_topi F h (fun v9 e10 h => ?_)
            refine g_istore (i := 6) (lv' := [(6, .int v9), (5, .int (0 : Int32)), (0, .ref (ev 0 + 65)), (1, .int l1), (2, .int l2), (3, .int l3), (4, .int l4)]) F dX10_chart_59 (by decide) rfl ?_
            refine g_lv (lv' := [(0, .ref (ev 0 + 65)), (1, .int l1), (2, .int l2), (3, .int l3), (4, .int l4), (5, .int (0 : Int32)), (6, .int v9)]) ⟨rfl, rfl, rfl, rfl, rfl, rfl, rfl, trivial⟩ ?_
            exact L61 _ _ _ _ FU _ _ _ h
          · refine g_bipush F dX10_chart_49 (v := -7) (by decide) ?_
            have hp := Prod.mk.inj (Option.some.inj h)
            exact g_iret F hr9 rfl hl9 hp.1 (by rw [hp.2]) (by decide) (by decide) dX10_chart_51
        · refine g_bipush F dX10_chart_37 (v := -2) (by decide) ?_
          have hp := Prod.mk.inj (Option.some.inj h)
          exact g_iret F hr9 rfl hl9 hp.1 (by rw [hp.2]) (by decide) (by decide) dX10_chart_39
def fX10_blow_b165 (M : MW) (l5 : Int32) (t1 : Int32) (t2 : Int32) : Option (Int32 × MW) :=
  if inb t1 12 then bd (mA M 70 t1 t2) fun M18 =>
  some (l5, M18)
  else none
def fX10_blow_b144 (M : MW) (l1 : Int32) (l2 : Int32) (l3 : Int32) (l5 : Int32) (t1 : Int32) (t2 : Int32) : Option (Int32 × MW) :=
  if inb t1 12 then bd (mA M 69 t1 t2) fun M13 =>
  if l2 = (2 : Int32) then fX10_blow_b165 M13 l5 l1 l3
  else (rd (M13.2 70) 12 l1).bind fun v15 =>
  fX10_blow_b165 M13 l5 l1 v15
  else none
def fX10_blow_b123 (M : MW) (l1 : Int32) (l2 : Int32) (l3 : Int32) (l5 : Int32) (t1 : Int32) (t2 : Int32) : Option (Int32 × MW) :=
  if inb t1 12 then bd (mA M 68 t1 t2) fun M8 =>
  if l2 = (1 : Int32) then fX10_blow_b144 M8 l1 l2 l3 l5 l1 l3
  else (rd (M8.2 69) 12 l1).bind fun v10 =>
  fX10_blow_b144 M8 l1 l2 l3 l5 l1 v10
  else none
def fX10_blow_b102 (M : MW) (l1 : Int32) (l2 : Int32) (l3 : Int32) (t0 : Int32) : Option (Int32 × MW) :=
  if l2 = 0 then fX10_blow_b123 M l1 l2 l3 t0 l1 l3
  else (rd (M.2 68) 12 l1).bind fun v5 =>
  fX10_blow_b123 M l1 l2 l3 t0 l1 v5
def fX10_blow_b59 (M : MW) (l1 : Int32) (l2 : Int32) (l3 : Int32) (t0 : Int32) : Option (Int32 × MW) :=
  if t0 = 0 then some ((-7 : Int32), M)
  else if l2 = 0 then (rd (M.2 68) 12 l1).bind fun v26 =>
  fX10_blow_b102 M l1 l2 l3 v26
  else if l2 = (1 : Int32) then (rd (M.2 69) 12 l1).bind fun v23 =>
  fX10_blow_b102 M l1 l2 l3 v23
  else (rd (M.2 70) 12 l1).bind fun v3 =>
  fX10_blow_b102 M l1 l2 l3 v3
def fX10_blow_b58 (M : MW) (l1 : Int32) (l2 : Int32) (l3 : Int32) : Option (Int32 × MW) :=
  fX10_blow_b59 M l1 l2 l3 (0 : Int32)
def fX10_blow (M : MW) (l1 : Int32) (l2 : Int32) (l3 : Int32) : Option (Int32 × MW) :=
  if (fX10_isHour l1) = 0 then some ((-5 : Int32), M)
  else if l2 = 0 then fX10_blow_b59 M l1 l2 l3 (fX10_in l3 (0 : Int32) (7 : Int32))
  else if l2 = (1 : Int32) then fX10_blow_b59 M l1 l2 l3 (fX10_in l3 (0 : Int32) (99 : Int32))
  else if l2 = (2 : Int32) then if (fX10_in l3 (-3 : Int32) (3 : Int32)) = 0 then fX10_blow_b58 M l1 l2 l3
  else fX10_blow_b59 M l1 l2 l3 (1 : Int32)
  else fX10_blow_b58 M l1 l2 l3
set_option maxRecDepth 100000 in
set_option maxHeartbeats 4000000 in
theorem c_X10_blow {l : Launch} {s0 : State} {D : va_G} {ev : Nat → Nat} (G0 : Gl s0 D ev) {X : XW} {M : MW} {nb : Nat} {l1 : Int32} {l2 : Int32} {l3 : Int32} {r' : Int32} {M' : MW}  (h : fX10_blow M l1 l2 l3 = some (r', M')) : CT l s0 D ev yX10_blow cX10_blow 6 (some .int) 2 0 0 [.ref (ev 0 + 65), .int l1, .int l2, .int l3] (cells ev X M (nb + 1)) (QI s0 D ev r' (cells ev X M' (nb + 1))) := by
  refine ct_of G0 (by decide) (Nat.le_of_ble_eq_true rfl) ?_
  intro p9 e9 s9 m9 args9 below9 meth9 c9 F hr9 hl9 hin9 hargs9 hts9
  have U165 : ∀ (M : MW) (l5 : Int32) (t1 : Int32) (t2 : Int32), fX10_blow_b165 M l5 t1 t2 = some (r', M') → GJ p9 l e9 (rg 2 0 0) s9 m9 args9 below9 meth9 c9 (MQ below9 (QI s0 D ev r' (cells ev X M' (nb + 1))) args9 s9 0 0 (frA ev)) s0 D ev 6 0 0 165 [(5, .int l5)] (.int t2 :: .int t1 :: .ref (ev 0 + 70) :: []) (cells ev X M (nb + 1)) := by
    intro M l5 t1 t2 h
    rw [fX10_blow_b165] at h
    obtain ⟨h17, h⟩ := if_at h
    obtain ⟨M18, e19, h⟩ := bd_at h
    refine g_istM F rfl rfl h17 dX10_blow_165 ?_
    rw [← e19]
    refine g_iload (i := 5) F dX10_blow_166 rfl ?_
    have hp := Prod.mk.inj (Option.some.inj h)
    exact g_iret F hr9 rfl hl9 hp.1 (by rw [hp.2]) (by decide) (by decide) dX10_blow_168
  have U144 : ∀ (M : MW) (l1 : Int32) (l2 : Int32) (l3 : Int32) (l5 : Int32) (t1 : Int32) (t2 : Int32), fX10_blow_b144 M l1 l2 l3 l5 t1 t2 = some (r', M') → GJ p9 l e9 (rg 2 0 0) s9 m9 args9 below9 meth9 c9 (MQ below9 (QI s0 D ev r' (cells ev X M' (nb + 1))) args9 s9 0 0 (frA ev)) s0 D ev 6 0 0 144 [(0, .ref (ev 0 + 65)), (1, .int l1), (2, .int l2), (3, .int l3), (5, .int l5)] (.int t2 :: .int t1 :: .ref (ev 0 + 69) :: []) (cells ev X M (nb + 1)) := by
    intro M l1 l2 l3 l5 t1 t2 h
    rw [fX10_blow_b144] at h
    obtain ⟨h12, h⟩ := if_at h
    obtain ⟨M13, e14, h⟩ := bd_at h
    refine g_istM F rfl rfl h12 dX10_blow_144 ?_
    rw [← e14]
    refine g_aload_n (i := 0) F dX10_blow_145 rfl rfl ?_
    refine g_get_10_4 F wd_11_18 dX10_blow_146 ?_
    refine g_iload_n (i := 1) F dX10_blow_149 rfl rfl ?_
    refine g_iload_n (i := 2) F dX10_blow_150 rfl rfl ?_
    refine g_iconst F dX10_blow_151 (v := 2) (by decide) ?_
    refine g_icmp_ne (tgt := 159) F dX10_blow_152 (by decide) h (fun a20 h => ?_) (fun a20 h => ?_)
    · refine g_aload_n (i := 0) F dX10_blow_159 rfl rfl ?_
      refine g_get_10_4 F wd_11_18 dX10_blow_160 ?_
      refine g_iload_n (i := 1) F dX10_blow_163 rfl rfl ?_
      obtain ⟨v15, e16, h⟩ := bind_at h
      refine g_ildM F rfl rfl e16 dX10_blow_164 ?_
      refine g_lv (lv' := [(5, .int l5)]) ⟨rfl, trivial⟩ ?_
      exact U165 _ _ _ _ h
    · refine g_iload_n (i := 3) F dX10_blow_155 rfl rfl ?_
      refine g_goto (tgt := 165) F dX10_blow_156 (by decide) ?_
      refine g_lv (lv' := [(5, .int l5)]) ⟨rfl, trivial⟩ ?_
      exact U165 _ _ _ _ h
  have U123 : ∀ (M : MW) (l1 : Int32) (l2 : Int32) (l3 : Int32) (l5 : Int32) (t1 : Int32) (t2 : Int32), fX10_blow_b123 M l1 l2 l3 l5 t1 t2 = some (r', M') → GJ p9 l e9 (rg 2 0 0) s9 m9 args9 below9 meth9 c9 (MQ below9 (QI s0 D ev r' (cells ev X M' (nb + 1))) args9 s9 0 0 (frA ev)) s0 D ev 6 0 0 123 [(0, .ref (ev 0 + 65)), (1, .int l1), (2, .int l2), (3, .int l3), (5, .int l5)] (.int t2 :: .int t1 :: .ref (ev 0 + 68) :: []) (cells ev X M (nb + 1)) := by
    intro M l1 l2 l3 l5 t1 t2 h
    rw [fX10_blow_b123] at h
    obtain ⟨h7, h⟩ := if_at h
    obtain ⟨M8, e9, h⟩ := bd_at h
    refine g_istM F rfl rfl h7 dX10_blow_123 ?_
    rw [← e9]
    refine g_aload_n (i := 0) F dX10_blow_124 rfl rfl ?_
    refine g_get_10_3 F wd_11_17 dX10_blow_125 ?_
    refine g_iload_n (i := 1) F dX10_blow_128 rfl rfl ?_
    refine g_iload_n (i := 2) F dX10_blow_129 rfl rfl ?_
    refine g_iconst F dX10_blow_130 (v := 1) (by decide) ?_
    refine g_icmp_ne (tgt := 138) F dX10_blow_131 (by decide) h (fun a21 h => ?_) (fun a21 h => ?_)
    · refine g_aload_n (i := 0) F dX10_blow_138 rfl rfl ?_
      refine g_get_10_3 F wd_11_17 dX10_blow_139 ?_
      refine g_iload_n (i := 1) F dX10_blow_142 rfl rfl ?_
      obtain ⟨v10, e11, h⟩ := bind_at h
      refine g_ildM F rfl rfl e11 dX10_blow_143 ?_
      refine g_lv (lv' := [(0, .ref (ev 0 + 65)), (1, .int l1), (2, .int l2), (3, .int l3), (5, .int l5)]) ⟨rfl, rfl, rfl, rfl, rfl, trivial⟩ ?_
      exact U144 _ _ _ _ _ _ _ h
    · refine g_iload_n (i := 3) F dX10_blow_134 rfl rfl ?_
      refine g_goto (tgt := 144) F dX10_blow_135 (by decide) ?_
      refine g_lv (lv' := [(0, .ref (ev 0 + 65)), (1, .int l1), (2, .int l2), (3, .int l3), (5, .int l5)]) ⟨rfl, rfl, rfl, rfl, rfl, trivial⟩ ?_
      exact U144 _ _ _ _ _ _ _ h
  have U102 : ∀ (M : MW) (l1 : Int32) (l2 : Int32) (l3 : Int32) (t0 : Int32), fX10_blow_b102 M l1 l2 l3 t0 = some (r', M') → GJ p9 l e9 (rg 2 0 0) s9 m9 args9 below9 meth9 c9 (MQ below9 (QI s0 D ev r' (cells ev X M' (nb + 1))) args9 s9 0 0 (frA ev)) s0 D ev 6 0 0 102 [(0, .ref (ev 0 + 65)), (1, .int l1), (2, .int l2), (3, .int l3)] (.int t0 :: []) (cells ev X M (nb + 1)) := by
    intro M l1 l2 l3 t0 h
    rw [fX10_blow_b102] at h
    refine g_istore (i := 5) (lv' := [(5, .int t0), (0, .ref (ev 0 + 65)), (1, .int l1), (2, .int l2), (3, .int l3)]) F dX10_blow_102 (by decide) rfl ?_
    refine g_aload_n (i := 0) F dX10_blow_104 rfl rfl ?_
    refine g_get_10_2 F wd_11_16 dX10_blow_105 ?_
    refine g_iload_n (i := 1) F dX10_blow_108 rfl rfl ?_
    refine g_iload_n (i := 2) F dX10_blow_109 rfl rfl ?_
    refine g_if_ne (tgt := 117) F dX10_blow_110 (by decide) h (fun a22 h => ?_) (fun a22 h => ?_)
    · refine g_aload_n (i := 0) F dX10_blow_117 rfl rfl ?_
      refine g_get_10_2 F wd_11_16 dX10_blow_118 ?_
      refine g_iload_n (i := 1) F dX10_blow_121 rfl rfl ?_
      obtain ⟨v5, e6, h⟩ := bind_at h
      refine g_ildM F rfl rfl e6 dX10_blow_122 ?_
      refine g_lv (lv' := [(0, .ref (ev 0 + 65)), (1, .int l1), (2, .int l2), (3, .int l3), (5, .int t0)]) ⟨rfl, rfl, rfl, rfl, rfl, trivial⟩ ?_
      exact U123 _ _ _ _ _ _ _ h
    · refine g_iload_n (i := 3) F dX10_blow_113 rfl rfl ?_
      refine g_goto (tgt := 123) F dX10_blow_114 (by decide) ?_
      refine g_lv (lv' := [(0, .ref (ev 0 + 65)), (1, .int l1), (2, .int l2), (3, .int l3), (5, .int t0)]) ⟨rfl, rfl, rfl, rfl, rfl, trivial⟩ ?_
      exact U123 _ _ _ _ _ _ _ h
  have U59 : ∀ (M : MW) (l1 : Int32) (l2 : Int32) (l3 : Int32) (t0 : Int32), fX10_blow_b59 M l1 l2 l3 t0 = some (r', M') → GJ p9 l e9 (rg 2 0 0) s9 m9 args9 below9 meth9 c9 (MQ below9 (QI s0 D ev r' (cells ev X M' (nb + 1))) args9 s9 0 0 (frA ev)) s0 D ev 6 0 0 59 [(0, .ref (ev 0 + 65)), (1, .int l1), (2, .int l2), (3, .int l3)] (.int t0 :: []) (cells ev X M (nb + 1)) := by
    intro M l1 l2 l3 t0 h
    rw [fX10_blow_b59] at h
    refine g_istore (i := 4) (lv' := [(4, .int t0), (0, .ref (ev 0 + 65)), (1, .int l1), (2, .int l2), (3, .int l3)]) F dX10_blow_59 (by decide) rfl ?_
    refine g_iload (i := 4) F dX10_blow_61 rfl ?_
    refine g_if_ne (tgt := 69) F dX10_blow_63 (by decide) h (fun a29 h => ?_) (fun a29 h => ?_)
    · refine g_iload_n (i := 2) F dX10_blow_69 rfl rfl ?_
      refine g_if_ne (tgt := 82) F dX10_blow_70 (by decide) h (fun a28 h => ?_) (fun a28 h => ?_)
      · refine g_iload_n (i := 2) F dX10_blow_82 rfl rfl ?_
        refine g_iconst F dX10_blow_83 (v := 1) (by decide) ?_
        refine g_icmp_ne (tgt := 96) F dX10_blow_84 (by decide) h (fun a25 h => ?_) (fun a25 h => ?_)
        · refine g_aload_n (i := 0) F dX10_blow_96 rfl rfl ?_
          refine g_get_10_4 F wd_11_18 dX10_blow_97 ?_
          refine g_iload_n (i := 1) F dX10_blow_100 rfl rfl ?_
          obtain ⟨v3, e4, h⟩ := bind_at h
          refine g_ildM F rfl rfl e4 dX10_blow_101 ?_
          refine g_lv (lv' := [(0, .ref (ev 0 + 65)), (1, .int l1), (2, .int l2), (3, .int l3)]) ⟨rfl, rfl, rfl, rfl, trivial⟩ ?_
          exact U102 _ _ _ _ _ h
        · refine g_aload_n (i := 0) F dX10_blow_87 rfl rfl ?_
          refine g_get_10_3 F wd_11_17 dX10_blow_88 ?_
          refine g_iload_n (i := 1) F dX10_blow_91 rfl rfl ?_
          obtain ⟨v23, e24, h⟩ := bind_at h
          refine g_ildM F rfl rfl e24 dX10_blow_92 ?_
          refine g_goto (tgt := 102) F dX10_blow_93 (by decide) ?_
          refine g_lv (lv' := [(0, .ref (ev 0 + 65)), (1, .int l1), (2, .int l2), (3, .int l3)]) ⟨rfl, rfl, rfl, rfl, trivial⟩ ?_
          exact U102 _ _ _ _ _ h
      · refine g_aload_n (i := 0) F dX10_blow_73 rfl rfl ?_
        refine g_get_10_2 F wd_11_16 dX10_blow_74 ?_
        refine g_iload_n (i := 1) F dX10_blow_77 rfl rfl ?_
        obtain ⟨v26, e27, h⟩ := bind_at h
        refine g_ildM F rfl rfl e27 dX10_blow_78 ?_
        refine g_goto (tgt := 102) F dX10_blow_79 (by decide) ?_
        refine g_lv (lv' := [(0, .ref (ev 0 + 65)), (1, .int l1), (2, .int l2), (3, .int l3)]) ⟨rfl, rfl, rfl, rfl, trivial⟩ ?_
        exact U102 _ _ _ _ _ h
    · refine g_bipush F dX10_blow_66 (v := -7) (by decide) ?_
      have hp := Prod.mk.inj (Option.some.inj h)
      exact g_iret F hr9 rfl hl9 hp.1 (by rw [hp.2]) (by decide) (by decide) dX10_blow_68
  have U58 : ∀ (M : MW) (l1 : Int32) (l2 : Int32) (l3 : Int32), fX10_blow_b58 M l1 l2 l3 = some (r', M') → GJ p9 l e9 (rg 2 0 0) s9 m9 args9 below9 meth9 c9 (MQ below9 (QI s0 D ev r' (cells ev X M' (nb + 1))) args9 s9 0 0 (frA ev)) s0 D ev 6 0 0 58 [(0, .ref (ev 0 + 65)), (1, .int l1), (2, .int l2), (3, .int l3)] ([]) (cells ev X M (nb + 1)) := by
    intro M l1 l2 l3 h
    rw [fX10_blow_b58] at h
    refine g_iconst F dX10_blow_58 (v := 0) (by decide) ?_
    refine g_lv (lv' := [(0, .ref (ev 0 + 65)), (1, .int l1), (2, .int l2), (3, .int l3)]) ⟨rfl, rfl, rfl, rfl, trivial⟩ ?_
    exact U59 _ _ _ _ _ h
  rw [fX10_blow] at h
  refine g_lv (lv' := [(0, .ref (ev 0 + 65)), (1, .int l1), (2, .int l2), (3, .int l3)]) ⟨rfl, rfl, rfl, rfl, trivial⟩ ?_
  refine g_iload_n (i := 1) F dX10_blow_0 rfl rfl ?_
  refine g_callSI F (mcR := 0) (msR := 0) (c_X10_isHour G0 (X := X) (M := M) (nb := nb) rfl) wd_17_23 wd_17_21 wd_17_22 wd_1_5 ⟨by decide, by decide⟩ (nn := 1) (by decide) (As := [.int l1]) rfl rfl (Nat.le_of_ble_eq_true rfl) (by decide) (by decide) ⟨by decide, by decide⟩ dX10_blow_1 ?_
  refine g_if_ne (tgt := 10) F dX10_blow_4 (by decide) h (fun a40 h => ?_) (fun a40 h => ?_)
  · refine g_iload_n (i := 2) F dX10_blow_10 rfl rfl ?_
    refine g_if_ne (tgt := 24) F dX10_blow_11 (by decide) h (fun a39 h => ?_) (fun a39 h => ?_)
    · refine g_iload_n (i := 2) F dX10_blow_24 rfl rfl ?_
      refine g_iconst F dX10_blow_25 (v := 1) (by decide) ?_
      refine g_icmp_ne (tgt := 39) F dX10_blow_26 (by decide) h (fun a36 h => ?_) (fun a36 h => ?_)
      · refine g_iload_n (i := 2) F dX10_blow_39 rfl rfl ?_
        refine g_iconst F dX10_blow_40 (v := 2) (by decide) ?_
        refine g_icmp_ne (tgt := 58) F dX10_blow_41 (by decide) h (fun a33 h => ?_) (fun a33 h => ?_)
        · refine g_lv (lv' := [(0, .ref (ev 0 + 65)), (1, .int l1), (2, .int l2), (3, .int l3)]) ⟨rfl, rfl, rfl, rfl, trivial⟩ ?_
          exact U58 _ _ _ _ h
        · refine g_iload_n (i := 3) F dX10_blow_44 rfl rfl ?_
          refine g_bipush F dX10_blow_45 (v := -3) (by decide) ?_
          refine g_iconst F dX10_blow_47 (v := 3) (by decide) ?_
          refine g_callSI F (mcR := 0) (msR := 0) (c_X10_in G0 (X := X) (M := M) (nb := nb) rfl) wd_13_21 wd_13_19 wd_13_20 wd_1_5 ⟨by decide, by decide⟩ (nn := 3) (by decide) (As := [.int l3, .int (-3 : Int32), .int (3 : Int32)]) rfl rfl (Nat.le_of_ble_eq_true rfl) (by decide) (by decide) ⟨by decide, by decide⟩ dX10_blow_48 ?_
          refine g_if_eq (tgt := 58) F dX10_blow_51 (by decide) h (fun a32 h => ?_) (fun a32 h => ?_)
          · refine g_lv (lv' := [(0, .ref (ev 0 + 65)), (1, .int l1), (2, .int l2), (3, .int l3)]) ⟨rfl, rfl, rfl, rfl, trivial⟩ ?_
            exact U58 _ _ _ _ h
          · refine g_iconst F dX10_blow_54 (v := 1) (by decide) ?_
            refine g_goto (tgt := 59) F dX10_blow_55 (by decide) ?_
            refine g_lv (lv' := [(0, .ref (ev 0 + 65)), (1, .int l1), (2, .int l2), (3, .int l3)]) ⟨rfl, rfl, rfl, rfl, trivial⟩ ?_
            exact U59 _ _ _ _ _ h
      · refine g_iload_n (i := 3) F dX10_blow_29 rfl rfl ?_
        refine g_iconst F dX10_blow_30 (v := 0) (by decide) ?_
        refine g_bipush F dX10_blow_31 (v := 99) (by decide) ?_
        refine g_callSI F (mcR := 0) (msR := 0) (c_X10_in G0 (X := X) (M := M) (nb := nb) rfl) wd_13_21 wd_13_19 wd_13_20 wd_1_5 ⟨by decide, by decide⟩ (nn := 3) (by decide) (As := [.int l3, .int (0 : Int32), .int (99 : Int32)]) rfl rfl (Nat.le_of_ble_eq_true rfl) (by decide) (by decide) ⟨by decide, by decide⟩ dX10_blow_33 ?_
        refine g_goto (tgt := 59) F dX10_blow_36 (by decide) ?_
        refine g_lv (lv' := [(0, .ref (ev 0 + 65)), (1, .int l1), (2, .int l2), (3, .int l3)]) ⟨rfl, rfl, rfl, rfl, trivial⟩ ?_
        exact U59 _ _ _ _ _ h
    · refine g_iload_n (i := 3) F dX10_blow_14 rfl rfl ?_
      refine g_iconst F dX10_blow_15 (v := 0) (by decide) ?_
      refine g_bipush F dX10_blow_16 (v := 7) (by decide) ?_
      refine g_callSI F (mcR := 0) (msR := 0) (c_X10_in G0 (X := X) (M := M) (nb := nb) rfl) wd_13_21 wd_13_19 wd_13_20 wd_1_5 ⟨by decide, by decide⟩ (nn := 3) (by decide) (As := [.int l3, .int (0 : Int32), .int (7 : Int32)]) rfl rfl (Nat.le_of_ble_eq_true rfl) (by decide) (by decide) ⟨by decide, by decide⟩ dX10_blow_18 ?_
      refine g_goto (tgt := 59) F dX10_blow_21 (by decide) ?_
      refine g_lv (lv' := [(0, .ref (ev 0 + 65)), (1, .int l1), (2, .int l2), (3, .int l3)]) ⟨rfl, rfl, rfl, rfl, trivial⟩ ?_
      exact U59 _ _ _ _ _ h
  · refine g_bipush F dX10_blow_7 (v := -5) (by decide) ?_
    have hp := Prod.mk.inj (Option.some.inj h)
    exact g_iret F hr9 rfl hl9 hp.1 (by rw [hp.2]) (by decide) (by decide) dX10_blow_9
def fX10_told_b37 (M : MW) (l1 : Int32) (l2 : Int32) : Option Int32 :=
  if l2 = 0 then (rd (M.2 66) 100 l1).bind fun v16 =>
  some v16
  else if l2 = (1 : Int32) then (rd (M.2 67) 100 l1).bind fun v13 =>
  some v13
  else if l2 = (2 : Int32) then (rd (M.2 68) 12 l1).bind fun v10 =>
  some v10
  else if l2 = (3 : Int32) then (rd (M.2 69) 12 l1).bind fun v7 =>
  some v7
  else (rd (M.2 70) 12 l1).bind fun v5 =>
  some v5
def fX10_told (M : MW) (l1 : Int32) (l2 : Int32) : Option Int32 :=
  if (fX10_in l2 (0 : Int32) (4 : Int32)) = 0 then some (-7 : Int32)
  else if (2 : Int32) ≤ l2 then if (fX10_isHour l1) = 0 then some (-5 : Int32)
  else fX10_told_b37 M l1 l2
  else if (fX10_isCell l1) = 0 then some (-5 : Int32)
  else fX10_told_b37 M l1 l2
set_option maxRecDepth 100000 in
set_option maxHeartbeats 4000000 in
theorem c_X10_told {l : Launch} {s0 : State} {D : va_G} {ev : Nat → Nat} (G0 : Gl s0 D ev) {X : XW} {M : MW} {nb : Nat} {l1 : Int32} {l2 : Int32} {r' : Int32}  (h : fX10_told M l1 l2 = some r') : CT l s0 D ev yX10_told cX10_told 3 (some .int) 2 0 0 [.ref (ev 0 + 65), .int l1, .int l2] (cells ev X M (nb + 1)) (QI s0 D ev r' (cells ev X M (nb + 1))) := by
  refine ct_of G0 (by decide) (Nat.le_of_ble_eq_true rfl) ?_
  intro p9 e9 s9 m9 args9 below9 meth9 c9 F hr9 hl9 hin9 hargs9 hts9
  have U37 : ∀ (l1 : Int32) (l2 : Int32), fX10_told_b37 M l1 l2 = some r' → GJ p9 l e9 (rg 2 0 0) s9 m9 args9 below9 meth9 c9 (MQ below9 (QI s0 D ev r' (cells ev X M (nb + 1))) args9 s9 0 0 (frA ev)) s0 D ev 3 0 0 37 [(0, .ref (ev 0 + 65)), (1, .int l1), (2, .int l2)] ([]) (cells ev X M (nb + 1)) := by
    intro l1 l2 h
    rw [fX10_told_b37] at h
    refine g_iload_n (i := 2) F dX10_told_37 rfl rfl ?_
    refine g_if_ne (tgt := 50) F dX10_told_38 (by decide) h (fun a18 h => ?_) (fun a18 h => ?_)
    · refine g_iload_n (i := 2) F dX10_told_50 rfl rfl ?_
      refine g_iconst F dX10_told_51 (v := 1) (by decide) ?_
      refine g_icmp_ne (tgt := 64) F dX10_told_52 (by decide) h (fun a15 h => ?_) (fun a15 h => ?_)
      · refine g_iload_n (i := 2) F dX10_told_64 rfl rfl ?_
        refine g_iconst F dX10_told_65 (v := 2) (by decide) ?_
        refine g_icmp_ne (tgt := 78) F dX10_told_66 (by decide) h (fun a12 h => ?_) (fun a12 h => ?_)
        · refine g_iload_n (i := 2) F dX10_told_78 rfl rfl ?_
          refine g_iconst F dX10_told_79 (v := 3) (by decide) ?_
          refine g_icmp_ne (tgt := 92) F dX10_told_80 (by decide) h (fun a9 h => ?_) (fun a9 h => ?_)
          · refine g_aload_n (i := 0) F dX10_told_92 rfl rfl ?_
            refine g_get_10_4 F wd_11_18 dX10_told_93 ?_
            refine g_iload_n (i := 1) F dX10_told_96 rfl rfl ?_
            obtain ⟨v5, e6, h⟩ := bind_at h
            refine g_ildM F rfl rfl e6 dX10_told_97 ?_
            exact g_iret F hr9 rfl hl9 (Option.some.inj h) rfl (by decide) (by decide) dX10_told_98
          · refine g_aload_n (i := 0) F dX10_told_83 rfl rfl ?_
            refine g_get_10_3 F wd_11_17 dX10_told_84 ?_
            refine g_iload_n (i := 1) F dX10_told_87 rfl rfl ?_
            obtain ⟨v7, e8, h⟩ := bind_at h
            refine g_ildM F rfl rfl e8 dX10_told_88 ?_
            refine g_goto (tgt := 98) F dX10_told_89 (by decide) ?_
            exact g_iret F hr9 rfl hl9 (Option.some.inj h) rfl (by decide) (by decide) dX10_told_98
        · refine g_aload_n (i := 0) F dX10_told_69 rfl rfl ?_
          refine g_get_10_2 F wd_11_16 dX10_told_70 ?_
          refine g_iload_n (i := 1) F dX10_told_73 rfl rfl ?_
          obtain ⟨v10, e11, h⟩ := bind_at h
          refine g_ildM F rfl rfl e11 dX10_told_74 ?_
          refine g_goto (tgt := 98) F dX10_told_75 (by decide) ?_
          exact g_iret F hr9 rfl hl9 (Option.some.inj h) rfl (by decide) (by decide) dX10_told_98
      · refine g_aload_n (i := 0) F dX10_told_55 rfl rfl ?_
        refine g_get_10_1 F wd_11_15 dX10_told_56 ?_
        refine g_iload_n (i := 1) F dX10_told_59 rfl rfl ?_
        obtain ⟨v13, e14, h⟩ := bind_at h
        refine g_ildM F rfl rfl e14 dX10_told_60 ?_
        refine g_goto (tgt := 98) F dX10_told_61 (by decide) ?_
        exact g_iret F hr9 rfl hl9 (Option.some.inj h) rfl (by decide) (by decide) dX10_told_98
    · refine g_aload_n (i := 0) F dX10_told_41 rfl rfl ?_
      refine g_get_10_0 F wd_11_14 dX10_told_42 ?_
      refine g_iload_n (i := 1) F dX10_told_45 rfl rfl ?_
      obtain ⟨v16, e17, h⟩ := bind_at h
      refine g_ildM F rfl rfl e17 dX10_told_46 ?_
      refine g_goto (tgt := 98) F dX10_told_47 (by decide) ?_
      exact g_iret F hr9 rfl hl9 (Option.some.inj h) rfl (by decide) (by decide) dX10_told_98
  rw [fX10_told] at h
  refine g_lv (lv' := [(0, .ref (ev 0 + 65)), (1, .int l1), (2, .int l2)]) ⟨rfl, rfl, rfl, trivial⟩ ?_
  refine g_iload_n (i := 2) F dX10_told_0 rfl rfl ?_
  refine g_iconst F dX10_told_1 (v := 0) (by decide) ?_
  refine g_iconst F dX10_told_2 (v := 4) (by decide) ?_
  refine g_callSI F (mcR := 0) (msR := 0) (c_X10_in G0 (X := X) (M := M) (nb := nb) rfl) wd_13_21 wd_13_19 wd_13_20 wd_1_5 ⟨by decide, by decide⟩ (nn := 3) (by decide) (As := [.int l2, .int (0 : Int32), .int (4 : Int32)]) rfl rfl (Nat.le_of_ble_eq_true rfl) (by decide) (by decide) ⟨by decide, by decide⟩ dX10_told_3 ?_
  refine g_if_ne (tgt := 12) F dX10_told_6 (by decide) h (fun a24 h => ?_) (fun a24 h => ?_)
  · refine g_iload_n (i := 2) F dX10_told_12 rfl rfl ?_
    refine g_iconst F dX10_told_13 (v := 2) (by decide) ?_
    refine g_icmp_ge (tgt := 27) F dX10_told_14 (by decide) h (fun a23 h => ?_) (fun a23 h => ?_)
    · refine g_iload_n (i := 1) F dX10_told_27 rfl rfl ?_
      refine g_callSI F (mcR := 0) (msR := 0) (c_X10_isHour G0 (X := X) (M := M) (nb := nb) rfl) wd_17_23 wd_17_21 wd_17_22 wd_1_5 ⟨by decide, by decide⟩ (nn := 1) (by decide) (As := [.int l1]) rfl rfl (Nat.le_of_ble_eq_true rfl) (by decide) (by decide) ⟨by decide, by decide⟩ dX10_told_28 ?_
      refine g_if_ne (tgt := 37) F dX10_told_31 (by decide) h (fun a19 h => ?_) (fun a19 h => ?_)
      · refine g_lv (lv' := [(0, .ref (ev 0 + 65)), (1, .int l1), (2, .int l2)]) ⟨rfl, rfl, rfl, trivial⟩ ?_
        exact U37 _ _ h
      · refine g_bipush F dX10_told_34 (v := -5) (by decide) ?_
        exact g_iret F hr9 rfl hl9 (Option.some.inj h) rfl (by decide) (by decide) dX10_told_36
    · refine g_iload_n (i := 1) F dX10_told_17 rfl rfl ?_
      refine g_callSI F (mcR := 0) (msR := 0) (c_X10_isCell G0 (X := X) (M := M) (nb := nb) rfl) wd_16_7 wd_16_5 wd_16_6 wd_1_5 ⟨by decide, by decide⟩ (nn := 1) (by decide) (As := [.int l1]) rfl rfl (Nat.le_of_ble_eq_true rfl) (by decide) (by decide) ⟨by decide, by decide⟩ dX10_told_18 ?_
      refine g_if_ne (tgt := 37) F dX10_told_21 (by decide) h (fun a22 h => ?_) (fun a22 h => ?_)
      · refine g_lv (lv' := [(0, .ref (ev 0 + 65)), (1, .int l1), (2, .int l2)]) ⟨rfl, rfl, rfl, trivial⟩ ?_
        exact U37 _ _ h
      · refine g_goto (tgt := 34) F dX10_told_24 (by decide) ?_
        refine g_bipush F dX10_told_34 (v := -5) (by decide) ?_
        exact g_iret F hr9 rfl hl9 (Option.some.inj h) rfl (by decide) (by decide) dX10_told_36
  · refine g_bipush F dX10_told_9 (v := -7) (by decide) ?_
    exact g_iret F hr9 rfl hl9 (Option.some.inj h) rfl (by decide) (by decide) dX10_told_11
def fX10_count (M : MW) (l1 : Int32) : Int32 :=
  if l1 = (0 : Int32) then (M.1 7)
  else if l1 = (1 : Int32) then (M.1 8)
  else if l1 = (2 : Int32) then (M.1 21)
  else if l1 = (3 : Int32) then (M.1 22)
  else if l1 = (4 : Int32) then (M.1 18)
  else (-2 : Int32)
set_option maxRecDepth 100000 in
set_option maxHeartbeats 4000000 in
theorem c_X10_count {l : Launch} {s0 : State} {D : va_G} {ev : Nat → Nat} (G0 : Gl s0 D ev) {X : XW} {M : MW} {nb : Nat} {l1 : Int32} {r' : Int32}  (h : fX10_count M l1 = r') : CT l s0 D ev yX10_count cX10_count 2 (some .int) 0 0 0 [.ref (ev 0 + 65), .int l1] (cells ev X M (nb + 1)) (QI s0 D ev r' (cells ev X M (nb + 1))) := by
  refine ct_of G0 (by decide) (Nat.le_of_ble_eq_true rfl) ?_
  intro p9 e9 s9 m9 args9 below9 meth9 c9 F hr9 hl9 hin9 hargs9 hts9
  rw [fX10_count] at h
  refine g_lv (lv' := [(0, .ref (ev 0 + 65)), (1, .int l1)]) ⟨rfl, rfl, trivial⟩ ?_
  refine g_iload_n (i := 1) F dX10_count_0 rfl rfl ?_
  refine ite_at h (fun a1 h => ?_) (fun a1 h => ?_)
  · refine g_tsw (k := 0) (off := 35) (tgt := 36) F a1 dX10_count_1 (by decide) (by decide) (by decide) (by decide) ?_
    refine g_aload_n (i := 0) F dX10_count_36 rfl rfl ?_
    refine g_get_10_7 F wd_18_17 dX10_count_37 ?_
    exact g_iret F hr9 rfl hl9 h rfl (by decide) (by decide) dX10_count_40
  · refine ite_at h (fun a2 h => ?_) (fun a2 h => ?_)
    · refine g_tsw (k := 1) (off := 40) (tgt := 41) F a2 dX10_count_1 (by decide) (by decide) (by decide) (by decide) ?_
      refine g_aload_n (i := 0) F dX10_count_41 rfl rfl ?_
      refine g_get_10_8 F wd_18_18 dX10_count_42 ?_
      exact g_iret F hr9 rfl hl9 h rfl (by decide) (by decide) dX10_count_45
    · refine ite_at h (fun a3 h => ?_) (fun a3 h => ?_)
      · refine g_tsw (k := 2) (off := 45) (tgt := 46) F a3 dX10_count_1 (by decide) (by decide) (by decide) (by decide) ?_
        refine g_aload_n (i := 0) F dX10_count_46 rfl rfl ?_
        refine g_get_10_21 F wd_13_9 dX10_count_47 ?_
        exact g_iret F hr9 rfl hl9 h rfl (by decide) (by decide) dX10_count_50
      · refine ite_at h (fun a4 h => ?_) (fun a4 h => ?_)
        · refine g_tsw (k := 3) (off := 50) (tgt := 51) F a4 dX10_count_1 (by decide) (by decide) (by decide) (by decide) ?_
          refine g_aload_n (i := 0) F dX10_count_51 rfl rfl ?_
          refine g_get_10_22 F wd_18_19 dX10_count_52 ?_
          exact g_iret F hr9 rfl hl9 h rfl (by decide) (by decide) dX10_count_55
        · refine ite_at h (fun a5 h => ?_) (fun a5 h => ?_)
          · refine g_tsw (k := 4) (off := 55) (tgt := 56) F a5 dX10_count_1 (by decide) (by decide) (by decide) (by decide) ?_
            refine g_aload_n (i := 0) F dX10_count_56 rfl rfl ?_
            refine g_get_10_18 F wd_13_4 dX10_count_57 ?_
            exact g_iret F hr9 rfl hl9 h rfl (by decide) (by decide) dX10_count_60
          · have q0 : l1.toInt ≠ 0 := fun q => a1 (Int32.toInt_inj.mp (q.trans (by decide)))
            have q1 : l1.toInt ≠ 1 := fun q => a2 (Int32.toInt_inj.mp (q.trans (by decide)))
            have q2 : l1.toInt ≠ 2 := fun q => a3 (Int32.toInt_inj.mp (q.trans (by decide)))
            have q3 : l1.toInt ≠ 3 := fun q => a4 (Int32.toInt_inj.mp (q.trans (by decide)))
            have q4 : l1.toInt ≠ 4 := fun q => a5 (Int32.toInt_inj.mp (q.trans (by decide)))
            refine g_tswd (tgt := 61) F (by omega) dX10_count_1 (by decide) ?_
            refine g_bipush F dX10_count_61 (v := -2) (by decide) ?_
            exact g_iret F hr9 rfl hl9 h rfl (by decide) (by decide) dX10_count_63
def fX10_isByte (l0 : Int32) : Int32 :=
  (fX10_in l0 (0 : Int32) (255 : Int32))
set_option maxRecDepth 100000 in
set_option maxHeartbeats 4000000 in
theorem c_X10_isByte {l : Launch} {s0 : State} {D : va_G} {ev : Nat → Nat} (G0 : Gl s0 D ev) {X : XW} {M : MW} {nb : Nat} {l0 : Int32} {r' : Int32}  (h : fX10_isByte l0 = r') : CT l s0 D ev yX10_isByte cX10_isByte 1 (some .boolean) 1 0 0 [.int l0] (cells ev X M (nb + 1)) (QI s0 D ev r' (cells ev X M (nb + 1))) := by
  refine ct_of G0 (by decide) (Nat.le_of_ble_eq_true rfl) ?_
  intro p9 e9 s9 m9 args9 below9 meth9 c9 F hr9 hl9 hin9 hargs9 hts9
  rw [fX10_isByte] at h
  refine g_lv (lv' := [(0, .int l0)]) ⟨rfl, trivial⟩ ?_
  refine g_iload_n (i := 0) F dX10_isByte_0 rfl rfl ?_
  refine g_iconst F dX10_isByte_1 (v := 0) (by decide) ?_
  refine g_sipush F dX10_isByte_2 (v := 255) (by decide) ?_
  refine g_callSI F (mcR := 0) (msR := 0) (c_X10_in G0 (X := X) (M := M) (nb := nb) rfl) wd_13_21 wd_13_19 wd_13_20 wd_1_5 ⟨by decide, by decide⟩ (nn := 3) (by decide) (As := [.int l0, .int (0 : Int32), .int (255 : Int32)]) rfl rfl (Nat.le_of_ble_eq_true rfl) (by decide) (by decide) ⟨by decide, by decide⟩ dX10_isByte_5 ?_
  exact g_iret F hr9 (nar_b b_X10_in) hl9 h rfl (by decide) (by decide) dX10_isByte_8
theorem b_X10_isByte {l0 : Int32} : (fX10_isByte l0) = 0 ∨ (fX10_isByte l0) = 1 := by
  unfold fX10_isByte
  (repeat' split) <;> first | exact Or.inl rfl | exact Or.inr rfl | exact b_X10_in
def fX10_feed_b125 (l1f68 : Int32) (l2f68 : Int32) (l3f68 : Int32) (l4f68 : Int32) (l5f68 : Int32) (l6f68 : Int32) (K68 : MW → Int32 → Option (Int32 × MW)) (M : MW) (l7 : Int32) (t1 : Int32) (t2 : Int32) : Option (Int32 × MW) :=
  if inb t1 160 then bd (mA M 81 t1 t2) fun M14 =>
  bd (mI M14 18 ((M14.1 18) + (1 : Int32))) fun M16 =>
  K68 M16 (l7 + (1 : Int32))
  else none
def fX10_feed_l68 (l1f68 : Int32) (l2f68 : Int32) (l3f68 : Int32) (l4f68 : Int32) (l5f68 : Int32) (l6f68 : Int32) (K68 : MW → Int32 → Option (Int32 × MW)) (M : MW) (l7 : Int32) : Option (Int32 × MW) :=
  if l1f68 ≤ l7 then some ((M.1 18), M)
  else if l7 = 0 then fX10_feed_b125 l1f68 l2f68 l3f68 l4f68 l5f68 l6f68 K68 M l7 (M.1 18) l2f68
  else if l7 = (1 : Int32) then fX10_feed_b125 l1f68 l2f68 l3f68 l4f68 l5f68 l6f68 K68 M l7 (M.1 18) l3f68
  else if l7 = (2 : Int32) then fX10_feed_b125 l1f68 l2f68 l3f68 l4f68 l5f68 l6f68 K68 M l7 (M.1 18) l4f68
  else if l7 = (3 : Int32) then fX10_feed_b125 l1f68 l2f68 l3f68 l4f68 l5f68 l6f68 K68 M l7 (M.1 18) l5f68
  else fX10_feed_b125 l1f68 l2f68 l3f68 l4f68 l5f68 l6f68 K68 M l7 (M.1 18) l6f68
def fX10_feed (M : MW) (l1 : Int32) (l2 : Int32) (l3 : Int32) (l4 : Int32) (l5 : Int32) (l6 : Int32) : Option (Int32 × MW) :=
  if (fX10_in l1 (1 : Int32) (5 : Int32)) = 0 then some ((-2 : Int32), M)
  else if (fX10_isByte l2) = 0 then some ((-2 : Int32), M)
  else if (fX10_isByte l3) = 0 then some ((-2 : Int32), M)
  else if (fX10_isByte l4) = 0 then some ((-2 : Int32), M)
  else if (fX10_isByte l5) = 0 then some ((-2 : Int32), M)
  else if (fX10_isByte l6) = 0 then some ((-2 : Int32), M)
  else if ((M.1 18) + l1) ≤ (160 : Int32) then lo2 (fX10_feed_l68 l1 l2 l3 l4 l5 l6) FU M (0 : Int32)
  else some ((-4 : Int32), M)
set_option maxRecDepth 100000 in
set_option maxHeartbeats 4000000 in
theorem c_X10_feed {l : Launch} {s0 : State} {D : va_G} {ev : Nat → Nat} (G0 : Gl s0 D ev) {X : XW} {M : MW} {nb : Nat} {l1 : Int32} {l2 : Int32} {l3 : Int32} {l4 : Int32} {l5 : Int32} {l6 : Int32} {r' : Int32} {M' : MW}  (h : fX10_feed M l1 l2 l3 l4 l5 l6 = some (r', M')) : CT l s0 D ev yX10_feed cX10_feed 8 (some .int) 2 0 0 [.ref (ev 0 + 65), .int l1, .int l2, .int l3, .int l4, .int l5, .int l6] (cells ev X M (nb + 1)) (QI s0 D ev r' (cells ev X M' (nb + 1))) := by
  refine ct_of G0 (by decide) (Nat.le_of_ble_eq_true rfl) ?_
  intro p9 e9 s9 m9 args9 below9 meth9 c9 F hr9 hl9 hin9 hargs9 hts9
  have L68 : ∀ (l1f68 : Int32) (l2f68 : Int32) (l3f68 : Int32) (l4f68 : Int32) (l5f68 : Int32) (l6f68 : Int32) (N68 : Nat) (M : MW) (l7 : Int32), lo2 (fX10_feed_l68 l1f68 l2f68 l3f68 l4f68 l5f68 l6f68) N68 M l7 = some (r', M') → GJ p9 l e9 (rg 2 0 0) s9 m9 args9 below9 meth9 c9 (MQ below9 (QI s0 D ev r' (cells ev X M' (nb + 1))) args9 s9 0 0 (frA ev)) s0 D ev 8 0 0 68 [(0, .ref (ev 0 + 65)), (1, .int l1f68), (2, .int l2f68), (3, .int l3f68), (4, .int l4f68), (5, .int l5f68), (6, .int l6f68), (7, .int l7)] ([]) (cells ev X M (nb + 1)) := by
    intro l1f68 l2f68 l3f68 l4f68 l5f68 l6f68 N68
    induction N68 with
    | zero => intro M l7 h; cases h
    | succ N68 ih68 =>
      have U125 : ∀ (M : MW) (l7 : Int32) (t1 : Int32) (t2 : Int32), fX10_feed_b125 l1f68 l2f68 l3f68 l4f68 l5f68 l6f68 (lo2 (fX10_feed_l68 l1f68 l2f68 l3f68 l4f68 l5f68 l6f68) N68) M l7 t1 t2 = some (r', M') → GJ p9 l e9 (rg 2 0 0) s9 m9 args9 below9 meth9 c9 (MQ below9 (QI s0 D ev r' (cells ev X M' (nb + 1))) args9 s9 0 0 (frA ev)) s0 D ev 8 0 0 125 [(0, .ref (ev 0 + 65)), (1, .int l1f68), (2, .int l2f68), (3, .int l3f68), (4, .int l4f68), (5, .int l5f68), (6, .int l6f68), (7, .int l7)] (.int t2 :: .int t1 :: .ref (ev 0 + 81) :: []) (cells ev X M (nb + 1)) := by
        intro M l7 t1 t2 h
        rw [fX10_feed_b125] at h
        obtain ⟨h13, h⟩ := if_at h
        obtain ⟨M14, e15, h⟩ := bd_at h
        refine g_istM F rfl rfl h13 dX10_feed_125 ?_
        rw [← e15]
        refine g_aload_n (i := 0) F dX10_feed_126 rfl rfl ?_
        refine g_dup F dX10_feed_127 rfl ?_
        refine g_get_10_18 F wd_13_4 dX10_feed_128 ?_
        refine g_iconst F dX10_feed_131 (v := 1) (by decide) ?_
        refine g_iadd F dX10_feed_132 ?_
        obtain ⟨M16, e17, h⟩ := bd_at h
        refine g_put_10_18 F wd_13_4 dX10_feed_133 ?_
        rw [← e17]
        refine g_iinc (i := 7) (v := (l7 + (1 : Int32))) (lv' := [(7, .int (l7 + (1 : Int32))), (0, .ref (ev 0 + 65)), (1, .int l1f68), (2, .int l2f68), (3, .int l3f68), (4, .int l4f68), (5, .int l5f68), (6, .int l6f68)]) F dX10_feed_136 rfl rfl (by decide) rfl ?_
        refine g_goto (tgt := 68) F dX10_feed_139 (by decide) ?_
        refine g_lv (lv' := [(0, .ref (ev 0 + 65)), (1, .int l1f68), (2, .int l2f68), (3, .int l3f68), (4, .int l4f68), (5, .int l5f68), (6, .int l6f68), (7, .int (l7 + (1 : Int32)))]) ⟨rfl, rfl, rfl, rfl, rfl, rfl, rfl, rfl, trivial⟩ ?_
        exact ih68 _ _ h
      intro M l7 h
      change fX10_feed_l68 l1f68 l2f68 l3f68 l4f68 l5f68 l6f68 (lo2 (fX10_feed_l68 l1f68 l2f68 l3f68 l4f68 l5f68 l6f68) N68) M l7 = some (r', M') at h
      rw [fX10_feed_l68] at h
      refine g_iload (i := 7) F dX10_feed_68 rfl ?_
      refine g_iload_n (i := 1) F dX10_feed_70 rfl rfl ?_
      refine g_icmp_ge (tgt := 142) F dX10_feed_71 (by decide) h (fun a22 h => ?_) (fun a22 h => ?_)
      · refine g_aload_n (i := 0) F dX10_feed_142 rfl rfl ?_
        refine g_get_10_18 F wd_13_4 dX10_feed_143 ?_
        have hp := Prod.mk.inj (Option.some.inj h)
        exact g_iret F hr9 rfl hl9 hp.1 (by rw [hp.2]) (by decide) (by decide) dX10_feed_146
      · refine g_aload_n (i := 0) F dX10_feed_74 rfl rfl ?_
        refine g_get_10_17 F wd_12_5 dX10_feed_75 ?_
        refine g_aload_n (i := 0) F dX10_feed_78 rfl rfl ?_
        refine g_get_10_18 F wd_13_4 dX10_feed_79 ?_
        refine g_iload (i := 7) F dX10_feed_82 rfl ?_
        refine g_if_ne (tgt := 91) F dX10_feed_84 (by decide) h (fun a21 h => ?_) (fun a21 h => ?_)
        · refine g_iload (i := 7) F dX10_feed_91 rfl ?_
          refine g_iconst F dX10_feed_93 (v := 1) (by decide) ?_
          refine g_icmp_ne (tgt := 101) F dX10_feed_94 (by decide) h (fun a20 h => ?_) (fun a20 h => ?_)
          · refine g_iload (i := 7) F dX10_feed_101 rfl ?_
            refine g_iconst F dX10_feed_103 (v := 2) (by decide) ?_
            refine g_icmp_ne (tgt := 112) F dX10_feed_104 (by decide) h (fun a19 h => ?_) (fun a19 h => ?_)
            · refine g_iload (i := 7) F dX10_feed_112 rfl ?_
              refine g_iconst F dX10_feed_114 (v := 3) (by decide) ?_
              refine g_icmp_ne (tgt := 123) F dX10_feed_115 (by decide) h (fun a18 h => ?_) (fun a18 h => ?_)
              · refine g_iload (i := 6) F dX10_feed_123 rfl ?_
                refine g_lv (lv' := [(0, .ref (ev 0 + 65)), (1, .int l1f68), (2, .int l2f68), (3, .int l3f68), (4, .int l4f68), (5, .int l5f68), (6, .int l6f68), (7, .int l7)]) ⟨rfl, rfl, rfl, rfl, rfl, rfl, rfl, rfl, trivial⟩ ?_
                exact U125 _ _ _ _ h
              · refine g_iload (i := 5) F dX10_feed_118 rfl ?_
                refine g_goto (tgt := 125) F dX10_feed_120 (by decide) ?_
                refine g_lv (lv' := [(0, .ref (ev 0 + 65)), (1, .int l1f68), (2, .int l2f68), (3, .int l3f68), (4, .int l4f68), (5, .int l5f68), (6, .int l6f68), (7, .int l7)]) ⟨rfl, rfl, rfl, rfl, rfl, rfl, rfl, rfl, trivial⟩ ?_
                exact U125 _ _ _ _ h
            · refine g_iload (i := 4) F dX10_feed_107 rfl ?_
              refine g_goto (tgt := 125) F dX10_feed_109 (by decide) ?_
              refine g_lv (lv' := [(0, .ref (ev 0 + 65)), (1, .int l1f68), (2, .int l2f68), (3, .int l3f68), (4, .int l4f68), (5, .int l5f68), (6, .int l6f68), (7, .int l7)]) ⟨rfl, rfl, rfl, rfl, rfl, rfl, rfl, rfl, trivial⟩ ?_
              exact U125 _ _ _ _ h
          · refine g_iload_n (i := 3) F dX10_feed_97 rfl rfl ?_
            refine g_goto (tgt := 125) F dX10_feed_98 (by decide) ?_
            refine g_lv (lv' := [(0, .ref (ev 0 + 65)), (1, .int l1f68), (2, .int l2f68), (3, .int l3f68), (4, .int l4f68), (5, .int l5f68), (6, .int l6f68), (7, .int l7)]) ⟨rfl, rfl, rfl, rfl, rfl, rfl, rfl, rfl, trivial⟩ ?_
            exact U125 _ _ _ _ h
        · refine g_iload_n (i := 2) F dX10_feed_87 rfl rfl ?_
          refine g_goto (tgt := 125) F dX10_feed_88 (by decide) ?_
          refine g_lv (lv' := [(0, .ref (ev 0 + 65)), (1, .int l1f68), (2, .int l2f68), (3, .int l3f68), (4, .int l4f68), (5, .int l5f68), (6, .int l6f68), (7, .int l7)]) ⟨rfl, rfl, rfl, rfl, rfl, rfl, rfl, rfl, trivial⟩ ?_
          exact U125 _ _ _ _ h
  rw [fX10_feed] at h
  refine g_lv (lv' := [(0, .ref (ev 0 + 65)), (1, .int l1), (2, .int l2), (3, .int l3), (4, .int l4), (5, .int l5), (6, .int l6)]) ⟨rfl, rfl, rfl, rfl, rfl, rfl, rfl, trivial⟩ ?_
  refine g_iload_n (i := 1) F dX10_feed_0 rfl rfl ?_
  refine g_iconst F dX10_feed_1 (v := 1) (by decide) ?_
  refine g_iconst F dX10_feed_2 (v := 5) (by decide) ?_
  refine g_callSI F (mcR := 0) (msR := 0) (c_X10_in G0 (X := X) (M := M) (nb := nb) rfl) wd_13_21 wd_13_19 wd_13_20 wd_1_5 ⟨by decide, by decide⟩ (nn := 3) (by decide) (As := [.int l1, .int (1 : Int32), .int (5 : Int32)]) rfl rfl (Nat.le_of_ble_eq_true rfl) (by decide) (by decide) ⟨by decide, by decide⟩ dX10_feed_3 ?_
  refine g_if_eq (tgt := 47) F dX10_feed_6 (by decide) h (fun a29 h => ?_) (fun a29 h => ?_)
  · refine g_bipush F dX10_feed_47 (v := -2) (by decide) ?_
    have hp := Prod.mk.inj (Option.some.inj h)
    exact g_iret F hr9 rfl hl9 hp.1 (by rw [hp.2]) (by decide) (by decide) dX10_feed_49
  · refine g_iload_n (i := 2) F dX10_feed_9 rfl rfl ?_
    refine g_callSI F (mcR := 0) (msR := 0) (c_X10_isByte G0 (X := X) (M := M) (nb := nb) rfl) wd_19_9 wd_19_7 wd_19_8 wd_1_5 ⟨by decide, by decide⟩ (nn := 1) (by decide) (As := [.int l2]) rfl rfl (Nat.le_of_ble_eq_true rfl) (by decide) (by decide) ⟨by decide, by decide⟩ dX10_feed_10 ?_
    refine g_if_eq (tgt := 47) F dX10_feed_13 (by decide) h (fun a28 h => ?_) (fun a28 h => ?_)
    · refine g_bipush F dX10_feed_47 (v := -2) (by decide) ?_
      have hp := Prod.mk.inj (Option.some.inj h)
      exact g_iret F hr9 rfl hl9 hp.1 (by rw [hp.2]) (by decide) (by decide) dX10_feed_49
    · refine g_iload_n (i := 3) F dX10_feed_16 rfl rfl ?_
      refine g_callSI F (mcR := 0) (msR := 0) (c_X10_isByte G0 (X := X) (M := M) (nb := nb) rfl) wd_19_9 wd_19_7 wd_19_8 wd_1_5 ⟨by decide, by decide⟩ (nn := 1) (by decide) (As := [.int l3]) rfl rfl (Nat.le_of_ble_eq_true rfl) (by decide) (by decide) ⟨by decide, by decide⟩ dX10_feed_17 ?_
      refine g_if_eq (tgt := 47) F dX10_feed_20 (by decide) h (fun a27 h => ?_) (fun a27 h => ?_)
      · refine g_bipush F dX10_feed_47 (v := -2) (by decide) ?_
        have hp := Prod.mk.inj (Option.some.inj h)
        exact g_iret F hr9 rfl hl9 hp.1 (by rw [hp.2]) (by decide) (by decide) dX10_feed_49
      · refine g_iload (i := 4) F dX10_feed_23 rfl ?_
        refine g_callSI F (mcR := 0) (msR := 0) (c_X10_isByte G0 (X := X) (M := M) (nb := nb) rfl) wd_19_9 wd_19_7 wd_19_8 wd_1_5 ⟨by decide, by decide⟩ (nn := 1) (by decide) (As := [.int l4]) rfl rfl (Nat.le_of_ble_eq_true rfl) (by decide) (by decide) ⟨by decide, by decide⟩ dX10_feed_25 ?_
        refine g_if_eq (tgt := 47) F dX10_feed_28 (by decide) h (fun a26 h => ?_) (fun a26 h => ?_)
        · refine g_bipush F dX10_feed_47 (v := -2) (by decide) ?_
          have hp := Prod.mk.inj (Option.some.inj h)
          exact g_iret F hr9 rfl hl9 hp.1 (by rw [hp.2]) (by decide) (by decide) dX10_feed_49
        · refine g_iload (i := 5) F dX10_feed_31 rfl ?_
          refine g_callSI F (mcR := 0) (msR := 0) (c_X10_isByte G0 (X := X) (M := M) (nb := nb) rfl) wd_19_9 wd_19_7 wd_19_8 wd_1_5 ⟨by decide, by decide⟩ (nn := 1) (by decide) (As := [.int l5]) rfl rfl (Nat.le_of_ble_eq_true rfl) (by decide) (by decide) ⟨by decide, by decide⟩ dX10_feed_33 ?_
          refine g_if_eq (tgt := 47) F dX10_feed_36 (by decide) h (fun a25 h => ?_) (fun a25 h => ?_)
          · refine g_bipush F dX10_feed_47 (v := -2) (by decide) ?_
            have hp := Prod.mk.inj (Option.some.inj h)
            exact g_iret F hr9 rfl hl9 hp.1 (by rw [hp.2]) (by decide) (by decide) dX10_feed_49
          · refine g_iload (i := 6) F dX10_feed_39 rfl ?_
            refine g_callSI F (mcR := 0) (msR := 0) (c_X10_isByte G0 (X := X) (M := M) (nb := nb) rfl) wd_19_9 wd_19_7 wd_19_8 wd_1_5 ⟨by decide, by decide⟩ (nn := 1) (by decide) (As := [.int l6]) rfl rfl (Nat.le_of_ble_eq_true rfl) (by decide) (by decide) ⟨by decide, by decide⟩ dX10_feed_41 ?_
            refine g_if_ne (tgt := 50) F dX10_feed_44 (by decide) h (fun a24 h => ?_) (fun a24 h => ?_)
            · refine g_aload_n (i := 0) F dX10_feed_50 rfl rfl ?_
              refine g_get_10_18 F wd_13_4 dX10_feed_51 ?_
              refine g_iload_n (i := 1) F dX10_feed_54 rfl rfl ?_
              refine g_iadd F dX10_feed_55 ?_
              refine g_sipush F dX10_feed_56 (v := 160) (by decide) ?_
              refine g_icmp_le (tgt := 65) F dX10_feed_59 (by decide) h (fun a23 h => ?_) (fun a23 h => ?_)
              · refine g_iconst F dX10_feed_65 (v := 0) (by decide) ?_
                refine g_istore (i := 7) (lv' := [(7, .int (0 : Int32)), (0, .ref (ev 0 + 65)), (1, .int l1), (2, .int l2), (3, .int l3), (4, .int l4), (5, .int l5), (6, .int l6)]) F dX10_feed_66 (by decide) rfl ?_
                refine g_lv (lv' := [(0, .ref (ev 0 + 65)), (1, .int l1), (2, .int l2), (3, .int l3), (4, .int l4), (5, .int l5), (6, .int l6), (7, .int (0 : Int32))]) ⟨rfl, rfl, rfl, rfl, rfl, rfl, rfl, rfl, trivial⟩ ?_
                exact L68 _ _ _ _ _ _ FU _ _ h
              · refine g_bipush F dX10_feed_62 (v := -4) (by decide) ?_
                have hp := Prod.mk.inj (Option.some.inj h)
                exact g_iret F hr9 rfl hl9 hp.1 (by rw [hp.2]) (by decide) (by decide) dX10_feed_64
            · refine g_bipush F dX10_feed_47 (v := -2) (by decide) ?_
              have hp := Prod.mk.inj (Option.some.inj h)
              exact g_iret F hr9 rfl hl9 hp.1 (by rw [hp.2]) (by decide) (by decide) dX10_feed_49
def fX10_wordFrom_b88 (M : MW) (l1f2 : Int32) (l2f2 : Int32) (K2 : Int32 → Option Int32) (l3 : Int32) (l4 : Int32) : Option Int32 :=
  if l4 = 0 then K2 (l3 + (1 : Int32))
  else some l3
def fX10_wordFrom_b72 (M : MW) (l1f2 : Int32) (l2f2 : Int32) (l3f26 : Int32) (K2 : Int32 → Option Int32) (K26 : Int32 → Int32 → Option Int32) (l5 : Int32) (t0 : Int32) (t1 : Int32) : Option Int32 :=
  if t0 = t1 then K26 (1 : Int32) (l5 + (1 : Int32))
  else K26 (0 : Int32) (l5 + (1 : Int32))
def fX10_wordFrom_l26 (M : MW) (l1f2 : Int32) (l2f2 : Int32) (l3f26 : Int32) (K2 : Int32 → Option Int32) (K26 : Int32 → Int32 → Option Int32) (l4 : Int32) (l5 : Int32) : Option Int32 :=
  if (8 : Int32) ≤ l5 then fX10_wordFrom_b88 M l1f2 l2f2 K2 l3f26 l4
  else if l4 = 0 then fX10_wordFrom_b88 M l1f2 l2f2 K2 l3f26 l4
  else (rd (M.2 92) 96 (((8 : Int32) * l3f26) + l5)).bind fun v2 =>
  if l2f2 ≤ (l1f2 + l5) then fX10_wordFrom_b72 M l1f2 l2f2 l3f26 K2 K26 l5 v2 (32 : Int32)
  else (rd (M.2 81) 160 (l1f2 + l5)).bind fun v5 =>
  fX10_wordFrom_b72 M l1f2 l2f2 l3f26 K2 K26 l5 v2 v5
def fX10_wordFrom_b21 (M : MW) (l1f2 : Int32) (l2f2 : Int32) (K2 : Int32 → Option Int32) (l3 : Int32) (t0 : Int32) : Option Int32 :=
  lo2 (fX10_wordFrom_l26 M l1f2 l2f2 l3 K2) FU t0 (0 : Int32)
def fX10_wordFrom_l2 (M : MW) (l1f2 : Int32) (l2f2 : Int32) (K2 : Int32 → Option Int32) (l3 : Int32) : Option Int32 :=
  if (12 : Int32) ≤ l3 then some (12 : Int32)
  else if (8 : Int32) < (l2f2 - l1f2) then fX10_wordFrom_b21 M l1f2 l2f2 K2 l3 (0 : Int32)
  else fX10_wordFrom_b21 M l1f2 l2f2 K2 l3 (1 : Int32)
def fX10_wordFrom (M : MW) (l1 : Int32) (l2 : Int32) : Option Int32 :=
  lo1 (fX10_wordFrom_l2 M l1 l2) FU (0 : Int32)
set_option maxRecDepth 100000 in
set_option maxHeartbeats 4000000 in
theorem c_X10_wordFrom {l : Launch} {s0 : State} {D : va_G} {ev : Nat → Nat} (G0 : Gl s0 D ev) {X : XW} {M : MW} {nb : Nat} {l1 : Int32} {l2 : Int32} {r' : Int32}  (h : fX10_wordFrom M l1 l2 = some r') : CT l s0 D ev yX10_wordFrom cX10_wordFrom 6 (some .int) 0 0 0 [.ref (ev 0 + 65), .int l1, .int l2] (cells ev X M (nb + 1)) (QI s0 D ev r' (cells ev X M (nb + 1))) := by
  refine ct_of G0 (by decide) (Nat.le_of_ble_eq_true rfl) ?_
  intro p9 e9 s9 m9 args9 below9 meth9 c9 F hr9 hl9 hin9 hargs9 hts9
  have L2 : ∀ (l1f2 : Int32) (l2f2 : Int32) (N2 : Nat) (l3 : Int32), lo1 (fX10_wordFrom_l2 M l1f2 l2f2) N2 l3 = some r' → GJ p9 l e9 (rg 0 0 0) s9 m9 args9 below9 meth9 c9 (MQ below9 (QI s0 D ev r' (cells ev X M (nb + 1))) args9 s9 0 0 (frA ev)) s0 D ev 6 0 0 2 [(0, .ref (ev 0 + 65)), (1, .int l1f2), (2, .int l2f2), (3, .int l3)] ([]) (cells ev X M (nb + 1)) := by
    intro l1f2 l2f2 N2
    induction N2 with
    | zero => intro l3 h; cases h
    | succ N2 ih2 =>
      have U88 : ∀ (l3 : Int32) (l4 : Int32), fX10_wordFrom_b88 M l1f2 l2f2 (lo1 (fX10_wordFrom_l2 M l1f2 l2f2) N2) l3 l4 = some r' → GJ p9 l e9 (rg 0 0 0) s9 m9 args9 below9 meth9 c9 (MQ below9 (QI s0 D ev r' (cells ev X M (nb + 1))) args9 s9 0 0 (frA ev)) s0 D ev 6 0 0 88 [(0, .ref (ev 0 + 65)), (1, .int l1f2), (2, .int l2f2), (3, .int l3), (4, .int l4)] ([]) (cells ev X M (nb + 1)) := by
        intro l3 l4 h
        rw [fX10_wordFrom_b88] at h
        refine g_iload (i := 4) F dX10_wordFrom_88 rfl ?_
        refine g_if_eq (tgt := 95) F dX10_wordFrom_90 (by decide) h (fun a1 h => ?_) (fun a1 h => ?_)
        · refine g_iinc (i := 3) (v := (l3 + (1 : Int32))) (lv' := [(3, .int (l3 + (1 : Int32))), (0, .ref (ev 0 + 65)), (1, .int l1f2), (2, .int l2f2), (4, .int l4)]) F dX10_wordFrom_95 rfl rfl (by decide) rfl ?_
          refine g_goto (tgt := 2) F dX10_wordFrom_98 (by decide) ?_
          refine g_lv (lv' := [(0, .ref (ev 0 + 65)), (1, .int l1f2), (2, .int l2f2), (3, .int (l3 + (1 : Int32)))]) ⟨rfl, rfl, rfl, rfl, trivial⟩ ?_
          exact ih2 _ h
        · refine g_iload_n (i := 3) F dX10_wordFrom_93 rfl rfl ?_
          exact g_iret F hr9 rfl hl9 (Option.some.inj h) rfl (by decide) (by decide) dX10_wordFrom_94
      have L26 : ∀ (l3f26 : Int32) (N26 : Nat) (l4 : Int32) (l5 : Int32), lo2 (fX10_wordFrom_l26 M l1f2 l2f2 l3f26 (lo1 (fX10_wordFrom_l2 M l1f2 l2f2) N2)) N26 l4 l5 = some r' → GJ p9 l e9 (rg 0 0 0) s9 m9 args9 below9 meth9 c9 (MQ below9 (QI s0 D ev r' (cells ev X M (nb + 1))) args9 s9 0 0 (frA ev)) s0 D ev 6 0 0 26 [(0, .ref (ev 0 + 65)), (1, .int l1f2), (2, .int l2f2), (3, .int l3f26), (4, .int l4), (5, .int l5)] ([]) (cells ev X M (nb + 1)) := by
        intro l3f26 N26
        induction N26 with
        | zero => intro l4 l5 h; cases h
        | succ N26 ih26 =>
          have U72 : ∀ (l5 : Int32) (t0 : Int32) (t1 : Int32), fX10_wordFrom_b72 M l1f2 l2f2 l3f26 (lo1 (fX10_wordFrom_l2 M l1f2 l2f2) N2) (lo2 (fX10_wordFrom_l26 M l1f2 l2f2 l3f26 (lo1 (fX10_wordFrom_l2 M l1f2 l2f2) N2)) N26) l5 t0 t1 = some r' → GJ p9 l e9 (rg 0 0 0) s9 m9 args9 below9 meth9 c9 (MQ below9 (QI s0 D ev r' (cells ev X M (nb + 1))) args9 s9 0 0 (frA ev)) s0 D ev 6 0 0 72 [(0, .ref (ev 0 + 65)), (1, .int l1f2), (2, .int l2f2), (3, .int l3f26), (5, .int l5)] (.int t1 :: .int t0 :: []) (cells ev X M (nb + 1)) := by
            intro l5 t0 t1 h
            rw [fX10_wordFrom_b72] at h
            refine g_icmp_ne (tgt := 79) F dX10_wordFrom_72 (by decide) h (fun a4 h => ?_) (fun a4 h => ?_)
            · refine g_iconst F dX10_wordFrom_79 (v := 0) (by decide) ?_
              refine g_istore (i := 4) (lv' := [(4, .int (0 : Int32)), (0, .ref (ev 0 + 65)), (1, .int l1f2), (2, .int l2f2), (3, .int l3f26), (5, .int l5)]) F dX10_wordFrom_80 (by decide) rfl ?_
              refine g_iinc (i := 5) (v := (l5 + (1 : Int32))) (lv' := [(5, .int (l5 + (1 : Int32))), (4, .int (0 : Int32)), (0, .ref (ev 0 + 65)), (1, .int l1f2), (2, .int l2f2), (3, .int l3f26)]) F dX10_wordFrom_82 rfl rfl (by decide) rfl ?_
              refine g_goto (tgt := 26) F dX10_wordFrom_85 (by decide) ?_
              refine g_lv (lv' := [(0, .ref (ev 0 + 65)), (1, .int l1f2), (2, .int l2f2), (3, .int l3f26), (4, .int (0 : Int32)), (5, .int (l5 + (1 : Int32)))]) ⟨rfl, rfl, rfl, rfl, rfl, rfl, trivial⟩ ?_
              exact ih26 _ _ h
            · refine g_iconst F dX10_wordFrom_75 (v := 1) (by decide) ?_
              refine g_goto (tgt := 80) F dX10_wordFrom_76 (by decide) ?_
              refine g_istore (i := 4) (lv' := [(4, .int (1 : Int32)), (0, .ref (ev 0 + 65)), (1, .int l1f2), (2, .int l2f2), (3, .int l3f26), (5, .int l5)]) F dX10_wordFrom_80 (by decide) rfl ?_
              refine g_iinc (i := 5) (v := (l5 + (1 : Int32))) (lv' := [(5, .int (l5 + (1 : Int32))), (4, .int (1 : Int32)), (0, .ref (ev 0 + 65)), (1, .int l1f2), (2, .int l2f2), (3, .int l3f26)]) F dX10_wordFrom_82 rfl rfl (by decide) rfl ?_
              refine g_goto (tgt := 26) F dX10_wordFrom_85 (by decide) ?_
              refine g_lv (lv' := [(0, .ref (ev 0 + 65)), (1, .int l1f2), (2, .int l2f2), (3, .int l3f26), (4, .int (1 : Int32)), (5, .int (l5 + (1 : Int32)))]) ⟨rfl, rfl, rfl, rfl, rfl, rfl, trivial⟩ ?_
              exact ih26 _ _ h
          intro l4 l5 h
          change fX10_wordFrom_l26 M l1f2 l2f2 l3f26 (lo1 (fX10_wordFrom_l2 M l1f2 l2f2) N2) (lo2 (fX10_wordFrom_l26 M l1f2 l2f2 l3f26 (lo1 (fX10_wordFrom_l2 M l1f2 l2f2) N2)) N26) l4 l5 = some r' at h
          rw [fX10_wordFrom_l26] at h
          refine g_iload (i := 5) F dX10_wordFrom_26 rfl ?_
          refine g_bipush F dX10_wordFrom_28 (v := 8) (by decide) ?_
          refine g_icmp_ge (tgt := 88) F dX10_wordFrom_30 (by decide) h (fun a9 h => ?_) (fun a9 h => ?_)
          · refine g_lv (lv' := [(0, .ref (ev 0 + 65)), (1, .int l1f2), (2, .int l2f2), (3, .int l3f26), (4, .int l4)]) ⟨rfl, rfl, rfl, rfl, rfl, trivial⟩ ?_
            exact U88 _ _ h
          · refine g_iload (i := 4) F dX10_wordFrom_33 rfl ?_
            refine g_if_eq (tgt := 88) F dX10_wordFrom_35 (by decide) h (fun a8 h => ?_) (fun a8 h => ?_)
            · refine g_lv (lv' := [(0, .ref (ev 0 + 65)), (1, .int l1f2), (2, .int l2f2), (3, .int l3f26), (4, .int l4)]) ⟨rfl, rfl, rfl, rfl, rfl, trivial⟩ ?_
              exact U88 _ _ h
            · refine g_aload_n (i := 0) F dX10_wordFrom_38 rfl rfl ?_
              refine g_get_10_39 F wd_12_16 dX10_wordFrom_39 ?_
              refine g_bipush F dX10_wordFrom_42 (v := 8) (by decide) ?_
              refine g_iload_n (i := 3) F dX10_wordFrom_44 rfl rfl ?_
              refine g_imul F dX10_wordFrom_45 ?_
              refine g_iload (i := 5) F dX10_wordFrom_46 rfl ?_
              refine g_iadd F dX10_wordFrom_48 ?_
              obtain ⟨v2, e3, h⟩ := bind_at h
              refine g_ildM F rfl rfl e3 dX10_wordFrom_49 ?_
              refine g_iload_n (i := 1) F dX10_wordFrom_50 rfl rfl ?_
              refine g_iload (i := 5) F dX10_wordFrom_51 rfl ?_
              refine g_iadd F dX10_wordFrom_53 ?_
              refine g_iload_n (i := 2) F dX10_wordFrom_54 rfl rfl ?_
              refine g_icmp_ge (tgt := 70) F dX10_wordFrom_55 (by decide) h (fun a7 h => ?_) (fun a7 h => ?_)
              · refine g_bipush F dX10_wordFrom_70 (v := 32) (by decide) ?_
                refine g_lv (lv' := [(0, .ref (ev 0 + 65)), (1, .int l1f2), (2, .int l2f2), (3, .int l3f26), (5, .int l5)]) ⟨rfl, rfl, rfl, rfl, rfl, trivial⟩ ?_
                exact U72 _ _ _ h
              · refine g_aload_n (i := 0) F dX10_wordFrom_58 rfl rfl ?_
                refine g_get_10_17 F wd_12_5 dX10_wordFrom_59 ?_
                refine g_iload_n (i := 1) F dX10_wordFrom_62 rfl rfl ?_
                refine g_iload (i := 5) F dX10_wordFrom_63 rfl ?_
                refine g_iadd F dX10_wordFrom_65 ?_
                obtain ⟨v5, e6, h⟩ := bind_at h
                refine g_ildM F rfl rfl e6 dX10_wordFrom_66 ?_
                refine g_goto (tgt := 72) F dX10_wordFrom_67 (by decide) ?_
                refine g_lv (lv' := [(0, .ref (ev 0 + 65)), (1, .int l1f2), (2, .int l2f2), (3, .int l3f26), (5, .int l5)]) ⟨rfl, rfl, rfl, rfl, rfl, trivial⟩ ?_
                exact U72 _ _ _ h
      have U21 : ∀ (l3 : Int32) (t0 : Int32), fX10_wordFrom_b21 M l1f2 l2f2 (lo1 (fX10_wordFrom_l2 M l1f2 l2f2) N2) l3 t0 = some r' → GJ p9 l e9 (rg 0 0 0) s9 m9 args9 below9 meth9 c9 (MQ below9 (QI s0 D ev r' (cells ev X M (nb + 1))) args9 s9 0 0 (frA ev)) s0 D ev 6 0 0 21 [(0, .ref (ev 0 + 65)), (1, .int l1f2), (2, .int l2f2), (3, .int l3)] (.int t0 :: []) (cells ev X M (nb + 1)) := by
        intro l3 t0 h
        rw [fX10_wordFrom_b21] at h
        refine g_istore (i := 4) (lv' := [(4, .int t0), (0, .ref (ev 0 + 65)), (1, .int l1f2), (2, .int l2f2), (3, .int l3)]) F dX10_wordFrom_21 (by decide) rfl ?_
        refine g_iconst F dX10_wordFrom_23 (v := 0) (by decide) ?_
        refine g_istore (i := 5) (lv' := [(5, .int (0 : Int32)), (4, .int t0), (0, .ref (ev 0 + 65)), (1, .int l1f2), (2, .int l2f2), (3, .int l3)]) F dX10_wordFrom_24 (by decide) rfl ?_
        refine g_lv (lv' := [(0, .ref (ev 0 + 65)), (1, .int l1f2), (2, .int l2f2), (3, .int l3), (4, .int t0), (5, .int (0 : Int32))]) ⟨rfl, rfl, rfl, rfl, rfl, rfl, trivial⟩ ?_
        exact L26 _ FU _ _ h
      intro l3 h
      change fX10_wordFrom_l2 M l1f2 l2f2 (lo1 (fX10_wordFrom_l2 M l1f2 l2f2) N2) l3 = some r' at h
      rw [fX10_wordFrom_l2] at h
      refine g_iload_n (i := 3) F dX10_wordFrom_2 rfl rfl ?_
      refine g_bipush F dX10_wordFrom_3 (v := 12) (by decide) ?_
      refine g_icmp_ge (tgt := 101) F dX10_wordFrom_5 (by decide) h (fun a11 h => ?_) (fun a11 h => ?_)
      · refine g_bipush F dX10_wordFrom_101 (v := 12) (by decide) ?_
        exact g_iret F hr9 rfl hl9 (Option.some.inj h) rfl (by decide) (by decide) dX10_wordFrom_103
      · refine g_iload_n (i := 2) F dX10_wordFrom_8 rfl rfl ?_
        refine g_iload_n (i := 1) F dX10_wordFrom_9 rfl rfl ?_
        refine g_isub F dX10_wordFrom_10 ?_
        refine g_bipush F dX10_wordFrom_11 (v := 8) (by decide) ?_
        refine g_icmp_gt (tgt := 20) F dX10_wordFrom_13 (by decide) h (fun a10 h => ?_) (fun a10 h => ?_)
        · refine g_iconst F dX10_wordFrom_20 (v := 0) (by decide) ?_
          refine g_lv (lv' := [(0, .ref (ev 0 + 65)), (1, .int l1f2), (2, .int l2f2), (3, .int l3)]) ⟨rfl, rfl, rfl, rfl, trivial⟩ ?_
          exact U21 _ _ h
        · refine g_iconst F dX10_wordFrom_16 (v := 1) (by decide) ?_
          refine g_goto (tgt := 21) F dX10_wordFrom_17 (by decide) ?_
          refine g_lv (lv' := [(0, .ref (ev 0 + 65)), (1, .int l1f2), (2, .int l2f2), (3, .int l3)]) ⟨rfl, rfl, rfl, rfl, trivial⟩ ?_
          exact U21 _ _ h
  rw [fX10_wordFrom] at h
  refine g_lv (lv' := [(0, .ref (ev 0 + 65)), (1, .int l1), (2, .int l2)]) ⟨rfl, rfl, rfl, trivial⟩ ?_
  refine g_iconst F dX10_wordFrom_0 (v := 0) (by decide) ?_
  refine g_istore_n (i := 3) (lv' := [(3, .int (0 : Int32)), (0, .ref (ev 0 + 65)), (1, .int l1), (2, .int l2)]) F dX10_wordFrom_1 rfl (by decide) rfl ?_
  refine g_lv (lv' := [(0, .ref (ev 0 + 65)), (1, .int l1), (2, .int l2), (3, .int (0 : Int32))]) ⟨rfl, rfl, rfl, rfl, trivial⟩ ?_
  exact L2 _ _ FU _ h
def fX10_next_b390 (M : MW) (t1 : Int32) : Option (MW) :=
  bd (mI M 37 t1) fun M13 =>
  bd (mI M13 35 ((M13.1 35) + (1 : Int32))) fun M15 =>
  some M15
def fX10_next_b379 (M : MW) (l1 : Int32) (t0 : Int32) : Option (MW) :=
  if t0 = 0 then fX10_next_b390 M (-1 : Int32)
  else fX10_next_b390 M l1
def fX10_next_b374 (M : MW) (l1 : Int32) : Option (MW) :=
  fX10_next_b379 M l1 (1 : Int32)
def fX10_next_b320 (M : MW) (t1 : Int32) : Option (MW) :=
  bd (mI M 37 t1) fun M26 =>
  some M26
def fX10_next_b309 (M : MW) (l2 : Int32) : Option (MW) :=
  if l2 ≤ (4 : Int32) then fX10_next_b320 M (1 : Int32)
  else fX10_next_b320 M (-1 : Int32)
def fX10_next_b290 (K230 : MW → Int32 → Option (MW)) (M : MW) (l2 : Int32) (t1 : Int32) : Option (MW) :=
  bd (mI M 38 t1) fun M33 =>
  bd (mI M33 35 ((M33.1 35) + (1 : Int32))) fun M35 =>
  K230 M35 (l2 + (1 : Int32))
def fX10_next_l230 (K230 : MW → Int32 → Option (MW)) (M : MW) (l2 : Int32) : Option (MW) :=
  if (M.1 18) ≤ (M.1 35) then fX10_next_b309 M l2
  else (rd (M.2 81) 160 (M.1 35)).bind fun v29 =>
  if (fX10_in v29 (48 : Int32) (57 : Int32)) = 0 then fX10_next_b309 M l2
  else if (4 : Int32) ≤ l2 then fX10_next_b290 K230 M l2 (0 : Int32)
  else (rd (M.2 81) 160 (M.1 35)).bind fun v37 =>
  fX10_next_b290 K230 M l2 ((((10 : Int32) * (M.1 38)) + v37) - (48 : Int32))
def fX10_next_b211 (M : MW) (t1 : Int32) : Option (MW) :=
  bd (mI M 38 t1) fun M47 =>
  some M47
def fX10_next_b195 (M : MW) (l2 : Int32) (t1 : Int32) : Option (MW) :=
  bd (mI M 37 t1) fun M45 =>
  if (3 : Int32) ≤ l2 then fX10_next_b211 M45 (l2 - (3 : Int32))
  else fX10_next_b211 M45 l2
def fX10_next_b146 (M : MW) : Option (MW) :=
  (fX10_wordFrom M (M.1 36) (M.1 35)).bind fun v43 =>
  if (3 : Int32) ≤ v43 then if (9 : Int32) ≤ v43 then if v43 = (12 : Int32) then fX10_next_b195 M v43 (-1 : Int32)
  else fX10_next_b195 M v43 (((4 : Int32) + v43) - (9 : Int32))
  else fX10_next_b195 M v43 (2 : Int32)
  else fX10_next_b195 M v43 (3 : Int32)
def fX10_next_l103 (K103 : MW → Option (MW)) (M : MW) : Option (MW) :=
  if (M.1 18) ≤ (M.1 35) then fX10_next_b146 M
  else (rd (M.2 81) 160 (M.1 35)).bind fun v53 =>
  if (fX10_in v53 (97 : Int32) (122 : Int32)) = 0 then fX10_next_b146 M
  else bd (mI M 35 ((M.1 35) + (1 : Int32))) fun M57 =>
  K103 M57
def fX10_next_b52 (M : MW) : Option (MW) :=
  bd (mI M 36 (M.1 35)) fun M1 =>
  bd (mI M1 37 (0 : Int32)) fun M3 =>
  bd (mI M3 38 (0 : Int32)) fun M5 =>
  if (M5.1 35) = (M5.1 18) then some M5
  else (rd (M5.2 81) 160 (M5.1 35)).bind fun v7 =>
  if (fX10_in v7 (97 : Int32) (122 : Int32)) = 0 then if (fX10_in v7 (48 : Int32) (57 : Int32)) = 0 then if v7 = (40 : Int32) then fX10_next_b374 M5 v7
  else if v7 = (41 : Int32) then fX10_next_b374 M5 v7
  else if v7 = (59 : Int32) then fX10_next_b374 M5 v7
  else if v7 = (43 : Int32) then fX10_next_b374 M5 v7
  else if v7 = (45 : Int32) then fX10_next_b374 M5 v7
  else if v7 = (42 : Int32) then fX10_next_b374 M5 v7
  else if v7 = (60 : Int32) then fX10_next_b374 M5 v7
  else if v7 = (61 : Int32) then fX10_next_b374 M5 v7
  else fX10_next_b379 M5 v7 (0 : Int32)
  else lo2 (fX10_next_l230) FU M5 (0 : Int32)
  else lo1 (fX10_next_l103) FU M5
def fX10_next_b39 (K0 : MW → Option (MW)) (M : MW) : Option (MW) :=
  bd (mI M 35 ((M.1 35) + (1 : Int32))) fun M65 =>
  K0 M65
def fX10_next_l0 (K0 : MW → Option (MW)) (M : MW) : Option (MW) :=
  if (M.1 18) ≤ (M.1 35) then fX10_next_b52 M
  else (rd (M.2 81) 160 (M.1 35)).bind fun v63 =>
  if v63 = (32 : Int32) then fX10_next_b39 K0 M
  else (rd (M.2 81) 160 (M.1 35)).bind fun v67 =>
  if v67 = (10 : Int32) then fX10_next_b39 K0 M
  else fX10_next_b52 M
def fX10_next (M : MW) : Option (MW) :=
  lo1 (fX10_next_l0) FU M
set_option maxRecDepth 100000 in
set_option maxHeartbeats 4000000 in
theorem c_X10_next {l : Launch} {s0 : State} {D : va_G} {ev : Nat → Nat} (G0 : Gl s0 D ev) {X : XW} {M : MW} {nb : Nat}  {M' : MW}  (h : fX10_next M = some (M')) : CT l s0 D ev yX10_next cX10_next 3 none 1 0 0 [.ref (ev 0 + 65)] (cells ev X M (nb + 1)) (QV s0 D ev (cells ev X M' (nb + 1))) := by
  refine ct_of G0 (by decide) (Nat.le_of_ble_eq_true rfl) ?_
  intro p9 e9 s9 m9 args9 below9 meth9 c9 F hr9 hl9 hin9 hargs9 hts9
  have U390 : ∀ (M : MW) (t1 : Int32), fX10_next_b390 M t1 = some (M') → GJ p9 l e9 (rg 1 0 0) s9 m9 args9 below9 meth9 c9 (MQ below9 (QV s0 D ev (cells ev X M' (nb + 1))) args9 s9 0 0 (frA ev)) s0 D ev 3 0 0 390 [(0, .ref (ev 0 + 65))] (.int t1 :: .ref (ev 0 + 65) :: []) (cells ev X M (nb + 1)) := by
    intro M t1 h
    rw [fX10_next_b390] at h
    obtain ⟨M13, e14, h⟩ := bd_at h
    refine g_put_10_37 F wd_13_12 dX10_next_390 ?_
    rw [← e14]
    refine g_aload_n (i := 0) F dX10_next_393 rfl rfl ?_
    refine g_dup F dX10_next_394 rfl ?_
    refine g_get_10_35 F wd_13_10 dX10_next_395 ?_
    refine g_iconst F dX10_next_398 (v := 1) (by decide) ?_
    refine g_iadd F dX10_next_399 ?_
    obtain ⟨M15, e16, h⟩ := bd_at h
    refine g_put_10_35 F wd_13_10 dX10_next_400 ?_
    rw [← e16]
    exact g_vret F hr9 hl9 (by rw [Option.some.inj h]) (by decide) (by decide) dX10_next_403
  have U379 : ∀ (M : MW) (l1 : Int32) (t0 : Int32), fX10_next_b379 M l1 t0 = some (M') → GJ p9 l e9 (rg 1 0 0) s9 m9 args9 below9 meth9 c9 (MQ below9 (QV s0 D ev (cells ev X M' (nb + 1))) args9 s9 0 0 (frA ev)) s0 D ev 3 0 0 379 [(0, .ref (ev 0 + 65)), (1, .int l1)] (.int t0 :: []) (cells ev X M (nb + 1)) := by
    intro M l1 t0 h
    rw [fX10_next_b379] at h
    refine g_istore_n (i := 2) (lv' := [(2, .int t0), (0, .ref (ev 0 + 65)), (1, .int l1)]) F dX10_next_379 rfl (by decide) rfl ?_
    refine g_aload_n (i := 0) F dX10_next_380 rfl rfl ?_
    refine g_iload_n (i := 2) F dX10_next_381 rfl rfl ?_
    refine g_if_eq (tgt := 389) F dX10_next_382 (by decide) h (fun a17 h => ?_) (fun a17 h => ?_)
    · refine g_iconst F dX10_next_389 (v := -1) (by decide) ?_
      refine g_lv (lv' := [(0, .ref (ev 0 + 65))]) ⟨rfl, trivial⟩ ?_
      exact U390 _ _ h
    · refine g_iload_n (i := 1) F dX10_next_385 rfl rfl ?_
      refine g_goto (tgt := 390) F dX10_next_386 (by decide) ?_
      refine g_lv (lv' := [(0, .ref (ev 0 + 65))]) ⟨rfl, trivial⟩ ?_
      exact U390 _ _ h
  have U374 : ∀ (M : MW) (l1 : Int32), fX10_next_b374 M l1 = some (M') → GJ p9 l e9 (rg 1 0 0) s9 m9 args9 below9 meth9 c9 (MQ below9 (QV s0 D ev (cells ev X M' (nb + 1))) args9 s9 0 0 (frA ev)) s0 D ev 3 0 0 374 [(0, .ref (ev 0 + 65)), (1, .int l1)] ([]) (cells ev X M (nb + 1)) := by
    intro M l1 h
    rw [fX10_next_b374] at h
    refine g_iconst F dX10_next_374 (v := 1) (by decide) ?_
    refine g_goto (tgt := 379) F dX10_next_375 (by decide) ?_
    refine g_lv (lv' := [(0, .ref (ev 0 + 65)), (1, .int l1)]) ⟨rfl, rfl, trivial⟩ ?_
    exact U379 _ _ _ h
  have U320 : ∀ (M : MW) (t1 : Int32), fX10_next_b320 M t1 = some (M') → GJ p9 l e9 (rg 1 0 0) s9 m9 args9 below9 meth9 c9 (MQ below9 (QV s0 D ev (cells ev X M' (nb + 1))) args9 s9 0 0 (frA ev)) s0 D ev 3 0 0 320 [] (.int t1 :: .ref (ev 0 + 65) :: []) (cells ev X M (nb + 1)) := by
    intro M t1 h
    rw [fX10_next_b320] at h
    obtain ⟨M26, e27, h⟩ := bd_at h
    refine g_put_10_37 F wd_13_12 dX10_next_320 ?_
    rw [← e27]
    refine g_goto (tgt := 403) F dX10_next_323 (by decide) ?_
    exact g_vret F hr9 hl9 (by rw [Option.some.inj h]) (by decide) (by decide) dX10_next_403
  have U309 : ∀ (M : MW) (l2 : Int32), fX10_next_b309 M l2 = some (M') → GJ p9 l e9 (rg 1 0 0) s9 m9 args9 below9 meth9 c9 (MQ below9 (QV s0 D ev (cells ev X M' (nb + 1))) args9 s9 0 0 (frA ev)) s0 D ev 3 0 0 309 [(0, .ref (ev 0 + 65)), (2, .int l2)] ([]) (cells ev X M (nb + 1)) := by
    intro M l2 h
    rw [fX10_next_b309] at h
    refine g_aload_n (i := 0) F dX10_next_309 rfl rfl ?_
    refine g_iload_n (i := 2) F dX10_next_310 rfl rfl ?_
    refine g_iconst F dX10_next_311 (v := 4) (by decide) ?_
    refine g_icmp_le (tgt := 319) F dX10_next_312 (by decide) h (fun a28 h => ?_) (fun a28 h => ?_)
    · refine g_iconst F dX10_next_319 (v := 1) (by decide) ?_
      refine g_lv (lv' := []) trivial ?_
      exact U320 _ _ h
    · refine g_iconst F dX10_next_315 (v := -1) (by decide) ?_
      refine g_goto (tgt := 320) F dX10_next_316 (by decide) ?_
      refine g_lv (lv' := []) trivial ?_
      exact U320 _ _ h
  have L230 : ∀  (N230 : Nat) (M : MW) (l2 : Int32), lo2 (fX10_next_l230) N230 M l2 = some (M') → GJ p9 l e9 (rg 1 0 0) s9 m9 args9 below9 meth9 c9 (MQ below9 (QV s0 D ev (cells ev X M' (nb + 1))) args9 s9 0 0 (frA ev)) s0 D ev 3 0 0 230 [(0, .ref (ev 0 + 65)), (2, .int l2)] ([]) (cells ev X M (nb + 1)) := by
    intro  N230
    induction N230 with
    | zero => intro M l2 h; cases h
    | succ N230 ih230 =>
      have U290 : ∀ (M : MW) (l2 : Int32) (t1 : Int32), fX10_next_b290 (lo2 (fX10_next_l230) N230) M l2 t1 = some (M') → GJ p9 l e9 (rg 1 0 0) s9 m9 args9 below9 meth9 c9 (MQ below9 (QV s0 D ev (cells ev X M' (nb + 1))) args9 s9 0 0 (frA ev)) s0 D ev 3 0 0 290 [(0, .ref (ev 0 + 65)), (2, .int l2)] (.int t1 :: .ref (ev 0 + 65) :: []) (cells ev X M (nb + 1)) := by
        intro M l2 t1 h
        rw [fX10_next_b290] at h
        obtain ⟨M33, e34, h⟩ := bd_at h
        refine g_put_10_38 F wd_13_13 dX10_next_290 ?_
        rw [← e34]
        refine g_iinc (i := 2) (v := (l2 + (1 : Int32))) (lv' := [(2, .int (l2 + (1 : Int32))), (0, .ref (ev 0 + 65))]) F dX10_next_293 rfl rfl (by decide) rfl ?_
        refine g_aload_n (i := 0) F dX10_next_296 rfl rfl ?_
        refine g_dup F dX10_next_297 rfl ?_
        refine g_get_10_35 F wd_13_10 dX10_next_298 ?_
        refine g_iconst F dX10_next_301 (v := 1) (by decide) ?_
        refine g_iadd F dX10_next_302 ?_
        obtain ⟨M35, e36, h⟩ := bd_at h
        refine g_put_10_35 F wd_13_10 dX10_next_303 ?_
        rw [← e36]
        refine g_goto (tgt := 230) F dX10_next_306 (by decide) ?_
        refine g_lv (lv' := [(0, .ref (ev 0 + 65)), (2, .int (l2 + (1 : Int32)))]) ⟨rfl, rfl, trivial⟩ ?_
        exact ih230 _ _ h
      intro M l2 h
      change fX10_next_l230 (lo2 (fX10_next_l230) N230) M l2 = some (M') at h
      rw [fX10_next_l230] at h
      refine g_aload_n (i := 0) F dX10_next_230 rfl rfl ?_
      refine g_get_10_35 F wd_13_10 dX10_next_231 ?_
      refine g_aload_n (i := 0) F dX10_next_234 rfl rfl ?_
      refine g_get_10_18 F wd_13_4 dX10_next_235 ?_
      refine g_icmp_ge (tgt := 309) F dX10_next_238 (by decide) h (fun a41 h => ?_) (fun a41 h => ?_)
      · refine g_lv (lv' := [(0, .ref (ev 0 + 65)), (2, .int l2)]) ⟨rfl, rfl, trivial⟩ ?_
        exact U309 _ _ h
      · refine g_aload_n (i := 0) F dX10_next_241 rfl rfl ?_
        refine g_get_10_17 F wd_12_5 dX10_next_242 ?_
        refine g_aload_n (i := 0) F dX10_next_245 rfl rfl ?_
        refine g_get_10_35 F wd_13_10 dX10_next_246 ?_
        obtain ⟨v29, e30, h⟩ := bind_at h
        refine g_ildM F rfl rfl e30 dX10_next_249 ?_
        refine g_bipush F dX10_next_250 (v := 48) (by decide) ?_
        refine g_bipush F dX10_next_252 (v := 57) (by decide) ?_
        refine g_callSI F (mcR := 0) (msR := 0) (c_X10_in G0 (X := X) (M := M) (nb := nb) rfl) wd_13_21 wd_13_19 wd_13_20 wd_1_5 ⟨by decide, by decide⟩ (nn := 3) (by decide) (As := [.int v29, .int (48 : Int32), .int (57 : Int32)]) rfl rfl (Nat.le_of_ble_eq_true rfl) (by decide) (by decide) ⟨by decide, by decide⟩ dX10_next_254 ?_
        refine g_if_eq (tgt := 309) F dX10_next_257 (by decide) h (fun a40 h => ?_) (fun a40 h => ?_)
        · refine g_lv (lv' := [(0, .ref (ev 0 + 65)), (2, .int l2)]) ⟨rfl, rfl, trivial⟩ ?_
          exact U309 _ _ h
        · refine g_aload_n (i := 0) F dX10_next_260 rfl rfl ?_
          refine g_iload_n (i := 2) F dX10_next_261 rfl rfl ?_
          refine g_iconst F dX10_next_262 (v := 4) (by decide) ?_
          refine g_icmp_ge (tgt := 289) F dX10_next_263 (by decide) h (fun a39 h => ?_) (fun a39 h => ?_)
          · refine g_iconst F dX10_next_289 (v := 0) (by decide) ?_
            refine g_lv (lv' := [(0, .ref (ev 0 + 65)), (2, .int l2)]) ⟨rfl, rfl, trivial⟩ ?_
            exact U290 _ _ _ h
          · refine g_bipush F dX10_next_266 (v := 10) (by decide) ?_
            refine g_aload_n (i := 0) F dX10_next_268 rfl rfl ?_
            refine g_get_10_38 F wd_13_13 dX10_next_269 ?_
            refine g_imul F dX10_next_272 ?_
            refine g_aload_n (i := 0) F dX10_next_273 rfl rfl ?_
            refine g_get_10_17 F wd_12_5 dX10_next_274 ?_
            refine g_aload_n (i := 0) F dX10_next_277 rfl rfl ?_
            refine g_get_10_35 F wd_13_10 dX10_next_278 ?_
            obtain ⟨v37, e38, h⟩ := bind_at h
            refine g_ildM F rfl rfl e38 dX10_next_281 ?_
            refine g_iadd F dX10_next_282 ?_
            refine g_bipush F dX10_next_283 (v := 48) (by decide) ?_
            refine g_isub F dX10_next_285 ?_
            refine g_goto (tgt := 290) F dX10_next_286 (by decide) ?_
            refine g_lv (lv' := [(0, .ref (ev 0 + 65)), (2, .int l2)]) ⟨rfl, rfl, trivial⟩ ?_
            exact U290 _ _ _ h
  have U211 : ∀ (M : MW) (t1 : Int32), fX10_next_b211 M t1 = some (M') → GJ p9 l e9 (rg 1 0 0) s9 m9 args9 below9 meth9 c9 (MQ below9 (QV s0 D ev (cells ev X M' (nb + 1))) args9 s9 0 0 (frA ev)) s0 D ev 3 0 0 211 [] (.int t1 :: .ref (ev 0 + 65) :: []) (cells ev X M (nb + 1)) := by
    intro M t1 h
    rw [fX10_next_b211] at h
    obtain ⟨M47, e48, h⟩ := bd_at h
    refine g_put_10_38 F wd_13_13 dX10_next_211 ?_
    rw [← e48]
    refine g_goto (tgt := 403) F dX10_next_214 (by decide) ?_
    exact g_vret F hr9 hl9 (by rw [Option.some.inj h]) (by decide) (by decide) dX10_next_403
  have U195 : ∀ (M : MW) (l2 : Int32) (t1 : Int32), fX10_next_b195 M l2 t1 = some (M') → GJ p9 l e9 (rg 1 0 0) s9 m9 args9 below9 meth9 c9 (MQ below9 (QV s0 D ev (cells ev X M' (nb + 1))) args9 s9 0 0 (frA ev)) s0 D ev 3 0 0 195 [(0, .ref (ev 0 + 65)), (2, .int l2)] (.int t1 :: .ref (ev 0 + 65) :: []) (cells ev X M (nb + 1)) := by
    intro M l2 t1 h
    rw [fX10_next_b195] at h
    obtain ⟨M45, e46, h⟩ := bd_at h
    refine g_put_10_37 F wd_13_12 dX10_next_195 ?_
    rw [← e46]
    refine g_aload_n (i := 0) F dX10_next_198 rfl rfl ?_
    refine g_iload_n (i := 2) F dX10_next_199 rfl rfl ?_
    refine g_iconst F dX10_next_200 (v := 3) (by decide) ?_
    refine g_icmp_ge (tgt := 208) F dX10_next_201 (by decide) h (fun a49 h => ?_) (fun a49 h => ?_)
    · refine g_iload_n (i := 2) F dX10_next_208 rfl rfl ?_
      refine g_iconst F dX10_next_209 (v := 3) (by decide) ?_
      refine g_isub F dX10_next_210 ?_
      refine g_lv (lv' := []) trivial ?_
      exact U211 _ _ h
    · refine g_iload_n (i := 2) F dX10_next_204 rfl rfl ?_
      refine g_goto (tgt := 211) F dX10_next_205 (by decide) ?_
      refine g_lv (lv' := []) trivial ?_
      exact U211 _ _ h
  have U146 : ∀ (M : MW), fX10_next_b146 M = some (M') → GJ p9 l e9 (rg 1 0 0) s9 m9 args9 below9 meth9 c9 (MQ below9 (QV s0 D ev (cells ev X M' (nb + 1))) args9 s9 0 0 (frA ev)) s0 D ev 3 0 0 146 [(0, .ref (ev 0 + 65))] ([]) (cells ev X M (nb + 1)) := by
    intro M h
    rw [fX10_next_b146] at h
    refine g_aload_n (i := 0) F dX10_next_146 rfl rfl ?_
    refine g_aload_n (i := 0) F dX10_next_147 rfl rfl ?_
    refine g_get_10_36 F wd_13_14 dX10_next_148 ?_
    refine g_aload_n (i := 0) F dX10_next_151 rfl rfl ?_
    refine g_get_10_35 F wd_13_10 dX10_next_152 ?_
    obtain ⟨v43, e44, h⟩ := bind_at h
    refine g_callVI F (mcR := 0) (msR := 0) (id := 65) (cells_at (kd_hidM (show kd 65 = 10 from rfl) (by decide)) (xc_10 rfl)) (ci := 10) rfl rfl rfl (c_X10_wordFrom G0 e44) wd_14_1 wd_13_22 wd_13_23 wd_14_0 wd_1_5 ⟨by decide, by decide⟩ (nn := 2) (by decide) (As := [.int (M.1 36), .int (M.1 35)]) rfl rfl (Nat.le_of_ble_eq_true rfl) (by decide) (by decide) ⟨by decide, by decide⟩ dX10_next_155 ?_
    refine g_istore_n (i := 2) (lv' := [(2, .int v43), (0, .ref (ev 0 + 65))]) F dX10_next_158 rfl (by decide) rfl ?_
    refine g_aload_n (i := 0) F dX10_next_159 rfl rfl ?_
    refine g_iload_n (i := 2) F dX10_next_160 rfl rfl ?_
    refine g_iconst F dX10_next_161 (v := 3) (by decide) ?_
    refine g_icmp_ge (tgt := 169) F dX10_next_162 (by decide) h (fun a52 h => ?_) (fun a52 h => ?_)
    · refine g_iload_n (i := 2) F dX10_next_169 rfl rfl ?_
      refine g_bipush F dX10_next_170 (v := 9) (by decide) ?_
      refine g_icmp_ge (tgt := 179) F dX10_next_172 (by decide) h (fun a51 h => ?_) (fun a51 h => ?_)
      · refine g_iload_n (i := 2) F dX10_next_179 rfl rfl ?_
        refine g_bipush F dX10_next_180 (v := 12) (by decide) ?_
        refine g_icmp_ne (tgt := 189) F dX10_next_182 (by decide) h (fun a50 h => ?_) (fun a50 h => ?_)
        · refine g_iconst F dX10_next_189 (v := 4) (by decide) ?_
          refine g_iload_n (i := 2) F dX10_next_190 rfl rfl ?_
          refine g_iadd F dX10_next_191 ?_
          refine g_bipush F dX10_next_192 (v := 9) (by decide) ?_
          refine g_isub F dX10_next_194 ?_
          refine g_lv (lv' := [(0, .ref (ev 0 + 65)), (2, .int v43)]) ⟨rfl, rfl, trivial⟩ ?_
          exact U195 _ _ _ h
        · refine g_iconst F dX10_next_185 (v := -1) (by decide) ?_
          refine g_goto (tgt := 195) F dX10_next_186 (by decide) ?_
          refine g_lv (lv' := [(0, .ref (ev 0 + 65)), (2, .int v43)]) ⟨rfl, rfl, trivial⟩ ?_
          exact U195 _ _ _ h
      · refine g_iconst F dX10_next_175 (v := 2) (by decide) ?_
        refine g_goto (tgt := 195) F dX10_next_176 (by decide) ?_
        refine g_lv (lv' := [(0, .ref (ev 0 + 65)), (2, .int v43)]) ⟨rfl, rfl, trivial⟩ ?_
        exact U195 _ _ _ h
    · refine g_iconst F dX10_next_165 (v := 3) (by decide) ?_
      refine g_goto (tgt := 195) F dX10_next_166 (by decide) ?_
      refine g_lv (lv' := [(0, .ref (ev 0 + 65)), (2, .int v43)]) ⟨rfl, rfl, trivial⟩ ?_
      exact U195 _ _ _ h
  have L103 : ∀  (N103 : Nat) (M : MW), lo1 (fX10_next_l103) N103 M = some (M') → GJ p9 l e9 (rg 1 0 0) s9 m9 args9 below9 meth9 c9 (MQ below9 (QV s0 D ev (cells ev X M' (nb + 1))) args9 s9 0 0 (frA ev)) s0 D ev 3 0 0 103 [(0, .ref (ev 0 + 65))] ([]) (cells ev X M (nb + 1)) := by
    intro  N103
    induction N103 with
    | zero => intro M h; cases h
    | succ N103 ih103 =>
      intro M h
      change fX10_next_l103 (lo1 (fX10_next_l103) N103) M = some (M') at h
      rw [fX10_next_l103] at h
      refine g_aload_n (i := 0) F dX10_next_103 rfl rfl ?_
      refine g_get_10_35 F wd_13_10 dX10_next_104 ?_
      refine g_aload_n (i := 0) F dX10_next_107 rfl rfl ?_
      refine g_get_10_18 F wd_13_4 dX10_next_108 ?_
      refine g_icmp_ge (tgt := 146) F dX10_next_111 (by decide) h (fun a60 h => ?_) (fun a60 h => ?_)
      · refine g_lv (lv' := [(0, .ref (ev 0 + 65))]) ⟨rfl, trivial⟩ ?_
        exact U146 _ h
      · refine g_aload_n (i := 0) F dX10_next_114 rfl rfl ?_
        refine g_get_10_17 F wd_12_5 dX10_next_115 ?_
        refine g_aload_n (i := 0) F dX10_next_118 rfl rfl ?_
        refine g_get_10_35 F wd_13_10 dX10_next_119 ?_
        obtain ⟨v53, e54, h⟩ := bind_at h
        refine g_ildM F rfl rfl e54 dX10_next_122 ?_
        refine g_bipush F dX10_next_123 (v := 97) (by decide) ?_
        refine g_bipush F dX10_next_125 (v := 122) (by decide) ?_
        refine g_callSI F (mcR := 0) (msR := 0) (c_X10_in G0 (X := X) (M := M) (nb := nb) rfl) wd_13_21 wd_13_19 wd_13_20 wd_1_5 ⟨by decide, by decide⟩ (nn := 3) (by decide) (As := [.int v53, .int (97 : Int32), .int (122 : Int32)]) rfl rfl (Nat.le_of_ble_eq_true rfl) (by decide) (by decide) ⟨by decide, by decide⟩ dX10_next_127 ?_
        refine g_if_eq (tgt := 146) F dX10_next_130 (by decide) h (fun a59 h => ?_) (fun a59 h => ?_)
        · refine g_lv (lv' := [(0, .ref (ev 0 + 65))]) ⟨rfl, trivial⟩ ?_
          exact U146 _ h
        · refine g_aload_n (i := 0) F dX10_next_133 rfl rfl ?_
          refine g_dup F dX10_next_134 rfl ?_
          refine g_get_10_35 F wd_13_10 dX10_next_135 ?_
          refine g_iconst F dX10_next_138 (v := 1) (by decide) ?_
          refine g_iadd F dX10_next_139 ?_
          obtain ⟨M57, e58, h⟩ := bd_at h
          refine g_put_10_35 F wd_13_10 dX10_next_140 ?_
          rw [← e58]
          refine g_goto (tgt := 103) F dX10_next_143 (by decide) ?_
          refine g_lv (lv' := [(0, .ref (ev 0 + 65))]) ⟨rfl, trivial⟩ ?_
          exact ih103 _ h
  have U52 : ∀ (M : MW), fX10_next_b52 M = some (M') → GJ p9 l e9 (rg 1 0 0) s9 m9 args9 below9 meth9 c9 (MQ below9 (QV s0 D ev (cells ev X M' (nb + 1))) args9 s9 0 0 (frA ev)) s0 D ev 3 0 0 52 [(0, .ref (ev 0 + 65))] ([]) (cells ev X M (nb + 1)) := by
    intro M h
    rw [fX10_next_b52] at h
    refine g_aload_n (i := 0) F dX10_next_52 rfl rfl ?_
    refine g_aload_n (i := 0) F dX10_next_53 rfl rfl ?_
    refine g_get_10_35 F wd_13_10 dX10_next_54 ?_
    obtain ⟨M1, e2, h⟩ := bd_at h
    refine g_put_10_36 F wd_13_14 dX10_next_57 ?_
    rw [← e2]
    refine g_aload_n (i := 0) F dX10_next_60 rfl rfl ?_
    refine g_iconst F dX10_next_61 (v := 0) (by decide) ?_
    obtain ⟨M3, e4, h⟩ := bd_at h
    refine g_put_10_37 F wd_13_12 dX10_next_62 ?_
    rw [← e4]
    refine g_aload_n (i := 0) F dX10_next_65 rfl rfl ?_
    refine g_iconst F dX10_next_66 (v := 0) (by decide) ?_
    obtain ⟨M5, e6, h⟩ := bd_at h
    refine g_put_10_38 F wd_13_13 dX10_next_67 ?_
    rw [← e6]
    refine g_aload_n (i := 0) F dX10_next_70 rfl rfl ?_
    refine g_get_10_35 F wd_13_10 dX10_next_71 ?_
    refine g_aload_n (i := 0) F dX10_next_74 rfl rfl ?_
    refine g_get_10_18 F wd_13_4 dX10_next_75 ?_
    refine g_icmp_ne (tgt := 82) F dX10_next_78 (by decide) h (fun a62 h => ?_) (fun a62 h => ?_)
    · refine g_aload_n (i := 0) F dX10_next_82 rfl rfl ?_
      refine g_get_10_17 F wd_12_5 dX10_next_83 ?_
      refine g_aload_n (i := 0) F dX10_next_86 rfl rfl ?_
      refine g_get_10_35 F wd_13_10 dX10_next_87 ?_
      obtain ⟨v7, e8, h⟩ := bind_at h
      refine g_ildM F rfl rfl e8 dX10_next_90 ?_
      refine g_istore_n (i := 1) (lv' := [(1, .int v7), (0, .ref (ev 0 + 65))]) F dX10_next_91 rfl (by decide) rfl ?_
      refine g_iload_n (i := 1) F dX10_next_92 rfl rfl ?_
      refine g_bipush F dX10_next_93 (v := 97) (by decide) ?_
      refine g_bipush F dX10_next_95 (v := 122) (by decide) ?_
      refine g_callSI F (mcR := 0) (msR := 0) (c_X10_in G0 (X := X) (M := M5) (nb := nb) rfl) wd_13_21 wd_13_19 wd_13_20 wd_1_5 ⟨by decide, by decide⟩ (nn := 3) (by decide) (As := [.int v7, .int (97 : Int32), .int (122 : Int32)]) rfl rfl (Nat.le_of_ble_eq_true rfl) (by decide) (by decide) ⟨by decide, by decide⟩ dX10_next_97 ?_
      refine g_if_eq (tgt := 217) F dX10_next_100 (by decide) h (fun a61 h => ?_) (fun a61 h => ?_)
      · refine g_iload_n (i := 1) F dX10_next_217 rfl rfl ?_
        refine g_bipush F dX10_next_218 (v := 48) (by decide) ?_
        refine g_bipush F dX10_next_220 (v := 57) (by decide) ?_
        refine g_callSI F (mcR := 0) (msR := 0) (c_X10_in G0 (X := X) (M := M5) (nb := nb) rfl) wd_13_21 wd_13_19 wd_13_20 wd_1_5 ⟨by decide, by decide⟩ (nn := 3) (by decide) (As := [.int v7, .int (48 : Int32), .int (57 : Int32)]) rfl rfl (Nat.le_of_ble_eq_true rfl) (by decide) (by decide) ⟨by decide, by decide⟩ dX10_next_222 ?_
        refine g_if_eq (tgt := 326) F dX10_next_225 (by decide) h (fun a42 h => ?_) (fun a42 h => ?_)
        · refine g_iload_n (i := 1) F dX10_next_326 rfl rfl ?_
          refine g_bipush F dX10_next_327 (v := 40) (by decide) ?_
          refine g_icmp_eq (tgt := 374) F dX10_next_329 (by decide) h (fun a25 h => ?_) (fun a25 h => ?_)
          · refine g_lv (lv' := [(0, .ref (ev 0 + 65)), (1, .int v7)]) ⟨rfl, rfl, trivial⟩ ?_
            exact U374 _ _ h
          · refine g_iload_n (i := 1) F dX10_next_332 rfl rfl ?_
            refine g_bipush F dX10_next_333 (v := 41) (by decide) ?_
            refine g_icmp_eq (tgt := 374) F dX10_next_335 (by decide) h (fun a24 h => ?_) (fun a24 h => ?_)
            · refine g_lv (lv' := [(0, .ref (ev 0 + 65)), (1, .int v7)]) ⟨rfl, rfl, trivial⟩ ?_
              exact U374 _ _ h
            · refine g_iload_n (i := 1) F dX10_next_338 rfl rfl ?_
              refine g_bipush F dX10_next_339 (v := 59) (by decide) ?_
              refine g_icmp_eq (tgt := 374) F dX10_next_341 (by decide) h (fun a23 h => ?_) (fun a23 h => ?_)
              · refine g_lv (lv' := [(0, .ref (ev 0 + 65)), (1, .int v7)]) ⟨rfl, rfl, trivial⟩ ?_
                exact U374 _ _ h
              · refine g_iload_n (i := 1) F dX10_next_344 rfl rfl ?_
                refine g_bipush F dX10_next_345 (v := 43) (by decide) ?_
                refine g_icmp_eq (tgt := 374) F dX10_next_347 (by decide) h (fun a22 h => ?_) (fun a22 h => ?_)
                · refine g_lv (lv' := [(0, .ref (ev 0 + 65)), (1, .int v7)]) ⟨rfl, rfl, trivial⟩ ?_
                  exact U374 _ _ h
                · refine g_iload_n (i := 1) F dX10_next_350 rfl rfl ?_
                  refine g_bipush F dX10_next_351 (v := 45) (by decide) ?_
                  refine g_icmp_eq (tgt := 374) F dX10_next_353 (by decide) h (fun a21 h => ?_) (fun a21 h => ?_)
                  · refine g_lv (lv' := [(0, .ref (ev 0 + 65)), (1, .int v7)]) ⟨rfl, rfl, trivial⟩ ?_
                    exact U374 _ _ h
                  · refine g_iload_n (i := 1) F dX10_next_356 rfl rfl ?_
                    refine g_bipush F dX10_next_357 (v := 42) (by decide) ?_
                    refine g_icmp_eq (tgt := 374) F dX10_next_359 (by decide) h (fun a20 h => ?_) (fun a20 h => ?_)
                    · refine g_lv (lv' := [(0, .ref (ev 0 + 65)), (1, .int v7)]) ⟨rfl, rfl, trivial⟩ ?_
                      exact U374 _ _ h
                    · refine g_iload_n (i := 1) F dX10_next_362 rfl rfl ?_
                      refine g_bipush F dX10_next_363 (v := 60) (by decide) ?_
                      refine g_icmp_eq (tgt := 374) F dX10_next_365 (by decide) h (fun a19 h => ?_) (fun a19 h => ?_)
                      · refine g_lv (lv' := [(0, .ref (ev 0 + 65)), (1, .int v7)]) ⟨rfl, rfl, trivial⟩ ?_
                        exact U374 _ _ h
                      · refine g_iload_n (i := 1) F dX10_next_368 rfl rfl ?_
                        refine g_bipush F dX10_next_369 (v := 61) (by decide) ?_
                        refine g_icmp_ne (tgt := 378) F dX10_next_371 (by decide) h (fun a18 h => ?_) (fun a18 h => ?_)
                        · refine g_iconst F dX10_next_378 (v := 0) (by decide) ?_
                          refine g_lv (lv' := [(0, .ref (ev 0 + 65)), (1, .int v7)]) ⟨rfl, rfl, trivial⟩ ?_
                          exact U379 _ _ _ h
                        · refine g_lv (lv' := [(0, .ref (ev 0 + 65)), (1, .int v7)]) ⟨rfl, rfl, trivial⟩ ?_
                          exact U374 _ _ h
        · refine g_iconst F dX10_next_228 (v := 0) (by decide) ?_
          refine g_istore_n (i := 2) (lv' := [(2, .int (0 : Int32)), (1, .int v7), (0, .ref (ev 0 + 65))]) F dX10_next_229 rfl (by decide) rfl ?_
          refine g_lv (lv' := [(0, .ref (ev 0 + 65)), (2, .int (0 : Int32))]) ⟨rfl, rfl, trivial⟩ ?_
          exact L230 FU _ _ h
      · refine g_lv (lv' := [(0, .ref (ev 0 + 65))]) ⟨rfl, trivial⟩ ?_
        exact L103 FU _ h
    · exact g_vret F hr9 hl9 (by rw [Option.some.inj h]) (by decide) (by decide) dX10_next_81
  have L0 : ∀  (N0 : Nat) (M : MW), lo1 (fX10_next_l0) N0 M = some (M') → GJ p9 l e9 (rg 1 0 0) s9 m9 args9 below9 meth9 c9 (MQ below9 (QV s0 D ev (cells ev X M' (nb + 1))) args9 s9 0 0 (frA ev)) s0 D ev 3 0 0 0 [(0, .ref (ev 0 + 65))] ([]) (cells ev X M (nb + 1)) := by
    intro  N0
    induction N0 with
    | zero => intro M h; cases h
    | succ N0 ih0 =>
      have U39 : ∀ (M : MW), fX10_next_b39 (lo1 (fX10_next_l0) N0) M = some (M') → GJ p9 l e9 (rg 1 0 0) s9 m9 args9 below9 meth9 c9 (MQ below9 (QV s0 D ev (cells ev X M' (nb + 1))) args9 s9 0 0 (frA ev)) s0 D ev 3 0 0 39 [(0, .ref (ev 0 + 65))] ([]) (cells ev X M (nb + 1)) := by
        intro M h
        rw [fX10_next_b39] at h
        refine g_aload_n (i := 0) F dX10_next_39 rfl rfl ?_
        refine g_dup F dX10_next_40 rfl ?_
        refine g_get_10_35 F wd_13_10 dX10_next_41 ?_
        refine g_iconst F dX10_next_44 (v := 1) (by decide) ?_
        refine g_iadd F dX10_next_45 ?_
        obtain ⟨M65, e66, h⟩ := bd_at h
        refine g_put_10_35 F wd_13_10 dX10_next_46 ?_
        rw [← e66]
        refine g_goto (tgt := 0) F dX10_next_49 (by decide) ?_
        refine g_lv (lv' := [(0, .ref (ev 0 + 65))]) ⟨rfl, trivial⟩ ?_
        exact ih0 _ h
      intro M h
      change fX10_next_l0 (lo1 (fX10_next_l0) N0) M = some (M') at h
      rw [fX10_next_l0] at h
      refine g_aload_n (i := 0) F dX10_next_0 rfl rfl ?_
      refine g_get_10_35 F wd_13_10 dX10_next_1 ?_
      refine g_aload_n (i := 0) F dX10_next_4 rfl rfl ?_
      refine g_get_10_18 F wd_13_4 dX10_next_5 ?_
      refine g_icmp_ge (tgt := 52) F dX10_next_8 (by decide) h (fun a71 h => ?_) (fun a71 h => ?_)
      · refine g_lv (lv' := [(0, .ref (ev 0 + 65))]) ⟨rfl, trivial⟩ ?_
        exact U52 _ h
      · refine g_aload_n (i := 0) F dX10_next_11 rfl rfl ?_
        refine g_get_10_17 F wd_12_5 dX10_next_12 ?_
        refine g_aload_n (i := 0) F dX10_next_15 rfl rfl ?_
        refine g_get_10_35 F wd_13_10 dX10_next_16 ?_
        obtain ⟨v63, e64, h⟩ := bind_at h
        refine g_ildM F rfl rfl e64 dX10_next_19 ?_
        refine g_bipush F dX10_next_20 (v := 32) (by decide) ?_
        refine g_icmp_eq (tgt := 39) F dX10_next_22 (by decide) h (fun a70 h => ?_) (fun a70 h => ?_)
        · refine g_lv (lv' := [(0, .ref (ev 0 + 65))]) ⟨rfl, trivial⟩ ?_
          exact U39 _ h
        · refine g_aload_n (i := 0) F dX10_next_25 rfl rfl ?_
          refine g_get_10_17 F wd_12_5 dX10_next_26 ?_
          refine g_aload_n (i := 0) F dX10_next_29 rfl rfl ?_
          refine g_get_10_35 F wd_13_10 dX10_next_30 ?_
          obtain ⟨v67, e68, h⟩ := bind_at h
          refine g_ildM F rfl rfl e68 dX10_next_33 ?_
          refine g_bipush F dX10_next_34 (v := 10) (by decide) ?_
          refine g_icmp_ne (tgt := 52) F dX10_next_36 (by decide) h (fun a69 h => ?_) (fun a69 h => ?_)
          · refine g_lv (lv' := [(0, .ref (ev 0 + 65))]) ⟨rfl, trivial⟩ ?_
            exact U52 _ h
          · refine g_lv (lv' := [(0, .ref (ev 0 + 65))]) ⟨rfl, trivial⟩ ?_
            exact U39 _ h
  rw [fX10_next] at h
  refine g_lv (lv' := [(0, .ref (ev 0 + 65))]) ⟨rfl, trivial⟩ ?_
  refine g_lv (lv' := [(0, .ref (ev 0 + 65))]) ⟨rfl, trivial⟩ ?_
  exact L0 FU _ h
def fX10_rank (l0 : Int32) : Int32 :=
  if l0 = 0 then (0 : Int32)
  else if l0 = (11 : Int32) then (1 : Int32)
  else if l0 = (12 : Int32) then (2 : Int32)
  else if l0 = (13 : Int32) then (3 : Int32)
  else if (15 : Int32) < l0 then if (17 : Int32) < l0 then if l0 = (18 : Int32) then (6 : Int32)
  else (7 : Int32)
  else (5 : Int32)
  else (4 : Int32)
set_option maxRecDepth 100000 in
set_option maxHeartbeats 4000000 in
theorem c_X10_rank {l : Launch} {s0 : State} {D : va_G} {ev : Nat → Nat} (G0 : Gl s0 D ev) {X : XW} {M : MW} {nb : Nat} {l0 : Int32} {r' : Int32}  (h : fX10_rank l0 = r') : CT l s0 D ev yX10_rank cX10_rank 1 (some .int) 0 0 0 [.int l0] (cells ev X M (nb + 1)) (QI s0 D ev r' (cells ev X M (nb + 1))) := by
  refine ct_of G0 (by decide) (Nat.le_of_ble_eq_true rfl) ?_
  intro p9 e9 s9 m9 args9 below9 meth9 c9 F hr9 hl9 hin9 hargs9 hts9
  rw [fX10_rank] at h
  refine g_lv (lv' := [(0, .int l0)]) ⟨rfl, trivial⟩ ?_
  refine g_iload_n (i := 0) F dX10_rank_0 rfl rfl ?_
  refine g_if_ne (tgt := 8) F dX10_rank_1 (by decide) h (fun a7 h => ?_) (fun a7 h => ?_)
  · refine g_iload_n (i := 0) F dX10_rank_8 rfl rfl ?_
    refine g_bipush F dX10_rank_9 (v := 11) (by decide) ?_
    refine g_icmp_ne (tgt := 18) F dX10_rank_11 (by decide) h (fun a6 h => ?_) (fun a6 h => ?_)
    · refine g_iload_n (i := 0) F dX10_rank_18 rfl rfl ?_
      refine g_bipush F dX10_rank_19 (v := 12) (by decide) ?_
      refine g_icmp_ne (tgt := 28) F dX10_rank_21 (by decide) h (fun a5 h => ?_) (fun a5 h => ?_)
      · refine g_iload_n (i := 0) F dX10_rank_28 rfl rfl ?_
        refine g_bipush F dX10_rank_29 (v := 13) (by decide) ?_
        refine g_icmp_ne (tgt := 38) F dX10_rank_31 (by decide) h (fun a4 h => ?_) (fun a4 h => ?_)
        · refine g_iload_n (i := 0) F dX10_rank_38 rfl rfl ?_
          refine g_bipush F dX10_rank_39 (v := 15) (by decide) ?_
          refine g_icmp_gt (tgt := 48) F dX10_rank_41 (by decide) h (fun a3 h => ?_) (fun a3 h => ?_)
          · refine g_iload_n (i := 0) F dX10_rank_48 rfl rfl ?_
            refine g_bipush F dX10_rank_49 (v := 17) (by decide) ?_
            refine g_icmp_gt (tgt := 58) F dX10_rank_51 (by decide) h (fun a2 h => ?_) (fun a2 h => ?_)
            · refine g_iload_n (i := 0) F dX10_rank_58 rfl rfl ?_
              refine g_bipush F dX10_rank_59 (v := 18) (by decide) ?_
              refine g_icmp_ne (tgt := 69) F dX10_rank_61 (by decide) h (fun a1 h => ?_) (fun a1 h => ?_)
              · refine g_bipush F dX10_rank_69 (v := 7) (by decide) ?_
                exact g_iret F hr9 rfl hl9 h rfl (by decide) (by decide) dX10_rank_71
              · refine g_bipush F dX10_rank_64 (v := 6) (by decide) ?_
                refine g_goto (tgt := 71) F dX10_rank_66 (by decide) ?_
                exact g_iret F hr9 rfl hl9 h rfl (by decide) (by decide) dX10_rank_71
            · refine g_iconst F dX10_rank_54 (v := 5) (by decide) ?_
              refine g_goto (tgt := 71) F dX10_rank_55 (by decide) ?_
              exact g_iret F hr9 rfl hl9 h rfl (by decide) (by decide) dX10_rank_71
          · refine g_iconst F dX10_rank_44 (v := 4) (by decide) ?_
            refine g_goto (tgt := 71) F dX10_rank_45 (by decide) ?_
            exact g_iret F hr9 rfl hl9 h rfl (by decide) (by decide) dX10_rank_71
        · refine g_iconst F dX10_rank_34 (v := 3) (by decide) ?_
          refine g_goto (tgt := 71) F dX10_rank_35 (by decide) ?_
          exact g_iret F hr9 rfl hl9 h rfl (by decide) (by decide) dX10_rank_71
      · refine g_iconst F dX10_rank_24 (v := 2) (by decide) ?_
        refine g_goto (tgt := 71) F dX10_rank_25 (by decide) ?_
        exact g_iret F hr9 rfl hl9 h rfl (by decide) (by decide) dX10_rank_71
    · refine g_iconst F dX10_rank_14 (v := 1) (by decide) ?_
      refine g_goto (tgt := 71) F dX10_rank_15 (by decide) ?_
      exact g_iret F hr9 rfl hl9 h rfl (by decide) (by decide) dX10_rank_71
  · refine g_iconst F dX10_rank_4 (v := 0) (by decide) ?_
    refine g_goto (tgt := 71) F dX10_rank_5 (by decide) ?_
    exact g_iret F hr9 rfl hl9 h rfl (by decide) (by decide) dX10_rank_71
